import java.util.Arrays;

/** Rumours that go over a pass, and the iron that smiths forge by them. */
public final class IronRumours {
    public static final int UNKNOWN = -1, OUTSIDE = -2, STATE = -3, FULL = -4, NONE = -9;
    public static final long LOST = Long.MIN_VALUE;

    private static final int NULL = 1, CAST = 2, INDEX = 3, SIZE = 4;
    private static final int TELLER = 0, JOKER = 1, LIAR = 2, KINDS = 3;
    private static final int BYTES = 0, SHORTS = 1, LANES = 3;
    private static final int SHEETS = 4, MOST_CELLS = 60;
    private static final int FEWEST_PERSONS = 2, MOST_PERSONS = 6, MOST_WAYS = 9;
    private static final int MOST_TELLINGS = 8, MOST_READINGS = 6;
    private static final int THINGS = 4, DAYS = 60, LAST_DAY = DAYS - 1;
    private static final int FIRST_LAW = 3, MOST_LAW = 4;
    private static final int LIARS_ORIGIN = 8, EXTRA_ORIGIN = 14, ORIGINS = 15, ASKED_ORIGINS = 14;
    private static final int NO_WAY = -1, NO_TELLING = -1, SOUND = -1, NOTHING = -1;

    private final Sheet[] sheets = new Sheet[SHEETS];
    private final Entries tellings = new Entries(MOST_TELLINGS);
    private final Entries readings = new Entries(MOST_READINGS);
    private final boolean[] readAsForged = new boolean[MOST_READINGS];
    private final Talk talk = new Talk();
    private final int[] forgeDays = new int[MOST_PERSONS * THINGS];
    private People people = new People();
    private People draft = new People();
    private int lawNow = 0;
    private int hushedNow = 0;
    private long fogs = 0;
    private int traceNow = 0;
    private int lastFault = 0;

    public IronRumours() {
        for (int k = 0; k < SHEETS; k++) {
            sheets[k] = new Sheet();
        }
    }

    // ---- 1 the pass

    public int pass(int sheet, int lane, int i, int n) {
        lastFault = 0;
        if (!isSheet(sheet)) {
            return UNKNOWN;
        }
        if (!isBelow(lane, LANES)) {
            return OUTSIDE;
        }
        int met = sheets[sheet].faultOfCells(lane, i, n);
        if (met != 0) {
            return meet(met);
        }
        int place = draft.read(sheets[sheet], i, n);
        if (place != SOUND) {
            return -100 - place;
        }
        takeDraft();
        return people.persons;
    }

    public int ofPerson(int p, int what) {
        if (!isPerson(p)) {
            return UNKNOWN;
        }
        switch (what) {
            case 0:
                return people.kinds[p];
            case 1:
                return people.isSmith(p) ? 1 : 0;
            case 2:
                return holds(hushedNow, p) ? 1 : 0;
            default:
                return OUTSIDE;
        }
    }

    public int ofWay(int w, int what) {
        if (!isBelow(w, people.ways)) {
            return UNKNOWN;
        }
        switch (what) {
            case 0:
                return people.from[w];
            case 1:
                return people.to[w];
            case 2:
                return people.days[w];
            default:
                return OUTSIDE;
        }
    }

    public int telling(int p, int thing, int day) {
        if (!isPerson(p)) {
            return UNKNOWN;
        }
        if (!isThingAndDay(thing, day)) {
            return OUTSIDE;
        }
        if (tellings.isFull()) {
            return FULL;
        }
        return tellings.add(p, thing, day);
    }

    public int undo(int k) {
        return tellings.takeBack(k);
    }

    public int law(int v) {
        if (v < 1 || v > MOST_LAW) {
            return OUTSIDE;
        }
        if (hasNoPass()) {
            return STATE;
        }
        int was = lawNow;
        lawNow = v;
        return was;
    }

    public int fog(int day, boolean is) {
        if (!isDay(day)) {
            return OUTSIDE;
        }
        if (hasNoPass()) {
            return STATE;
        }
        if (isFoggy(day) == is) {
            return 0;
        }
        fogs ^= 1L << day;
        return 1;
    }

    public int hush(int p, boolean is) {
        if (!isPerson(p)) {
            return UNKNOWN;
        }
        if (holds(hushedNow, p) == is) {
            return 0;
        }
        hushedNow ^= 1 << p;
        return 1;
    }

    // ---- 2 rumours, iron

    public int hears(int p, int thing, int origin) {
        if (!isPerson(p)) {
            return UNKNOWN;
        }
        if (!isThing(thing) || !isBelow(origin, ASKED_ORIGINS)) {
            return OUTSIDE;
        }
        talkAsItIs();
        return talk.firstDay(p, thing, origin);
    }

    public int count(int p, int thing, int day) {
        if (!isPerson(p)) {
            return UNKNOWN;
        }
        if (!isThingAndDay(thing, day)) {
            return OUTSIDE;
        }
        talkAsItIs();
        return talk.originsBy(p, thing, day);
    }

    public int forges(int p, int thing) {
        if (!isPerson(p)) {
            return UNKNOWN;
        }
        if (!isThing(thing)) {
            return OUTSIDE;
        }
        if (!people.isSmith(p)) {
            return STATE;
        }
        talkAsItIs();
        return forgeDay(p, thing);
    }

    public int works(int day) {
        if (!isDay(day)) {
            return OUTSIDE;
        }
        if (hasNoPass()) {
            return STATE;
        }
        talkAsItIs();
        return worksBy(day);
    }

    public int path(int p, int thing, int origin) {
        if (!isPerson(p)) {
            return UNKNOWN;
        }
        if (!isThing(thing) || !isBelow(origin, ASKED_ORIGINS)) {
            return OUTSIDE;
        }
        talkAsItIs();
        int day = talk.firstDay(p, thing, origin);
        if (day == NONE) {
            return NONE;
        }
        // a TELLING's own ORIGIN starts with it alone, so no WAY can bring it there as early
        if (tellings.has(origin, p, thing)) {
            return 90 + origin;
        }
        return wayOf(p, day, Talk.rumour(thing, origin));
    }

    // ---- 3 whom to tell, whom to hush

    public int fewest(int p, int thing, int day) {
        int refusal = refusalOfSmith(p, thing, day);
        return refusal != 0 ? refusal : leastSet(true, p, thing, day);
    }

    public int hushed(int p, int thing, int day) {
        int refusal = refusalOfSmith(p, thing, day);
        return refusal != 0 ? refusal : leastSet(false, p, thing, day);
    }

    public int worth(int k) {
        if (!isBelow(k, tellings.many)) {
            return UNKNOWN;
        }
        talkAsItIs();
        int with = worksBy(LAST_DAY);
        startTalk(k);
        talk.spread(people, hushedNow, NO_WAY);
        return with - worksBy(LAST_DAY) + 100;
    }

    public int spare() {
        if (hasNoPass()) {
            return STATE;
        }
        talkAsItIs();
        keepForgeDays();
        int spared = 0;
        for (int w = 0; w < people.ways; w++) {
            startTalk(NO_TELLING);
            talk.spread(people, hushedNow, w);
            if (areForgeDaysKept()) {
                spared |= 1 << w;
            }
        }
        return spared;
    }

    // ---- 4 what was forged

    public int reading(int p, int thing, int day, boolean had) {
        int refusal = refusalOfSmith(p, thing, day);
        if (refusal != 0) {
            return refusal;
        }
        if (readings.isFull()) {
            return FULL;
        }
        readAsForged[readings.many] = had;
        return readings.add(p, thing, day);
    }

    public int back(int k) {
        return readings.takeBack(k);
    }

    public int told(int thing, int day) {
        if (!isThingAndDay(thing, day)) {
            return OUTSIDE;
        }
        if (hasNoPass()) {
            return STATE;
        }
        int set = 0;
        for (int p = 0; p < people.persons; p++) {
            startTalk(NO_TELLING);
            talk.plant(p, thing, EXTRA_ORIGIN, day);
            talk.spread(people, hushedNow, NO_WAY);
            if (areReadingsSo()) {
                set |= 1 << p;
            }
        }
        return set;
    }

    public int mute() {
        if (hasNoPass()) {
            return STATE;
        }
        int set = 0;
        for (int p = 0; p < people.persons; p++) {
            startTalk(NO_TELLING);
            talk.spread(people, hushedNow | 1 << p, NO_WAY);
            if (areReadingsSo()) {
                set |= 1 << p;
            }
        }
        return set;
    }

    public int rows(int thing, int sheet, int lane, int i, int n) {
        lastFault = 0;
        if (!isSheet(sheet)) {
            return UNKNOWN;
        }
        if (!isBelow(lane, LANES) || !isThing(thing)) {
            return OUTSIDE;
        }
        if (hasNoPass()) {
            return STATE;
        }
        int met = sheets[sheet].faultOfCells(lane, i, n);
        if (met != 0) {
            return meet(met);
        }
        if (n > MOST_TELLINGS) {
            return OUTSIDE;
        }
        return worksOfRow(thing, sheets[sheet], i, n);
    }

    // ---- 5 sheets, parts

    public int sheet(int k, int lane, int n) {
        lastFault = 0;
        if (!isSheet(k)) {
            return UNKNOWN;
        }
        if (!isBelow(lane, LANES) || n > MOST_CELLS) {
            return OUTSIDE;
        }
        if (n < 0) {
            return meet(SIZE);
        }
        sheets[k].renew(lane, n);
        return 1;
    }

    public int lose(int k) {
        if (!isSheet(k)) {
            return UNKNOWN;
        }
        if (sheets[k].hasNothing()) {
            return 0;
        }
        sheets[k].empty();
        return 1;
    }

    public int put(int k, int i, int v) {
        lastFault = 0;
        if (!isSheet(k)) {
            return UNKNOWN;
        }
        if (sheets[k].hasNothing()) {
            return meet(NULL);
        }
        if (!isBelow(i, sheets[k].length)) {
            return meet(INDEX);
        }
        sheets[k].write(i, v);
        return 1;
    }

    public long cell(int k, int i, int lane) {
        lastFault = 0;
        if (!isSheet(k) || !isBelow(lane, LANES)) {
            return LOST;
        }
        Sheet s = sheets[k];
        lastFault = s.faultOfRow(lane);
        if (lastFault == 0 && !isBelow(i, s.length)) {
            lastFault = INDEX;
        }
        return lastFault != 0 ? LOST : s.cells[i];
    }

    public int copy(int k, int i, int other, int j, int n) {
        lastFault = 0;
        if (!isSheet(k) || !isSheet(other)) {
            return UNKNOWN;
        }
        Sheet source = sheets[k];
        Sheet goal = sheets[other];
        if (source.hasNothing() || goal.hasNothing()) {
            return meet(NULL);
        }
        if (source.lane != goal.lane) {
            return meet(CAST);
        }
        if (n < 0 || !source.hasCells(i, n) || !goal.hasCells(j, n)) {
            return meet(INDEX);
        }
        System.arraycopy(source.cells, i, goal.cells, j, n);
        return n;
    }

    public int tell(int p) {
        if (!isPerson(p)) {
            return UNKNOWN;
        }
        switch (people.kinds[p]) {
            case LIAR:
                return liarsBody(p);
            case JOKER:
                return jokersBody(p);
            default:
                return tellersBody(p);
        }
    }

    public int greet(int p) {
        if (!isPerson(p)) {
            return UNKNOWN;
        }
        return people.kinds[p] == LIAR ? liarsGreeting() : lentGreeting(p);
    }

    public int as(int p, int kind) {
        lastFault = 0;
        if (!isPerson(p)) {
            return UNKNOWN;
        }
        if (!isBelow(kind, KINDS)) {
            return OUTSIDE;
        }
        // each kind is also all the kinds numbered below it
        return people.kinds[p] >= kind ? 1 : meet(CAST);
    }

    public int trace() {
        return traceNow;
    }

    public int fault() {
        return lastFault;
    }

    public int many(int what) {
        switch (what) {
            case 0:
                return people.persons;
            case 1:
                return people.ways;
            case 2:
                return tellings.many;
            case 3:
                return readings.many;
            case 4:
                return lawNow;
            default:
                return OUTSIDE;
        }
    }

    // ---- what numbers there are

    private static boolean isBelow(int number, int end) {
        return number >= 0 && number < end;
    }

    private static boolean isSheet(int k) {
        return isBelow(k, SHEETS);
    }

    private static boolean isThing(int thing) {
        return isBelow(thing, THINGS);
    }

    private static boolean isDay(int day) {
        return isBelow(day, DAYS);
    }

    private static boolean isThingAndDay(int thing, int day) {
        return isThing(thing) && isDay(day);
    }

    private static boolean holds(int set, int number) {
        return (set >> number & 1) != 0;
    }

    private boolean isPerson(int p) {
        return isBelow(p, people.persons);
    }

    private boolean isFoggy(int day) {
        return (fogs >> day & 1) != 0;
    }

    private boolean hasNoPass() {
        return people.persons == 0;
    }

    private int refusalOfSmith(int p, int thing, int day) {
        if (!isPerson(p)) {
            return UNKNOWN;
        }
        if (!isThingAndDay(thing, day)) {
            return OUTSIDE;
        }
        return people.isSmith(p) ? 0 : STATE;
    }

    private int meet(int fault) {
        lastFault = fault;
        return -10 - fault;
    }

    // ---- a new pass

    private void takeDraft() {
        People old = people;
        people = draft;
        draft = old;
        tellings.many = 0;
        readings.many = 0;
        lawNow = FIRST_LAW;
        fogs = 0;
        hushedNow = 0;
    }

    // ---- what is said, and what is forged by it

    private void startTalk(int without) {
        talk.clear();
        for (int k = 0; k < tellings.many; k++) {
            if (k != without) {
                talk.plant(tellings.person[k], tellings.thing[k], k, tellings.day[k]);
            }
        }
    }

    private void talkAsItIs() {
        startTalk(NO_TELLING);
        talk.spread(people, hushedNow, NO_WAY);
    }

    private int forgeDay(int p, int thing) {
        // COUNT never falls: what is too few on the last DAY was too few on all
        if (talk.originsBy(p, thing, LAST_DAY) < lawNow) {
            return NONE;
        }
        for (int day = 0; day < DAYS; day++) {
            if (!isFoggy(day) && talk.originsBy(p, thing, day) >= lawNow) {
                return day;
            }
        }
        return NONE;
    }

    private boolean hasForged(int p, int thing, int day) {
        int forged = forgeDay(p, thing);
        return forged != NONE && forged <= day;
    }

    private int worksBy(int day) {
        int done = 0;
        for (int p = 0; p < people.persons; p++) {
            for (int thing = 0; people.isSmith(p) && thing < THINGS; thing++) {
                if (hasForged(p, thing, day)) {
                    done++;
                }
            }
        }
        return done;
    }

    private int wayOf(int p, int day, long rumour) {
        for (int w = 0; w < people.ways; w++) {
            if (people.to[w] == p && (talk.broughtBy(people, hushedNow, w, day) & rumour) != 0) {
                return w;
            }
        }
        return NONE;
    }

    private int worksOfRow(int thing, Sheet s, int i, int n) {
        for (int m = 0; m < n; m++) {
            if (!isPerson(s.cells[i + m])) {
                return UNKNOWN;
            }
        }
        talk.clear();
        for (int m = 0; m < n; m++) {
            talk.plant(s.cells[i + m], thing, m, m);
        }
        talk.spread(people, hushedNow, NO_WAY);
        return worksBy(LAST_DAY);
    }

    // ---- whom to tell, whom to hush, what can be spared, what was read

    private int leastSet(boolean byTelling, int p, int thing, int day) {
        int all = (1 << people.persons) - 1;
        if (!isReached(byTelling, all, p, thing, day)) {
            return NONE;
        }
        for (int size = 0; size < people.persons; size++) {
            for (int set = 0; set < all; set++) {
                if (Integer.bitCount(set) == size && isReached(byTelling, set, p, thing, day)) {
                    return set;
                }
            }
        }
        return all;
    }

    private boolean isReached(boolean byTelling, int set, int p, int thing, int day) {
        if (byTelling) {
            startTelling(set, thing);
        } else {
            startTalk(NO_TELLING);
        }
        talk.spread(people, byTelling ? hushedNow : hushedNow | set, NO_WAY);
        return hasForged(p, thing, day) == byTelling;
    }

    private void startTelling(int set, int thing) {
        talk.clear();
        for (int p = 0; p < people.persons; p++) {
            if (holds(set, p)) {
                talk.plant(p, thing, p, 0);
            }
        }
    }

    private void keepForgeDays() {
        for (int p = 0; p < people.persons; p++) {
            for (int thing = 0; thing < THINGS; thing++) {
                forgeDays[p * THINGS + thing] = forgeDay(p, thing);
            }
        }
    }

    private boolean areForgeDaysKept() {
        for (int p = 0; p < people.persons; p++) {
            for (int thing = 0; people.isSmith(p) && thing < THINGS; thing++) {
                if (forgeDays[p * THINGS + thing] != forgeDay(p, thing)) {
                    return false;
                }
            }
        }
        return true;
    }

    private boolean areReadingsSo() {
        for (int k = 0; k < readings.many; k++) {
            if (hasForged(readings.person[k], readings.thing[k], readings.day[k]) != readAsForged[k]) {
                return false;
            }
        }
        return true;
    }

    // ---- the bodies

    private void leave(int number) {
        traceNow = 31 * traceNow + number;
    }

    private int tellersBody(int p) {
        leave(1);
        return p;
    }

    private int jokersBody(int p) {
        leave(2);
        return tellersBody(p) + 100;
    }

    private int liarsBody(int p) {
        leave(3);
        return jokersBody(p) + tellersBody(p);
    }

    private int lentGreeting(int p) {
        leave(4);
        return p;
    }

    private int liarsGreeting() {
        leave(5);
        return 50;
    }

    /** A row of numbers of a LANE, or nothing. */
    private static final class Sheet {
        final int[] cells = new int[MOST_CELLS];
        int lane = NOTHING;
        int length = 0;

        boolean hasNothing() {
            return lane == NOTHING;
        }

        void empty() {
            lane = NOTHING;
            length = 0;
        }

        void renew(int newLane, int newLength) {
            lane = newLane;
            length = newLength;
            Arrays.fill(cells, 0);
        }

        void write(int i, int v) {
            cells[i] = lane == BYTES ? (byte) v : lane == SHORTS ? (short) v : v;
        }

        boolean hasCells(int i, int n) {
            // the sum i + n could wrap
            return i >= 0 && i <= length && n <= length - i;
        }

        int faultOfRow(int asLane) {
            if (hasNothing()) {
                return NULL;
            }
            return lane == asLane ? 0 : CAST;
        }

        int faultOfCells(int asLane, int i, int n) {
            int met = faultOfRow(asLane);
            if (met != 0) {
                return met;
            }
            if (n < 0) {
                return SIZE;
            }
            return hasCells(i, n) ? 0 : INDEX;
        }
    }

    /** The PERSONS and WAYS of a PASS. */
    private static final class People {
        final int[] kinds = new int[MOST_PERSONS];
        final int[] from = new int[MOST_WAYS];
        final int[] to = new int[MOST_WAYS];
        final int[] days = new int[MOST_WAYS];
        int persons = 0;
        int smiths = 0;
        int ways = 0;

        boolean isSmith(int p) {
            return holds(smiths, p);
        }

        /** Reads a TEXT: its FIRST FAULT, or SOUND. */
        int read(Sheet s, int i, int n) {
            persons = 0;
            smiths = 0;
            ways = 0;
            if (codeAt(s, i, n, 0) != 'i') {
                return 0;
            }
            int place = readPersons(s, i, n);
            return place != SOUND ? place : readWays(s, i, n);
        }

        private int readPersons(Sheet s, int i, int n) {
            for (int place = 1; persons < MOST_PERSONS; place += 2) {
                int kind = kindOf(codeAt(s, i, n, place));
                if (kind == NONE) {
                    return persons < FEWEST_PERSONS ? place : SOUND;
                }
                int anvil = digitOf(codeAt(s, i, n, place + 1), 0, 1);
                if (anvil == NONE) {
                    return place + 1;
                }
                kinds[persons] = kind;
                smiths |= anvil << persons;
                persons++;
            }
            return SOUND;
        }

        private int readWays(Sheet s, int i, int n) {
            int place = 1 + 2 * persons;
            while (ways < MOST_WAYS && codeAt(s, i, n, place) == ';') {
                from[ways] = digitOf(codeAt(s, i, n, place + 1), 0, persons - 1);
                to[ways] = digitOf(codeAt(s, i, n, place + 2), 0, persons - 1);
                days[ways] = digitOf(codeAt(s, i, n, place + 3), 1, 9);
                if (from[ways] == NONE) {
                    return place + 1;
                }
                if (to[ways] == NONE) {
                    return place + 2;
                }
                if (days[ways] == NONE) {
                    return place + 3;
                }
                ways++;
                place += 4;
            }
            return place == n ? SOUND : place;
        }

        // behind the end stands 0, with which no TEXT goes on: so a TEXT that ends too soon has its fault there
        private static int codeAt(Sheet s, int i, int n, int place) {
            return place < n ? s.cells[i + place] : 0;
        }

        private static int kindOf(int letter) {
            switch (letter) {
                case 't':
                    return TELLER;
                case 'j':
                    return JOKER;
                case 'l':
                    return LIAR;
                default:
                    return NONE;
            }
        }

        private static int digitOf(int code, int least, int most) {
            return code >= '0' + least && code <= '0' + most ? code - '0' : NONE;
        }
    }

    /** TELLINGS or READINGS: each of a PERSON, a THING and a DAY, numbered in their order. */
    private static final class Entries {
        // of READINGS there are fewer than of TELLINGS: rows for these hold either
        final int[] person = new int[MOST_TELLINGS];
        final int[] thing = new int[MOST_TELLINGS];
        final int[] day = new int[MOST_TELLINGS];
        final int most;
        int many = 0;

        Entries(int most) {
            this.most = most;
        }

        boolean isFull() {
            return many >= most;
        }

        int add(int p, int ofThing, int onDay) {
            int k = many;
            person[k] = p;
            thing[k] = ofThing;
            day[k] = onDay;
            many = k + 1;
            return k;
        }

        int takeBack(int k) {
            if (k < 0 || k > many) {
                return OUTSIDE;
            }
            many -= k;
            return many;
        }

        boolean has(int k, int p, int ofThing) {
            return isBelow(k, many) && person[k] == p && thing[k] == ofThing;
        }
    }

    /** Who has HEARD what by when: a set of RUMOURS (a bit for each THING and ORIGIN) for each DAY and PERSON. */
    private static final class Talk {
        private static final long ONE_THING = (1L << ORIGINS) - 1;
        private static final long ALL_THINGS = (1L << ORIGINS * THINGS) - 1;

        private final long[] heard = new long[DAYS * MOST_PERSONS];

        static long rumour(int thing, int origin) {
            return 1L << thing * ORIGINS + origin;
        }

        void clear() {
            Arrays.fill(heard, 0L);
        }

        void plant(int p, int thing, int origin, int day) {
            heard[day * MOST_PERSONS + p] |= rumour(thing, origin);
        }

        // ahead of its DAY a row holds what will come on it; each LONG is above 0, so a DAY that is come to is whole
        void spread(People people, int hushedSet, int withoutWay) {
            for (int day = 0; day < DAYS; day++) {
                keepWhatWasHeard(day);
                for (int w = 0; w < people.ways; w++) {
                    int due = day + people.days[w];
                    if (w != withoutWay && due < DAYS) {
                        heard[due * MOST_PERSONS + people.to[w]] |= broughtBy(people, hushedSet, w, due);
                    }
                }
            }
        }

        /** What comes along a WAY on a DAY. */
        long broughtBy(People people, int hushedSet, int w, int day) {
            int sent = day - people.days[w];
            int p = people.from[w];
            if (sent < 0 || holds(hushedSet, p)) {
                return 0;
            }
            long news = heardFirstOn(sent, p);
            return news == 0 ? 0 : changed(people.kinds[p], p, news);
        }

        /** The first DAY on which a PERSON HEARS a RUMOUR, or NONE. */
        int firstDay(int p, int thing, int origin) {
            long asked = rumour(thing, origin);
            for (int day = 0; day < DAYS; day++) {
                if ((heard[day * MOST_PERSONS + p] & asked) != 0) {
                    return day;
                }
            }
            return NONE;
        }

        int originsBy(int p, int thing, int day) {
            return Long.bitCount(heard[day * MOST_PERSONS + p] >> thing * ORIGINS & ONE_THING);
        }

        private void keepWhatWasHeard(int day) {
            for (int p = 0; day > 0 && p < MOST_PERSONS; p++) {
                heard[day * MOST_PERSONS + p] |= heard[(day - 1) * MOST_PERSONS + p];
            }
        }

        private long heardFirstOn(int day, int p) {
            long before = day > 0 ? heard[(day - 1) * MOST_PERSONS + p] : 0;
            return heard[day * MOST_PERSONS + p] & ~before;
        }

        private static long changed(int kind, int p, long news) {
            if (kind == TELLER) {
                return news;
            }
            long ofNext = (news << ORIGINS | news >> ORIGINS * (THINGS - 1)) & ALL_THINGS;
            return kind == JOKER ? ofNext : asOnesOwn(p, ofNext);
        }

        private static long asOnesOwn(int p, long news) {
            long own = 0;
            for (int shift = 0; shift < ORIGINS * THINGS; shift += ORIGINS) {
                if ((news >> shift & ONE_THING) != 0) {
                    own |= 1L << shift + LIARS_ORIGIN + p;
                }
            }
            return own;
        }
    }
}
