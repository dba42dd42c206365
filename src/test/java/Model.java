import java.util.ArrayList;
import java.util.HashMap;
import java.util.List;
import java.util.Map;
import java.util.PriorityQueue;
import java.util.regex.Matcher;
import java.util.regex.Pattern;

/**
 * The document told once more, in another way than the program: news are events in a queue, sets are tried one by
 * one, texts are matched by patterns, rows are what Java makes of them. Slow, and with the Java library.
 */
final class Model {
    private static final int UNKNOWN = -1, OUTSIDE = -2, STATE = -3, FULL = -4, NONE = -9;
    private static final String[] FAULTS = {"none", "NULL", "CAST", "INDEX", "SIZE"};

    /** A TELLING, or what comes by a way. */
    private record News(int person, int thing, int origin, int day, int by) {
    }

    private record Way(int from, int to, int days) {
    }

    private record Telling(int person, int thing, int day, int origin) {
    }

    private record Reading(int person, int thing, int day, boolean had) {
    }

    private final Object[] sheets = new Object[4];
    private String kinds = "";
    private String anvils = "";
    private List<Way> ways = new ArrayList<>();
    private List<Telling> tellings = new ArrayList<>();
    private List<Reading> readings = new ArrayList<>();
    private int law = 0;
    private boolean[] fog = new boolean[60];
    private boolean[] hush = new boolean[6];
    private int trace = 0;
    private int fault = 0;

    // ---- the pass

    int pass(int sheet, int lane, int i, int n) {
        fault = 0;
        if (sheet < 0 || sheet > 3) {
            return UNKNOWN;
        }
        if (lane < 0 || lane > 2) {
            return OUTSIDE;
        }
        int met = cellsFault(sheet, lane, i, n);
        if (met < 0) {
            return met;
        }
        StringBuilder text = new StringBuilder();
        for (int m = 0; m < n; m++) {
            long code = at(sheets[sheet], i + m);
            text.append(code > 0 && code < 128 ? (char) code : '?');
        }
        int persons = matching(text.toString(), false);
        if (persons < 0) {
            int place = 0;
            while (place < n && matching(text.substring(0, place + 1), true) > 0) {
                place++;
            }
            return -100 - place;
        }
        take(text.toString(), persons);
        return persons;
    }

    /** The number of persons with which the text matches, or may go on to; -1 if with none. */
    private static int matching(String text, boolean orGoesOn) {
        for (int persons = 2; persons <= 6; persons++) {
            String who = "[0-" + (persons - 1) + "]";
            Pattern whole = Pattern.compile("i([tjl][01]){" + persons + "}(;" + who + who + "[1-9]){0,9}");
            Matcher m = whole.matcher(text);
            if (m.matches() || orGoesOn && m.hitEnd()) {
                return persons;
            }
        }
        return -1;
    }

    private void take(String text, int persons) {
        kinds = "";
        anvils = "";
        for (int p = 0; p < persons; p++) {
            kinds += text.charAt(1 + 2 * p);
            anvils += text.charAt(2 + 2 * p);
        }
        ways = new ArrayList<>();
        for (String way : text.substring(1 + 2 * persons).split(";")) {
            if (!way.isEmpty()) {
                ways.add(new Way(way.charAt(0) - '0', way.charAt(1) - '0', way.charAt(2) - '0'));
            }
        }
        tellings = new ArrayList<>();
        readings = new ArrayList<>();
        law = 3;
        fog = new boolean[60];
        hush = new boolean[6];
    }

    int ofPerson(int p, int what) {
        if (!knows(p)) {
            return UNKNOWN;
        }
        if (what == 0) {
            return "tjl".indexOf(kinds.charAt(p));
        }
        if (what == 1) {
            return isSmith(p) ? 1 : 0;
        }
        return what == 2 ? hush[p] ? 1 : 0 : OUTSIDE;
    }

    int ofWay(int w, int what) {
        if (w < 0 || w >= ways.size()) {
            return UNKNOWN;
        }
        Way way = ways.get(w);
        return what == 0 ? way.from : what == 1 ? way.to : what == 2 ? way.days : OUTSIDE;
    }

    int telling(int p, int thing, int day) {
        if (!knows(p)) {
            return UNKNOWN;
        }
        if (outside(thing, day)) {
            return OUTSIDE;
        }
        if (tellings.size() == 8) {
            return FULL;
        }
        tellings.add(new Telling(p, thing, day, tellings.size()));
        return tellings.size() - 1;
    }

    int undo(int k) {
        return cut(tellings, k);
    }

    int law(int v) {
        if (v < 1 || v > 4) {
            return OUTSIDE;
        }
        if (kinds.isEmpty()) {
            return STATE;
        }
        int was = law;
        law = v;
        return was;
    }

    int fog(int day, boolean is) {
        if (day < 0 || day > 59) {
            return OUTSIDE;
        }
        if (kinds.isEmpty()) {
            return STATE;
        }
        boolean was = fog[day];
        fog[day] = is;
        return was == is ? 0 : 1;
    }

    int hush(int p, boolean is) {
        if (!knows(p)) {
            return UNKNOWN;
        }
        boolean was = hush[p];
        hush[p] = is;
        return was == is ? 0 : 1;
    }

    // ---- rumours, iron

    int hears(int p, int thing, int origin) {
        if (!knows(p)) {
            return UNKNOWN;
        }
        if (outside(thing, 0) || origin < 0 || origin > 13) {
            return OUTSIDE;
        }
        News first = now().get(key(p, thing, origin));
        return first == null ? NONE : first.day;
    }

    int count(int p, int thing, int day) {
        if (!knows(p)) {
            return UNKNOWN;
        }
        return outside(thing, day) ? OUTSIDE : origins(now(), p, thing, day);
    }

    int forges(int p, int thing) {
        int refusal = smith(p, thing, 0);
        return refusal < 0 ? refusal : forged(now(), p, thing);
    }

    int works(int day) {
        if (day < 0 || day > 59) {
            return OUTSIDE;
        }
        return kinds.isEmpty() ? STATE : works(now(), day);
    }

    int path(int p, int thing, int origin) {
        if (!knows(p)) {
            return UNKNOWN;
        }
        if (outside(thing, 0) || origin < 0 || origin > 13) {
            return OUTSIDE;
        }
        News first = now().get(key(p, thing, origin));
        if (first == null) {
            return NONE;
        }
        return first.by < 0 ? 90 + origin : first.by;
    }

    // ---- whom to tell, whom to hush

    int fewest(int p, int thing, int day) {
        int refusal = smith(p, thing, day);
        if (refusal < 0) {
            return refusal;
        }
        int best = NONE;
        for (int set = 0; set < 1 << kinds.length(); set++) {
            List<Telling> these = new ArrayList<>();
            for (int q = 0; q < kinds.length(); q++) {
                if ((set & 1 << q) != 0) {
                    these.add(new Telling(q, thing, 0, q));
                }
            }
            int forged = forged(spread(these, hush, -1), p, thing);
            if (forged != NONE && forged <= day && (best == NONE || Integer.bitCount(set) < Integer.bitCount(best))) {
                best = set;
            }
        }
        return best;
    }

    int hushed(int p, int thing, int day) {
        int refusal = smith(p, thing, day);
        if (refusal < 0) {
            return refusal;
        }
        int best = NONE;
        for (int set = 0; set < 1 << kinds.length(); set++) {
            boolean[] these = hush.clone();
            for (int q = 0; q < 6; q++) {
                these[q] |= (set & 1 << q) != 0;
            }
            int forged = forged(spread(tellings, these, -1), p, thing);
            if ((forged == NONE || forged > day) && (best == NONE || Integer.bitCount(set) < Integer.bitCount(best))) {
                best = set;
            }
        }
        return best;
    }

    int worth(int k) {
        if (k < 0 || k >= tellings.size()) {
            return UNKNOWN;
        }
        List<Telling> others = new ArrayList<>(tellings);
        others.remove(k);
        return works(now(), 59) - works(spread(others, hush, -1), 59) + 100;
    }

    int spare() {
        if (kinds.isEmpty()) {
            return STATE;
        }
        int set = 0;
        for (int w = 0; w < ways.size(); w++) {
            Map<Integer, News> without = spread(tellings, hush, w);
            boolean same = true;
            for (int p = 0; p < kinds.length(); p++) {
                for (int thing = 0; thing < 4; thing++) {
                    same &= !isSmith(p) || forged(now(), p, thing) == forged(without, p, thing);
                }
            }
            set |= same ? 1 << w : 0;
        }
        return set;
    }

    // ---- what was forged

    int reading(int p, int thing, int day, boolean had) {
        int refusal = smith(p, thing, day);
        if (refusal < 0) {
            return refusal;
        }
        if (readings.size() == 6) {
            return FULL;
        }
        readings.add(new Reading(p, thing, day, had));
        return readings.size() - 1;
    }

    int back(int k) {
        return cut(readings, k);
    }

    int told(int thing, int day) {
        if (outside(thing, day)) {
            return OUTSIDE;
        }
        if (kinds.isEmpty()) {
            return STATE;
        }
        int set = 0;
        for (int p = 0; p < kinds.length(); p++) {
            List<Telling> more = new ArrayList<>(tellings);
            more.add(new Telling(p, thing, day, 14));
            set |= so(spread(more, hush, -1)) ? 1 << p : 0;
        }
        return set;
    }

    int mute() {
        if (kinds.isEmpty()) {
            return STATE;
        }
        int set = 0;
        for (int p = 0; p < kinds.length(); p++) {
            boolean[] more = hush.clone();
            more[p] = true;
            set |= so(spread(tellings, more, -1)) ? 1 << p : 0;
        }
        return set;
    }

    int rows(int thing, int sheet, int lane, int i, int n) {
        fault = 0;
        if (sheet < 0 || sheet > 3) {
            return UNKNOWN;
        }
        if (lane < 0 || lane > 2 || thing < 0 || thing > 3) {
            return OUTSIDE;
        }
        if (kinds.isEmpty()) {
            return STATE;
        }
        int met = cellsFault(sheet, lane, i, n);
        if (met < 0) {
            return met;
        }
        if (n > 8) {
            return OUTSIDE;
        }
        List<Telling> these = new ArrayList<>();
        for (int m = 0; m < n; m++) {
            long p = at(sheets[sheet], i + m);
            if (p < 0 || p >= kinds.length()) {
                return UNKNOWN;
            }
            these.add(new Telling((int) p, thing, m, m));
        }
        return works(spread(these, hush, -1), 59);
    }

    // ---- sheets, parts

    int sheet(int k, int lane, int n) {
        fault = 0;
        if (k < 0 || k > 3) {
            return UNKNOWN;
        }
        if (lane < 0 || lane > 2 || n > 60) {
            return OUTSIDE;
        }
        if (n < 0) {
            return meets("SIZE");
        }
        sheets[k] = lane == 0 ? new byte[n] : lane == 1 ? new short[n] : new int[n];
        return 1;
    }

    int lose(int k) {
        if (k < 0 || k > 3) {
            return UNKNOWN;
        }
        int had = sheets[k] == null ? 0 : 1;
        sheets[k] = null;
        return had;
    }

    int put(int k, int i, int v) {
        fault = 0;
        if (k < 0 || k > 3) {
            return UNKNOWN;
        }
        if (sheets[k] == null) {
            return meets("NULL");
        }
        if (i < 0 || i >= size(sheets[k])) {
            return meets("INDEX");
        }
        if (sheets[k] instanceof byte[] row) {
            row[i] = (byte) v;
        } else if (sheets[k] instanceof short[] row) {
            row[i] = (short) v;
        } else if (sheets[k] instanceof int[] row) {
            row[i] = v;
        }
        return 1;
    }

    long cell(int k, int i, int lane) {
        fault = 0;
        if (k < 0 || k > 3 || lane < 0 || lane > 2) {
            return Long.MIN_VALUE;
        }
        if (sheets[k] == null || lane(sheets[k]) != lane) {
            meets(sheets[k] == null ? "NULL" : "CAST");
            return Long.MIN_VALUE;
        }
        if (i < 0 || i >= size(sheets[k])) {
            meets("INDEX");
            return Long.MIN_VALUE;
        }
        return at(sheets[k], i);
    }

    int copy(int k, int i, int other, int j, int n) {
        fault = 0;
        if (k < 0 || k > 3 || other < 0 || other > 3) {
            return UNKNOWN;
        }
        Object source = sheets[k];
        Object goal = sheets[other];
        if (source == null || goal == null) {
            return meets("NULL");
        }
        if (lane(source) != lane(goal)) {
            return meets("CAST");
        }
        if (i < 0 || j < 0 || n < 0 || (long) i + n > size(source) || (long) j + n > size(goal)) {
            return meets("INDEX");
        }
        System.arraycopy(source, i, goal, j, n);
        return n;
    }

    int tell(int p) {
        return knows(p) ? body(kinds.charAt(p), p) : UNKNOWN;
    }

    private int body(char kind, int p) {
        trace = trace * 31 + "?tjl".indexOf(kind);
        if (kind == 't') {
            return p;
        }
        if (kind == 'j') {
            return body('t', p) + 100;
        }
        int joke = body('j', p);
        return joke + body('t', p);
    }

    int greet(int p) {
        if (!knows(p)) {
            return UNKNOWN;
        }
        boolean lies = kinds.charAt(p) == 'l';
        trace = trace * 31 + (lies ? 5 : 4);
        return lies ? 50 : p;
    }

    int as(int p, int kind) {
        fault = 0;
        if (!knows(p)) {
            return UNKNOWN;
        }
        if (kind < 0 || kind > 2) {
            return OUTSIDE;
        }
        return new String[] {"tjl", "jl", "l"}[kind].indexOf(kinds.charAt(p)) >= 0 ? 1 : meets("CAST");
    }

    int trace() {
        return trace;
    }

    int fault() {
        return fault;
    }

    int many(int what) {
        return switch (what) {
            case 0 -> kinds.length();
            case 1 -> ways.size();
            case 2 -> tellings.size();
            case 3 -> readings.size();
            case 4 -> law;
            default -> OUTSIDE;
        };
    }

    // ---- news in a queue

    private Map<Integer, News> now() {
        return spread(tellings, hush, -1);
    }

    private Map<Integer, News> spread(List<Telling> told, boolean[] mutes, int without) {
        PriorityQueue<News> coming = new PriorityQueue<>((a, b) -> a.day != b.day ? a.day - b.day : a.by - b.by);
        for (Telling t : told) {
            coming.add(new News(t.person, t.thing, t.origin, t.day, -1));
        }
        Map<Integer, News> heard = new HashMap<>();
        while (!coming.isEmpty()) {
            News news = coming.poll();
            if (news.day > 59 || heard.putIfAbsent(key(news.person, news.thing, news.origin), news) != null) {
                continue;
            }
            char kind = kinds.charAt(news.person);
            int thing = kind == 't' ? news.thing : (news.thing + 1) % 4;
            int origin = kind == 'l' ? 8 + news.person : news.origin;
            for (int w = 0; w < ways.size(); w++) {
                Way way = ways.get(w);
                if (w != without && way.from == news.person && !mutes[news.person]) {
                    coming.add(new News(way.to, thing, origin, news.day + way.days, w));
                }
            }
        }
        return heard;
    }

    private static int key(int p, int thing, int origin) {
        return p * 100 + thing * 20 + origin;
    }

    private static int origins(Map<Integer, News> heard, int p, int thing, int day) {
        int many = 0;
        for (int origin = 0; origin < 15; origin++) {
            News first = heard.get(key(p, thing, origin));
            many += first != null && first.day <= day ? 1 : 0;
        }
        return many;
    }

    private int forged(Map<Integer, News> heard, int p, int thing) {
        int day = 0;
        while (day < 60 && (fog[day] || origins(heard, p, thing, day) < law)) {
            day++;
        }
        return day < 60 ? day : NONE;
    }

    private int works(Map<Integer, News> heard, int day) {
        int many = 0;
        for (int p = 0; p < kinds.length(); p++) {
            for (int thing = 0; thing < 4; thing++) {
                int forged = forged(heard, p, thing);
                many += isSmith(p) && forged != NONE && forged <= day ? 1 : 0;
            }
        }
        return many;
    }

    private boolean so(Map<Integer, News> heard) {
        for (Reading r : readings) {
            int forged = forged(heard, r.person, r.thing);
            if ((forged != NONE && forged <= r.day) != r.had) {
                return false;
            }
        }
        return true;
    }

    // ---- what numbers there are

    private boolean knows(int p) {
        return p >= 0 && p < kinds.length();
    }

    private boolean isSmith(int p) {
        return anvils.charAt(p) == '1';
    }

    private static boolean outside(int thing, int day) {
        return thing < 0 || thing > 3 || day < 0 || day > 59;
    }

    private int smith(int p, int thing, int day) {
        if (!knows(p)) {
            return UNKNOWN;
        }
        if (outside(thing, day)) {
            return OUTSIDE;
        }
        return isSmith(p) ? 0 : STATE;
    }

    private static int cut(List<?> rows, int k) {
        if (k < 0 || k > rows.size()) {
            return OUTSIDE;
        }
        for (int m = 0; m < k; m++) {
            rows.remove(rows.size() - 1);
        }
        return rows.size();
    }

    // ---- rows as Java makes them

    private int meets(String name) {
        fault = List.of(FAULTS).indexOf(name);
        return -10 - fault;
    }

    private int cellsFault(int k, int lane, int i, int n) {
        if (sheets[k] == null) {
            return meets("NULL");
        }
        if (lane(sheets[k]) != lane) {
            return meets("CAST");
        }
        if (n < 0) {
            return meets("SIZE");
        }
        long end = (long) i + n;
        return i < 0 || i > size(sheets[k]) || end > size(sheets[k]) ? meets("INDEX") : 0;
    }

    private static int lane(Object row) {
        return row instanceof byte[] ? 0 : row instanceof short[] ? 1 : 2;
    }

    private static int size(Object row) {
        return java.lang.reflect.Array.getLength(row);
    }

    private static long at(Object row, int i) {
        return java.lang.reflect.Array.getLong(row, i);
    }
}
