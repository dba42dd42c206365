/** Long runs of calls, each asked of the program and of the model: all promises at once, wild numbers, too. */
public final class ModelTest {
    private static final int RUNS = 3000;
    /** A text takes 62 calls at most, what is asked behind it 4 more: no run comes above the calls that are promised. */
    private static final int CALLS = Run.MOST_CALLS - 62 - 4;
    private static final int[] WILD = {Integer.MIN_VALUE, Integer.MIN_VALUE + 1, -100, -2, -1, 60, 61, 1 << 16,
        Integer.MAX_VALUE - 1, Integer.MAX_VALUE};

    private long seed;
    private final IronRumours x = new IronRumours();
    private final Model m = new Model();
    private final StringBuilder calls = new StringBuilder();
    private int asked = 0;

    private ModelTest(long seed) {
        this.seed = seed * 7919 + 17;
    }

    public static void main(String[] args) {
        for (int run = 1; run <= RUNS; run++) {
            new ModelTest(run).run(run);
        }
        Check.end("ModelTest");
    }

    private void run(int run) {
        if (run % 8 != 0) {
            giveText(some(4), some(3), text(run % 5 == 0), 0);
        }
        if (run % 3 == 0) {
            law(1 + some(2));
        }
        while (asked <= CALLS) {
            if (some(150) == 0) {
                giveText(some(4), some(3), text(some(2) == 0), some(4));
            }
            call(some(40));
        }
        Check.due("more calls than are promised", Math.max(asked, Run.MOST_CALLS), Run.MOST_CALLS);
    }

    private void giveText(int k, int lane, String text, int ahead) {
        int length = Math.min(60, text.length() + ahead);
        ask("sheet", k, lane, length);
        for (int i = ahead; i < length; i++) {
            ask("put", k, i, text.charAt(i - ahead));
        }
        ask("pass", k, lane, ahead, length - ahead);
    }

    private String text(boolean faulty) {
        int persons = faulty ? 1 + some(7) : 2 + some(5);
        int ways = faulty ? some(11) : 3 + some(7);
        StringBuilder text = new StringBuilder("i");
        for (int p = 0; p < persons; p++) {
            text.append("ttjlj".charAt(some(5))).append("011".charAt(some(3)));
        }
        for (int w = 0; w < ways; w++) {
            text.append(';').append(some(persons)).append(some(persons));
            text.append(some(3) == 0 ? 1 + some(9) : 1 + some(3));
        }
        if (faulty && some(3) > 0) {
            text.setCharAt(some(text.length()), "itjl;0123456789:/ ".charAt(some(18)));
        }
        if (faulty && some(4) == 0) {
            text.setLength(some(text.length()));
        }
        return text.toString();
    }

    private void law(int v) {
        ask("law", v);
    }

    private void call(int which) {
        switch (which) {
            case 0, 1, 2, 3, 4 -> ask("telling", number(6), number(4), day());
            case 5 -> ask("undo", some(4) == 0 ? number(9) : some(2));
            case 6 -> law(some(3) == 0 ? number(6) : 1 + some(3));
            case 7, 8 -> ask("fog", day(), some(3));
            case 9, 10 -> ask("hush", number(6), some(2));
            case 11, 12 -> ask("hears", number(6), number(4), number(14));
            case 13 -> ask("count", number(6), number(4), day());
            case 14, 15 -> ask("forges", number(6), number(4));
            case 16 -> ask("works", day());
            case 17, 18 -> ask("path", number(6), number(4), number(14));
            case 19 -> ask("fewest", number(6), number(4), day());
            case 20 -> ask("hushed", number(6), number(4), day());
            case 21 -> ask("worth", number(8));
            case 22 -> ask("spare");
            case 23 -> ask("reading", number(6), number(4), day(), some(2));
            case 24 -> ask("back", some(3) == 0 ? number(7) : some(3));
            case 25 -> ask("told", number(4), day());
            case 26 -> ask("mute");
            case 27 -> ask("rows", number(4), number(4), number(3), number(12), number(10));
            case 28 -> ask("pass", number(4), number(3), number(12), number(61));
            case 29 -> ask("sheet", number(4), number(3), number(61));
            case 30 -> ask("lose", number(4));
            case 31 -> ask("put", number(4), number(20), some(2) == 0 ? number(7) : wild());
            case 32 -> ask("cell", number(4), number(20), number(3));
            case 33 -> ask("copy", number(4), number(20), number(4), number(20), number(10));
            case 34 -> ask("tell", number(6));
            case 35 -> ask("greet", number(6));
            case 36 -> ask("as", number(6), number(3));
            case 37 -> ask("ofPerson", number(6), number(3));
            case 38 -> ask("ofWay", number(9), number(3));
            default -> {
                ask("many", number(5));
                ask("ofWay", number(9), number(3));
            }
        }
        ask("fault");
        if (some(5) == 0) {
            ask("trace");
        }
    }

    private void ask(String name, int... a) {
        asked++;
        calls.setLength(0);
        calls.append(name);
        for (int number : a) {
            calls.append(' ').append(number);
        }
        long[] both = switch (name) {
            case "pass" -> both(x.pass(a[0], a[1], a[2], a[3]), m.pass(a[0], a[1], a[2], a[3]));
            case "ofPerson" -> both(x.ofPerson(a[0], a[1]), m.ofPerson(a[0], a[1]));
            case "ofWay" -> both(x.ofWay(a[0], a[1]), m.ofWay(a[0], a[1]));
            case "telling" -> both(x.telling(a[0], a[1], a[2]), m.telling(a[0], a[1], a[2]));
            case "undo" -> both(x.undo(a[0]), m.undo(a[0]));
            case "law" -> both(x.law(a[0]), m.law(a[0]));
            case "fog" -> both(x.fog(a[0], a[1] == 1), m.fog(a[0], a[1] == 1));
            case "hush" -> both(x.hush(a[0], a[1] == 1), m.hush(a[0], a[1] == 1));
            case "hears" -> both(x.hears(a[0], a[1], a[2]), m.hears(a[0], a[1], a[2]));
            case "count" -> both(x.count(a[0], a[1], a[2]), m.count(a[0], a[1], a[2]));
            case "forges" -> both(x.forges(a[0], a[1]), m.forges(a[0], a[1]));
            case "works" -> both(x.works(a[0]), m.works(a[0]));
            case "path" -> both(x.path(a[0], a[1], a[2]), m.path(a[0], a[1], a[2]));
            case "fewest" -> both(x.fewest(a[0], a[1], a[2]), m.fewest(a[0], a[1], a[2]));
            case "hushed" -> both(x.hushed(a[0], a[1], a[2]), m.hushed(a[0], a[1], a[2]));
            case "worth" -> both(x.worth(a[0]), m.worth(a[0]));
            case "spare" -> both(x.spare(), m.spare());
            case "reading" -> both(x.reading(a[0], a[1], a[2], a[3] == 1), m.reading(a[0], a[1], a[2], a[3] == 1));
            case "back" -> both(x.back(a[0]), m.back(a[0]));
            case "told" -> both(x.told(a[0], a[1]), m.told(a[0], a[1]));
            case "mute" -> both(x.mute(), m.mute());
            case "rows" -> both(x.rows(a[0], a[1], a[2], a[3], a[4]), m.rows(a[0], a[1], a[2], a[3], a[4]));
            case "sheet" -> both(x.sheet(a[0], a[1], a[2]), m.sheet(a[0], a[1], a[2]));
            case "lose" -> both(x.lose(a[0]), m.lose(a[0]));
            case "put" -> both(x.put(a[0], a[1], a[2]), m.put(a[0], a[1], a[2]));
            case "cell" -> both(x.cell(a[0], a[1], a[2]), m.cell(a[0], a[1], a[2]));
            case "copy" -> both(x.copy(a[0], a[1], a[2], a[3], a[4]), m.copy(a[0], a[1], a[2], a[3], a[4]));
            case "tell" -> both(x.tell(a[0]), m.tell(a[0]));
            case "greet" -> both(x.greet(a[0]), m.greet(a[0]));
            case "as" -> both(x.as(a[0], a[1]), m.as(a[0], a[1]));
            case "trace" -> both(x.trace(), m.trace());
            case "fault" -> both(x.fault(), m.fault());
            case "many" -> both(x.many(a[0]), m.many(a[0]));
            default -> throw new IllegalArgumentException(name);
        };
        Check.due(calls.toString(), both[0], both[1]);
    }

    private static long[] both(long got, long due) {
        return new long[] {got, due};
    }

    /** Mostly 0 .. end less 1, now and then just beyond, seldom wild. */
    private int number(int end) {
        int luck = some(40);
        return luck == 0 ? wild() : luck == 1 ? end : luck == 2 ? -1 : some(end);
    }

    private int day() {
        return some(3) > 0 ? some(12) : number(60);
    }

    private int wild() {
        return WILD[some(WILD.length)];
    }

    private int some(int end) {
        seed = seed * 6364136223846793005L + 1442695040888963407L;
        return (int) ((seed >>> 33) % end);
    }
}
