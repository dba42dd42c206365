import java.util.Set;

/**
 * The bounds of every number of every call: the first and the last one that there is, and all between, are not
 * refused for it; those just below and just above, the least int and the most are, and change nothing.
 */
public final class BoundsTest {
    private static final long UNKNOWN = -1, OUTSIDE = -2, INDEX = -13, SIZE = -14, LOST = Long.MIN_VALUE;
    private static final Set<String> NAME_FAULTS = Set.of("pass", "rows", "sheet", "put", "cell", "copy", "as");

    private BoundsTest() {
    }

    public static void main(String[] args) {
        persons();
        daysAndThings();
        tellingsAndReadings();
        sheets();
        lanes();
        cells();
        lengths();
        whats();
        withoutAPass();
        Check.end("BoundsTest");
    }

    private static void persons() {
        String[] calls = {"ofPerson # 0", "ofPerson # 1", "ofPerson # 2", "hush # 1", "hush # 0", "hears # 0 0",
            "count # 0 0", "forges # 0", "path # 0 0", "fewest # 0 59", "hushed # 0 59", "tell #", "greet #", "as # 0"};
        for (String call : calls) {
            bound(Twin.FULL, call, 0, 5, UNKNOWN);
            bound(Twin.SOME, call, 0, 2, UNKNOWN);
        }
        bound(Twin.SOME, "telling # 0 0", 0, 2, UNKNOWN);
        bound(Twin.SOME, "reading # 0 0 1", 0, 2, UNKNOWN);
        bound(Twin.SOME, "reading # 0 0 0", 0, 2, UNKNOWN);
        for (String what : new String[] {"0", "1", "2"}) {
            bound(Twin.FULL, "ofWay # " + what, 0, 8, UNKNOWN);
            bound(Twin.SOME, "ofWay # " + what, 0, 1, UNKNOWN);
        }
    }

    private static void daysAndThings() {
        bound(Twin.SOME, "telling 2 # 0", 0, 3, OUTSIDE);
        bound(Twin.SOME, "telling 2 0 #", 0, 59, OUTSIDE);
        bound(Twin.SOME, "reading 1 # 0 1", 0, 3, OUTSIDE);
        bound(Twin.SOME, "reading 1 0 # 0", 0, 59, OUTSIDE);
        for (String call : new String[] {"count 0", "fewest 0", "hushed 0", "told"}) {
            bound(Twin.FULL, call + " # 0", 0, 3, OUTSIDE);
            bound(Twin.FULL, call + " 0 #", 0, 59, OUTSIDE);
        }
        for (String call : new String[] {"hears 0", "path 0"}) {
            bound(Twin.FULL, call + " # 0", 0, 3, OUTSIDE);
            bound(Twin.FULL, call + " 0 #", 0, 13, OUTSIDE);
            bound(Twin.SOME, call + " 0 #", 0, 13, OUTSIDE);
        }
        bound(Twin.FULL, "forges 0 #", 0, 3, OUTSIDE);
        bound(Twin.FULL, "rows # 0 0 0 0", 0, 3, OUTSIDE);
        bound(Twin.FULL, "works #", 0, 59, OUTSIDE);
        bound(Twin.FULL, "fog # 1", 0, 59, OUTSIDE);
        bound(Twin.FULL, "fog # 0", 0, 59, OUTSIDE);
        bound(Twin.FULL, "law #", 1, 4, OUTSIDE);
    }

    private static void tellingsAndReadings() {
        bound(Twin.FULL, "undo #", 0, 8, OUTSIDE);
        bound(Twin.SOME, "undo #", 0, 2, OUTSIDE);
        bound(Twin.FULL, "back #", 0, 6, OUTSIDE);
        bound(Twin.SOME, "back #", 0, 1, OUTSIDE);
        bound(Twin.FULL, "worth #", 0, 7, UNKNOWN);
        bound(Twin.SOME, "worth #", 0, 1, UNKNOWN);
    }

    private static void sheets() {
        String[] calls = {"pass # 0 0 0", "rows 0 # 0 0 0", "sheet # 0 0", "lose #", "put # 0 0", "copy # 0 0 0 0",
            "copy 0 0 # 0 0"};
        for (String call : calls) {
            bound(Twin.FULL, call, 0, 3, UNKNOWN);
        }
        for (int k : new int[] {-1, 4, Integer.MIN_VALUE, Integer.MAX_VALUE}) {
            refused(Twin.FULL, "cell " + k + " 0 0", LOST, 0);
        }
    }

    private static void lanes() {
        bound(Twin.FULL, "pass 0 # 0 0", 0, 2, OUTSIDE);
        bound(Twin.FULL, "pass 2 # 0 0", 0, 2, OUTSIDE);
        bound(Twin.FULL, "rows 0 0 # 0 0", 0, 2, OUTSIDE);
        bound(Twin.FULL, "rows 0 2 # 0 0", 0, 2, OUTSIDE);
        bound(Twin.FULL, "sheet 0 # 0", 0, 2, OUTSIDE);
        for (int lane : new int[] {-1, 3, Integer.MIN_VALUE, Integer.MAX_VALUE}) {
            refused(Twin.FULL, "cell 0 0 " + lane, LOST, 0);
            refused(Twin.FULL, "cell 2 0 " + lane, LOST, 0);
        }
        for (int lane = 0; lane < 3; lane++) {
            Run.of("sheet 0 " + lane + " 1").due("a row of each lane", "cell 0 0 " + lane + " = 0", "fault = 0");
        }
    }

    private static void cells() {
        bound(Twin.FULL, "put 0 # 5", 0, 8, INDEX);
        bound(Twin.FULL, "put 1 # 5", 0, 59, INDEX);
        for (int i : new int[] {-1, 9, Integer.MIN_VALUE, Integer.MAX_VALUE}) {
            refused(Twin.FULL, "cell 0 " + i + " 0", LOST, 3);
        }
        for (int i : new int[] {-1, 60, Integer.MIN_VALUE, Integer.MAX_VALUE}) {
            refused(Twin.FULL, "cell 1 " + i + " 1", LOST, 3);
        }
        for (int i = 0; i < 60; i++) {
            Run.of(Twin.FULL).due("each cell", "cell 1 " + i + " 1 = " + (i == 0 ? 9 : i == 59 ? -7 : 0), "fault = 0");
        }
        // from i on: i is 0 .. how many there are, if none is taken; a cell less for each that is
        bound(Twin.FULL, "pass 0 0 # 0", 0, 9, INDEX);
        bound(Twin.FULL, "pass 0 0 # 1", 0, 8, INDEX);
        bound(Twin.FULL, "pass 1 1 # 60", 0, 0, INDEX);
        bound(Twin.FULL, "rows 0 0 0 # 0", 0, 9, INDEX);
        bound(Twin.FULL, "rows 0 0 0 # 1", 0, 8, INDEX);
        bound(Twin.FULL, "rows 0 0 0 # 8", 0, 1, INDEX);
        bound(Twin.FULL, "copy 0 # 0 0 0", 0, 9, INDEX);
        bound(Twin.FULL, "copy 0 # 0 0 1", 0, 8, INDEX);
        bound(Twin.FULL, "copy 0 0 0 # 0", 0, 9, INDEX);
        bound(Twin.FULL, "copy 0 0 0 # 1", 0, 8, INDEX);
        bound(Twin.FULL, "copy 1 # 1 0 60", 0, 0, INDEX);
        bound(Twin.FULL, "copy 1 0 1 # 60", 0, 0, INDEX);
    }

    private static void lengths() {
        // below 0 it is a SIZE, above what there is an INDEX
        bound(Twin.FULL, "pass 0 0 0 #", 0, 9, SIZE, INDEX);
        bound(Twin.FULL, "pass 0 0 4 #", 0, 5, SIZE, INDEX);
        bound(Twin.FULL, "pass 0 0 9 #", 0, 0, SIZE, INDEX);
        bound(Twin.FULL, "rows 0 0 0 2 #", 0, 7, SIZE, INDEX);
        bound(Twin.FULL, "rows 0 0 0 9 #", 0, 0, SIZE, INDEX);
        for (int n = 9; n <= 60; n++) {
            refused(Twin.FULL, "rows 0 1 1 0 " + n, OUTSIDE, 0);
        }
        refused(Twin.FULL, "rows 0 1 1 0 61", INDEX, 3);
        bound(Twin.FULL, "sheet 0 0 #", 0, 60, SIZE, OUTSIDE);
        bound(Twin.FULL, "sheet 2 2 #", 0, 60, SIZE, OUTSIDE);
        // a copy's length below 0 is an INDEX, too
        bound(Twin.FULL, "copy 0 0 0 0 #", 0, 9, INDEX);
        bound(Twin.FULL, "copy 0 4 0 0 #", 0, 5, INDEX);
        bound(Twin.FULL, "copy 0 0 0 4 #", 0, 5, INDEX);
        bound(Twin.FULL, "copy 0 9 0 0 #", 0, 0, INDEX);
        bound(Twin.FULL, "copy 0 0 0 9 #", 0, 0, INDEX);
        bound(Twin.FULL, "copy 1 0 1 0 #", 0, 60, INDEX);
    }

    private static void whats() {
        bound(Twin.FULL, "ofPerson 0 #", 0, 2, OUTSIDE);
        bound(Twin.FULL, "ofPerson 5 #", 0, 2, OUTSIDE);
        bound(Twin.FULL, "ofWay 0 #", 0, 2, OUTSIDE);
        bound(Twin.FULL, "ofWay 8 #", 0, 2, OUTSIDE);
        bound(Twin.FULL, "as 0 #", 0, 2, OUTSIDE);
        bound(Twin.FULL, "as 5 #", 0, 2, OUTSIDE);
        bound(Twin.FULL, "many #", 0, 4, OUTSIDE);
        bound(Twin.NO_PASS, "many #", 0, 4, OUTSIDE);
    }

    private static void withoutAPass() {
        String[] persons = {"ofPerson # 0", "telling # 0 0", "hush # 1", "hush # 0", "hears # 0 0", "count # 0 0",
            "forges # 0", "path # 0 0", "fewest # 0 0", "hushed # 0 0", "reading # 0 0 1", "tell #", "greet #",
            "as # 0", "ofWay # 0", "worth #"};
        for (String call : persons) {
            bound(Twin.NO_PASS, call, 0, -1, UNKNOWN);
        }
        bound(Twin.NO_PASS, "undo #", 0, 0, OUTSIDE);
        bound(Twin.NO_PASS, "back #", 0, 0, OUTSIDE);
        bound(Twin.NO_PASS, "law #", 1, 4, OUTSIDE);
        bound(Twin.NO_PASS, "fog # 0", 0, 59, OUTSIDE);
        bound(Twin.NO_PASS, "works #", 0, 59, OUTSIDE);
        bound(Twin.NO_PASS, "told # 0", 0, 3, OUTSIDE);
        bound(Twin.NO_PASS, "told 0 #", 0, 59, OUTSIDE);
        bound(Twin.NO_PASS, "rows # 0 0 0 0", 0, 3, OUTSIDE);
        bound(Twin.NO_PASS, "rows 0 0 # 0 0", 0, 2, OUTSIDE);
        bound(Twin.NO_PASS, "rows 0 # 0 0 0", 0, 3, UNKNOWN);
    }

    private static void bound(String[] made, String call, int first, int last, long refusal) {
        bound(made, call, first, last, refusal, refusal);
    }

    /** # of a call is first .. last: what it answers below, and above. */
    private static void bound(String[] made, String call, int first, int last, long below, long above) {
        for (int number = first; number <= last; number++) {
            String good = call.replace("#", Integer.toString(number));
            long answer = Run.of(made).ask(good);
            Check.due(good + " answered " + answer + ": refused for it", answer == below || answer == above ? 1 : 0, 0);
        }
        long fault = below < -10 ? -10 - below : 0;
        refused(made, call.replace("#", Integer.toString(first - 1)), below, fault);
        refused(made, call.replace("#", "least"), below, fault);
        fault = above < -10 ? -10 - above : 0;
        refused(made, call.replace("#", Integer.toString(last + 1)), above, fault);
        refused(made, call.replace("#", "most"), above, fault);
    }

    private static void refused(String[] made, String call, long due, long fault) {
        Run run = Run.of(made);
        long was = run.ask("fault");
        boolean names = NAME_FAULTS.contains(call.substring(0, call.indexOf(' ')));
        run.due(made[0] + " ..", call + " = " + due, "fault = " + (names ? fault : was));
        Twin.changesNothing(made, call);
    }
}
