import java.util.ArrayList;
import java.util.IdentityHashMap;
import java.util.List;
import java.util.Map;

/**
 * States of an object, and what can be asked to see all of one: two objects that were made alike, of which one was
 * asked a call more, are asked the same, and answer the same if that call changed nothing.
 */
final class Twin {
    /** No pass; a sheet of each lane, one of them with a row of 0 cells, and one that has nothing; a fault. */
    static final String[] NO_PASS = {"sheet 0 0 3", "put 0 1 7", "sheet 1 1 0", "sheet 2 2 5", "put 2 4 105",
        "put 2 5 0"};
    /** A pass of three with two ways, one smith too few, room for more; a fault. */
    static final String[] SOME = {"text 3 2 it1l1t0;012;123", "law 1", "telling 0 0 3", "telling 1 2 0",
        "reading 1 0 5 1", "fog 5 1", "hush 2 1", "sheet 0 0 5", "put 0 1 1", "put 0 2 2", "put 0 3 1", "sheet 1 1 0",
        "tell 1", "greet 1", "as 0 2"};
    /** Six persons, nine ways, eight tellings, six readings, a row of 60; person 3 is no smith; a fault. */
    static final String[] FULL = {"text 3 2 it1j1l1t0j1l1;011;122;233;344;455;501;031;152;249", "law 2",
        "telling 0 0 3", "telling 0 0 4", "telling 3 1 0", "telling 5 2 59", "telling 2 3 7", "telling 1 1 1",
        "telling 4 0 20", "telling 0 2 2", "reading 0 0 3 0", "reading 1 0 50 1", "reading 2 1 59 1",
        "reading 4 3 0 0", "reading 5 2 1 0", "reading 1 3 2 0", "fog 0 1", "fog 9 1", "fog 59 1", "hush 4 1",
        "sheet 0 0 9", "put 0 3 1", "put 0 4 3", "put 0 8 5", "sheet 1 1 60", "put 1 59 -7", "put 1 0 9", "tell 2",
        "greet 0", "as 0 2"};

    private static final List<List<String>> GROUPS = List.of(numbers(), rumours("hears"), rumours("path"), changes(),
        cells(0), cells(2));
    private static final Map<String[], List<List<Long>>> KNOWN = new IdentityHashMap<>();

    private Twin() {
    }

    /** Checks that a call, of an object made by these calls, changes nothing that can be asked but fault(). */
    static void changesNothing(String[] made, String call) {
        if (!KNOWN.containsKey(made)) {
            KNOWN.put(made, answers(made, "trace"));
        }
        List<List<Long>> before = KNOWN.get(made);
        List<List<Long>> after = answers(made, call);
        for (int g = 0; g < GROUPS.size(); g++) {
            for (int k = 0; k < GROUPS.get(g).size(); k++) {
                Check.due(made[0] + " ..: " + GROUPS.get(g).get(k) + " behind " + call, after.get(g).get(k),
                    before.get(g).get(k));
            }
        }
    }

    private static List<List<Long>> answers(String[] made, String call) {
        List<List<Long>> all = new ArrayList<>();
        for (List<String> group : GROUPS) {
            Run run = Run.of(made);
            run.ask(call);
            List<Long> answers = new ArrayList<>();
            for (String probe : group) {
                answers.add(run.ask(probe));
            }
            all.add(answers);
        }
        return all;
    }

    private static List<String> numbers() {
        List<String> calls = new ArrayList<>(List.of("trace", "spare", "mute", "told 0 0", "told 1 9", "told 2 30",
            "told 3 59", "fewest 0 0 59", "fewest 1 1 9", "hushed 1 0 59", "hushed 2 1 59"));
        each(calls, "many #", 5);
        each(calls, "worth #", 8);
        each(calls, "works #", 60);
        for (int p = 0; p < 6; p++) {
            each(calls, "ofPerson " + p + " #", 3);
            each(calls, "forges " + p + " #", 4);
        }
        for (int w = 0; w < 9; w++) {
            each(calls, "ofWay " + w + " #", 3);
        }
        return calls;
    }

    private static List<String> rumours(String name) {
        List<String> calls = new ArrayList<>();
        for (int p = 0; p < 6; p++) {
            for (int thing = 0; thing < 4; thing++) {
                each(calls, name + " " + p + " " + thing + " #", 14);
            }
        }
        return calls;
    }

    /** What cannot be asked without a change: readings one by one, fog, tellings one by one. */
    private static List<String> changes() {
        List<String> calls = new ArrayList<>();
        for (int k = 0; k < 6; k++) {
            calls.addAll(List.of("mute", "told 0 0", "told 0 3", "told 1 1", "told 2 40", "back 1"));
        }
        each(calls, "fog # 1", 60);
        each(calls, "hush # 1", 6);
        calls.addAll(List.of("telling 0 0 0", "undo 1", "law 4"));
        return calls;
    }

    private static List<String> cells(int sheet) {
        List<String> calls = new ArrayList<>();
        for (int k = sheet; k < sheet + 2; k++) {
            for (int i = 0; i < 61; i++) {
                each(calls, "cell " + k + " " + i + " #", 3);
            }
        }
        return calls;
    }

    private static void each(List<String> calls, String call, int end) {
        for (int k = 0; k < end; k++) {
            calls.add(call.replace("#", Integer.toString(k)));
        }
    }
}
