import java.util.Map;

/**
 * An object and the calls that are asked of it, told in words: "telling 0 2 5", or with the answer that is due,
 * "telling 0 2 5 = 0". Numbers may be told by name. It asks no more calls than the document promises answers to.
 */
final class Run {
    static final int MOST_CALLS = 512;

    private static final Map<String, Long> NAMES = Map.ofEntries(
        Map.entry("UNKNOWN", -1L), Map.entry("OUTSIDE", -2L), Map.entry("STATE", -3L), Map.entry("FULL", -4L),
        Map.entry("NONE", -9L), Map.entry("NULL", -11L), Map.entry("CAST", -12L), Map.entry("INDEX", -13L),
        Map.entry("SIZE", -14L), Map.entry("LOST", Long.MIN_VALUE),
        Map.entry("least", (long) Integer.MIN_VALUE), Map.entry("most", (long) Integer.MAX_VALUE));

    private final IronRumours x = new IronRumours();
    private final StringBuilder told = new StringBuilder();
    private int calls = 0;

    /** A new object, of which these calls have been asked. */
    static Run of(String... calls) {
        Run run = new Run();
        for (String call : calls) {
            run.ask(call);
        }
        return run;
    }

    /** Asks rows, each a call and the answer that is due. */
    Run due(String sentence, String... rows) {
        for (String row : rows) {
            String[] sides = row.split(" = ");
            Check.due(sentence + ":" + told + " | " + sides[0], ask(sides[0]), number(sides[1]));
        }
        return this;
    }

    /** The answer to a call. */
    long ask(String call) {
        String[] words = call.split(" ");
        if (words[0].equals("text")) {
            return text(words);
        }
        told.append(' ').append(call).append(',');
        if (++calls > MOST_CALLS) {
            throw new IllegalStateException("more calls than are promised:" + told);
        }
        int[] a = new int[words.length - 1];
        for (int k = 0; k < a.length; k++) {
            a[k] = (int) number(words[k + 1]);
        }
        return answer(words[0], a);
    }

    /** "text SHEET LANE TEXT": a sheet, the text put into it, and the pass by it; "text 0 0" is that of no codes. */
    private long text(String[] words) {
        String text = words.length > 3 ? words[3] : "";
        String where = words[1] + " " + words[2];
        ask("sheet " + where + " " + text.length());
        for (int k = 0; k < text.length(); k++) {
            ask("put " + words[1] + " " + k + " " + (int) text.charAt(k));
        }
        return ask("pass " + where + " 0 " + text.length());
    }

    private static long number(String word) {
        return NAMES.containsKey(word) ? NAMES.get(word) : Long.parseLong(word);
    }

    private long answer(String name, int[] a) {
        return switch (name) {
            case "pass" -> x.pass(a[0], a[1], a[2], a[3]);
            case "ofPerson" -> x.ofPerson(a[0], a[1]);
            case "ofWay" -> x.ofWay(a[0], a[1]);
            case "telling" -> x.telling(a[0], a[1], a[2]);
            case "undo" -> x.undo(a[0]);
            case "law" -> x.law(a[0]);
            case "fog" -> x.fog(a[0], a[1] == 1);
            case "hush" -> x.hush(a[0], a[1] == 1);
            case "hears" -> x.hears(a[0], a[1], a[2]);
            case "count" -> x.count(a[0], a[1], a[2]);
            case "forges" -> x.forges(a[0], a[1]);
            case "works" -> x.works(a[0]);
            case "path" -> x.path(a[0], a[1], a[2]);
            case "fewest" -> x.fewest(a[0], a[1], a[2]);
            case "hushed" -> x.hushed(a[0], a[1], a[2]);
            case "worth" -> x.worth(a[0]);
            case "spare" -> x.spare();
            default -> answerOfMore(name, a);
        };
    }

    private long answerOfMore(String name, int[] a) {
        return switch (name) {
            case "reading" -> x.reading(a[0], a[1], a[2], a[3] == 1);
            case "back" -> x.back(a[0]);
            case "told" -> x.told(a[0], a[1]);
            case "mute" -> x.mute();
            case "rows" -> x.rows(a[0], a[1], a[2], a[3], a[4]);
            case "sheet" -> x.sheet(a[0], a[1], a[2]);
            case "lose" -> x.lose(a[0]);
            case "put" -> x.put(a[0], a[1], a[2]);
            case "cell" -> x.cell(a[0], a[1], a[2]);
            case "copy" -> x.copy(a[0], a[1], a[2], a[3], a[4]);
            case "tell" -> x.tell(a[0]);
            case "greet" -> x.greet(a[0]);
            case "as" -> x.as(a[0], a[1]);
            case "trace" -> x.trace();
            case "fault" -> x.fault();
            case "many" -> x.many(a[0]);
            default -> throw new IllegalArgumentException(name);
        };
    }
}
