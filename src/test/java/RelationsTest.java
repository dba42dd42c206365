import java.util.ArrayList;
import java.util.List;

/**
 * What the document tells by other calls' words is done by those calls: a telling is left out, a way is taken from the
 * text, persons are told or hushed, and what is forged then is asked. Many passes, the same ones each time.
 */
public final class RelationsTest {
    private static final int PASSES = 200;
    private static final int NONE = -9;

    private long seed;
    private final int persons;
    private final List<String> kinds = new ArrayList<>();
    private final List<String> ways = new ArrayList<>();
    private final List<String> tellings = new ArrayList<>();
    private final List<String> readings = new ArrayList<>();
    /** The law, fog, who is hushed. */
    private final List<String> rest = new ArrayList<>();

    private RelationsTest(int pass) {
        seed = pass * 104729L + 3;
        persons = 2 + some(5);
        for (int p = 0; p < persons; p++) {
            kinds.add("ttjl".charAt(some(4)) + (some(4) > 0 ? "1" : "0"));
        }
        for (int w = 3 + some(7); w > 0; w--) {
            ways.add("" + some(persons) + some(persons) + (1 + some(5)));
        }
        for (int k = 1 + some(7); k > 0; k--) {
            tellings.add("telling " + some(persons) + " " + some(2) + " " + some(9));
        }
        rest.add("law " + (1 + some(3)));
        for (int k = some(5); k > 0; k--) {
            rest.add("fog " + some(12) + " 1");
        }
        for (int k = some(3); k > 0; k--) {
            rest.add("hush " + some(persons) + " 1");
        }
    }

    public static void main(String[] args) {
        for (int pass = 1; pass <= PASSES; pass++) {
            RelationsTest t = new RelationsTest(pass);
            t.takeReadings();
            t.countsAreOfWhatIsHeard();
            t.worthIsWithAndWithout();
            t.waysThatAreSpared();
            t.whoWasTold();
            t.whoIsMute();
            t.rowsAreTellings();
            t.sets("fewest");
            t.sets("hushed");
        }
        Check.end("RelationsTest");
    }

    // ---- a pass, and what is asked of it

    private Run with(List<String> theseWays, List<String> theseTellings, String... more) {
        StringBuilder text = new StringBuilder("text 3 2 i").append(String.join("", kinds));
        for (String way : theseWays) {
            text.append(';').append(way);
        }
        Run run = Run.of(text.toString());
        for (List<String> calls : List.of(rest, theseTellings, List.of(more))) {
            for (String call : calls) {
                run.ask(call);
            }
        }
        return run;
    }

    private Run asItIs(String... more) {
        return with(ways, tellings, more);
    }

    private boolean isSmith(int p) {
        return kinds.get(p).endsWith("1");
    }

    /** On which days all smiths forge all things. */
    private List<Long> forged(Run run) {
        List<Long> days = new ArrayList<>();
        for (int p = 0; p < persons; p++) {
            for (int thing = 0; isSmith(p) && thing < 4; thing++) {
                days.add(run.ask("forges " + p + " " + thing));
            }
        }
        return days;
    }

    private static boolean hasForged(Run run, int p, int thing, int day) {
        long forged = run.ask("forges " + p + " " + thing);
        return forged != NONE && forged <= day;
    }

    // ---- readings, as it is or nearly so

    private void takeReadings() {
        Run run = asItIs();
        for (int k = some(4); k > 0; k--) {
            int p = some(persons);
            int thing = some(4);
            int day = some(20);
            if (isSmith(p)) {
                boolean is = hasForged(run, p, thing, day) ^ some(3) == 0;
                readings.add("reading " + p + " " + thing + " " + day + " " + (is ? 1 : 0));
            }
        }
    }

    private boolean areReadingsSo(Run run) {
        for (String reading : readings) {
            String[] r = reading.split(" ");
            boolean had = hasForged(run, Integer.parseInt(r[1]), Integer.parseInt(r[2]), Integer.parseInt(r[3]));
            if (had != r[4].equals("1")) {
                return false;
            }
        }
        return true;
    }

    // ---- the relations

    private void countsAreOfWhatIsHeard() {
        long works = 0;
        for (int p = 0; p < persons; p++) {
            Run run = asItIs();
            for (int thing = 0; thing < 4; thing++) {
                int[] many = new int[60];
                for (int origin = 0; origin < 14; origin++) {
                    long first = run.ask("hears " + p + " " + thing + " " + origin);
                    for (int day = 0; first != NONE && day < 60; day++) {
                        many[day] += first <= day ? 1 : 0;
                    }
                }
                for (int day = 0; day < 60; day++) {
                    run.due("of unlike origins", "count " + p + " " + thing + " " + day + " = " + many[day]);
                }
                if (isSmith(p)) {
                    int forged = firstClearDay(many);
                    run.due("the law, and no fog", "forges " + p + " " + thing + " = " + forged);
                    works += forged == NONE ? 0 : 1;
                }
            }
        }
        asItIs().due("of all smiths together", "works 59 = " + works);
    }

    private int firstClearDay(int[] many) {
        int law = Integer.parseInt(rest.get(0).split(" ")[1]);
        for (int day = 0; day < 60; day++) {
            if (many[day] >= law && !rest.contains("fog " + day + " 1")) {
                return day;
            }
        }
        return NONE;
    }

    private void worthIsWithAndWithout() {
        long with = asItIs().ask("works 59");
        for (int k = 0; k < tellings.size(); k++) {
            List<String> others = new ArrayList<>(tellings);
            others.remove(k);
            long without = with(ways, others).ask("works 59");
            asItIs().due("how many fewer without it", "worth " + k + " = " + (100 + with - without), "works 59 = " + with);
        }
    }

    private void waysThatAreSpared() {
        List<Long> days = forged(asItIs());
        int set = 0;
        for (int w = 0; w < ways.size(); w++) {
            List<String> others = new ArrayList<>(ways);
            others.remove(w);
            set |= forged(with(others, tellings)).equals(days) ? 1 << w : 0;
        }
        asItIs().due("each alone is taken from the text", "spare = " + set);
    }

    private void whoWasTold() {
        for (int thing = 0; thing < 4; thing++) {
            int day = some(15);
            int set = 0;
            for (int p = 0; p < persons; p++) {
                set |= areReadingsSo(asItIs("telling " + p + " " + thing + " " + day)) ? 1 << p : 0;
            }
            asItIs(readings.toArray(new String[0])).due("one telling more", "told " + thing + " " + day + " = " + set);
        }
    }

    private void whoIsMute() {
        int set = 0;
        for (int p = 0; p < persons; p++) {
            set |= areReadingsSo(asItIs("hush " + p + " 1")) ? 1 << p : 0;
        }
        asItIs(readings.toArray(new String[0])).due("were they hushed, too", "mute = " + set);
        // hushed, too: who is hushed already makes no change
        Run run = asItIs(readings.toArray(new String[0]));
        boolean so = areReadingsSo(asItIs());
        for (int p = 0; p < persons; p++) {
            if (run.ask("ofPerson " + p + " 2") == 1) {
                Check.due("who is hushed already: " + p, set >> p & 1, so ? 1 : 0);
            }
        }
    }

    private void rowsAreTellings() {
        int many = some(9);
        int thing = some(4);
        Run run = asItIs();
        // late fog, so that it matters on which days they are told
        List<String> fog = new ArrayList<>();
        for (int day = 2 + some(10); day < 60; day++) {
            fog.add("fog " + day + " 1");
            run.ask("fog " + day + " 1");
        }
        run.ask("sheet 1 0 " + many);
        List<String> these = new ArrayList<>();
        for (int m = 0; m < many; m++) {
            int p = some(persons);
            run.ask("put 1 " + m + " " + p);
            these.add("telling " + p + " " + thing + " " + m);
        }
        run.due("in place of all", "rows " + thing + " 1 0 0 " + many + " = "
            + with(ways, these, fog.toArray(new String[0])).ask("works 59"), "many 2 = " + tellings.size());
    }

    /** FEWEST and HUSH: sets are tried, the fewest first, of several the least first. */
    private void sets(String call) {
        int p = some(persons);
        int thing = some(3);
        int day = some(20);
        if (!isSmith(p)) {
            return;
        }
        int found = NONE;
        for (int size = 0; size <= persons && found == NONE; size++) {
            for (int set = 0; set < 1 << persons && found == NONE; set++) {
                if (Integer.bitCount(set) == size && does(call, set, p, thing, day)) {
                    found = set;
                }
            }
        }
        asItIs().due("of sets", call + " " + p + " " + thing + " " + day + " = " + found);
    }

    private boolean does(String call, int set, int p, int thing, int day) {
        List<String> told = new ArrayList<>();
        List<String> hushed = new ArrayList<>();
        for (int q = 0; q < persons; q++) {
            if ((set >> q & 1) == 1) {
                told.add("telling " + q + " " + thing + " 0");
                hushed.add("hush " + q + " 1");
            }
        }
        return call.equals("fewest") ? hasForged(with(ways, told), p, thing, day)
            : !hasForged(asItIs(hushed.toArray(new String[0])), p, thing, day);
    }

    private int some(int end) {
        seed = seed * 6364136223846793005L + 1442695040888963407L;
        return (int) ((seed >>> 33) % end);
    }
}
