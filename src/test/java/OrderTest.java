/**
 * Of several refusals and faults the first in the order in which the call's line tells them; each answers as told,
 * is told by fault() if its call names faults, and changes nothing.
 */
public final class OrderTest {
    private static final String[] FAULTS = {"NULL", "CAST", "INDEX", "SIZE"};

    private OrderTest() {
    }

    public static void main(String[] args) {
        unknownAheadOfOutside();
        outsideAheadOfState();
        stateAheadOfFull();
        pass();
        rows();
        sheetsAndCells();
        copy();
        kinds();
        faultIsOfTheLatestCallThatNamesOne();
        Check.end("OrderTest");
    }

    private static void unknownAheadOfOutside() {
        none(Twin.FULL, "ofPerson 6 3 = UNKNOWN", "ofPerson -1 -1 = UNKNOWN", "ofPerson 5 3 = OUTSIDE");
        none(Twin.FULL, "ofWay 9 3 = UNKNOWN", "ofWay -1 -1 = UNKNOWN", "ofWay 8 3 = OUTSIDE");
        none(Twin.FULL, "telling 6 4 0 = UNKNOWN", "telling 6 0 60 = UNKNOWN", "telling 6 0 0 = UNKNOWN",
            "telling -1 -1 -1 = UNKNOWN", "telling 5 4 0 = OUTSIDE", "telling 5 0 60 = OUTSIDE",
            "telling 5 4 60 = OUTSIDE", "telling 5 0 0 = FULL");
        none(Twin.SOME, "telling 3 4 0 = UNKNOWN", "telling 3 0 60 = UNKNOWN", "telling 2 4 60 = OUTSIDE");
        for (String call : new String[] {"hears", "path"}) {
            none(Twin.FULL, call + " 6 4 0 = UNKNOWN", call + " 6 0 14 = UNKNOWN", call + " -1 -1 -1 = UNKNOWN",
                call + " 5 4 14 = OUTSIDE", call + " 5 4 0 = OUTSIDE", call + " 5 0 14 = OUTSIDE");
        }
        none(Twin.FULL, "count 6 4 0 = UNKNOWN", "count 6 0 60 = UNKNOWN", "count -1 -1 -1 = UNKNOWN",
            "count 5 4 60 = OUTSIDE");
        none(Twin.NO_PASS, "ofPerson 0 3 = UNKNOWN", "ofWay 0 3 = UNKNOWN", "telling 0 4 60 = UNKNOWN",
            "hears 0 4 14 = UNKNOWN", "path 0 4 14 = UNKNOWN", "count 0 4 60 = UNKNOWN", "hush 0 1 = UNKNOWN",
            "worth 0 = UNKNOWN", "tell 0 = UNKNOWN", "greet 0 = UNKNOWN");
    }

    private static void outsideAheadOfState() {
        none(Twin.FULL, "forges 6 4 = UNKNOWN", "forges 3 4 = OUTSIDE", "forges 3 -1 = OUTSIDE", "forges 3 3 = STATE",
            "forges 5 4 = OUTSIDE");
        for (String call : new String[] {"fewest", "hushed"}) {
            none(Twin.FULL, call + " 6 4 60 = UNKNOWN", call + " 6 0 0 = UNKNOWN", call + " 3 4 0 = OUTSIDE",
                call + " 3 0 60 = OUTSIDE", call + " 3 -1 -1 = OUTSIDE", call + " 3 0 0 = STATE",
                call + " 3 3 59 = STATE", call + " 5 4 60 = OUTSIDE");
        }
        none(Twin.NO_PASS, "law 0 = OUTSIDE", "law 5 = OUTSIDE", "law 1 = STATE", "law 4 = STATE",
            "fog -1 0 = OUTSIDE", "fog 60 1 = OUTSIDE", "fog 0 1 = STATE", "fog 0 0 = STATE", "fog 59 1 = STATE",
            "works -1 = OUTSIDE", "works 60 = OUTSIDE", "works 0 = STATE", "works 59 = STATE", "told 4 0 = OUTSIDE",
            "told 0 60 = OUTSIDE", "told -1 -1 = OUTSIDE", "told 0 0 = STATE", "told 3 59 = STATE", "mute = STATE",
            "spare = STATE", "forges 0 4 = UNKNOWN", "fewest 0 4 60 = UNKNOWN", "hushed 0 4 60 = UNKNOWN");
    }

    private static void stateAheadOfFull() {
        none(Twin.FULL, "reading 6 4 60 1 = UNKNOWN", "reading 6 0 0 1 = UNKNOWN", "reading 3 4 0 1 = OUTSIDE",
            "reading 3 0 60 0 = OUTSIDE", "reading 0 4 0 1 = OUTSIDE", "reading 0 0 60 1 = OUTSIDE",
            "reading 3 0 0 1 = STATE", "reading 3 3 59 0 = STATE", "reading 0 0 0 1 = FULL", "reading 5 3 59 0 = FULL");
        none(Twin.SOME, "reading 3 0 0 1 = UNKNOWN", "reading 2 4 0 1 = OUTSIDE", "reading 2 0 0 1 = STATE");
        none(Twin.NO_PASS, "reading 0 4 60 1 = UNKNOWN");
    }

    private static void pass() {
        // sheet 2 has nothing, sheet 0 nine bytes
        all(Twin.FULL, "pass 4 3 -1 -1 = UNKNOWN", "pass -1 -1 0 0 = UNKNOWN", "pass 2 3 -1 -1 = OUTSIDE",
            "pass 0 3 -1 -1 = OUTSIDE", "pass 0 -1 10 0 = OUTSIDE", "pass 2 0 -1 -1 = NULL", "pass 2 1 0 0 = NULL",
            "pass 2 2 0 1 = NULL", "pass 0 1 -1 -1 = CAST", "pass 0 2 0 0 = CAST", "pass 0 1 0 10 = CAST",
            "pass 1 0 0 0 = CAST", "pass 1 2 0 0 = CAST", "pass 3 0 0 0 = CAST", "pass 3 1 0 0 = CAST",
            "pass 0 0 -1 -1 = SIZE", "pass 0 0 10 -1 = SIZE", "pass 0 0 0 -1 = SIZE", "pass 0 0 -1 0 = INDEX",
            "pass 0 0 10 0 = INDEX", "pass 0 0 0 10 = INDEX", "pass 0 0 9 1 = INDEX", "pass 0 0 most most = INDEX",
            "pass 0 0 1 most = INDEX", "pass 0 0 least most = INDEX", "pass 0 0 least least = SIZE",
            "pass 0 0 9 0 = -100", "pass 0 0 0 9 = -100", "pass 3 2 0 48 = -148", "pass 3 2 1 48 = -100",
            "pass 3 2 0 0 = -100");
        all(Twin.NO_PASS, "pass 3 0 -1 -1 = NULL", "pass 1 0 -1 -1 = CAST", "pass 1 1 0 0 = -100",
            "pass 1 1 0 1 = INDEX", "pass 2 2 4 1 = -101", "pass 2 2 5 0 = -100", "pass 2 2 6 0 = INDEX");
    }

    private static void rows() {
        all(Twin.NO_PASS, "rows 4 4 3 -1 -1 = UNKNOWN", "rows 0 -1 0 0 0 = UNKNOWN", "rows 4 0 0 0 0 = OUTSIDE",
            "rows 0 0 3 0 0 = OUTSIDE", "rows -1 3 -1 -1 -1 = OUTSIDE", "rows 0 3 0 0 0 = STATE",
            "rows 0 0 1 0 0 = STATE", "rows 0 0 0 0 -1 = STATE", "rows 0 0 0 -1 0 = STATE", "rows 0 0 0 0 0 = STATE");
        // sheet 0: nine bytes, the 0, 0, 0, 1, 3, 0, 0, 0, 5; sheet 1: sixty shorts, the first a 9; sheet 2: nothing
        all(Twin.FULL, "rows 4 4 3 -1 -1 = UNKNOWN", "rows 4 2 0 -1 -1 = OUTSIDE", "rows 0 2 3 -1 -1 = OUTSIDE",
            "rows 0 2 0 -1 -1 = NULL", "rows 0 2 1 0 9 = NULL", "rows 0 2 2 0 0 = NULL", "rows 0 0 1 -1 -1 = CAST",
            "rows 0 0 2 0 9 = CAST", "rows 0 1 0 0 1 = CAST", "rows 0 1 2 0 1 = CAST", "rows 0 0 0 -1 -1 = SIZE",
            "rows 0 0 0 10 -1 = SIZE", "rows 0 0 0 -1 0 = INDEX", "rows 0 0 0 -1 9 = INDEX", "rows 0 0 0 10 0 = INDEX",
            "rows 0 0 0 1 9 = INDEX", "rows 0 0 0 0 10 = INDEX", "rows 0 0 0 most most = INDEX",
            "rows 0 0 0 least least = SIZE", "rows 0 0 0 0 9 = OUTSIDE", "rows 0 1 1 0 9 = OUTSIDE",
            "rows 0 1 1 51 9 = OUTSIDE", "rows 0 1 1 0 8 = UNKNOWN", "rows 0 1 1 52 8 = UNKNOWN",
            "rows 0 1 1 59 1 = UNKNOWN", "rows 0 1 1 0 1 = UNKNOWN");
        none(Twin.FULL, "rows 0 1 1 1 8 = 6", "rows 0 0 0 9 0 = 0");
        // sheet 0: the bytes 0, 1, 2, 1, 0
        all(Twin.SOME, "rows 0 3 2 1 1 = UNKNOWN", "rows 0 1 1 0 0 = 0", "rows 0 1 1 0 1 = INDEX",
            "rows 0 1 1 1 0 = INDEX", "rows 0 2 0 0 0 = NULL");
    }

    private static void sheetsAndCells() {
        for (String[] made : new String[][] {Twin.FULL, Twin.SOME, Twin.NO_PASS}) {
            all(made, "sheet 4 3 61 = UNKNOWN", "sheet -1 0 -1 = UNKNOWN", "sheet 0 3 61 = OUTSIDE",
                "sheet 0 3 -1 = OUTSIDE", "sheet 0 -1 -1 = OUTSIDE", "sheet 0 0 61 = OUTSIDE", "sheet 0 0 most = OUTSIDE",
                "sheet 0 0 -1 = SIZE", "sheet 0 2 least = SIZE", "put 4 -1 0 = UNKNOWN", "put -1 0 0 = UNKNOWN");
            none(made, "lose 4 = UNKNOWN", "lose -1 = UNKNOWN");
        }
        none(Twin.FULL, "lose 2 = 0");
        none(Twin.NO_PASS, "lose 3 = 0");
        all(Twin.FULL, "put 2 -1 0 = NULL", "put 2 0 0 = NULL", "put 2 60 0 = NULL", "put 0 -1 0 = INDEX",
            "put 0 9 0 = INDEX", "put 1 60 0 = INDEX");
        all(Twin.SOME, "put 1 0 0 = INDEX", "put 2 0 0 = NULL");
        lost(Twin.FULL, "cell 4 -1 3", 0);
        lost(Twin.FULL, "cell -1 0 0", 0);
        lost(Twin.FULL, "cell 2 -1 3", 0);
        lost(Twin.FULL, "cell 0 -1 3", 0);
        lost(Twin.FULL, "cell 0 9 -1", 0);
        lost(Twin.FULL, "cell 2 -1 0", 1);
        lost(Twin.FULL, "cell 2 0 1", 1);
        lost(Twin.FULL, "cell 2 0 2", 1);
        lost(Twin.FULL, "cell 0 -1 1", 2);
        lost(Twin.FULL, "cell 0 0 2", 2);
        lost(Twin.FULL, "cell 1 60 0", 2);
        lost(Twin.FULL, "cell 1 0 2", 2);
        lost(Twin.FULL, "cell 3 0 0", 2);
        lost(Twin.FULL, "cell 3 0 1", 2);
        lost(Twin.FULL, "cell 0 -1 0", 3);
        lost(Twin.FULL, "cell 0 9 0", 3);
        lost(Twin.SOME, "cell 1 0 1", 3);
        lost(Twin.SOME, "cell 1 0 0", 2);
    }

    private static void copy() {
        all(Twin.FULL, "copy 4 -1 2 -1 -1 = UNKNOWN", "copy 2 -1 4 -1 -1 = UNKNOWN", "copy -1 0 0 0 0 = UNKNOWN",
            "copy 0 0 -1 0 0 = UNKNOWN", "copy 2 -1 0 -1 -1 = NULL", "copy 0 -1 2 -1 -1 = NULL", "copy 2 0 2 0 0 = NULL",
            "copy 2 0 0 0 0 = NULL", "copy 0 0 2 0 0 = NULL", "copy 0 -1 1 -1 -1 = CAST", "copy 1 0 0 0 0 = CAST",
            "copy 0 0 3 0 0 = CAST", "copy 3 0 1 0 0 = CAST", "copy 0 -1 0 0 0 = INDEX", "copy 0 0 0 -1 0 = INDEX",
            "copy 0 0 0 0 -1 = INDEX", "copy 0 10 0 0 0 = INDEX", "copy 0 0 0 10 0 = INDEX", "copy 0 9 0 0 1 = INDEX",
            "copy 0 0 0 9 1 = INDEX", "copy 0 0 0 0 10 = INDEX", "copy 0 -1 0 -1 -1 = INDEX",
            "copy 0 most 0 0 1 = INDEX", "copy 0 0 0 most 1 = INDEX", "copy 0 1 0 0 most = INDEX",
            "copy 0 0 0 1 most = INDEX", "copy 0 0 0 0 least = INDEX", "copy 0 least 0 0 least = INDEX",
            "copy 0 most 0 most most = INDEX");
        all(Twin.FULL, "copy 0 9 0 9 0 = 0", "copy 0 0 0 0 9 = 9", "copy 0 5 0 0 3 = 3", "copy 0 0 0 5 3 = 3");
        all(Twin.NO_PASS, "copy 3 0 1 0 0 = NULL", "copy 1 0 3 0 0 = NULL", "copy 1 0 0 0 0 = CAST",
            "copy 1 0 1 0 0 = 0", "copy 1 0 1 0 1 = INDEX", "copy 1 1 1 0 0 = INDEX", "copy 1 0 1 1 0 = INDEX");
    }

    private static void kinds() {
        all(Twin.FULL, "as 6 3 = UNKNOWN", "as -1 -1 = UNKNOWN", "as 0 3 = OUTSIDE", "as 0 -1 = OUTSIDE", "as 0 0 = 1",
            "as 0 1 = CAST", "as 0 2 = CAST", "as 1 0 = 1", "as 1 1 = 1", "as 1 2 = CAST", "as 2 0 = 1", "as 2 1 = 1",
            "as 2 2 = 1", "as 2 3 = OUTSIDE");
        all(Twin.NO_PASS, "as 0 3 = UNKNOWN", "as 0 0 = UNKNOWN");
    }

    private static void faultIsOfTheLatestCallThatNamesOne() {
        // each fault, then each call that names faults, refused, then come to none: fault() is 0 behind both
        String[] met = {"put 3 0 0 = NULL", "as 0 2 = CAST", "put 0 99 0 = INDEX", "sheet 0 0 -1 = SIZE"};
        String[] refused = {"pass 4 0 0 0 = UNKNOWN", "pass 0 3 0 0 = OUTSIDE", "rows 0 4 0 0 0 = UNKNOWN",
            "rows 4 0 0 0 0 = OUTSIDE", "rows 0 0 0 0 9 = OUTSIDE", "rows 0 0 0 0 1 = UNKNOWN", "sheet 4 0 0 = UNKNOWN",
            "sheet 0 3 0 = OUTSIDE", "put 4 0 0 = UNKNOWN", "cell 4 0 0 = LOST", "cell 0 0 3 = LOST",
            "copy 4 0 0 0 0 = UNKNOWN", "copy 0 0 4 0 0 = UNKNOWN", "as 9 0 = UNKNOWN", "as 0 3 = OUTSIDE"};
        String[] good = {"pass 0 0 0 9 = -100", "rows 0 0 0 0 0 = 0", "sheet 1 0 5 = 1", "put 0 0 7 = 1",
            "cell 0 0 0 = 7", "copy 0 0 0 0 9 = 9", "as 0 0 = 1", "pass 2 2 0 5 = 2"};
        Run run = Run.of("text 2 2 it0t1", "sheet 0 0 9", "put 0 0 7");
        run.due("ahead of any", "fault = 0");
        for (int k = 0; k < met.length; k++) {
            String is = "fault = " + (k + 1);
            for (String row : refused) {
                run.due(FAULTS[k], met[k], is, "many 9 = OUTSIDE", "trace = 0", is, row, "fault = 0");
            }
            for (String row : good) {
                run.due(FAULTS[k], met[k], is, row, "fault = 0");
            }
            run = Run.of("text 2 2 it0t1", "sheet 0 0 9", "put 0 0 7");
        }
    }

    /** Rows of calls that name faults: the answer, fault() behind it, and, if refused, that nothing is changed. */
    private static void all(String[] made, String... rows) {
        for (String row : rows) {
            String name = row.substring(row.indexOf("= ") + 2);
            int fault = java.util.List.of(FAULTS).indexOf(name) + 1;
            Run.of(made).due(made[0] + " ..", row, "fault = " + fault);
            if (!row.startsWith("copy") || fault > 0 || name.equals("UNKNOWN")) {
                Twin.changesNothing(made, row.split(" = ")[0]);
            }
        }
    }

    /** Rows of calls that change nothing: nor fault(), if they name none. */
    private static void none(String[] made, String... rows) {
        for (String row : rows) {
            Run run = Run.of(made);
            boolean names = row.startsWith("rows");
            long was = names ? 0 : run.ask("fault");
            run.due(made[0] + " ..", row, "fault = " + was);
            Twin.changesNothing(made, row.split(" = ")[0]);
        }
    }

    private static void lost(String[] made, String call, int fault) {
        Run.of(made).due(made[0] + " ..", call + " = LOST", "fault = " + fault);
        Twin.changesNothing(made, call);
    }
}
