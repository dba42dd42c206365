/** Nothing there: no pass, no tellings, no readings, no ways, no smiths, a sheet that has nothing, a row of 0 cells. */
public final class NothingTest {
    private NothingTest() {
    }

    public static void main(String[] args) {
        aNewObject();
        noTellings();
        noReadings();
        noWays();
        noSmiths();
        sheetsThatHaveNothing();
        aRowOfNoCells();
        nothingIsTakenFromARow();
        Check.end("NothingTest");
    }

    private static void aNewObject() {
        Run run = Run.of().due("no fault ahead of any", "fault = 0", "trace = 0").due("no pass", "many 0 = 0",
            "many 1 = 0", "many 2 = 0", "many 3 = 0", "many 4 = 0", "ofPerson 0 0 = UNKNOWN", "ofPerson 0 1 = UNKNOWN",
            "ofPerson 0 2 = UNKNOWN", "ofWay 0 0 = UNKNOWN", "ofWay 0 1 = UNKNOWN", "ofWay 0 2 = UNKNOWN",
            "telling 0 0 0 = UNKNOWN", "undo 0 = 0", "undo 1 = OUTSIDE", "undo -1 = OUTSIDE", "law 3 = STATE",
            "fog 0 1 = STATE", "fog 0 0 = STATE", "hush 0 1 = UNKNOWN", "hush 0 0 = UNKNOWN", "hears 0 0 0 = UNKNOWN",
            "count 0 0 0 = UNKNOWN", "forges 0 0 = UNKNOWN", "works 0 = STATE", "path 0 0 0 = UNKNOWN",
            "fewest 0 0 0 = UNKNOWN", "hushed 0 0 0 = UNKNOWN", "worth 0 = UNKNOWN", "spare = STATE",
            "reading 0 0 0 1 = UNKNOWN", "back 0 = 0", "back 1 = OUTSIDE", "back -1 = OUTSIDE", "told 0 0 = STATE",
            "mute = STATE", "rows 0 0 0 0 0 = STATE", "tell 0 = UNKNOWN", "greet 0 = UNKNOWN", "as 0 0 = UNKNOWN",
            "fault = 0", "trace = 0");
        for (int k = 0; k < 4; k++) {
            run.due("sheets have nothing", "lose " + k + " = 0", "put " + k + " 0 0 = NULL", "fault = 1",
                "cell " + k + " 0 0 = LOST", "fault = 1", "cell " + k + " 0 2 = LOST", "fault = 1",
                "copy " + k + " 0 " + k + " 0 0 = NULL", "fault = 1", "pass " + k + " 0 0 0 = NULL", "fault = 1",
                "pass " + k + " 2 0 0 = NULL", "fault = 1", "lose " + k + " = 0", "fault = 1");
        }
        run.due("still no pass", "many 0 = 0", "many 4 = 0");
    }

    private static void noTellings() {
        Run run = Run.of("text 0 0 it1j1l1;011;122;203", "law 1");
        String[] each = {"hears 1 3 0 = NONE", "hears 0 0 13 = NONE", "count 0 0 0 = 0", "count 2 3 59 = 0",
            "forges 0 0 = NONE", "forges 2 3 = NONE", "works 0 = 0", "works 59 = 0", "path 0 0 0 = NONE",
            "path 2 3 13 = NONE", "worth 0 = UNKNOWN", "worth -1 = UNKNOWN", "spare = 7", "hushed 0 0 0 = 0",
            "hushed 2 3 59 = 0", "fewest 0 0 0 = 1", "undo 0 = 0", "undo 1 = OUTSIDE", "many 2 = 0"};
        run.due("no tellings", each);
        run.due("all taken back", "telling 0 0 0 = 0", "telling 1 1 1 = 1", "undo 2 = 0").due("no tellings", each);
    }

    private static void noReadings() {
        Run run = Run.of("text 0 0 it1j1l1;011;122;203", "law 1");
        String[] each = {"told 0 0 = 7", "told 3 59 = 7", "mute = 7", "back 0 = 0", "back 1 = OUTSIDE", "many 3 = 0"};
        run.due("no readings", each);
        run.due("all taken back", "reading 0 0 0 1 = 0", "told 3 59 = 0", "mute = 0", "back 1 = 0");
        run.due("no readings", each);
        Run.of("text 0 0 it1t1", "telling 0 0 0", "hush 0 1", "hush 1 1").due("nor with tellings", "told 0 0 = 3",
            "mute = 3");
        Run.of("text 0 0 it1t1t1t1t1t1").due("of six", "told 0 0 = 63", "mute = 63");
    }

    private static void noWays() {
        Run.of("text 0 0 it1t1", "law 1").due("no ways", "many 1 = 0", "spare = 0", "ofWay 0 0 = UNKNOWN",
            "telling 0 0 0 = 0", "hears 0 0 0 = 0", "hears 1 0 0 = NONE", "path 0 0 0 = 90", "path 1 0 0 = NONE",
            "works 59 = 1", "fewest 1 0 59 = 2", "hushed 0 0 59 = NONE", "hushed 1 0 59 = 0", "spare = 0");
    }

    private static void noSmiths() {
        Run.of("text 0 0 it0j0l0;011;122;203", "law 1", "telling 0 0 0").due("no smiths", "works 59 = 0",
            "forges 0 0 = STATE", "forges 1 3 = STATE", "fewest 2 0 59 = STATE", "hushed 0 0 59 = STATE",
            "reading 0 0 0 0 = STATE", "spare = 7", "worth 0 = 100", "told 0 0 = 7", "mute = 7", "count 0 0 11 = 1", "count 0 0 12 = 2");
    }

    private static void sheetsThatHaveNothing() {
        Run run = Run.of("text 0 0 it1t1", "sheet 1 0 3", "sheet 2 1 60");
        run.due("lost", "lose 0 = 1", "lose 0 = 0", "pass 0 0 0 5 = NULL", "fault = 1", "rows 0 0 0 0 0 = NULL",
            "fault = 1", "cell 0 0 0 = LOST", "fault = 1", "put 0 0 0 = NULL", "fault = 1", "copy 0 0 1 0 0 = NULL",
            "fault = 1", "copy 1 0 0 0 0 = NULL", "fault = 1", "copy 0 0 0 0 0 = NULL", "fault = 1", "many 0 = 2");
        run.due("others have theirs", "cell 1 2 0 = 0", "cell 2 59 1 = 0", "lose 2 = 1", "cell 1 2 0 = 0",
            "lose 1 = 1", "cell 1 2 0 = LOST", "fault = 1");
        run.due("a new row behind it", "sheet 1 0 2 = 1", "put 1 1 5 = 1", "lose 1 = 1", "sheet 1 0 2 = 1",
            "cell 1 1 0 = 0", "put 1 1 6 = 1", "sheet 1 1 2 = 1", "cell 1 1 1 = 0", "put 1 0 7 = 1", "sheet 1 1 2 = 1",
            "cell 1 0 1 = 0", "cell 1 1 0 = LOST", "fault = 2");
    }

    private static void aRowOfNoCells() {
        for (int lane = 0; lane < 3; lane++) {
            String is = " " + lane;
            Run.of("text 3 2 it1t1", "telling 0 0 0", "telling 0 0 0", "telling 0 0 0").due("a row of 0 cells",
                "sheet 0" + is + " 0 = 1", "fault = 0", "put 0 0 0 = INDEX", "put 0 -1 0 = INDEX", "fault = 3",
                "cell 0 0" + is + " = LOST", "fault = 3", "cell 0 0 " + (lane + 1) % 3 + " = LOST", "fault = 2",
                "copy 0 0 0 0 0 = 0", "fault = 0", "copy 0 0 0 0 1 = INDEX", "copy 0 1 0 0 0 = INDEX",
                "copy 0 0 0 1 0 = INDEX", "copy 0 -1 0 0 0 = INDEX", "fault = 3", "pass 0" + is + " 0 0 = -100",
                "fault = 0", "pass 0" + is + " 0 1 = INDEX", "pass 0" + is + " 1 0 = INDEX",
                "pass 0" + is + " -1 0 = INDEX", "fault = 3", "works 59 = 1", "rows 0 0" + is + " 0 0 = 0", "fault = 0",
                "rows 0 0" + is + " 0 1 = INDEX", "rows 0 0" + is + " 1 0 = INDEX", "rows 0 0" + is + " -1 0 = INDEX",
                "rows 0 0" + is + " 0 -1 = SIZE", "fault = 4", "lose 0 = 1", "lose 0 = 0");
        }
    }

    private static void nothingIsTakenFromARow() {
        Run.of("text 3 2 it1t1", "law 1", "telling 0 0 0", "sheet 0 0 3", "put 0 0 9", "put 0 2 -1").due(
            "none of the cells is taken", "works 59 = 1", "rows 0 0 0 0 0 = 0", "rows 0 0 0 1 0 = 0",
            "rows 0 0 0 3 0 = 0", "rows 0 0 0 4 0 = INDEX", "rows 0 0 0 -1 0 = INDEX", "copy 0 3 0 0 0 = 0",
            "copy 0 0 0 3 0 = 0", "copy 0 4 0 0 0 = INDEX", "copy 0 0 0 4 0 = INDEX", "cell 0 0 0 = 9",
            "cell 0 1 0 = 0", "cell 0 2 0 = -1", "pass 0 0 3 0 = -100", "pass 0 0 4 0 = INDEX", "many 0 = 2",
            "undo 0 = 1", "works 59 = 1", "reading 0 0 0 1 = 0", "back 0 = 1", "many 3 = 1");
    }
}
