/** As much as there can be: eight tellings, six readings, six persons, nine ways, sixty cells, eight of a row. */
public final class FullTest {
    /** Six smiths, all jokers, in a ring; the first has a way to himself, so that all hear of all things. */
    private static final String RING = "text 3 2 ij1j1j1j1j1j1;011;121;231;341;451;501;001";

    private FullTest() {
    }

    public static void main(String[] args) {
        eightTellings();
        oneTellingMoreWhereThereAreEight();
        sixReadings();
        sixPersons();
        nineWays();
        sixtyCells();
        eightOfARow();
        Check.end("FullTest");
    }

    private static void eightTellings() {
        Run run = Run.of("text 3 2 it1t1t0");
        for (int k = 0; k < 8; k++) {
            run.due("eight tellings", "telling 0 " + k % 4 + " " + k + " = " + k, "many 2 = " + (k + 1));
        }
        run.due("a ninth", "telling 0 0 0 = FULL", "telling 2 3 59 = FULL", "many 2 = 8", "worth 7 = 100",
            "worth 8 = UNKNOWN", "undo 9 = OUTSIDE", "many 2 = 8");
        for (int k = 0; k < 8; k++) {
            run.due("each from its origin", "hears 0 " + k % 4 + " " + k + " = " + k,
                "path 0 " + k % 4 + " " + k + " = " + (90 + k), "hears 0 " + (k + 1) % 4 + " " + k + " = NONE",
                "path 0 " + (k + 1) % 4 + " " + k + " = NONE");
        }
        run.due("room again", "undo 1 = 7", "telling 1 0 59 = 7", "hears 1 0 7 = 59", "hears 0 3 7 = NONE",
            "telling 0 0 0 = FULL", "undo 0 = 8", "telling 0 0 0 = FULL", "undo 8 = 0", "hears 0 0 0 = NONE",
            "telling 2 2 2 = 0", "hears 2 2 0 = 2", "undo 1 = 0", "undo 1 = OUTSIDE");
    }

    private static void oneTellingMoreWhereThereAreEight() {
        // the one more is unlike each of the eight: with telling k the smith has two
        for (int k = 0; k < 8; k++) {
            Run run = Run.of("text 3 2 it0t1", "law 2", "reading 1 0 59 1");
            for (int other = 0; other < 8; other++) {
                run.ask(other == k ? "telling 1 0 0" : "telling 0 3 0");
            }
            run.due("one more beside telling " + k, "many 2 = 8", "told 0 59 = 2", "told 1 0 = 0", "many 2 = 8",
                "telling 0 0 0 = FULL", "count 1 0 59 = 1");
        }
        // and unlike what each liar has from himself
        for (int liar = 0; liar < 6; liar++) {
            int smith = (liar + 1) % 6;
            StringBuilder text = new StringBuilder("i");
            for (int p = 0; p < 6; p++) {
                text.append(p == liar ? "l0" : p == smith ? "t1" : "t0");
            }
            Run run = Run.of("text 3 2 " + text + ";" + liar + smith + "1", "law 2", "reading " + smith + " 0 59 1");
            for (int many = 1; many <= 8; many++) {
                run.ask("telling " + liar + " 3 0");
                run.due("one more beside the liar's, behind " + many, "hears " + smith + " 0 " + (8 + liar) + " = 1",
                    "told 0 0 = " + (1 << smith), "many 2 = " + many);
            }
        }
    }

    private static void sixReadings() {
        Run run = Run.of("text 3 2 it1t1t0", "law 1", "telling 0 0 5");
        for (int k = 0; k < 6; k++) {
            run.due("six readings", "reading 0 0 " + (5 + k) + " 1 = " + k, "many 3 = " + (k + 1), "mute = 7");
        }
        run.due("a seventh", "reading 0 0 5 1 = FULL", "reading 1 3 59 0 = FULL", "reading 0 0 4 1 = FULL",
            "many 3 = 6", "mute = 7", "back 7 = OUTSIDE", "many 3 = 6");
        run.due("room again", "back 1 = 5", "reading 0 0 4 1 = 5", "mute = 0", "told 0 0 = 1", "back 1 = 5",
            "mute = 7", "back 0 = 5", "back 5 = 0", "back 1 = OUTSIDE", "reading 1 0 59 1 = 0", "mute = 0");
        // each of six counts: one that is not so is enough
        for (int bad = 0; bad < 6; bad++) {
            Run six = Run.of("text 3 2 it1t1t0", "law 1", "telling 0 0 5");
            for (int k = 0; k < 6; k++) {
                six.ask("reading 0 0 9 " + (k == bad ? 0 : 1));
            }
            six.due("one of six is not so", "mute = 0", "told 1 0 = 0", "back " + (6 - bad) + " = " + bad, "mute = 7");
        }
    }

    private static void sixPersons() {
        Run run = Run.of(RING, "law 1", "telling 0 0 0");
        run.due("all smiths forge all things", "works 59 = 24", "worth 0 = 124", "works 0 = 1", "works 1 = 3");
        for (int p = 0; p < 6; p++) {
            run.due("six persons", "ofPerson " + p + " 1 = 1", "hush " + p + " 1 = 1", "ofPerson " + p + " 2 = 1");
        }
        run.due("all hushed", "works 59 = 1", "mute = 63", "told 0 0 = 63", "fewest 5 0 59 = 32",
            "fewest 0 0 59 = 1", "hushed 5 0 59 = 0");
        // he is told of another thing, and says it to himself; five are told of it
        Run six = Run.of("text 3 2 ij1t0t0t0t0t0;001;101;201;301;401;501", "law 1", "telling 0 0 0");
        for (int p = 1; p < 6; p++) {
            six.ask("telling " + p + " 1 0");
        }
        six.due("all six to be hushed", "hushed 0 1 59 = 63", "hushed 0 1 1 = 63", "hushed 0 1 0 = 0", "law 2 = 1",
            "hushed 0 1 59 = 31", "law 3 = 2", "hushed 0 1 59 = 15", "law 4 = 3", "hushed 0 1 59 = 7");
    }

    private static void nineWays() {
        Run.of("text 3 2 it0t1;011;012;013;014;015;016;017;018;019", "law 1", "telling 0 0 50").due("nine ways",
            "many 1 = 9", "ofWay 8 2 = 9", "ofWay 9 2 = UNKNOWN", "hears 1 0 0 = 51", "path 1 0 0 = 0", "spare = 510",
            "fog 51 1 = 1", "spare = 511", "hush 0 1 = 1", "spare = 511");
        Run.of("text 3 2 it0t1;109;109;109;109;109;109;109;109;011", "law 1", "telling 0 0 50").due("the ninth alone",
            "hears 1 0 0 = 51", "path 1 0 0 = 8", "spare = 255", "path 0 0 0 = 90", "fewest 1 0 1 = 1",
            "fewest 1 0 0 = 2", "hushed 1 0 59 = 1");
    }

    private static void sixtyCells() {
        for (int lane = 0; lane < 3; lane++) {
            Run run = Run.of("sheet 0 " + lane + " 60", "sheet 1 " + lane + " 60");
            for (int i = 0; i < 60; i++) {
                run.due("sixty cells", "cell 0 " + i + " " + lane + " = 0", "put 0 " + i + " " + (i - 30) + " = 1");
            }
            run.due("and no more", "put 0 60 1 = INDEX", "cell 0 60 " + lane + " = LOST", "fault = 3",
                "sheet 0 " + lane + " 61 = OUTSIDE", "copy 0 0 1 0 61 = INDEX", "copy 0 0 1 0 60 = 60",
                "copy 0 0 0 1 59 = 59", "copy 0 0 0 1 60 = INDEX", "cell 0 0 " + lane + " = -30");
            for (int i = 0; i < 60; i++) {
                run.due("copied", "cell 1 " + i + " " + lane + " = " + (i - 30));
                run.due("copied one on", "cell 0 " + i + " " + lane + " = " + (Math.max(i - 1, 0) - 30));
            }
            run.due("one back", "copy 0 1 0 0 59 = 59", "cell 0 58 " + lane + " = 28", "cell 0 59 " + lane + " = 28");
        }
        // a text may end with the last cell, and a row of tellings
        Run run = Run.of("sheet 2 2 60");
        String text = "it1t1";
        for (int k = 0; k < 5; k++) {
            run.ask("put 2 " + (55 + k) + " " + (int) text.charAt(k));
        }
        run.due("at the end of sixty", "pass 2 2 55 5 = 2", "pass 2 2 55 6 = INDEX", "pass 2 2 56 5 = INDEX",
            "put 2 59 1 = 1", "law 1 = 3", "rows 0 2 2 59 1 = 1", "rows 0 2 2 59 2 = INDEX", "rows 0 2 2 60 0 = 0");
    }

    private static void eightOfARow() {
        Run run = Run.of("text 3 2 it0t1;011", "sheet 0 0 9", "law 4", "put 0 8 1");
        run.due("eight", "rows 0 0 0 0 8 = 1", "rows 3 0 0 1 8 = 1", "rows 0 0 0 0 9 = OUTSIDE", "fault = 0",
            "rows 0 0 0 1 9 = INDEX", "fault = 3");
        run.due("the fourth is wanted", "rows 0 0 0 0 4 = 1", "rows 0 0 0 0 3 = 0");
        // the eighth is told on day 7: in fog on all other days but that one, and the day behind it
        for (int day = 0; day < 60; day++) {
            run.ask("fog " + day + " 1");
        }
        run.due("on day 7", "law 1 = 4", "put 0 7 1 = 1", "rows 0 0 0 7 1 = 0", "fog 7 0 = 1", "rows 0 0 0 0 8 = 1",
            "rows 0 0 0 7 1 = 1", "hush 0 1 = 1", "rows 0 0 0 0 8 = 1", "rows 0 0 0 0 7 = 0", "fog 7 1 = 1",
            "fog 6 0 = 1", "rows 0 0 0 0 8 = 0", "rows 0 0 0 1 7 = 1", "put 0 8 2 = 1", "rows 0 0 0 1 8 = UNKNOWN",
            "put 0 8 -1 = 1", "rows 0 0 0 1 8 = UNKNOWN", "rows 0 0 0 1 7 = 1");
        // each of eight
        for (int m = 0; m < 8; m++) {
            Run each = Run.of("text 3 2 it0t1", "law 1", "sheet 0 2 8", "put 0 " + m + " 1");
            each.due("cell " + m, "rows 2 0 2 0 8 = 1", "rows 2 0 2 0 " + m + " = 0", "rows 2 0 2 0 " + (m + 1)
                + " = 1", "put 0 " + m + " 2 = 1", "rows 2 0 2 0 8 = UNKNOWN", "rows 2 0 2 0 " + m + " = 0");
            for (int day = 0; day < 60; day++) {
                each.ask("fog " + day + " " + (day == m ? 0 : 1));
            }
            each.due("on day " + m, "put 0 " + m + " 1 = 1", "rows 2 0 2 0 8 = 1", "fog " + m + " 1 = 1",
                "rows 2 0 2 0 8 = 0");
            if (m > 0) {
                each.due("no earlier", "fog " + (m - 1) + " 0 = 1", "rows 2 0 2 0 8 = 0");
            }
        }
    }
}
