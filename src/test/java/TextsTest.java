/** Promise 2: each place of a text, with each code near those with which it goes on; each text that ends too soon. */
public final class TextsTest {
    private TextsTest() {
    }

    public static void main(String[] args) {
        for (int persons = 2; persons <= 6; persons++) {
            for (int ways : new int[] {0, 1, 8, 9}) {
                String text = text(persons, ways);
                isTakenWhole(text, persons, ways);
                eachEnd(text, persons);
                eachPlace(text, persons);
            }
        }
        eachKindAndAnvil();
        eachWay();
        onePersonIsTooFew();
        seventhPersonAndTenthWay();
        codesOfOtherLanes();
        whereItStands();
        takenTextsMakeAllAnew();
        textsThatAreNotTakenChangeNothing();
        Check.end("TextsTest");
    }

    private static String text(int persons, int ways) {
        StringBuilder text = new StringBuilder("i");
        for (int p = 0; p < persons; p++) {
            text.append("tjl".charAt(p % 3)).append(p % 2);
        }
        for (int w = 0; w < ways; w++) {
            text.append(';').append(w % persons).append((w + w / 3) % persons).append(1 + w % 9);
        }
        return text.toString();
    }

    private static void isTakenWhole(String text, int persons, int ways) {
        Run run = Run.of().due("a text", "text 0 0 " + text + " = " + persons, "many 0 = " + persons,
            "many 1 = " + ways, "many 2 = 0", "many 3 = 0", "many 4 = 3", "fault = 0");
        for (int p = 0; p < persons; p++) {
            run.due(text, "ofPerson " + p + " 0 = " + p % 3, "ofPerson " + p + " 1 = " + p % 2,
                "ofPerson " + p + " 2 = 0");
        }
        for (int w = 0; w < ways; w++) {
            run.due(text, "ofWay " + w + " 0 = " + w % persons, "ofWay " + w + " 1 = " + (w + w / 3) % persons,
                "ofWay " + w + " 2 = " + (1 + w));
        }
        run.due(text, "ofPerson " + persons + " 0 = UNKNOWN", "ofWay " + ways + " 0 = UNKNOWN");
    }

    /** Of a text the first n codes: they are taken if they end with a person or with a way, else they end too soon. */
    private static void eachEnd(String text, int persons) {
        Run run = Run.of("text 0 0 " + text);
        for (int n = 0; n <= text.length(); n++) {
            int more = n - 1 - 2 * persons;
            boolean ends = more >= 0 && more % 4 == 0;
            boolean endsEarlier = n >= 5 && n % 2 == 1 && more < 0;
            int due = ends ? persons : endsEarlier ? (n - 1) / 2 : -100 - n;
            run.due(text, "pass 0 0 0 " + n + " = " + due, "fault = 0");
        }
    }

    /** At each place each code: with a wrong one it is the first fault, also if all is well behind it. */
    private static void eachPlace(String text, int persons) {
        for (int place = 0; place < text.length(); place++) {
            Run run = Run.of("text 0 0 " + text);
            char code = text.charAt(place);
            for (int other = '/' - 1; other < 128; other++) {
                if (!goesOn(other, place, persons)) {
                    run.due(text, "put 0 " + place + " " + other + " = 1", "pass 0 0 0 " + text.length() + " = "
                        + (-100 - place));
                }
            }
            for (int other : new int[] {0, 10, 32, 44, -1, -128}) {
                run.due(text, "put 0 " + place + " " + other + " = 1", "pass 0 0 0 " + (place + 1) + " = "
                    + (-100 - place));
            }
            run.due(text, "put 0 " + place + " " + (int) code + " = 1", "pass 0 0 0 " + text.length() + " = "
                + persons);
        }
    }

    private static boolean goesOn(int code, int place, int persons) {
        if (place == 0) {
            return code == 'i';
        }
        int behind = place - 1 - 2 * persons;
        if (behind >= 0) {
            char last = (char) ('0' + persons - 1);
            return switch (behind % 4) {
                case 0 -> code == ';' || behind == 0 && persons < 6 && "tjl".indexOf(code) >= 0;
                case 3 -> code >= '1' && code <= '9';
                default -> code >= '0' && code <= last;
            };
        }
        // where a person may begin, two being there, a way may, too
        return place % 2 == 0 ? code == '0' || code == '1' : "tjl".indexOf(code) >= 0 || place >= 5 && code == ';';
    }

    private static void eachKindAndAnvil() {
        for (int kind = 0; kind < 3; kind++) {
            for (int anvil = 0; anvil < 2; anvil++) {
                String person = "" + "tjl".charAt(kind) + anvil;
                Run.of().due("each letter and digit", "text 0 0 i" + person + "t0 = 2", "ofPerson 0 0 = " + kind,
                    "ofPerson 0 1 = " + anvil, "ofPerson 1 0 = 0", "ofPerson 1 1 = 0");
                Run.of().due("each letter and digit", "text 0 0 it0t0t0t0t0" + person + " = 6",
                    "ofPerson 5 0 = " + kind, "ofPerson 5 1 = " + anvil, "ofPerson 0 0 = 0", "ofPerson 0 1 = 0");
            }
        }
    }

    private static void eachWay() {
        for (int from = 0; from < 6; from++) {
            for (int to = 0; to < 6; to++) {
                for (int days = 1; days <= 9; days++) {
                    Run.of().due("each way", "text 0 0 it0t0t0t0t0t0;" + from + to + days + " = 6", "many 1 = 1",
                        "ofWay 0 0 = " + from, "ofWay 0 1 = " + to, "ofWay 0 2 = " + days, "ofWay 1 0 = UNKNOWN");
                }
            }
        }
    }

    private static void onePersonIsTooFew() {
        faults("", 0);
        faults("i", 1);
        faults("i;", 1);
        faults("i0", 1);
        faults("it", 2);
        faults("it0", 3);
        faults("it0;", 3);
        faults("it0;001", 3);
        faults("it0;001;001", 3);
        faults("it00", 3);
        faults("it0i", 3);
        faults("it0t", 4);
        Run.of().due("two are enough", "text 0 0 it0t0 = 2", "text 0 0 it0t0;001 = 2");
    }

    private static void seventhPersonAndTenthWay() {
        for (String letter : new String[] {"t", "j", "l"}) {
            faults("it0t0t0t0t0t0" + letter, 13);
            faults("it0t0t0t0t0t0" + letter + "0", 13);
            faults("it0t0t0t0t0t0" + letter + "0;001", 13);
        }
        Run.of().due("six persons", "text 0 0 it0t0t0t0t0t0 = 6", "many 0 = 6");
        for (int persons = 2; persons <= 6; persons++) {
            String nine = text(persons, 9);
            Run.of().due("nine ways", "text 0 0 " + nine + " = " + persons, "many 1 = 9", "ofWay 8 2 = 9");
            faults(nine + ";", nine.length());
            faults(nine + ";0", nine.length());
            faults(nine + ";001", nine.length());
            faults(nine + "t0", nine.length());
            faults(nine + "x", nine.length());
        }
        // no person behind a way
        faults("it0t0;001t0", 9);
        faults("it0t0;001j", 9);
    }

    /** What is cut to a lane is read as it is there; what is not, is no code of a text. */
    private static void codesOfOtherLanes() {
        for (int place = 0; place < 9; place++) {
            int code = "it1j0;019".charAt(place);
            for (int lane = 0; lane < 3; lane++) {
                String where = "0 " + lane;
                Run run = Run.of("text " + where + " it1j0;019");
                for (int more : new int[] {256, -256, 65536, 1 << 24, Integer.MIN_VALUE}) {
                    boolean cut = lane == 0 || lane == 1 && (short) more == 0;
                    run.due("lane " + lane, "put 0 " + place + " " + (code + more) + " = 1",
                        "pass " + where + " 0 9 = " + (cut ? 2 : -100 - place));
                }
            }
        }
    }

    private static void whereItStands() {
        // a text amid a sheet: places are told from its own first code on; what is around it is not read
        Run run = Run.of("sheet 1 2 60");
        String text = "it0l1;109";
        for (int from = 0; from <= 60 - text.length(); from += 51) {
            for (int k = 0; k < text.length(); k++) {
                run.ask("put 1 " + (from + k) + " " + (int) text.charAt(k));
            }
            run.due("from " + from, "pass 1 2 " + from + " 9 = 2", "many 1 = 1", "pass 1 2 " + from + " 5 = 2",
                "many 1 = 0", "pass 1 2 " + from + " 8 = -108", "pass 1 2 " + from + " 6 = -106",
                "pass 1 2 " + from + " 0 = -100", "pass 1 2 " + (from + 1) + " 8 = -100");
        }
        run.due("one cell more", "pass 1 2 0 10 = -109", "pass 1 2 0 60 = -109", "pass 1 2 51 10 = INDEX",
            "pass 1 2 50 10 = -100", "pass 1 2 60 0 = -100", "pass 1 2 60 1 = INDEX", "pass 1 2 61 0 = INDEX");
        Run.of("sheet 1 2 0").due("a row of 0 cells", "pass 1 2 0 0 = -100", "pass 1 2 0 1 = INDEX",
            "pass 1 2 1 0 = INDEX", "pass 1 2 -1 0 = INDEX");
    }

    private static void takenTextsMakeAllAnew() {
        // the same text again, and another one
        for (String text : new String[] {"it1j1l1t0j1l1;011;122;233;344;455;501;031;152;249", "il1l1"}) {
            Run run = Run.of(Twin.FULL);
            long trace = run.ask("trace");
            run.ask("text 2 0 " + text);
            run.due("all anew", "many 2 = 0", "many 3 = 0", "many 4 = 3", "trace = " + trace, "cell 0 4 0 = 3",
                "cell 1 59 1 = -7", "cell 3 0 2 = 105", "cell 2 0 0 = 105", "worth 0 = UNKNOWN", "works 59 = 0",
                "hears 0 0 0 = NONE", "mute = " + (text.length() > 5 ? 63 : 3), "undo 1 = OUTSIDE", "back 1 = OUTSIDE",
                "telling 0 0 0 = 0", "reading 0 0 0 0 = 0", "law 1 = 3");
            for (int p = 0; p < run.ask("many 0"); p++) {
                run.due("nobody hushed", "ofPerson " + p + " 2 = 0", "hush " + p + " 0 = 0");
            }
            for (int day = 0; day < 60; day++) {
                run.due("no fog", "fog " + day + " 0 = 0");
            }
        }
    }

    private static void textsThatAreNotTakenChangeNothing() {
        String[] made = Twin.FULL.clone();
        // the sheet of the text gets a fault: the pass is as it was by the text that was taken
        made[made.length - 1] = "put 3 48 48";
        for (int n = 0; n < 50; n++) {
            if (n < 5 || n % 2 == 0 || n % 4 == 3 && n > 13 || n == 49) {
                Run.of(made).due("not taken", "pass 3 2 0 " + n + " = " + (-100 - Math.min(n, 48)), "fault = 0");
                Twin.changesNothing(made, "pass 3 2 0 " + n);
            }
        }
        Run.of("sheet 0 0 3").due("nor without a pass", "pass 0 0 0 3 = -100", "many 0 = 0", "many 4 = 0",
            "ofPerson 0 0 = UNKNOWN", "works 0 = STATE", "text 1 0 it0t = -104", "many 0 = 0", "works 0 = STATE",
            "text 1 0 it0t0;00 = -108", "many 0 = 0", "many 1 = 0", "many 4 = 0", "spare = STATE");
    }

    private static void faults(String text, int place) {
        Run.of().due("first fault", "text 0 0" + (text.isEmpty() ? "" : " " + text) + " = " + (-100 - place),
            "fault = 0", "many 0 = 0", "many 4 = 0");
    }
}
