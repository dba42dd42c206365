/** The edges that the sentences of the document name: first and last days, the law's, the last thing, liars' own. */
public final class EdgesTest {
    private EdgesTest() {
    }

    public static void main(String[] args) {
        firstAndLastDay();
        eachLong();
        behindThreeComesNought();
        liarsOwnOrigins();
        eachRumourAlongARow("j");
        eachRumourAlongARow("l");
        eachRumourAlongARow("t");
        firstTimeAlone();
        hushedHearAllTheSame();
        countByTheDay();
        eachLaw();
        fog();
        worksByTheDay();
        fewestByTheDay();
        hushByTheDay();
        leastOfSeveral();
        worth();
        spare();
        readings();
        told();
        mute();
        hushedAlready();
        paths();
        Check.end("EdgesTest");
    }

    private static void firstAndLastDay() {
        Run.of("text 3 2 it1t1;011", "law 1").due("day 0", "telling 0 0 0 = 0", "hears 0 0 0 = 0", "hears 1 0 0 = 1",
            "forges 0 0 = 0", "forges 1 0 = 1", "works 0 = 1", "count 0 0 0 = 1", "count 1 0 0 = 0", "path 0 0 0 = 90");
        Run.of("text 3 2 it1t1;011", "law 1").due("day 59", "telling 0 3 59 = 0", "hears 0 3 0 = 59", "hears 1 3 0 = NONE",
            "forges 0 3 = 59", "forges 1 3 = NONE", "works 58 = 0", "works 59 = 1", "count 0 3 58 = 0",
            "count 0 3 59 = 1", "path 0 3 0 = 90", "path 1 3 0 = NONE", "worth 0 = 101");
        Run.of("text 3 2 it1t1;011", "law 1").due("day 58", "telling 0 3 58 = 0", "hears 0 3 0 = 58", "hears 1 3 0 = 59",
            "forges 0 3 = 58", "forges 1 3 = 59", "works 57 = 0", "works 58 = 1", "works 59 = 2", "count 1 3 58 = 0",
            "count 1 3 59 = 1", "path 1 3 0 = 0", "worth 0 = 102");
    }

    private static void eachLong() {
        for (int days = 1; days <= 9; days++) {
            String text = "text 3 2 it0t0;01" + days;
            Run.of(text).due("from day 0", "telling 0 0 0 = 0", "hears 1 0 0 = " + days, "count 1 0 " + (days - 1)
                + " = 0", "count 1 0 " + days + " = 1");
            Run.of(text).due("to day 59", "telling 0 0 " + (59 - days) + " = 0", "hears 1 0 0 = 59", "path 1 0 0 = 0");
            Run.of(text).due("to day 60", "telling 0 0 " + (60 - days) + " = 0", "hears 1 0 0 = NONE", "path 1 0 0 = NONE",
                "count 1 0 59 = 0", "hears 0 0 0 = " + (60 - days));
        }
    }

    private static void behindThreeComesNought() {
        for (int thing = 0; thing < 4; thing++) {
            int next = thing == 3 ? 0 : thing + 1;
            Run teller = Run.of("text 3 2 it0t0;011", "telling 0 " + thing + " 0");
            Run joker = Run.of("text 3 2 ij0t0;011", "telling 0 " + thing + " 0");
            Run liar = Run.of("text 3 2 il0t0;011", "telling 0 " + thing + " 0");
            for (int other = 0; other < 4; other++) {
                String of = "hears 1 " + other;
                teller.due("a teller's", of + " 0 = " + (other == thing ? "1" : "NONE"), of + " 8 = NONE");
                joker.due("a joker's", of + " 0 = " + (other == next ? "1" : "NONE"), of + " 8 = NONE");
                liar.due("a liar's", of + " 8 = " + (other == next ? "1" : "NONE"), of + " 0 = NONE", of + " 1 = NONE",
                    of + " 9 = NONE");
            }
        }
        // a joker who tells himself hears of all four, and no fifth time
        Run.of("text 3 2 ij1t0;009", "law 1", "telling 0 2 5").due("all around", "hears 0 2 0 = 5", "hears 0 3 0 = 14",
            "hears 0 0 0 = 23", "hears 0 1 0 = 32", "works 59 = 4", "path 0 2 0 = 90", "path 0 1 0 = 0",
            "count 0 2 59 = 1");
    }

    private static void liarsOwnOrigins() {
        for (int liar = 0; liar < 6; liar++) {
            int other = 5 - liar;
            Run run = Run.of("text 3 2 il0l0l0l0l0l0;" + liar + other + "1", "telling " + liar + " 0 0",
                "telling " + liar + " 0 5", "telling " + liar + " 1 9");
            run.due("origin 8 and his number", "hears " + other + " 1 " + (8 + liar) + " = 1", "hears " + other + " 2 "
                + (8 + liar) + " = 10", "count " + other + " 1 59 = 1", "path " + other + " 1 " + (8 + liar) + " = 0");
            for (int origin = 0; origin < 14; origin++) {
                if (origin != 8 + liar) {
                    run.due("from no other", "hears " + other + " 1 " + origin + " = NONE", "path " + other + " 1 "
                        + origin + " = NONE");
                }
            }
        }
        // what comes back to him from himself goes on, too, as from himself
        Run.of("text 3 2 it0t0t0t0t0l1;559;501", "telling 5 0 0").due("a liar's own comes back", "hears 5 0 0 = 0",
            "hears 5 1 13 = 9", "hears 5 2 13 = 18", "hears 5 3 13 = 27", "hears 5 0 13 = 36", "hears 0 1 13 = 1",
            "hears 0 2 13 = 10", "hears 0 0 13 = 28", "hears 0 1 0 = NONE", "count 5 0 35 = 1", "count 5 0 36 = 2",
            "count 0 1 59 = 1");
    }

    /** Each telling's number, of each thing, along a row of six of a kind: a thing on with each, and no other rumour. */
    private static void eachRumourAlongARow(String kind) {
        String text = "text 3 2 i" + (kind + "0").repeat(6) + ";011;121;231;341;451";
        for (int k = 0; k < 8; k++) {
            for (int thing = 0; thing < 4; thing++) {
                Run run = Run.of(text);
                for (int other = 0; other < k; other++) {
                    run.ask("telling 5 0 59");
                }
                run.ask("telling 0 " + thing + " 0");
                for (int p = 0; p < 6; p++) {
                    int of = kind.equals("t") ? thing : (thing + p) % 4;
                    int origin = p == 0 || !kind.equals("l") ? k : 7 + p;
                    for (int any = 0; any < 4; any++) {
                        run.due("a row of " + kind, "count " + p + " " + any + " 58 = " + (any == of ? 1 : 0), "hears " + p
                            + " " + any + " " + origin + " = " + (any == of ? p : "NONE"));
                    }
                }
            }
        }
    }

    private static void firstTimeAlone() {
        // he hears it on day 3, and again on days 5 and 7: it is passed on from day 3 on alone
        Run run = Run.of("text 3 2 it0t0t0;013;015;017;121", "telling 0 0 0");
        run.due("the first time", "hears 1 0 0 = 3", "hears 2 0 0 = 4", "path 1 0 0 = 0", "path 2 0 0 = 3",
            "count 2 0 59 = 1");
        // the same thing by two tellings are two rumours, each for the first time
        run.due("each for itself", "telling 0 0 1 = 1", "hears 1 0 1 = 4", "hears 2 0 1 = 5", "hears 2 0 0 = 4",
            "count 2 0 4 = 1", "count 2 0 5 = 2");
        // who was told of it has heard it: what comes back to him is no first time
        Run.of("text 3 2 it0t0;011;101", "telling 0 0 9").due("it comes back", "hears 0 0 0 = 9", "hears 1 0 0 = 10",
            "path 0 0 0 = 90", "path 1 0 0 = 0", "count 0 0 59 = 1");
        // a way to where it is from: nothing new by a teller
        Run.of("text 3 2 it0t0;001", "telling 0 0 9").due("to himself", "hears 0 0 0 = 9", "count 0 0 59 = 1",
            "path 0 0 0 = 90");
    }

    private static void hushedHearAllTheSame() {
        for (String kind : new String[] {"t", "j", "l"}) {
            Run run = Run.of("text 3 2 it0" + kind + "1t0;011;121;111", "law 1", "telling 0 0 0", "hush 1 1");
            run.due("a hushed " + kind, "hears 1 0 0 = 1", "forges 1 0 = 1", "count 1 0 59 = 1", "count 1 1 59 = 0");
            for (int thing = 0; thing < 4; thing++) {
                run.due("passes nothing on", "count 2 " + thing + " 59 = 0");
            }
            run.due("not hushed", "hush 1 0 = 1", "count 2 " + (kind.equals("t") ? 0 : 1) + " 2 = 1");
        }
    }

    private static void countByTheDay() {
        Run.of("text 3 2 it0t0;015", "telling 0 2 10", "telling 0 2 10", "telling 0 2 11", "telling 0 1 0").due("count",
            "count 0 2 9 = 0", "count 0 2 10 = 2", "count 0 2 11 = 3", "count 0 2 59 = 3", "count 1 2 14 = 0",
            "count 1 2 15 = 2", "count 1 2 16 = 3", "count 0 1 0 = 1", "count 0 3 59 = 0", "count 0 0 59 = 0");
        // echoes: one origin by three ways, on three days
        Run.of("text 3 2 it0t0t0;011;012;013;021;211", "telling 0 0 0").due("echoes count as one", "count 1 0 0 = 0",
            "count 1 0 1 = 1", "count 1 0 2 = 1", "count 1 0 59 = 1");
        Run.of("text 3 2 it0t0", "telling 0 0 0", "telling 0 0 0", "telling 0 0 0", "telling 0 0 0", "telling 0 0 0",
            "telling 0 0 0", "telling 0 0 0", "telling 0 0 0").due("eight unlike ones", "count 0 0 0 = 8",
            "count 1 0 59 = 0");
    }

    private static void eachLaw() {
        for (int law = 1; law <= 4; law++) {
            Run run = Run.of("text 3 2 it1t0", "law " + law);
            for (int k = 0; k < 6; k++) {
                run.due("law " + law + ", " + k + " told", "count 0 1 59 = " + k,
                    "forges 0 1 = " + (k < law ? "NONE" : law - 1), "works 59 = " + (k < law ? 0 : 1));
                run.ask("telling 0 1 " + k);
            }
            run.due("the law told again", "law " + law + " = " + law, "many 4 = " + law);
        }
        Run run = Run.of("text 3 2 it1t0").due("the law is 3 at first", "many 4 = 3", "telling 0 0 0 = 0",
            "telling 0 0 0 = 1", "forges 0 0 = NONE", "telling 0 0 7 = 2", "forges 0 0 = 7");
        run.due("law 0 and 5 change nothing", "law 0 = OUTSIDE", "forges 0 0 = 7", "law 5 = OUTSIDE", "forges 0 0 = 7",
            "law 2 = 3", "forges 0 0 = 0", "law 4 = 2", "forges 0 0 = NONE");
    }

    private static void fog() {
        Run all = Run.of("text 3 2 it1t0", "law 1", "telling 0 0 0", "telling 0 1 59");
        for (int day = 0; day < 60; day++) {
            all.due("fog from the first day on", "forges 0 0 = " + day, "works " + day + " = " + (day == 59 ? 2 : 1),
                "fog " + day + " 1 = 1", "fog " + day + " 1 = 0", "works " + day + " = 0");
        }
        all.due("fog on all days", "forges 0 0 = NONE", "forges 0 1 = NONE", "works 59 = 0", "hears 0 0 0 = 0",
            "count 0 0 0 = 1", "fog 59 0 = 1", "forges 0 0 = 59", "forges 0 1 = 59", "works 59 = 2", "works 58 = 0",
            "fog 0 0 = 1", "forges 0 0 = 0", "forges 0 1 = 59", "fog 59 1 = 1", "forges 0 1 = NONE", "works 59 = 1");
        Run.of("text 3 2 it1t0", "law 1", "telling 0 0 7").due("fog is of its day alone", "fog 6 1 = 1", "fog 8 1 = 1",
            "forges 0 0 = 7", "fog 7 1 = 1", "forges 0 0 = 9", "fog 6 0 = 1", "forges 0 0 = 9", "fog 8 0 = 1",
            "forges 0 0 = 8", "fog 7 0 = 1", "forges 0 0 = 7");
        // fog is no matter to who hears and who passes on
        Run.of("text 3 2 it0t0;011", "telling 0 0 0", "fog 0 1", "fog 1 1").due("heard in fog", "hears 0 0 0 = 0",
            "hears 1 0 0 = 1", "count 1 0 1 = 1", "path 1 0 0 = 0");
    }

    private static void worksByTheDay() {
        Run.of("text 3 2 it1t1t0;019;029", "law 1", "telling 0 0 5", "telling 0 1 6", "telling 1 3 59").due("works",
            "works 4 = 0", "works 5 = 1", "works 6 = 2", "works 13 = 2", "works 14 = 3", "works 15 = 4", "works 58 = 4",
            "works 59 = 5", "works 0 = 0");
        Run.of("text 3 2 it1t1", "law 1", "telling 0 0 0", "telling 1 0 0", "telling 0 0 1").due(
            "one by two smiths counts twice, one by one once", "works 0 = 2", "works 59 = 2");
    }

    private static void fewestByTheDay() {
        Run.of("text 3 2 it1t0t0t0;104;205;306", "law 1", "hush 3 1").due("by the day", "fewest 0 0 0 = 1",
            "fewest 0 3 59 = 1", "law 2 = 1", "fewest 0 0 3 = NONE", "fewest 0 0 4 = 3", "law 3 = 2",
            "fewest 0 0 4 = NONE", "fewest 0 0 5 = 7", "law 4 = 3", "fewest 0 0 5 = NONE", "fewest 0 0 59 = NONE",
            "hush 3 0 = 1", "fewest 0 0 5 = NONE", "fewest 0 0 6 = 15");
        // told on day 0, to a way of nine, and nine again: on day 54 the seventh
        Run.of("text 3 2 it0t0t0t0t0t1;019;129;239;349;459", "law 1").due("far away", "hush 5 1 = 1",
            "fewest 5 0 0 = 32", "law 2 = 1", "fewest 5 0 8 = NONE", "fewest 5 0 9 = 48", "law 3 = 2",
            "fewest 5 0 17 = NONE", "fewest 5 0 18 = 56", "law 4 = 3", "fewest 5 0 26 = NONE", "fewest 5 0 27 = 60",
            "fewest 5 0 35 = 60", "fewest 5 0 36 = 30", "fog 27 1 = 1", "fewest 5 0 27 = NONE", "fewest 5 0 28 = 60",
            "fewest 5 0 44 = 30", "fewest 5 0 45 = 15", "hush 4 1 = 1", "fewest 5 0 59 = NONE");
        // on the last day by fog on all others
        Run run = Run.of("text 3 2 it1t0", "law 1");
        for (int day = 0; day < 59; day++) {
            run.ask("fog " + day + " 1");
        }
        run.due("on the last day", "fewest 0 0 58 = NONE", "fewest 0 0 59 = 1", "fog 59 1 = 1", "fewest 0 0 59 = NONE");
    }

    private static void hushByTheDay() {
        Run.of("text 3 2 it1t0t0t0;104;205;306", "law 1", "telling 1 0 0", "telling 2 0 0", "telling 3 0 50").due(
            "by the day", "hushed 0 0 0 = 0", "hushed 0 0 3 = 0", "hushed 0 0 4 = 2", "hushed 0 0 5 = 6",
            "hushed 0 0 55 = 6", "hushed 0 0 56 = 14", "hushed 0 0 59 = 14", "hushed 0 1 59 = 0", "law 2 = 1",
            "hushed 0 0 4 = 0", "hushed 0 0 5 = 2", "hushed 0 0 59 = 6", "law 3 = 2", "hushed 0 0 55 = 0",
            "hushed 0 0 56 = 2", "law 4 = 3", "hushed 0 0 59 = 0");
        Run.of("text 3 2 it1t0", "law 1", "telling 0 0 59").due("not by all", "hushed 0 0 58 = 0", "hushed 0 0 59 = NONE",
            "fog 59 1 = 1", "hushed 0 0 59 = 0", "fog 59 0 = 1", "law 2 = 1", "hushed 0 0 59 = 0");
    }

    private static void leastOfSeveral() {
        // of two who would do the first, also where a greater set with a lesser number would do
        Run.of("text 3 2 it0t0t0t0t0t1;451;351", "law 1").due("one of two", "fewest 5 0 59 = 8", "telling 4 0 0 = 0",
            "hushed 5 0 59 = 16", "telling 3 0 0 = 1", "hushed 5 0 59 = 24");
        Run.of("text 3 2 it0t0t0t0t0t1;041;141;241;341;451", "law 1", "telling 0 0 0", "telling 1 0 0", "telling 2 0 0",
            "telling 3 0 0").due("one of a great number", "hushed 5 0 59 = 16", "law 2 = 1", "hushed 5 0 59 = 16",
            "law 3 = 2", "hushed 5 0 59 = 16", "hushed 5 0 2 = 16", "hushed 5 0 1 = 0", "law 4 = 3", "hushed 5 0 59 = 1");
    }

    private static void worth() {
        // three of one thing: by a law of three each is worth it, by less none
        Run.of("text 3 2 it1t1;011", "telling 0 0 0", "telling 0 0 0", "telling 0 0 59", "telling 1 1 0").due("worth",
            "worth 0 = 101", "worth 1 = 101", "worth 2 = 101", "worth 3 = 100", "worth 4 = UNKNOWN", "law 2 = 3",
            "worth 0 = 101", "worth 1 = 101", "worth 2 = 100", "law 1 = 2", "worth 0 = 100", "worth 3 = 101",
            "law 4 = 1", "worth 0 = 100", "fog 59 1 = 1", "law 3 = 4", "worth 0 = 100");
        Run.of("text 3 2 it1t0", "law 1", "telling 0 0 0", "telling 0 0 59").due("a later one instead", "worth 0 = 100",
            "worth 1 = 100", "fog 59 1 = 1", "worth 0 = 101", "worth 1 = 100", "undo 1 = 1", "worth 0 = 101",
            "worth 1 = UNKNOWN");
    }

    private static void spare() {
        // each of two that do the same can be spared (alone), one that is a day longer not
        Run.of("text 3 2 it0t1;013;013;014", "law 1", "telling 0 0 0").due("spare", "spare = 7", "forges 1 0 = 3",
            "fog 3 1 = 1", "spare = 7", "fog 3 0 = 1", "telling 0 1 57 = 1", "spare = 7");
        Run.of("text 3 2 it0t1;013;014;105", "law 1", "telling 0 0 0").due("a day longer", "spare = 6", "fog 3 1 = 1",
            "spare = 7", "telling 0 1 56 = 1", "spare = 6", "fog 59 1 = 1", "spare = 7");
        // one thing of one smith is enough, whichever it is
        for (int thing = 0; thing < 4; thing++) {
            Run.of("text 3 2 it0t0t0t0t0t1;051;015", "law 1", "telling 0 " + thing + " 58").due("on day 59", "spare = 2",
                "hush 0 1 = 1", "spare = 3");
        }
    }

    private static void readings() {
        Run run = Run.of("text 3 2 it1t1", "law 1", "telling 0 0 9");
        String[][] so = {{"0 0 8 1", "0"}, {"0 0 8 0", "3"}, {"0 0 9 1", "3"}, {"0 0 9 0", "0"}, {"0 0 10 1", "3"},
            {"0 0 59 1", "3"}, {"0 0 59 0", "0"}, {"0 0 0 0", "3"}, {"0 0 0 1", "0"}, {"0 1 59 0", "3"},
            {"0 3 59 1", "0"}, {"1 0 59 0", "3"}, {"1 0 59 1", "0"}};
        for (String[] r : so) {
            run.due("by the end of a day", "reading " + r[0] + " = 0", "mute = " + r[1], "back 1 = 0");
        }
    }

    private static void told() {
        Run.of("text 3 2 it0t1t0;019", "law 1", "reading 1 2 20 1", "reading 1 2 19 0").due("just on the day",
            "told 2 10 = 0", "told 2 11 = 1", "told 2 12 = 0", "told 2 19 = 0", "told 2 20 = 2", "told 2 21 = 0",
            "told 1 11 = 0", "told 3 11 = 0", "many 2 = 0", "count 1 2 59 = 0");
        Run.of("text 3 2 it0t1t0;019", "law 1", "reading 1 2 59 1").due("on the last days", "told 2 59 = 2",
            "told 2 50 = 3", "told 2 51 = 2", "told 2 0 = 3", "hush 0 1 = 1", "told 2 0 = 2", "hush 1 1 = 1",
            "told 2 0 = 2", "fog 59 1 = 1", "told 2 59 = 0", "told 2 58 = 2");
        Run.of("text 3 2 it0t0t0t0t0t1", "law 1", "reading 5 0 59 0").due("not told", "told 0 0 = 31", "told 1 0 = 63",
            "telling 5 0 59 = 0", "told 0 0 = 0", "told 1 0 = 0", "undo 1 = 0", "told 0 0 = 31");
    }

    private static void mute() {
        Run.of("text 3 2 it0t0t0t0t0t1;051;151", "law 1", "telling 0 0 0", "telling 1 0 1", "reading 5 0 1 0").due(
            "each alone", "mute = 1", "back 1 = 0", "reading 5 0 2 0 = 0", "mute = 0", "hush 1 1 = 1", "mute = 1",
            "hush 0 1 = 1", "mute = 63", "ofPerson 2 2 = 0", "hush 1 0 = 1", "mute = 2", "back 1 = 0",
            "reading 5 0 1 0 = 0", "mute = 63", "reading 5 0 2 1 = 1", "mute = 61");
    }

    /** Hushed, too: of who is hushed already it is as it is, with a reading that is so, and with one that is not. */
    private static void hushedAlready() {
        Run.of("text 3 2 it0t0t1;021;121", "law 1", "telling 0 0 0", "telling 1 0 3", "hush 0 1").due("hushed already",
            "reading 2 0 3 0 = 0", "mute = 7", "reading 2 0 4 1 = 1", "mute = 5", "hush 0 0 = 1", "mute = 1",
            "hush 0 1 = 1", "mute = 5", "back 1 = 1", "reading 2 0 4 0 = 1", "mute = 2", "hush 1 1 = 1", "mute = 7",
            "ofPerson 2 2 = 0", "back 1 = 1", "reading 2 0 59 1 = 1", "mute = 0");
    }

    private static void paths() {
        Run.of("text 3 2 it0t0t0;013;012;011;011;102", "telling 0 0 0", "telling 0 0 56").due("the least of one day",
            "path 1 0 0 = 2", "path 1 0 1 = 2", "path 0 0 1 = 91", "path 2 0 0 = NONE", "path 1 1 0 = NONE",
            "path 1 0 2 = NONE", "path 1 0 13 = NONE", "telling 1 0 59 = 2", "path 1 0 2 = 92", "path 0 0 2 = NONE",
            "telling 0 0 58 = 3", "path 1 0 3 = 2", "telling 0 0 59 = 4", "path 1 0 4 = NONE", "path 0 0 4 = 94");
        // by two from one, and by one from another, who heard it earlier
        Run.of("text 3 2 it0t0t0t0;231;131;012;021;013", "telling 0 0 0").due("by another", "path 3 0 0 = 0",
            "hears 3 0 0 = 2", "path 1 0 0 = 2", "hush 2 1 = 1", "path 3 0 0 = 1", "hears 3 0 0 = 3", "hush 1 1 = 1",
            "path 3 0 0 = NONE", "path 1 0 0 = 2", "hush 0 1 = 1", "path 1 0 0 = NONE", "path 0 0 0 = 90");
        // a lie that comes of two words on two days: by the first
        Run.of("text 3 2 it0l0t1;011;122;019", "telling 1 0 8", "telling 0 0 1").due("a lie", "path 2 1 9 = 1",
            "hears 2 1 9 = 4", "undo 1 = 1", "hears 2 1 9 = 10", "path 2 1 9 = 1");
    }
}
