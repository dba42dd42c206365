/** Promises 15 to 18: whom to tell, whom to hush, what a word is worth, which ways can be spared. */
public final class FewestTest {
    private static final int LOW = Integer.MIN_VALUE;
    private static final int HIGH = Integer.MAX_VALUE;

    private FewestTest() {
    }

    public static void main(String[] args) {
        fewestToBeTold();
        theLeastOfSeveral();
        tellingsAreInPlaceOfAll();
        liarsMakeThreeOfOne();
        fewestToBeHushed();
        theLeastToBeHushed();
        nothingIsChanged();
        refusals();
        worth();
        spare();
        Check.end("FewestTest");
    }

    private static void fewestToBeTold() {
        // 0, 1 and 2 tell 3 in 1, 2 and 3 days
        IronRumours x = Check.withText("it0t0t0t1;031;132;233");
        Check.due("by day 0", x.fewest(3, 0, 0), -9);
        Check.due("by day 1", x.fewest(3, 0, 1), -9);
        Check.due("by day 2", x.fewest(3, 0, 2), 11);
        Check.due("by day 3", x.fewest(3, 0, 3), 7);
        Check.due("by day 59", x.fewest(3, 3, 59), 7);
        x.law(4);
        Check.due("by all", x.fewest(3, 0, 3), 15);
        Check.due("not by all", x.fewest(3, 0, 2), -9);
        x.law(1);
        Check.due("himself", x.fewest(3, 0, 0), 8);
        Check.due("another", x.fewest(3, 0, 1), 1);
        x.fog(1, true);
        Check.due("in fog not another", x.fewest(3, 0, 1), 8);
        x.fog(0, true);
        Check.due("nor himself", x.fewest(3, 0, 1), -9);
        Check.due("but later", x.fewest(3, 0, 2), 1);
        x.hush(0, true);
        Check.due("the hushed is left out", x.fewest(3, 0, 2), 2);
        x.hush(1, true);
        x.hush(2, true);
        Check.due("all others hushed", x.fewest(3, 0, 59), 8);
        x.law(2);
        Check.due("too few", x.fewest(3, 0, 59), -9);
    }

    private static void theLeastOfSeveral() {
        IronRumours x = Check.withText("it1t0t0t0t0t0;501;401;301;201;101");
        Check.due("three by day 59", x.fewest(0, 0, 59), 7);
        x.law(2);
        Check.due("two by day 59", x.fewest(0, 0, 59), 3);
        x.hush(1, true);
        Check.due("less 1", x.fewest(0, 0, 59), 5);
        x.hush(2, true);
        x.hush(3, true);
        Check.due("less 2 and 3, too", x.fewest(0, 0, 59), 17);
        x.law(1);
        x.fog(0, true);
        x.fog(1, true);
        Check.due("one in fog", x.fewest(0, 0, 2), 1);
        // 5 tells 0 himself and by a liar, whose word a joker turns until it is the same thing again
        IronRumours y = Check.withText("it1t0j0l0t0t0;101;501;531;321;221;201");
        y.law(2);
        Check.due("one of a great number is fewer than two", y.fewest(0, 0, 59), 1 << 5);
        Check.due("just in time", y.fewest(0, 0, 5), 1 << 5);
        Check.due("a day too late", y.fewest(0, 0, 4), 1 << 0 | 1 << 1);
    }

    private static void tellingsAreInPlaceOfAll() {
        IronRumours x = Check.withText("it1t0;101");
        x.law(2);
        x.telling(0, 0, 0);
        x.telling(0, 0, 0);
        Check.due("forged", x.forges(0, 0), 0);
        Check.due("two to be told", x.fewest(0, 0, 59), 3);
        x.law(3);
        Check.due("there are but two", x.fewest(0, 0, 59), -9);
    }

    private static void liarsMakeThreeOfOne() {
        // 0 tells three liars, they a joker who tells 5 and himself, until it is the same thing again
        IronRumours x = Check.withText("it0l0l0l0j0t1;011;021;031;141;241;341;441;451");
        Check.due("one word, three lies", x.fewest(5, 0, 59), 1 << 0);
        Check.due("of the last thing, too", x.fewest(5, 3, 5), 1 << 0);
        Check.due("a day earlier the liars", x.fewest(5, 3, 4), 1 << 1 | 1 << 2 | 1 << 3);
        Check.due("two days earlier", x.fewest(5, 3, 3), -9);
    }

    private static void fewestToBeHushed() {
        // from 0 by 1 or by 2 to 3
        IronRumours x = Check.withText("it0t0t0t1;011;021;131;232");
        x.law(1);
        x.telling(0, 0, 0);
        Check.due("in time by 1", x.hushed(3, 0, 2), 1);
        Check.due("too early", x.hushed(3, 0, 1), 0);
        Check.due("of another thing", x.hushed(3, 1, 59), 0);
        Check.due("who tells it", x.hushed(3, 0, 59), 1);
        x.telling(1, 0, 0);
        Check.due("two tellings", x.hushed(3, 0, 1), 2);
        Check.due("both", x.hushed(3, 0, 59), 3);
        x.telling(3, 0, 9);
        Check.due("he is told himself", x.hushed(3, 0, 59), -9);
        Check.due("ahead of it", x.hushed(3, 0, 8), 3);
        x.hush(0, true);
        Check.due("one is hushed already", x.hushed(3, 0, 8), 2);
        x.hush(1, true);
        Check.due("both are", x.hushed(3, 0, 8), 0);
        x.hush(0, false);
        Check.due("the other is", x.hushed(3, 0, 8), 1);
        x.law(2);
        Check.due("by the law", x.hushed(3, 0, 59), 1);
        Check.due("by the law, earlier", x.hushed(3, 0, 8), 0);
        x.law(3);
        Check.due("three there aren't", x.hushed(3, 0, 59), 0);
    }

    private static void theLeastToBeHushed() {
        // three told: two of them hushed, the smith needs two
        IronRumours x = Check.withText("it1t0t0t0t0t0;101;201;301;401;501");
        x.law(2);
        x.telling(5, 0, 0);
        x.telling(3, 0, 0);
        x.telling(4, 0, 0);
        Check.due("two of three", x.hushed(0, 0, 59), 1 << 3 | 1 << 4);
        x.law(1);
        Check.due("three of three", x.hushed(0, 0, 59), 1 << 3 | 1 << 4 | 1 << 5);
        x.law(3);
        Check.due("one of three", x.hushed(0, 0, 59), 1 << 3);
        // one between them is fewer than the two who are told
        IronRumours y = Check.withText("it0t0t0t1;021;121;231");
        y.law(1);
        y.telling(0, 0, 0);
        y.telling(1, 0, 0);
        Check.due("the one between", y.hushed(3, 0, 59), 4);
        // a joker's own way back makes all four things
        IronRumours z = Check.withText("ij1t0;001");
        z.law(1);
        z.telling(0, 0, 0);
        Check.due("himself", z.hushed(0, 3, 59), 1);
        Check.due("not what he was told of", z.hushed(0, 0, 59), -9);
    }

    private static void nothingIsChanged() {
        IronRumours x = Check.withText("it0t0t0t1;011;021;131;232");
        x.law(1);
        x.telling(0, 0, 3);
        x.hush(2, true);
        x.fewest(3, 2, 59);
        x.hushed(3, 0, 59);
        x.worth(0);
        x.spare();
        Check.due("many(2)", x.many(2), 1);
        Check.due("hears(3, 0, 0)", x.hears(3, 0, 0), 5);
        Check.due("hears(3, 2, 0)", x.hears(3, 2, 0), -9);
        Check.due("ofPerson(0, 2)", x.ofPerson(0, 2), 0);
        Check.due("ofPerson(2, 2)", x.ofPerson(2, 2), 1);
        Check.due("works(59)", x.works(59), 1);
    }

    private static void refusals() {
        IronRumours none = new IronRumours();
        Check.due("fewest without a pass", none.fewest(0, 0, 0), -1);
        Check.due("hushed without a pass", none.hushed(0, 0, 0), -1);
        Check.due("worth without a pass", none.worth(0), -1);
        Check.due("spare without a pass", none.spare(), -3);
        IronRumours x = Check.withText("it0t1");
        int[][] refused = {{2, 4, 60, -1}, {-1, 0, 0, -1}, {LOW, 0, 0, -1}, {0, 4, 0, -2}, {0, -1, 0, -2},
            {0, 0, 60, -2}, {0, 0, -1, -2}, {1, HIGH, 0, -2}, {1, 0, LOW, -2}, {0, 0, 0, -3}};
        for (int[] r : refused) {
            String call = "(" + r[0] + ", " + r[1] + ", " + r[2] + ")";
            Check.due("fewest" + call, x.fewest(r[0], r[1], r[2]), r[3]);
            Check.due("hushed" + call, x.hushed(r[0], r[1], r[2]), r[3]);
        }
        Check.due("fewest(1, 0, 0)", x.fewest(1, 0, 0), -9);
        Check.due("hushed(1, 0, 0)", x.hushed(1, 0, 0), 0);
        Check.due("worth(0)", x.worth(0), -1);
        x.telling(0, 0, 0);
        Check.due("worth(0)", x.worth(0), 100);
        Check.due("worth(1)", x.worth(1), -1);
        Check.due("worth(-1)", x.worth(-1), -1);
        Check.due("worth(HIGH)", x.worth(HIGH), -1);
    }

    private static void worth() {
        // 0 tells three smiths; what he is told of on day 59 none of them hears
        IronRumours x = Check.withText("it0t1t1t1;011;021;031");
        x.law(1);
        x.telling(0, 0, 0);
        x.telling(1, 1, 0);
        x.telling(1, 0, 9);
        x.telling(0, 3, 59);
        Check.due("worth(0)", x.worth(0), 102);
        Check.due("worth(1)", x.worth(1), 101);
        Check.due("worth(2)", x.worth(2), 100);
        Check.due("worth(3)", x.worth(3), 100);
        x.undo(2);
        Check.due("worth(0) without the others", x.worth(0), 103);
        x.hush(0, true);
        Check.due("worth(0) of the hushed", x.worth(0), 100);
        // without 0 the others keep their origins: 1 and 2 are two
        IronRumours y = Check.withText("it1t1");
        y.law(2);
        y.telling(0, 0, 0);
        y.telling(0, 0, 1);
        y.telling(0, 0, 2);
        for (int k = 0; k < 3; k++) {
            Check.due("worth(" + k + ") of three", y.worth(k), 100);
        }
        y.law(3);
        for (int k = 0; k < 3; k++) {
            Check.due("worth(" + k + ") by the law", y.worth(k), 101);
        }
        Check.due("many(2)", y.many(2), 3);
        y.law(1);
        y.undo(3);
        y.telling(0, 0, 59);
        Check.due("worth of what is forged on the last day", y.worth(0), 101);
        y.telling(0, 0, 3);
        Check.due("worth of what is forged on the last day without it", y.worth(1), 100);
        IronRumours z = Check.withText("it0t1;011");
        z.law(1);
        z.telling(0, 0, 0);
        z.telling(1, 1, 0);
        z.hush(0, true);
        Check.due("worth(1) where 0 is hushed", z.worth(1), 101);
    }

    private static void spare() {
        IronRumours x = Check.withText("it0t1t1t0;011;012;122;021;131;321");
        Check.due("without tellings", x.spare(), 63);
        x.law(1);
        x.telling(0, 0, 0);
        // 0 brings it to 1, 3 to 2
        Check.due("two are wanted", x.spare(), 63 - 1 - 8);
        x.fog(1, true);
        // 1 forges on day 2, when the second way brings it, too
        Check.due("one is wanted in fog", x.spare(), 63 - 8);
        x.fog(2, true);
        // 2 forges on day 3, when 1 and 3 bring it, too
        Check.due("none is wanted in long fog", x.spare(), 63);
        x.hush(0, true);
        Check.due("nothing goes on", x.spare(), 63);
        Check.due("no ways", Check.withText("it1t1").spare(), 0);
        IronRumours y = Check.withText("it0t0t0;011;121");
        y.telling(0, 0, 0);
        Check.due("no smiths", y.spare(), 3);
        IronRumours z = Check.withText("it1t0;101;109");
        z.law(1);
        z.telling(1, 0, 0);
        Check.due("wanted by person 0", z.spare(), 2);
        for (int day = 0; day < 59; day++) {
            z.fog(day, true);
        }
        Check.due("on the last day either will do", z.spare(), 3);
    }
}
