/** Promises 10 to 14: who hears what when, counts, iron, works, paths. */
public final class RumoursTest {
    private static final int LOW = Integer.MIN_VALUE;
    private static final int HIGH = Integer.MAX_VALUE;

    private RumoursTest() {
    }

    public static void main(String[] args) {
        tellersPassItOnAsItIs();
        jokersPassOnTheNextThing();
        liarsHaveItFromThemselves();
        theFirstTimeAlone();
        nothingBehindTheLastDay();
        echoesCountAsOne();
        refusals();
        ironByTheLaw();
        fogPutsItOff();
        worksOfAllSmiths();
        paths();
        Check.end("RumoursTest");
    }

    private static void tellersPassItOnAsItIs() {
        IronRumours x = Check.withText("it0t0t0;013;129");
        x.telling(0, 2, 4);
        Check.due("hears(0, 2, 0)", x.hears(0, 2, 0), 4);
        Check.due("hears(1, 2, 0)", x.hears(1, 2, 0), 7);
        Check.due("hears(2, 2, 0)", x.hears(2, 2, 0), 16);
        Check.due("of no other thing", x.hears(1, 3, 0), -9);
        Check.due("from no other origin", x.hears(1, 2, 1), -9);
        Check.due("nor as from himself", x.hears(1, 2, 8), -9);
    }

    private static void jokersPassOnTheNextThing() {
        IronRumours x = Check.withText("ij0j0t0;013;121");
        x.telling(0, 0, 0);
        x.telling(0, 3, 5);
        Check.due("hears(0, 0, 0)", x.hears(0, 0, 0), 0);
        Check.due("hears(1, 0, 0)", x.hears(1, 0, 0), -9);
        Check.due("hears(1, 1, 0)", x.hears(1, 1, 0), 3);
        Check.due("hears(2, 2, 0)", x.hears(2, 2, 0), 4);
        Check.due("behind 3 comes 0", x.hears(1, 0, 1), 8);
        Check.due("then 1", x.hears(2, 1, 1), 9);
    }

    private static void liarsHaveItFromThemselves() {
        IronRumours x = Check.withText("it0t0l0t0;232;021");
        x.telling(2, 3, 10);
        x.telling(0, 2, 3);
        Check.due("the liar hears it", x.hears(2, 3, 0), 10);
        Check.due("as of his own, of the next thing", x.hears(3, 0, 10), 12);
        Check.due("not as it was", x.hears(3, 0, 0), -9);
        Check.due("nor of the thing", x.hears(3, 3, 0), -9);
        Check.due("what came by a way", x.hears(2, 2, 1), 4);
        Check.due("goes on, too", x.hears(3, 3, 10), 6);
        Check.due("of 10 the next is 11", x.hears(3, 0, 11), -9);
    }

    private static void theFirstTimeAlone() {
        IronRumours x = Check.withText("it0t0t0;019;021;211;101");
        x.telling(0, 0, 7);
        Check.due("by the shorter ways", x.hears(1, 0, 0), 9);
        Check.due("nobody is told anew", x.hears(0, 0, 0), 7);
        Check.due("count by then", x.count(1, 0, 59), 1);
    }

    private static void nothingBehindTheLastDay() {
        IronRumours x = Check.withText("it0t1;015");
        x.law(1);
        x.telling(0, 0, 54);
        x.telling(0, 1, 55);
        x.telling(1, 2, 59);
        Check.due("on the last day", x.hears(1, 0, 0), 59);
        Check.due("behind it", x.hears(1, 1, 1), -9);
        Check.due("told on it", x.hears(1, 2, 2), 59);
        Check.due("forged on it", x.forges(1, 0), 59);
        Check.due("count ahead of it", x.count(1, 0, 58), 0);
        Check.due("count on it", x.count(1, 0, 59), 1);
    }

    private static void echoesCountAsOne() {
        IronRumours x = Check.withText("it0t0l0l0t1;041;142;242;341;021;121;031");
        x.telling(0, 0, 0);
        Check.due("one and the same", x.count(4, 0, 59), 1);
        Check.due("two liars' own", x.count(4, 1, 59), 2);
        Check.due("the first of them", x.count(4, 1, 2), 1);
        Check.due("hears(4, 1, 11)", x.hears(4, 1, 11), 2);
        Check.due("hears(4, 1, 10)", x.hears(4, 1, 10), 3);
        x.telling(1, 0, 0);
        Check.due("another", x.count(4, 0, 59), 2);
        Check.due("a liar's lie stays one", x.count(4, 1, 59), 2);
        x.telling(4, 0, 30);
        Check.due("ahead of the third", x.count(4, 0, 29), 2);
        Check.due("with the third", x.count(4, 0, 30), 3);
        x.telling(4, 0, 30);
        Check.due("a fourth, alike but for its number", x.count(4, 0, 30), 4);
    }

    private static void refusals() {
        IronRumours x = new IronRumours();
        Check.due("hears without a pass", x.hears(0, 0, 0), -1);
        Check.due("count without a pass", x.count(0, 0, 0), -1);
        Check.due("forges without a pass", x.forges(0, 0), -1);
        Check.due("path without a pass", x.path(0, 0, 0), -1);
        Check.due("works(60) without a pass", x.works(60), -2);
        x = Check.withText("it0t1;011");
        Check.due("hears(2, 4, 14)", x.hears(2, 4, 14), -1);
        Check.due("hears(-1, 0, 0)", x.hears(-1, 0, 0), -1);
        Check.due("hears(0, 4, 0)", x.hears(0, 4, 0), -2);
        Check.due("hears(0, -1, 0)", x.hears(0, -1, 0), -2);
        Check.due("hears(0, 0, 14)", x.hears(0, 0, 14), -2);
        Check.due("hears(0, 0, 13)", x.hears(0, 0, 13), -9);
        Check.due("hears(0, 0, -1)", x.hears(0, 0, -1), -2);
        Check.due("hears(0, HIGH, LOW)", x.hears(0, HIGH, LOW), -2);
        Check.due("count(2, 4, 60)", x.count(2, 4, 60), -1);
        Check.due("count(0, 4, 0)", x.count(0, 4, 0), -2);
        Check.due("count(0, -1, 0)", x.count(0, -1, 0), -2);
        Check.due("count(0, 0, 60)", x.count(0, 0, 60), -2);
        Check.due("count(0, 0, -1)", x.count(0, 0, -1), -2);
        Check.due("count(LOW, 0, 0)", x.count(LOW, 0, 0), -1);
        Check.due("forges(2, 4)", x.forges(2, 4), -1);
        Check.due("forges(-1, 0)", x.forges(-1, 0), -1);
        Check.due("forges(0, 4)", x.forges(0, 4), -2);
        Check.due("forges(0, -1)", x.forges(0, -1), -2);
        Check.due("forges(0, 0)", x.forges(0, 0), -3);
        Check.due("forges(1, 0)", x.forges(1, 0), -9);
        Check.due("works(-1)", x.works(-1), -2);
        Check.due("works(60)", x.works(60), -2);
        Check.due("works(HIGH)", x.works(HIGH), -2);
        Check.due("works(59)", x.works(59), 0);
        Check.due("path(2, 4, 14)", x.path(2, 4, 14), -1);
        Check.due("path(-1, 0, 0)", x.path(-1, 0, 0), -1);
        Check.due("path(0, 4, 0)", x.path(0, 4, 0), -2);
        Check.due("path(0, -1, 0)", x.path(0, -1, 0), -2);
        Check.due("path(0, 0, 14)", x.path(0, 0, 14), -2);
        Check.due("path(0, 0, -1)", x.path(0, 0, -1), -2);
        Check.due("path(0, 0, 13)", x.path(0, 0, 13), -9);
    }

    private static void ironByTheLaw() {
        IronRumours x = Check.withText("it1t1;011");
        x.telling(0, 0, 1);
        x.telling(0, 0, 2);
        Check.due("by two", x.forges(0, 0), -9);
        x.telling(0, 0, 6);
        Check.due("by three", x.forges(0, 0), 6);
        Check.due("a day behind", x.forges(1, 0), 7);
        x.law(2);
        Check.due("by a law of two", x.forges(0, 0), 2);
        x.hush(0, true);
        Check.due("hushed, he forges", x.forges(0, 0), 2);
        Check.due("the other does not", x.forges(1, 0), -9);
    }

    private static void fogPutsItOff() {
        IronRumours x = Check.withText("it1t1");
        x.law(1);
        x.telling(0, 0, 57);
        x.fog(57, true);
        Check.due("a day later", x.forges(0, 0), 58);
        x.fog(58, true);
        Check.due("two days later", x.forges(0, 0), 59);
        Check.due("heard all the same", x.hears(0, 0, 0), 57);
        x.fog(59, true);
        Check.due("never", x.forges(0, 0), -9);
        x.fog(57, false);
        Check.due("at once", x.forges(0, 0), 57);
        x.fog(3, true);
        Check.due("fog ahead of it is nothing", x.forges(0, 0), 57);
    }

    private static void worksOfAllSmiths() {
        IronRumours x = Check.withText("it1j1t0t1;012;121;231");
        x.law(1);
        x.telling(0, 3, 5);
        // 0 forges 3 on day 5, 1 forges 3 on day 7, 3 forges 0 on day 9; 2 has no anvil
        int[][] due = {{0, 0}, {4, 0}, {5, 1}, {6, 1}, {7, 2}, {8, 2}, {9, 3}, {59, 3}};
        for (int[] row : due) {
            Check.due("works(" + row[0] + ")", x.works(row[0]), row[1]);
        }
        x.telling(3, 0, 0);
        Check.due("a thing is forged once", x.works(59), 3);
        Check.due("but earlier", x.works(0), 1);
    }

    private static void paths() {
        IronRumours x = Check.withText("it0t0j0l0;011;021;122;212;233;133;322;301");
        x.telling(1, 0, 20);
        x.telling(0, 0, 5);
        Check.due("by the first telling", x.path(1, 0, 0), 90);
        Check.due("by the second", x.path(0, 0, 1), 91);
        Check.due("the other's rumour, by a way", x.path(1, 0, 1), 0);
        Check.due("by a way from 0", x.path(2, 0, 1), 1);
        Check.due("by a way from 1", x.path(2, 0, 0), 2);
        Check.due("a joke, by a way from 2", x.path(1, 1, 1), 3);
        Check.due("told on by 1", x.path(3, 0, 1), 5);
        Check.due("a joke of 2, earlier than by 1", x.path(3, 1, 1), 4);
        Check.due("a lie", x.path(0, 1, 11), 7);
        Check.due("a lie that comes to 2 by 1 and by 6 on one day", x.path(2, 1, 11), 1);
        Check.due("never", x.path(0, 1, 1), -9);
        IronRumours y = Check.withText("it0t0t0;123;022;021;013;011;121");
        y.telling(0, 0, 0);
        Check.due("of three the one that comes first", y.path(2, 0, 0), 2);
        Check.due("of two the one that comes first", y.path(1, 0, 0), 4);
        IronRumours z = Check.withText("it0t0t0;121;022;022;011");
        z.telling(0, 0, 0);
        Check.due("three that come on one day", z.path(2, 0, 0), 0);
        z.hush(1, true);
        Check.due("not by who is hushed", z.path(2, 0, 0), 1);
        z.telling(2, 0, 2);
        Check.due("by a telling", z.path(2, 0, 1), 91);
        Check.due("the first is as it was", z.path(2, 0, 0), 1);
    }
}
