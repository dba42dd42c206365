/** Promises 19 to 23: readings, who was told, who was mute, rows of tellings. */
public final class ReadingsTest {
    private static final int LOW = Integer.MIN_VALUE;
    private static final int HIGH = Integer.MAX_VALUE;

    private ReadingsTest() {
    }

    public static void main(String[] args) {
        readingsAreNumbered();
        readingsAreTakenBack();
        told();
        toldByALiar();
        mute();
        refusalsOfToldAndMute();
        rows();
        rowsOfLanes();
        refusalsOfRows();
        faultsOfRows();
        Check.end("ReadingsTest");
    }

    private static void readingsAreNumbered() {
        IronRumours none = new IronRumours();
        Check.due("reading without a pass", none.reading(0, 0, 0, true), -1);
        IronRumours x = Check.withText("it0t1");
        Check.due("reading(2, 4, 60)", x.reading(2, 4, 60, true), -1);
        Check.due("reading(-1, 0, 0)", x.reading(-1, 0, 0, true), -1);
        Check.due("reading(0, 4, 0)", x.reading(0, 4, 0, true), -2);
        Check.due("reading(0, -1, 0)", x.reading(0, -1, 0, false), -2);
        Check.due("reading(0, 0, 60)", x.reading(0, 0, 60, true), -2);
        Check.due("reading(1, 0, -1)", x.reading(1, 0, -1, false), -2);
        Check.due("reading(1, HIGH, LOW)", x.reading(1, HIGH, LOW, false), -2);
        Check.due("reading(0, 0, 0)", x.reading(0, 0, 0, true), -3);
        for (int k = 0; k < 6; k++) {
            Check.due("reading " + k, x.reading(1, k % 4, 59, k % 2 == 0), k);
        }
        Check.due("a seventh", x.reading(1, 0, 0, true), -4);
        Check.due("a seventh, of no smith", x.reading(0, 0, 0, true), -3);
        Check.due("many(3)", x.many(3), 6);
    }

    private static void readingsAreTakenBack() {
        IronRumours x = Check.withText("it0t1");
        x.reading(1, 0, 59, false);
        x.reading(1, 1, 59, false);
        x.reading(1, 2, 59, true);
        Check.due("back(4)", x.back(4), -2);
        Check.due("back(-1)", x.back(-1), -2);
        Check.due("back(LOW)", x.back(LOW), -2);
        Check.due("back(HIGH)", x.back(HIGH), -2);
        Check.due("back(0)", x.back(0), 3);
        Check.due("mute() of what is not so", x.mute(), 0);
        Check.due("back(1)", x.back(1), 2);
        Check.due("mute() of what is so", x.mute(), 3);
        Check.due("the next one", x.reading(1, 0, 0, true), 2);
        Check.due("mute() of that, too", x.mute(), 0);
        Check.due("back(3)", x.back(3), 0);
        Check.due("mute() of none", x.mute(), 3);
    }

    private static void told() {
        IronRumours x = Check.withText("it0t0t0t1;031;135;231");
        Check.due("without readings", x.told(0, 0), 15);
        x.law(1);
        x.reading(3, 1, 10, true);
        x.reading(3, 1, 6, false);
        Check.due("of another thing", x.told(0, 7), 0);
        Check.due("too late", x.told(1, 11), 0);
        Check.due("on the last day himself", x.told(1, 10), 8);
        Check.due("on day 7", x.told(1, 7), 1 | 4 | 8);
        Check.due("on day 6", x.told(1, 6), 1 | 4);
        Check.due("on day 5", x.told(1, 5), 2);
        Check.due("on day 4", x.told(1, 4), 2);
        Check.due("on day 1", x.told(1, 1), 0);
        Check.due("on day 2", x.told(1, 2), 2);
        x.fog(7, true);
        Check.due("in fog", x.told(1, 7), 1 | 4 | 8);
        x.fog(8, true);
        x.fog(9, true);
        x.fog(10, true);
        Check.due("in fog to the end", x.told(1, 7), 0);
        for (int day = 7; day < 11; day++) {
            x.fog(day, false);
        }
        x.hush(0, true);
        Check.due("0 hushed", x.told(1, 7), 4 | 8);
        x.law(4);
        for (int k = 0; k < 3; k++) {
            x.telling(3, 1, 3);
        }
        Check.due("with three", x.told(1, 7), 4 | 8);
        for (int k = 0; k < 5; k++) {
            x.telling(2, 3, 59);
        }
        Check.due("with eight", x.told(1, 7), 4 | 8);
        Check.due("no more than they were", x.many(2), 8);
        Check.due("nor is it heard", x.count(3, 1, 59), 3);
        x.telling(3, 1, 59);
        x.undo(1);
        x.telling(3, 1, 3);
        Check.due("with four it was too early", x.told(1, 7), 0);
    }

    private static void toldByALiar() {
        IronRumours x = Check.withText("it0l0t1;011;121");
        x.law(2);
        x.telling(0, 0, 0);
        x.telling(2, 1, 0);
        // the liar's word stands already: his and the second telling's are two
        x.reading(2, 1, 1, false);
        x.reading(2, 1, 2, true);
        Check.due("as it is", x.forges(2, 1), 2);
        Check.due("the liar, told himself, lies too early", x.told(0, 0), 1 | 4);
        Check.due("the smith, told of it, forges too early", x.told(1, 0), 1 | 2);
        x.law(3);
        Check.due("a third ahead of the liar's", x.told(1, 0), 4);
        Check.due("a third in time", x.told(1, 2), 4);
        Check.due("a third too late", x.told(1, 3), 0);
        Check.due("a third by the liar is no third", x.told(0, 1), 0);
        IronRumours y = Check.withText("it1t0t0t0t0l0;501");
        y.law(2);
        y.telling(5, 0, 0);
        y.reading(0, 1, 59, true);
        Check.due("one more is unlike the last liar's", y.told(1, 0), 1);
    }

    private static void mute() {
        IronRumours x = Check.withText("it0t0t0t1;011;021;131;235;303");
        Check.due("without readings", x.mute(), 15);
        x.law(1);
        x.telling(0, 0, 0);
        Check.due("forges", x.forges(3, 0), 2);
        x.reading(3, 0, 2, true);
        Check.due("as it is", x.mute(), 4 | 8);
        x.back(1);
        x.reading(3, 0, 5, false);
        Check.due("not by day 5", x.mute(), 1 | 2);
        x.reading(3, 0, 6, true);
        Check.due("but by day 6", x.mute(), 2);
        x.hush(1, true);
        Check.due("he is hushed", x.mute(), 2 | 8);
        x.hush(2, true);
        Check.due("another, too", x.mute(), 0);
        Check.due("nobody more is hushed", x.ofPerson(0, 2), 0);
        x.back(1);
        Check.due("not by day 5, all", x.mute(), 15);
    }

    private static void refusalsOfToldAndMute() {
        IronRumours none = new IronRumours();
        Check.due("told(4, 0) without a pass", none.told(4, 0), -2);
        Check.due("told(0, 60) without a pass", none.told(0, 60), -2);
        Check.due("told(0, 0) without a pass", none.told(0, 0), -3);
        Check.due("mute() without a pass", none.mute(), -3);
        IronRumours x = Check.withText("it0t1");
        Check.due("told(4, 0)", x.told(4, 0), -2);
        Check.due("told(-1, 0)", x.told(-1, 0), -2);
        Check.due("told(0, 60)", x.told(0, 60), -2);
        Check.due("told(0, -1)", x.told(0, -1), -2);
        Check.due("told(HIGH, LOW)", x.told(HIGH, LOW), -2);
        Check.due("told(3, 59)", x.told(3, 59), 3);
    }

    private static void rows() {
        IronRumours x = Check.withText("it0t0t1t1;021;121;231");
        Check.fill(x, 0, 2, 9, 0, 1, 2, 0, 0, 0, 0, 0, 4);
        x.telling(2, 3, 0);
        x.telling(2, 3, 0);
        x.telling(2, 3, 0);
        Check.due("works", x.works(59), 2);
        Check.due("none", x.rows(0, 0, 2, 1, 0), 0);
        Check.due("none at the end", x.rows(0, 0, 2, 10, 0), 0);
        Check.due("one", x.rows(0, 0, 2, 1, 1), 0);
        Check.due("two", x.rows(0, 0, 2, 1, 2), 0);
        Check.due("three", x.rows(0, 0, 2, 1, 3), 2);
        Check.due("eight", x.rows(3, 0, 2, 1, 8), 2);
        x.law(1);
        Check.due("one by law 1", x.rows(0, 0, 2, 1, 1), 2);
        Check.due("one to a smith", x.rows(2, 0, 2, 3, 1), 2);
        x.hush(2, true);
        Check.due("one to a hushed smith", x.rows(0, 0, 2, 3, 1), 1);
        Check.due("many(2)", x.many(2), 3);
        Check.due("works", x.works(59), 1);
        Check.due("hears(0, 0, 0)", x.hears(0, 0, 0), -9);
        // one a day: the third, on day 2, in fog from there on
        x.hush(2, false);
        x.law(3);
        for (int day = 3; day < 60; day++) {
            x.fog(day, true);
        }
        Check.due("the third on day 2", x.rows(0, 0, 2, 1, 3), 1);
        x.fog(2, true);
        Check.due("in fog", x.rows(0, 0, 2, 1, 3), 0);
        x.fog(59, false);
        Check.due("on the last day", x.rows(0, 0, 2, 1, 3), 2);
    }

    private static void rowsOfLanes() {
        IronRumours x = Check.withText("it1t1");
        x.law(1);
        Check.fill(x, 0, 0, 256, 257);
        Check.due("bytes", x.rows(0, 0, 0, 0, 2), 2);
        Check.fill(x, 0, 1, 256, 257);
        Check.due("shorts", x.rows(0, 0, 1, 0, 2), -1);
        Check.fill(x, 0, 1, 65536, 65537);
        Check.due("shorts that were cut", x.rows(0, 0, 1, 0, 2), 2);
        Check.fill(x, 0, 2, 65536, 65537);
        Check.due("ints", x.rows(0, 0, 2, 0, 2), -1);
    }

    private static void refusalsOfRows() {
        IronRumours x = new IronRumours();
        Check.due("no such sheet", x.rows(4, 4, 3, -1, -1), -1);
        Check.due("no such sheet", x.rows(0, -1, 0, 0, 0), -1);
        Check.due("no such lane", x.rows(0, 0, 3, 0, 0), -2);
        Check.due("no such lane", x.rows(0, 0, -1, 0, 0), -2);
        Check.due("no such thing", x.rows(4, 0, 0, 0, 0), -2);
        Check.due("no such thing", x.rows(-1, 0, 0, 0, 0), -2);
        Check.due("no pass", x.rows(0, 0, 0, -1, -1), -3);
        Check.takeText(x, 3, 0, "it0t1");
        Check.fill(x, 0, 0, 0, 1, 1, 1, 1, 1, 1, 1, 2, -1);
        Check.due("nine", x.rows(0, 0, 0, 0, 9), -2);
        Check.due("ten", x.rows(0, 0, 0, 0, 10), -2);
        x.put(0, 10, 0);
        Check.due("eleven", x.rows(0, 0, 0, 0, 11), -13);
        Check.due("a refusal", x.rows(0, 0, 0, 0, 9), -2);
        Check.due("its fault()", x.fault(), 0);
        Check.due("no such person", x.rows(0, 0, 0, 8, 1), -1);
        Check.due("none below 0", x.rows(0, 0, 0, 9, 1), -1);
        Check.due("the last of eight", x.rows(0, 0, 0, 1, 8), -1);
        Check.due("eight", x.rows(0, 0, 0, 0, 8), 1);
    }

    private static void faultsOfRows() {
        IronRumours x = Check.withText("it0t1");
        Check.due("of nothing", x.rows(0, 0, 0, -1, -1), -11);
        Check.due("fault()", x.fault(), 1);
        Check.fill(x, 0, 0, 1, 1, 1);
        Check.due("of another lane", x.rows(0, 0, 1, -1, -1), -12);
        Check.due("fault()", x.fault(), 2);
        Check.due("of a length below 0", x.rows(0, 0, 0, -1, -1), -14);
        Check.due("fault()", x.fault(), 4);
        Check.due("from -1", x.rows(0, 0, 0, -1, 0), -13);
        Check.due("fault()", x.fault(), 3);
        Check.due("from 4", x.rows(0, 0, 0, 4, 0), -13);
        Check.due("from 3", x.rows(0, 0, 0, 3, 0), 0);
        Check.due("fault()", x.fault(), 0);
        Check.due("one behind the end", x.rows(0, 0, 0, 3, 1), -13);
        Check.due("far behind the end", x.rows(0, 0, 0, 1, HIGH), -13);
        Check.due("farther", x.rows(0, 0, 0, HIGH, HIGH), -13);
        Check.due("least", x.rows(0, 0, 0, LOW, HIGH), -13);
        Check.due("least length", x.rows(0, 0, 0, 0, LOW), -14);
        Check.due("all", x.rows(0, 0, 0, 0, 3), 1);
        Check.due("no such thing", x.rows(4, 0, 0, 0, LOW), -2);
        Check.due("fault()", x.fault(), 0);
    }
}
