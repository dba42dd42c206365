/** Promises 5 to 9: tellings, the law, fog, who is hushed. */
public final class TellingsTest {
    private static final int LOW = Integer.MIN_VALUE;
    private static final int HIGH = Integer.MAX_VALUE;

    private TellingsTest() {
    }

    public static void main(String[] args) {
        tellingsAreNumbered();
        tellingsAreTakenBack();
        theLaw();
        fog();
        hush();
        Check.end("TellingsTest");
    }

    private static void tellingsAreNumbered() {
        IronRumours none = new IronRumours();
        Check.due("telling without a pass", none.telling(0, 0, 0), -1);
        IronRumours x = Check.withText("it1t1t0");
        Check.due("telling(3, 4, 60)", x.telling(3, 4, 60), -1);
        Check.due("telling(-1, 0, 0)", x.telling(-1, 0, 0), -1);
        Check.due("telling(LOW, 0, 0)", x.telling(LOW, 0, 0), -1);
        Check.due("telling(0, 4, 0)", x.telling(0, 4, 0), -2);
        Check.due("telling(0, -1, 0)", x.telling(0, -1, 0), -2);
        Check.due("telling(0, 0, 60)", x.telling(0, 0, 60), -2);
        Check.due("telling(0, 0, -1)", x.telling(0, 0, -1), -2);
        Check.due("telling(0, HIGH, HIGH)", x.telling(0, HIGH, HIGH), -2);
        Check.due("many(2)", x.many(2), 0);
        for (int k = 0; k < 8; k++) {
            Check.due("telling " + k, x.telling(k % 3, k % 4, 59 - k), k);
        }
        Check.due("a ninth", x.telling(0, 0, 0), -4);
        Check.due("a ninth, outside", x.telling(0, 4, 0), -2);
        Check.due("a ninth, of nobody", x.telling(3, 0, 0), -1);
        for (int k = 0; k < 8; k++) {
            Check.due("hears of " + k, x.hears(k % 3, k % 4, k), 59 - k);
        }
    }

    private static void tellingsAreTakenBack() {
        IronRumours x = Check.withText("it1t1");
        for (int k = 0; k < 5; k++) {
            x.telling(0, 0, 10 + k);
        }
        Check.due("undo(6)", x.undo(6), -2);
        Check.due("undo(-1)", x.undo(-1), -2);
        Check.due("undo(LOW)", x.undo(LOW), -2);
        Check.due("undo(HIGH)", x.undo(HIGH), -2);
        Check.due("undo(0)", x.undo(0), 5);
        Check.due("undo(2)", x.undo(2), 3);
        Check.due("many(2)", x.many(2), 3);
        Check.due("the third is left", x.hears(0, 0, 2), 12);
        Check.due("the fourth is not", x.hears(0, 0, 3), -9);
        Check.due("its path", x.path(0, 0, 3), -9);
        Check.due("the next one", x.telling(1, 1, 1), 3);
        Check.due("has its origin", x.hears(1, 1, 3), 1);
        Check.due("undo(4)", x.undo(4), 0);
        Check.due("count", x.count(0, 0, 59), 0);
    }

    private static void theLaw() {
        IronRumours x = new IronRumours();
        Check.due("law(0) without a pass", x.law(0), -2);
        Check.due("law(4) without a pass", x.law(4), -3);
        x = Check.withText("it1t1");
        Check.due("law(0)", x.law(0), -2);
        Check.due("law(5)", x.law(5), -2);
        Check.due("law(LOW)", x.law(LOW), -2);
        Check.due("law(1)", x.law(1), 3);
        Check.due("law(4)", x.law(4), 1);
        Check.due("law(4)", x.law(4), 4);
        for (int k = 0; k < 4; k++) {
            x.telling(0, 0, 2 * k);
        }
        for (int v = 4; v > 0; v--) {
            x.law(v);
            Check.due("forges by law " + v, x.forges(0, 0), 2 * (v - 1));
        }
    }

    private static void fog() {
        IronRumours x = new IronRumours();
        Check.due("fog(60) without a pass", x.fog(60, true), -2);
        Check.due("fog(0) without a pass", x.fog(0, false), -3);
        x = Check.withText("it1t1");
        Check.due("fog(-1, true)", x.fog(-1, true), -2);
        Check.due("fog(60, false)", x.fog(60, false), -2);
        Check.due("fog(HIGH, false)", x.fog(HIGH, false), -2);
        Check.due("fog(0, false)", x.fog(0, false), 0);
        Check.due("fog(0, true)", x.fog(0, true), 1);
        Check.due("fog(0, true)", x.fog(0, true), 0);
        Check.due("fog(59, true)", x.fog(59, true), 1);
        Check.due("fog(32, true)", x.fog(32, true), 1);
        Check.due("fog(0, false)", x.fog(0, false), 1);
        Check.due("fog(32, false)", x.fog(32, false), 1);
        Check.due("fog(59, false)", x.fog(59, false), 1);
        Check.due("fog(59, false)", x.fog(59, false), 0);
    }

    private static void hush() {
        IronRumours x = new IronRumours();
        Check.due("hush without a pass", x.hush(0, true), -1);
        x = Check.withText("it1t1;011");
        x.telling(0, 0, 0);
        Check.due("hush(2, true)", x.hush(2, true), -1);
        Check.due("hush(-1, true)", x.hush(-1, true), -1);
        Check.due("hush(LOW, true)", x.hush(LOW, true), -1);
        Check.due("hush(0, false)", x.hush(0, false), 0);
        Check.due("hush(0, true)", x.hush(0, true), 1);
        Check.due("hush(0, true)", x.hush(0, true), 0);
        Check.due("ofPerson(0, 2)", x.ofPerson(0, 2), 1);
        Check.due("ofPerson(1, 2)", x.ofPerson(1, 2), 0);
        Check.due("he hears it all the same", x.hears(0, 0, 0), 0);
        Check.due("nobody hears it from him", x.hears(1, 0, 0), -9);
        Check.due("hush(1, true)", x.hush(1, true), 1);
        Check.due("hush(0, false)", x.hush(0, false), 1);
        Check.due("he is heard again", x.hears(1, 0, 0), 1);
    }
}
