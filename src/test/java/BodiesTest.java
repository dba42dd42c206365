/** Promises 29 to 32: tellings of persons, greetings, kinds, the trace. */
public final class BodiesTest {
    private static final int LOW = Integer.MIN_VALUE;
    private static final int HIGH = Integer.MAX_VALUE;

    private static int trace = 0;

    private BodiesTest() {
    }

    public static void main(String[] args) {
        bodies();
        theTraceWraps();
        kinds();
        refusals();
        Check.end("BodiesTest");
    }

    private static void bodies() {
        IronRumours x = Check.withText("it0j1l0t1j0l1");
        trace = 0;
        int[] tells = {0, 101, 104, 3, 104, 110};
        int[] greets = {0, 1, 50, 3, 4, 50};
        int[][] left = {{1}, {2, 1}, {3, 2, 1, 1}, {1}, {2, 1}, {3, 2, 1, 1}};
        for (int p = 0; p < 6; p++) {
            Check.due("tell(" + p + ")", x.tell(p), tells[p]);
            leaves(x, left[p]);
        }
        for (int p = 0; p < 6; p++) {
            Check.due("greet(" + p + ")", x.greet(p), greets[p]);
            leaves(x, p % 3 == 2 ? 5 : 4);
        }
        for (int p = 0; p < 6; p++) {
            x.hush(p, true);
            Check.due("tell(" + p + ") of the hushed", x.tell(p), tells[p]);
            leaves(x, left[p]);
        }
    }

    private static void theTraceWraps() {
        IronRumours x = Check.withText("it0l1");
        trace = 0;
        for (int k = 0; k < 20; k++) {
            x.tell(1);
            leaves(x, 3, 2, 1, 1);
            x.greet(0);
            leaves(x, 4);
        }
    }

    private static void leaves(IronRumours x, int... numbers) {
        for (int number : numbers) {
            trace = (int) (31L * trace + number);
        }
        Check.due("trace()", x.trace(), trace);
    }

    private static void kinds() {
        IronRumours x = Check.withText("it0j1l0");
        for (int p = 0; p < 3; p++) {
            for (int kind = 0; kind < 3; kind++) {
                x.as(0, 0);
                Check.due("as(" + p + ", " + kind + ")", x.as(p, kind), kind <= p ? 1 : -12);
                Check.due("fault()", x.fault(), kind <= p ? 0 : 2);
            }
        }
        Check.due("trace()", x.trace(), 0);
    }

    private static void refusals() {
        IronRumours none = new IronRumours();
        Check.due("tell without a pass", none.tell(0), -1);
        Check.due("greet without a pass", none.greet(0), -1);
        Check.due("as without a pass", none.as(0, 3), -1);
        IronRumours x = Check.withText("it0l1");
        for (int p : new int[] {2, 6, -1, HIGH, LOW}) {
            Check.due("tell(" + p + ")", x.tell(p), -1);
            Check.due("greet(" + p + ")", x.greet(p), -1);
            Check.due("as(" + p + ", 3)", x.as(p, 3), -1);
        }
        Check.due("trace()", x.trace(), 0);
        for (int kind : new int[] {3, -1, HIGH, LOW}) {
            Check.due("as(1, " + kind + ")", x.as(1, kind), -2);
        }
        x.as(0, 1);
        x.as(0, 3);
        Check.due("fault() of a refusal", x.fault(), 0);
        x.as(0, 1);
        x.as(2, 0);
        Check.due("fault() of a refusal", x.fault(), 0);
    }
}
