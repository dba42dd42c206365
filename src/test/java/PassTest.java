/** Promises 1 to 4 and 34: a new object, the pass by a text, its persons and ways, how many there are. */
public final class PassTest {
    private static final int LOW = Integer.MIN_VALUE;
    private static final int HIGH = Integer.MAX_VALUE;

    private PassTest() {
    }

    public static void main(String[] args) {
        aNewObject();
        textsThatAreTaken();
        firstFaults();
        refusalsAndFaultsOfPass();
        aTextInTheMidstOfASheet();
        makesAllAnew();
        aTextThatIsNotTakenChangesNothing();
        persons();
        ways();
        howMany();
        Check.end("PassTest");
    }

    private static void aNewObject() {
        IronRumours x = new IronRumours();
        for (int what = 0; what < 5; what++) {
            Check.due("new: many(" + what + ")", x.many(what), 0);
        }
        for (int k = 0; k < 4; k++) {
            Check.due("new: lose(" + k + ")", x.lose(k), 0);
        }
        Check.due("new: trace()", x.trace(), 0);
        Check.due("new: fault()", x.fault(), 0);
        Check.due("new: ofPerson(0, 0)", x.ofPerson(0, 0), -1);
        Check.due("new: ofWay(0, 0)", x.ofWay(0, 0), -1);
        Check.due("new: undo(0)", x.undo(0), 0);
        Check.due("new: back(0)", x.back(0), 0);
        Check.due("new: law(3)", x.law(3), -3);
        Check.due("new: fog(0, true)", x.fog(0, true), -3);
        Check.due("new: works(59)", x.works(59), -3);
        Check.due("new: spare()", x.spare(), -3);
        Check.due("new: mute()", x.mute(), -3);
        Check.due("new: told(3, 59)", x.told(3, 59), -3);
    }

    private static void textsThatAreTaken() {
        Check.due("two persons", text("it0t1"), 2);
        Check.due("two persons, one way", text("ij1l0;019"), 2);
        Check.due("six persons", text("it0j0l0t1j1l1"), 6);
        Check.due("six persons, nine ways", text("it0j0l0t1j1l1;001;012;123;234;345;456;557;508;059"), 6);
        Check.due("a way to where it is from", text("it0t1;111"), 2);
        Check.due("bytes", Check.takeText(new IronRumours(), 0, 0, "it0t1;019"), 2);
        Check.due("shorts", Check.takeText(new IronRumours(), 1, 1, "it0t1t0;219"), 3);
        Check.due("ints", Check.takeText(new IronRumours(), 2, 2, "it0t1;019"), 2);
    }

    private static void firstFaults() {
        fault("", 0);
        fault("t0t0", 0);
        fault("I", 0);
        fault("i", 1);
        fault("ii", 1);
        fault("i;", 1);
        fault("is", 1);
        fault("iu", 1);
        fault("it", 2);
        fault("it2", 2);
        fault("it/", 2);
        fault("itt", 2);
        fault("it1", 3);
        fault("it1;", 3);
        fault("it1;001", 3);
        fault("it1x0", 3);
        fault("it1j", 4);
        fault("it1j:", 4);
        fault("it1j0i", 5);
        fault("it1j0 ", 5);
        fault("it1j0k", 5);
        fault("it1j0;", 6);
        fault("it1j0;2", 6);
        fault("it1j0;/", 6);
        fault("it1j0;1", 7);
        fault("it1j0;12", 7);
        fault("it1j0;1;", 7);
        fault("it1j0;11", 8);
        fault("it1j0;110", 8);
        fault("it1j0;11:", 8);
        fault("it1j0;111t", 9);
        fault("it1j0;111t1", 9);
        fault("it1j0;111,", 9);
        fault("it1j0;111;", 10);
        fault("it0t0t0t0t0t0;501;561", 19);
        fault("it0t0t0t0t0t0;561", 15);
        fault("it0t0t0t0t0t0;601", 14);
        fault("it0t0t0t0t0t0t", 13);
        fault("it0t0t0t0t0t0t0", 13);
        fault("it0t0;001;001;001;001;001;001;001;001;001;", 41);
        fault("it0t0;001;001;001;001;001;001;001;001;001;001", 41);
        fault("it0t0;001;001;001;001;001;001;001;001;001t", 41);
        fault("it0t0;001;001;001;001;001;001;001;001;00", 40);
    }

    private static void refusalsAndFaultsOfPass() {
        IronRumours x = new IronRumours();
        Check.due("pass(-1, 3, 0, 0)", x.pass(-1, 3, 0, 0), -1);
        Check.due("pass(4, 0, 0, 0)", x.pass(4, 0, 0, 0), -1);
        Check.due("pass(LOW, 0, 0, 0)", x.pass(LOW, 0, 0, 0), -1);
        Check.due("pass(0, -1, 0, 0)", x.pass(0, -1, 0, 0), -2);
        Check.due("pass(0, 3, -1, -1)", x.pass(0, 3, -1, -1), -2);
        Check.due("pass of nothing", x.pass(0, 0, -1, -1), -11);
        Check.due("fault()", x.fault(), 1);
        x.pass(0, 3, 0, 0);
        Check.due("fault() of a refused call", x.fault(), 0);
        Check.fill(x, 0, 1, 'i', 't', '0', 't', '1');
        Check.due("pass as ints", x.pass(0, 2, -1, -1), -12);
        Check.due("pass as bytes", x.pass(0, 0, 0, 5), -12);
        Check.due("fault()", x.fault(), 2);
        Check.due("pass of a length below 0", x.pass(0, 1, -1, -1), -14);
        Check.due("pass of the least length", x.pass(0, 1, 0, LOW), -14);
        Check.due("fault()", x.fault(), 4);
        Check.due("pass from -1", x.pass(0, 1, -1, 2), -13);
        Check.due("pass from -1, none", x.pass(0, 1, -1, 0), -13);
        Check.due("pass from 6, none", x.pass(0, 1, 6, 0), -13);
        Check.due("pass from 0, six", x.pass(0, 1, 0, 6), -13);
        Check.due("pass from 5, one", x.pass(0, 1, 5, 1), -13);
        Check.due("pass from 1, most", x.pass(0, 1, 1, HIGH), -13);
        Check.due("pass from most, most", x.pass(0, 1, HIGH, HIGH), -13);
        Check.due("pass from least, most", x.pass(0, 1, LOW, HIGH), -13);
        Check.due("fault()", x.fault(), 3);
        Check.due("pass from 5, none", x.pass(0, 1, 5, 0), -100);
        Check.due("fault() of a text not taken", x.fault(), 0);
        Check.due("pass from 0, none", x.pass(0, 1, 0, 0), -100);
        Check.due("pass from 0, four", x.pass(0, 1, 0, 4), -104);
        x.pass(0, 1, 6, 0);
        Check.due("pass", x.pass(0, 1, 0, 5), 2);
        Check.due("fault() of a text taken", x.fault(), 0);
    }

    private static void aTextInTheMidstOfASheet() {
        IronRumours x = new IronRumours();
        Check.fill(x, 2, 2, 0, 0, 'i', 't', '0', 't', '1', ';', '0', '1', '3', ';', '9');
        Check.due("pass(2, 2, 2, 9)", x.pass(2, 2, 2, 9), 2);
        Check.due("ofWay(0, 2)", x.ofWay(0, 2), 3);
        Check.due("pass(2, 2, 2, 10)", x.pass(2, 2, 2, 10), -110);
        Check.due("pass(2, 2, 2, 11)", x.pass(2, 2, 2, 11), -110);
        Check.due("pass(2, 2, 2, 5)", x.pass(2, 2, 2, 5), 2);
        Check.due("many(1)", x.many(1), 0);
        Check.fill(x, 2, 2, 'i' + 256, 't', '0', 't', '1');
        Check.due("an int is not cut to a code", x.pass(2, 2, 0, 5), -100);
        Check.fill(x, 2, 0, 'i' + 256, 't', '0', 't', '1');
        Check.due("a byte is cut to one", x.pass(2, 0, 0, 5), 2);
    }

    private static void makesAllAnew() {
        IronRumours x = Check.withText("it1t1l0;011;121");
        x.telling(0, 0, 0);
        x.telling(1, 0, 0);
        x.law(1);
        x.fog(0, true);
        x.hush(2, true);
        x.reading(0, 0, 0, true);
        x.tell(2);
        int trace = x.trace();
        Check.fill(x, 1, 0, 'i', 't', '1', 't', '1', 't', '1');
        Check.due("pass", x.pass(1, 0, 0, 7), 3);
        Check.due("many(0)", x.many(0), 3);
        Check.due("many(1)", x.many(1), 0);
        Check.due("many(2)", x.many(2), 0);
        Check.due("many(3)", x.many(3), 0);
        Check.due("many(4)", x.many(4), 3);
        Check.due("fog(0, false)", x.fog(0, false), 0);
        Check.due("hush(2, false)", x.hush(2, false), 0);
        Check.due("ofPerson(2, 1)", x.ofPerson(2, 1), 1);
        Check.due("trace()", x.trace(), trace);
        Check.due("cell(1, 0, 0)", x.cell(1, 0, 0), 'i');
        Check.due("cell(3, 0, 2)", x.cell(3, 0, 2), 'i');
        Check.due("hears(0, 0, 0)", x.hears(0, 0, 0), -9);
        Check.due("mute()", x.mute(), 7);
    }

    private static void aTextThatIsNotTakenChangesNothing() {
        IronRumours x = Check.withText("it1l0t1;012;123");
        x.telling(0, 2, 5);
        x.law(1);
        x.fog(5, true);
        x.hush(1, true);
        x.reading(0, 2, 5, false);
        Check.due("a faulty text", Check.takeText(x, 0, 0, "ij0j0j0j0;111;22"), -116);
        Check.due("many(0)", x.many(0), 3);
        Check.due("many(1)", x.many(1), 2);
        Check.due("many(2)", x.many(2), 1);
        Check.due("many(3)", x.many(3), 1);
        Check.due("many(4)", x.many(4), 1);
        Check.due("ofPerson(1, 0)", x.ofPerson(1, 0), 2);
        Check.due("ofPerson(1, 2)", x.ofPerson(1, 2), 1);
        Check.due("ofPerson(0, 1)", x.ofPerson(0, 1), 1);
        Check.due("ofWay(1, 2)", x.ofWay(1, 2), 3);
        Check.due("forges(0, 2)", x.forges(0, 2), 6);
        Check.takeText(x, 0, 0, "il1l1l1;001;001;00");
        Check.due("a text behind a faulty one", Check.takeText(x, 0, 0, "it0t0t0;121"), 3);
        Check.due("many(1)", x.many(1), 1);
        for (int p = 0; p < 3; p++) {
            Check.due("ofPerson(" + p + ", 0)", x.ofPerson(p, 0), 0);
            Check.due("ofPerson(" + p + ", 1)", x.ofPerson(p, 1), 0);
        }
    }

    private static void persons() {
        IronRumours x = Check.withText("it0j1l0");
        x.hush(1, true);
        int[][] due = {{0, 0, 0}, {1, 1, 1}, {2, 0, 0}};
        for (int p = 0; p < 3; p++) {
            for (int what = 0; what < 3; what++) {
                Check.due("ofPerson(" + p + ", " + what + ")", x.ofPerson(p, what), due[p][what]);
            }
        }
        Check.due("ofPerson(3, 3)", x.ofPerson(3, 3), -1);
        Check.due("ofPerson(-1, 0)", x.ofPerson(-1, 0), -1);
        Check.due("ofPerson(HIGH, 0)", x.ofPerson(HIGH, 0), -1);
        Check.due("ofPerson(0, -1)", x.ofPerson(0, -1), -2);
        Check.due("ofPerson(0, 3)", x.ofPerson(0, 3), -2);
        Check.due("ofPerson(2, LOW)", x.ofPerson(2, LOW), -2);
    }

    private static void ways() {
        IronRumours x = Check.withText("it0j1l0;021;219;115");
        int[][] due = {{0, 2, 1}, {2, 1, 9}, {1, 1, 5}};
        for (int w = 0; w < 3; w++) {
            for (int what = 0; what < 3; what++) {
                Check.due("ofWay(" + w + ", " + what + ")", x.ofWay(w, what), due[w][what]);
            }
        }
        Check.due("ofWay(3, 3)", x.ofWay(3, 3), -1);
        Check.due("ofWay(-1, 0)", x.ofWay(-1, 0), -1);
        Check.due("ofWay(LOW, 0)", x.ofWay(LOW, 0), -1);
        Check.due("ofWay(0, 3)", x.ofWay(0, 3), -2);
        Check.due("ofWay(2, -1)", x.ofWay(2, -1), -2);
    }

    private static void howMany() {
        IronRumours x = Check.withText("it0j1l0;021;219");
        x.telling(0, 0, 0);
        x.telling(0, 0, 0);
        x.telling(0, 0, 0);
        x.reading(1, 0, 0, false);
        int[] due = {3, 2, 3, 1, 3};
        for (int what = 0; what < 5; what++) {
            Check.due("many(" + what + ")", x.many(what), due[what]);
        }
        x.law(4);
        Check.due("many(4)", x.many(4), 4);
        Check.due("many(-1)", x.many(-1), -2);
        Check.due("many(5)", x.many(5), -2);
        Check.due("many(HIGH)", x.many(HIGH), -2);
        Check.due("many(LOW)", x.many(LOW), -2);
    }

    private static int text(String text) {
        return Check.takeText(new IronRumours(), 3, 1, text);
    }

    private static void fault(String text, int place) {
        Check.due("first fault of " + text, text(text), -100 - place);
    }
}
