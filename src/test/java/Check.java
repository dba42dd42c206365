/** What the tests share: one way to ask, one way to end, and texts put into sheets. */
final class Check {
    private static int right = 0;
    private static int wrong = 0;

    private Check() {
    }

    static void due(String call, long got, long want) {
        if (got == want) {
            right++;
            return;
        }
        wrong++;
        System.out.println(call + " answered " + got + ", due is " + want);
    }

    static void end(String name) {
        System.out.println(name + ": " + right + " answers as due, " + wrong + " not");
        if (wrong != 0 || right == 0) {
            System.exit(1);
        }
    }

    static int takeText(IronRumours x, int sheet, int lane, String text) {
        x.sheet(sheet, lane, text.length());
        for (int i = 0; i < text.length(); i++) {
            x.put(sheet, i, text.charAt(i));
        }
        return x.pass(sheet, lane, 0, text.length());
    }

    static IronRumours withText(String text) {
        IronRumours x = new IronRumours();
        int persons = takeText(x, 3, 2, text);
        if (persons < 2) {
            due("pass of " + text, persons, 2);
        }
        return x;
    }

    /** A row of ints in a sheet. */
    static void fill(IronRumours x, int sheet, int lane, int... cells) {
        x.sheet(sheet, lane, cells.length);
        for (int i = 0; i < cells.length; i++) {
            x.put(sheet, i, cells[i]);
        }
    }
}
