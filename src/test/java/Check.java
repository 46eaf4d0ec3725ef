/** Counts answers that are not as due; shared by the tests of the project. */
final class Check {
    private static int checked = 0;
    private static int wrong = 0;

    private Check() {
    }

    static void due(String what, long got, long want) {
        checked++;
        if (got != want) {
            wrong++;
            System.out.println(what + " answered " + got + ", due is " + want);
        }
    }

    static void due(String what, boolean holds) {
        checked++;
        if (!holds) {
            wrong++;
            System.out.println(what + " does not hold");
        }
    }

    static OunceLetters of(String houses, String terms) {
        OunceLetters x = new OunceLetters();
        type(x, 0, houses);
        type(x, 1, terms);
        return x;
    }

    static void type(OunceLetters x, int text, String bytes) {
        for (int i = 0; i < bytes.length(); i++) {
            x.type(text, bytes.charAt(i));
        }
    }

    static boolean anyWrong() {
        return wrong != 0;
    }

    static void end(String test) {
        System.out.println(test + ": " + checked + " checks, " + wrong + " wrong");
        if (wrong != 0) {
            System.exit(1);
        }
    }
}
