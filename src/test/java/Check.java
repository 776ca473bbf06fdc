/** What all tests of the project share: counting wrong answers and telling them. */
final class Check {
    private int checks;
    private int wrong;

    void is(String call, long got, long want) {
        checks++;
        if (got != want) {
            wrong++;
            if (wrong <= 40) {
                System.out.println(call + " answered " + got + ", due is " + want);
            }
        }
    }

    void holds(String what, boolean so) {
        is(what, so ? 1 : 0, 1);
    }

    int wrong() {
        return wrong;
    }

    void end(String name) {
        System.out.println(name + ": " + checks + " checks, " + wrong + " wrong");
        if (wrong != 0) {
            System.exit(1);
        }
    }

    /** Types a text on THE TAPE; with no check of its own, so that it can be used anywhere. */
    static HoleCounty typed(HoleCounty x, String text) {
        for (int i = 0; i < text.length(); i++) {
            x.type(text.charAt(i));
        }
        return x;
    }

    /** A new county with a GROUND. */
    static HoleCounty county(String ground) {
        HoleCounty x = typed(new HoleCounty(), ground);
        if (x.ground() < 0) {
            throw new IllegalStateException("the test's ground is faulty: " + ground);
        }
        return x;
    }

    static long set(int... cells) {
        long set = 0;
        for (int c : cells) {
            set |= 1L << c;
        }
        return set;
    }
}
