/** Counts and prints the answers that are not as due, with the document's words that they belong to. */
final class Check {
    private static String words = "";
    private static int wrong = 0;
    private static int asked = 0;

    private Check() {
    }

    /** The words of the document that the answers from here on belong to. */
    static void sentence(String quoted) {
        words = "\"" + quoted + "\" ";
    }

    static void same(String call, long got, long want) {
        asked++;
        if (got != want) {
            wrong++;
            System.out.println(words + call + " answered " + got + ", due is " + want);
        }
    }

    static void yes(String what, boolean got) {
        same(what, got ? 1 : 0, 1);
    }

    static void no(String what, boolean got) {
        same(what, got ? 1 : 0, 0);
    }

    static void fails(String call, Class<? extends RuntimeException> due, Runnable body) {
        asked++;
        String got = "nothing";
        try {
            body.run();
        } catch (RuntimeException e) {
            got = e.getClass().getName();
        }
        if (!got.equals(due.getName())) {
            wrong++;
            System.out.println(words + call + " threw " + got + ", due is " + due.getName());
        }
    }

    static void end() {
        System.out.println(asked + " answers asked, " + wrong + " not as due");
        if (wrong != 0 || asked == 0) {
            System.exit(1);
        }
    }
}
