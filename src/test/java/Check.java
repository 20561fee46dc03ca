/** Counts what is as due and what is not; prints the latter. */
final class Check {
    private static int passed;
    private static int failed;

    private Check() {
    }

    static void due(String what, long got, long want) {
        if (got == want) {
            passed++;
        } else {
            failed++;
            System.out.println(what + " answered " + got + ", due is " + want);
        }
    }

    static void isTrue(String what, boolean holds) {
        due(what, holds ? 1 : 0, 1);
    }

    /** Tells the signs of a text; the pad must have room for them. */
    static void tell(SpeakTubes x, String text) {
        x.wipe();
        for (int i = 0; i < text.length(); i++) {
            due("say in " + text, x.say(text.charAt(i)), i + 1);
        }
    }

    static SpeakTubes houseOf(String text) {
        SpeakTubes x = new SpeakTubes();
        tell(x, text);
        due("house of " + text, x.house(), text.length() / 4);
        return x;
    }

    static void end(String test) {
        System.out.println(test + ": " + passed + " answers as due, " + failed + " not");
        if (failed != 0) {
            System.exit(1);
        }
    }
}
