// What every test of the project shares: it counts and prints the answers that are not the due ones.
final class Due {
    private static int wrong = 0;
    private static int asked = 0;

    private Due() {
    }

    static void is(String call, long got, long want) {
        asked++;
        if (got != want) {
            wrong++;
            System.out.println(call + " answered " + got + ", due is " + want);
        }
    }

    static void holds(String claim, boolean truth) {
        asked++;
        if (!truth) {
            wrong++;
            System.out.println("does not hold: " + claim);
        }
    }

    // The test of one sentence of the document. A test that asks nothing would hide that the sentence is untested.
    static void sentence(String words, Runnable test) {
        int askedBefore = asked;
        int wrongBefore = wrong;
        test.run();
        holds("something is asked", asked > askedBefore);
        if (wrong > wrongBefore) {
            System.out.println("^ broken: " + words);
        }
    }

    static void end() {
        if (asked == 0 || wrong != 0) {
            System.out.println(wrong + " of " + asked + " are not as due");
            System.exit(1);
        }
        System.out.println("all " + asked + " are as due");
    }
}
