/** What the tests share: answers that are due, texts fed byte by byte, and the exit code. */
final class Due {
    private int wrong = 0;
    private int asked = 0;

    void is(String call, long got, long want) {
        asked++;
        if (got != want) {
            wrong++;
            if (wrong <= 50) {
                System.out.println(call + " answered " + got + ", due is " + want);
            }
        }
    }

    void holds(String claim, boolean so) {
        is(claim, so ? 1 : 0, 1);
    }

    boolean allRight() {
        return wrong == 0;
    }

    void finish() {
        System.out.println(wrong == 0 ? asked + " answers are as due" : wrong + " of " + asked + " answers are not as due");
        if (wrong != 0) {
            System.exit(1);
        }
    }

    static void feedAll(QuotaLaws x, String text) {
        for (int i = 0; i < text.length(); i++) {
            x.feed(text.charAt(i));
        }
    }

    static QuotaLaws told(String text) {
        QuotaLaws x = new QuotaLaws();
        feedAll(x, text);
        int lines = x.text();
        if (lines < 0) {
            throw new IllegalStateException("a test's own text is not taken: " + text + " " + lines);
        }
        return x;
    }
}
