/** What the tests share: calls told with the answer that is due, and texts fed letter by letter. */
final class Due {
    private int wrong = 0;
    private int asked = 0;

    void is(String call, long want, long got) {
        asked++;
        if (want != got) {
            wrong++;
            System.out.println(call + " answered " + got + ", due is " + want);
        }
    }

    void finish(String name) {
        System.out.println(name + ": " + asked + " answers, " + wrong + " not as due");
        if (wrong != 0) {
            System.exit(1);
        }
    }

    static void type(UpperSteps x, String text) {
        for (int i = 0; i < text.length(); i++) {
            x.feed(text.charAt(i));
        }
    }

    /** Feeds a text and has it told: what text() answers. */
    static int tell(UpperSteps x, String text) {
        type(x, text);
        return x.text();
    }

    /** A new object that has been told a text. */
    static UpperSteps told(String text) {
        UpperSteps x = new UpperSteps();
        tell(x, text);
        return x;
    }
}
