/** Counts the answers that are not as they are due, and prints each of them. */
final class Due {
    private final String test;
    private int asked = 0;
    private int wrong = 0;

    Due(String test) {
        this.test = test;
    }

    void is(String call, long got, long want) {
        asked++;
        if (got != want) {
            wrong++;
            System.out.println(test + ": " + call + " answered " + got + ", due is " + want);
        }
    }

    /** A new object, to be asked about a sentence of the document, which stands with each wrong answer. */
    Talk on(String sentence) {
        return new Talk(this, sentence);
    }

    /** All nine numbers of conclusion k, in the order that conclusion() tells them. */
    void row(String call, NotionRounds x, int k, int... want) {
        for (int what = 0; what < want.length; what++) {
            is(call + ": conclusion(" + k + ", " + what + ")", x.conclusion(k, what), want[what]);
        }
    }

    void end() {
        System.out.println(test + ": " + asked + " answers asked, " + wrong + " wrong");
        if (wrong > 0 || asked == 0) {
            System.exit(1);
        }
    }
}
