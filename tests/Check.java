/** Holds each answer against the one that is due, and ends the test with exit code 1 if one was otherwise. */
final class Check {
    private int asked = 0;
    private int wrong = 0;
    private String about = "";

    /** What is told ahead of each answer that is otherwise, from now on. */
    void isAbout(String words) {
        about = words;
    }

    void due(String call, long got, long want) {
        asked++;
        if (got != want) {
            wrong++;
            System.out.println(about + call + " answered " + got + ", due is " + want);
        }
    }

    /** Answers of one call with the numbers 0, 1, .. in turn. */
    void dueRow(String call, long[] got, long... want) {
        due(call + ": how many", got.length, want.length);
        for (int i = 0; i < Math.min(got.length, want.length); i++) {
            due(call + " [" + i + "]", got[i], want[i]);
        }
    }

    int howManyAsked() {
        return asked;
    }

    void end() {
        if (wrong != 0 || asked == 0) {
            System.out.println(wrong + " of " + asked + " answers are not as due");
            System.exit(1);
        }
    }

    /** Feeds a text, sign by sign, behind what is there. */
    static int feeds(RefusedTwice x, String text) {
        int last = 0;
        for (int i = 0; i < text.length(); i++) {
            last = x.feed(text.charAt(i));
        }
        return last;
    }

    static int reads(RefusedTwice x, String text) {
        feeds(x, text);
        return x.street();
    }

    /** A new object with people of such kinds and v: kind, v, kind, v, .. */
    static RefusedTwice people(int... kindsAndVs) {
        RefusedTwice x = new RefusedTwice();
        for (int i = 0; i + 1 < kindsAndVs.length; i += 2) {
            x.one(kindsAndVs[i], kindsAndVs[i + 1]);
        }
        return x;
    }
}
