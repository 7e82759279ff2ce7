/** What the tests of the project share: answers that are due, and texts put on the TAPE. */
final class Due {
    private final String test;
    private int calls = 0;
    private int wrong = 0;

    Due(String test) {
        this.test = test;
    }

    void is(String call, long got, long want) {
        calls++;
        if (got != want) {
            wrong++;
            System.out.println(test + ": " + call + " answered " + got + ", due is " + want);
        }
    }

    void is(String call, boolean got, boolean want) {
        is(call, got ? 1 : 0, want ? 1 : 0);
    }

    /** An ASK's answer, and the FINDING that it leaves. */
    void asks(RingingChamber x, String call, long got, long want, int finding) {
        is(call, got, want);
        is("FINDING of " + call, x.count(6), finding);
    }

    /** Ends the program with 1, if an answer was not the one that is due. */
    void close() {
        System.out.println(test + ": " + calls + " answers, " + wrong + " not as due");
        if (wrong != 0) {
            System.exit(1);
        }
    }

    /** Adds a text to the TAPE; the answer is how many bytes the TAPE has then. */
    static int tell(RingingChamber x, String text) {
        int before = x.count(3);
        for (int from = 0; from < text.length(); from += 20) {
            int[] words = words(text, from);
            x.feed(words[0], words[1], words[2], words[3], words[4]);
        }
        return x.end(before + text.length());
    }

    static int[] words(String text, int from) {
        int[] words = new int[5];
        for (int i = 0; i < 20; i++) {
            int sign = from + i < text.length() ? text.charAt(from + i) : 0;
            words[i / 4] = words[i / 4] << 8 | sign & 255;
        }
        return words;
    }

    /** Makes a text the LEAD of a method; the answer is that of notation. */
    static int lead(RingingChamber x, int m, String text) {
        x.end(0);
        tell(x, text);
        return x.notation(m);
    }

    /** The code of a row or pattern, told by its bells as in notation; - is any bell. */
    static long code(String bells) {
        long code = 0;
        for (int i = bells.length() - 1; i >= 0; i--) {
            code = code * 16 + Math.max(0, "-1234567890ET".indexOf(bells.charAt(i)));
        }
        return code;
    }

    /** The code of a CHANGE, told by the first place of each exchange. */
    static int change(int... places) {
        int code = 0;
        for (int place : places) {
            code += 1 << place - 1;
        }
        return code;
    }
}
