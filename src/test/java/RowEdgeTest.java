import java.util.ArrayList;
import java.util.List;

/** The boundaries of '1 ROWS', of promises 16 to 21 and of patterns (35), for each number of bells. */
public final class RowEdgeTest {
    private static final Sentences S = new Sentences("RowEdgeTest");
    private static final String BELLS = "1234567890ET";
    private static final int[] FACTORIALS = {1, 1, 2, 6, 24, 120, 720, 5040, 40320, 362880, 3628800, 39916800, 479001600};
    /** A row of the greatest order that there is for so many bells, from 4 on. */
    private static final String[] LONGEST = {"2341", "23154", "234561", "2315674", "23156784", "234167895",
        "2145378906", "2145378906E", "231567490ET8"};
    private static final int[] ORDERS = {4, 6, 6, 12, 15, 20, 30, 30, 60};

    public static void main(String[] args) {
        for (int n = 4; n <= 12; n++) {
            changes(n);
            numbers(n);
            noRows(n);
            products(n);
            orders(n);
            patterns(n);
        }
        orderOfFindings();
        S.close();
    }

    private static String rounds(int n) {
        return BELLS.substring(0, n);
    }

    private static String reversed(int n) {
        return new StringBuilder(rounds(n)).reverse().toString();
    }

    /** The row with two neighbours exchanged, the first of them at a place. */
    private static String exchanged(String row, int place) {
        return row.substring(0, place - 1) + row.charAt(place) + row.charAt(place - 1) + row.substring(place + 1);
    }

    private static void changes(int n) {
        String bells = "bells " + n;
        String row = ":" + rounds(n);
        String with = "16, n = " + n + ": ";
        S.holds(with + "0, all stay", bells, "change " + row + " 0 = " + row + " ! 0");
        for (int p = 1; p < n; p++) {
            S.holds(with + "the places " + p + " and " + (p + 1), bells,
                    "change " + row + " " + (1 << p - 1) + " = :" + exchanged(rounds(n), p) + " ! 0");
        }
        S.holds(with + "an exchange beyond place n", bells, "change " + row + " " + (1 << n - 1) + " = 0 ! 8",
                "change " + row + " " + ((1 << n - 1) + 1) + " = 0 ! 8", "change " + row + " " + (1 << n) + " = 0 ! 8");
        for (int p = 1; p < n - 1; p++) {
            S.holds(with + "the place " + (p + 1) + " twice", bells, "change " + row + " " + (3 << p - 1) + " = 0 ! 8");
        }
        S.holds(with + "below 0 and far above", bells, "change " + row + " -1 = 0 ! 8", "change " + row + " min = 0 ! 8",
                "change " + row + " max = 0 ! 8", "change " + row + " " + (1 << 30) + " = 0 ! 8",
                "change " + row + " " + (Integer.MIN_VALUE + 1) + " = 0 ! 8");
    }

    private static void numbers(int n) {
        String bells = "bells " + n;
        int all = FACTORIALS[n];
        String last = ":" + reversed(n);
        String lastButOne = ":" + exchanged(reversed(n), n - 1);
        S.holds("17, n = " + n + ": ROUNDS has 0", bells, "number :" + rounds(n) + " = 0 ! 0");
        S.holds("17, n = " + n + ": the next has 1", bells, "number :" + exchanged(rounds(n), n - 1) + " = 1 ! 0");
        S.holds("17, n = " + n + ": the last ones", bells, "number " + last + " = " + (all - 1) + " ! 0",
                "number " + lastButOne + " = " + (all - 2) + " ! 0");
        S.holds("18, n = " + n + ": 0 is ROUNDS", bells, "ofNumber 0 = :" + rounds(n) + " ! 0");
        S.holds("18, n = " + n + ": the last ones", bells, "ofNumber " + (all - 1) + " = " + last + " ! 0",
                "ofNumber " + (all - 2) + " = " + lastButOne + " ! 0");
        S.holds("18, n = " + n + ": there is none such", bells, "ofNumber " + all + " = 0 ! 2", "ofNumber -1 = 0 ! 2",
                "ofNumber max = 0 ! 2", "ofNumber min = 0 ! 2", "ofNumber " + (all + 1) + " = 0 ! 2");
    }

    /** Codes that are no rows: at every place bell 0, bell n + 1, 15, and a bell that is there already. */
    private static void noRows(int n) {
        List<String> codes = new ArrayList<>();
        long code = Due.code(rounds(n));
        for (int p = 0; p < n; p++) {
            long without = code & ~(15L << 4 * p);
            codes.add("" + without);
            codes.add("" + (without | (n + 1L) << 4 * p));
            codes.add("" + (without | 15L << 4 * p));
            codes.add("" + (without | (p == 0 ? 2L : 1L) << 4 * p));
        }
        for (int bit = 4 * n; bit < 64; bit++) {
            codes.add("" + (code | 1L << bit));
        }
        codes.add("" + -code);
        codes.add("0");
        codes.add("-1");
        codes.add("lmin");
        codes.add("lmax");
        codes.add(":" + rounds(n - 1));
        codes.add(n < 12 ? ":" + rounds(n + 1) : "" + (code | 13L << 48));
        String row = ":" + rounds(n);
        for (String none : codes) {
            S.holds("8, n = " + n + ": no row " + none, "bells " + n, "change " + none + " 0 = 0 ! 8",
                    "number " + none + " = -1 ! 8", "product " + none + " " + row + " = 0 ! 8",
                    "product " + row + " " + none + " = 0 ! 8", "inverse " + none + " = 0 ! 8",
                    "order " + none + " = 0 ! 8", "fits " + none + " 0 = no", "method 0", "text 0 x",
                    "falseness 0 " + none + " = 0 ! 8", "falseness 0 " + row + " = 1 ! 0");
        }
    }

    private static void products(int n) {
        String bells = "bells " + n;
        String row = ":" + rounds(n);
        String last = ":" + reversed(n);
        String turned = ":" + rounds(n).substring(1) + "1";
        String back = ":" + BELLS.charAt(n - 1) + rounds(n - 1);
        S.holds("19, n = " + n, bells, "product " + row + " " + row + " = " + row + " ! 0",
                "product " + last + " " + last + " = " + row + " ! 0", "product " + row + " " + turned + " = " + turned,
                "product " + turned + " " + row + " = " + turned, "product " + turned + " " + back + " = " + row);
        S.holds("20, n = " + n, bells, "inverse " + row + " = " + row + " ! 0", "inverse " + last + " = " + last + " ! 0",
                "inverse " + turned + " = " + back + " ! 0", "inverse " + back + " = " + turned + " ! 0");
    }

    private static void orders(int n) {
        String turned = ":" + rounds(n).substring(1) + "1";
        S.holds("21, n = " + n + ": 1 for ROUNDS", "bells " + n, "order :" + rounds(n) + " = 1 ! 0");
        S.holds("21, n = " + n + ": 2 for an exchange", "bells " + n, "order :" + exchanged(rounds(n), n - 1) + " = 2 ! 0");
        S.holds("21, n = " + n + ": a round of n", "bells " + n, "order " + turned + " = " + n + " ! 0");
        S.holds("21, n = " + n + ": the greatest", "bells " + n,
                "order :" + LONGEST[n - 4] + " = " + ORDERS[n - 4] + " ! 0");
    }

    private static void patterns(int n) {
        String bells = "bells " + n;
        String row = ":" + rounds(n);
        String gap = "-".repeat(n - 1);
        String lastBell = BELLS.substring(n - 1, n);
        String with = "35, n = " + n + ": ";
        S.holds(with + "0 is any bell", bells, "fits " + row + " 0 = yes");
        S.holds(with + "the row itself", bells, "fits " + row + " " + row + " = yes");
        S.holds(with + "bell n at place n", bells, "fits " + row + " :" + gap + lastBell + " = yes");
        S.holds(with + "another bell at place n", bells, "fits " + row + " :" + gap + "1 = no");
        S.holds(with + "bell 1 at place 1", bells, "fits " + row + " 1 = yes", "fits " + row + " 2 = no");
        S.holds(with + "a digit above n", bells, "fits " + row + " " + (n + 1) + " = no", "music " + (n + 1) + " = -1",
                "search 1 0 " + (n + 1) + " 0 = -1", "music " + n + " = 0", "search 1 0 " + n + " 0 = 0");
        S.holds(with + "a digit above n at place n", bells, "music " + (n + 1L << 4 * n - 4) + " = -1",
                "music " + ((long) n << 4 * n - 4) + " = 0");
        S.holds(with + "a digit beyond place n", bells, "fits " + row + " :" + gap + "-1 = no", "music :" + gap + "-1 = -1",
                "search 1 0 :" + gap + "-1 0 = -1");
        for (int bit = 4 * n; bit < 63; bit++) {
            S.holds(with + "bit " + bit, bells, "music " + (1L << bit) + " = -1", "fits " + row + " " + (1L << bit) + " = no");
        }
        S.holds(with + "below 0", bells, "fits " + row + " -1 = no", "fits " + row + " lmin = no", "music -1 = -1",
                "music lmin = -1", "search 1 0 lmin 0 = -1", "fits " + row + " " + -Due.code(rounds(n)) + " = no");
        S.holds(with + "lmax", bells, "fits " + row + " lmax = no", "music lmax = -1", "search 1 0 lmax 0 = -1");
        S.holds(with + "a bell told twice is a pattern, which no row FITS", bells, "music :11 = 0", "fits " + row + " :11 = no",
                "search 1 0 :11 0 = 0");
        S.holds(with + "no row FITS no pattern", bells, "fits 0 -1 = no", "fits lmin lmin = no");
    }

    private static void orderOfFindings() {
        S.holds("19 FINDING 8 of a, then of b", "product 0 0 = 0 ! 8", "product :123456 0 = 0 ! 8",
                "product 0 :123456 = 0 ! 8", "product :123456 :123456 = :123456 ! 0");
        S.holds("16 FINDING 8 of the row and of the CHANGE", "change 0 3 = 0 ! 8", "change :123456 3 = 0 ! 8",
                "change 0 0 = 0 ! 8", "change :123456 0 = :123456 ! 0");
        S.holds("17 -1 with a FINDING, 0 without one", "number 0 = -1 ! 8", "number :123456 = 0 ! 0");
    }
}
