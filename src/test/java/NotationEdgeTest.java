/** The boundaries of '2 NOTATION' and of promise 6: which byte can stand where, and how long a LEAD is. */
public final class NotationEdgeTest {
    private static final Due DUE = new Due("NotationEdgeTest");
    private static final Sentences S = new Sentences(DUE);
    private static final String PLACES = "1234567890ET";

    public static void main(String[] args) {
        signsAtTheStart();
        signsBehind();
        signsOfTwelve();
        x();
        placesAlone();
        placesBetween();
        wrongPlaces();
        aByteThatLacks();
        dots();
        commas();
        thereAndBack();
        tooLong();
        wrongAndTooLong();
        findings();
        whatStays();
        DUE.close();
    }

    /** Each of the 256 bytes behind a text: the signs told can stand there, and no other can. */
    private static void next(int n, String text, String signs) {
        for (char sign = 0; sign < 256; sign++) {
            RingingChamber x = new RingingChamber();
            x.bells(n);
            x.method(0);
            int answer = Due.lead(x, 0, text + sign);
            boolean stands = answer != -1 - text.length();
            DUE.is("2 byte " + (int) sign + " behind '" + text + "', n = " + n, stands, signs.indexOf(sign) >= 0);
        }
    }

    private static void signsAtTheStart() {
        for (int n = 4; n <= 12; n++) {
            next(n, "", "x" + PLACES.substring(0, n));
        }
    }

    private static void signsBehind() {
        next(6, "x", "x123456,");
        next(6, "1", "x.,246");
        next(6, "2", "x.,35");
        next(6, "5", "x.,6");
        next(6, "6", "x.,");
        next(6, "12", "x.,35");
        next(6, "123456", "x.,");
        next(6, "1.", "123456");
        next(6, "6.", "123456");
        next(6, "x,", "x123456");
        next(6, "1,", "x123456");
        next(6, "x,x", "x123456");
        next(6, "x,1", "x.246");
        next(6, "x,1.", "123456");
        next(6, "x1", "x.,246");
        next(5, "1", "x.,24");
        next(5, "4", "x.,5");
        next(5, "5", "x.,");
        next(4, "3", "x.,4");
    }

    private static void signsOfTwelve() {
        next(12, "9", "x.,0T");
        next(12, "0", "x.,E");
        next(12, "E", "x.,T");
        next(12, "T", "x.,");
        next(11, "9", "x.,0");
        next(11, "0", "x.,E");
        next(11, "E", "x.,");
        next(10, "9", "x.,0");
        next(10, "0", "x.,");
        next(9, "9", "x.,");
    }

    /** The CHANGE that a text tells, by the first place of each exchange. */
    private static void change(String sentence, int n, String text, int... places) {
        S.holds("2 " + sentence + ": " + text + ", n = " + n, "bells " + n, "method 0", "text 0 " + text + " = 1 ! 0",
                "lead 0 0 0 0 = " + Due.change(places) + " ! 0");
    }

    private static void x() {
        String even = "x with all";
        change(even, 4, "x", 1, 3);
        change(even, 6, "x", 1, 3, 5);
        change(even, 8, "x", 1, 3, 5, 7);
        change(even, 10, "x", 1, 3, 5, 7, 9);
        change(even, 12, "x", 1, 3, 5, 7, 9, 11);
        String odd = "x with all but n, if n is odd";
        change(odd, 5, "x", 1, 3);
        change(odd, 7, "x", 1, 3, 5);
        change(odd, 9, "x", 1, 3, 5, 7);
        change(odd, 11, "x", 1, 3, 5, 7, 9);
    }

    /** One told place after another: with an odd number ahead place 1 stays too, behind it place n. */
    private static void placesAlone() {
        for (int n = 4; n <= 12; n++) {
            for (int told = 1; told <= n; told++) {
                int code = 0;
                for (int p = told % 2 == 0 ? 2 : 1; p + 1 < told; p += 2) {
                    code += 1 << p - 1;
                }
                for (int p = told + 1; p + 1 <= n; p += 2) {
                    code += 1 << p - 1;
                }
                S.holds("2 place " + told + " alone, n = " + n, "bells " + n, "method 0",
                        "text 0 " + PLACES.charAt(told - 1) + " = 1", "lead 0 0 0 0 = " + code);
            }
        }
    }

    private static void placesBetween() {
        change("none between", 6, "34", 1, 5);
        change("two between", 6, "14", 2, 5);
        change("four between", 6, "16", 2, 4);
        change("ten between", 12, "1T", 2, 4, 6, 8, 10);
        change("all stay", 4, "1234");
        change("all stay", 5, "12345");
        change("all stay", 12, "1234567890ET");
        change("one ahead, and place 1 stays too", 6, "2", 3, 5);
        change("two ahead", 6, "3", 1, 4);
        change("one behind, and place n stays too", 6, "5", 1, 3);
        change("two behind", 6, "4", 2, 5);
        change("one ahead and one behind", 6, "25", 3);
        change("none ahead and none behind", 5, "145", 2);
        change("odd n, the last one told", 5, "5", 1, 3);
        change("odd n, one behind", 5, "4", 2);
        change("0 is 10", 12, "0", 2, 4, 6, 8, 11);
        change("E is 11", 12, "E", 1, 3, 5, 7, 9);
        change("T is 12", 12, "T", 2, 4, 6, 8, 10);
        change("9 and 0", 12, "90", 1, 3, 5, 7, 11);
        change("0 and E", 12, "0E", 2, 4, 6, 8);
        change("E and T", 12, "ET", 1, 3, 5, 7, 9);
        change("0 E T are told behind 9", 12, "90ET", 1, 3, 5, 7);
    }

    /** Where a text is WRONG; or -1000, if it is TOO LONG. The LEAD and the FINDING are as they were. */
    private static void wrong(String sentence, int n, String text, int place) {
        S.holds("2 WRONG: " + sentence + ": " + text, "bells " + n, "method 0", "text 0 1x = 2",
                "text 0 " + text + " = " + (place < 0 ? place : -1 - place) + " ! 0", "count 3 = 0",
                "lead 0 0 0 1 = " + (n == 4 ? 5 : n == 6 ? 21 : n == 9 ? 85 : n == 10 ? 341 : 1365) + " ! 0",
                "lead 0 0 0 2 = -1 ! 2");
    }

    private static void wrongPlaces() {
        wrong("a place that is the same", 6, "11", 1);
        wrong("a place that is less", 6, "21", 1);
        wrong("a place that is less, with an even number between", 6, "41", 1);
        wrong("a place that is less than the one ahead alone", 6, "142", 2);
        wrong("a place above n", 6, "7", 0);
        wrong("a place above n behind another", 6, "67", 1);
        wrong("a place above n of four", 4, "5", 0);
        wrong("0 of nine", 9, "0", 0);
        wrong("E of ten", 10, "E", 0);
        wrong("T of ten", 10, "T", 0);
        wrong("one place between", 6, "13", 1);
        wrong("three places between", 6, "15", 1);
        wrong("one between, 0 and T", 12, "0T", 1);
        wrong("one between, 9 and E", 12, "9E", 1);
        wrong("one between the second and the third", 6, "124", 2);
        wrong("the first of two", 6, "1z3z", 1);
        wrong("the first of two kinds", 6, "1.24x77", 3);
        wrong("an odd number ahead of a later place, though place 1 could stay", 6, "24", 1);
    }

    private static void aByteThatLacks() {
        wrong("no byte at all", 6, "''", 0);
        wrong("none behind a .", 6, "1.", 2);
        wrong("none behind a ,", 6, "x,", 2);
        wrong("none behind a , and PLACES", 6, "12,", 3);
        wrong("none behind the second block's .", 6, "x,1.", 4);
        wrong("none behind the 300th byte", 6, "x".repeat(299) + ",", 300);
        wrong("none behind the 300th byte, a .", 6, "12.".repeat(100), 300);
    }

    private static void dots() {
        wrong("a . at the start", 6, ".1", 0);
        wrong("a . behind x", 6, "x.1", 1);
        wrong("x behind a .", 6, "1.x", 2);
        wrong("a . behind a .", 6, "1..1", 2);
        wrong("a . behind a ,", 6, "x,.1", 2);
        wrong("a , behind a .", 6, "1.,1", 2);
        S.holds("2 a . between two that are told by PLACES", "method 0", "text 0 1.1 = 2 ! 0", "lead 0 0 0 1 = 10");
        S.holds("2 no . between x and PLACES", "method 0", "text 0 x1x = 3 ! 0", "lead 0 0 0 1 = 10");
        S.holds("2 no . between two x", "method 0", "text 0 xx = 2 ! 0");
        S.holds("2 no . around a ,", "method 0", "text 0 1,2 = 2 ! 0", "lead 0 0 0 0 = 10", "lead 0 0 0 1 = 20");
        S.holds("2 without a . the places are one CHANGE's", "method 0", "text 0 12 = 1 ! 0");
    }

    private static void commas() {
        wrong("a , at the start", 6, ",x", 0);
        wrong("a , behind a ,", 6, "x,,x", 2);
        wrong("a third BLOCK", 6, "x,x,x", 3);
        wrong("a third BLOCK, by PLACES", 6, "1,1,1", 3);
        S.holds("2 one BLOCK is not rung back", "method 0", "text 0 x12 = 2 ! 0", "lead 0 0 0 2 = -1 ! 2");
    }

    private static void thereAndBack() {
        S.holds("2 a BLOCK's last CHANGE is not rung twice", "method 0", "text 0 x1,2.3 = 6 ! 0", "lead 0 0 0 0 = 21",
                "lead 0 0 0 1 = 10", "lead 0 0 0 2 = 21", "lead 0 0 0 3 = 20", "lead 0 0 0 4 = 9",
                "lead 0 0 0 5 = 20", "lead 0 0 0 6 = -1 ! 2");
        S.holds("2 BLOCKS of one CHANGE have no way back", "method 0", "text 0 x,1 = 2 ! 0", "lead 0 0 0 0 = 21",
                "lead 0 0 0 1 = 10", "lead 0 0 0 2 = -1 ! 2");
        S.holds("2 one CHANGE, then two", "method 0", "text 0 x,1x = 4 ! 0", "lead 0 0 0 0 = 21", "lead 0 0 0 1 = 10",
                "lead 0 0 0 2 = 21", "lead 0 0 0 3 = 10", "lead 0 0 0 4 = -1 ! 2");
        S.holds("2 two CHANGES, then one", "method 0", "text 0 x1,2 = 4 ! 0", "lead 0 0 0 2 = 21", "lead 0 0 0 3 = 20",
                "lead 0 0 0 4 = -1 ! 2");
    }

    private static void tooLong() {
        taken("one BLOCK of 100", "x".repeat(100));
        taken("one BLOCK of 100 by PLACES", "12.".repeat(99) + "12");
        taken("50 and 1 there and back", "x".repeat(50) + ",x");
        taken("1 and 50 there and back", "x," + "x".repeat(50));
        taken("25 and 26 there and back", "x".repeat(25) + "," + "1x".repeat(13));
        wrong("one BLOCK of 101", 6, "x".repeat(101), -1000);
        wrong("one BLOCK of 300", 6, "x".repeat(300), -1000);
        wrong("one BLOCK of 150 by PLACES", 6, "1." + "1x".repeat(149), -1000);
        wrong("51 and 1 there and back", 6, "x".repeat(51) + ",x", -1000);
        wrong("1 and 51 there and back", 6, "x," + "x".repeat(51), -1000);
        wrong("26 and 26 there and back", 6, "x".repeat(26) + "," + "1x".repeat(13), -1000);
        wrong("100 and 1 there and back", 6, "x".repeat(100) + ",x", -1000);
        wrong("150 and 149 there and back", 6, "x".repeat(150) + "," + "x".repeat(149), -1000);
    }

    private static void taken(String sentence, String text) {
        S.holds("2 100 CHANGES are not TOO LONG: " + sentence, "method 0", "text 0 " + text + " = 100 ! 0",
                "cut 0 101 = 0 ! 5", "cut 0 100 = 100 ! 0", "lead 0 0 0 100 = -1 ! 2", "lead 0 0 0 99 ! 0");
    }

    private static void wrongAndTooLong() {
        wrong("and more than 100 CHANGES ahead of it", 6, "x".repeat(101) + "z", 101);
        wrong("a byte lacks behind more than 100 CHANGES", 6, "x".repeat(120) + ",", 121);
    }

    private static void findings() {
        S.holds("6 FINDING 4", "method 0", "tell x1", "notation 1 = 0 ! 4", "notation -1 = 0 ! 4", "notation min = 0 ! 4",
                "notation max = 0 ! 4", "notation 30 = 0 ! 4", "count 3 = 2", "notation 0 = 2 ! 0", "count 3 = 0");
        S.holds("6 FINDING 3", "method 5", "tell x1", "notation 0 = 0 ! 3", "count 3 = 2", "method 0",
                "notation 1 = 2 ! 0");
        S.holds("6 a FINDING is ahead of WRONG", "method 5", "tell zz", "notation 0 = 0 ! 3", "notation 1 = 0 ! 4",
                "count 3 = 2", "method 0", "notation 1 = -1 ! 0", "count 3 = 0");
        S.holds("6 a FINDING is ahead of TOO LONG", "method 5", "tell " + "x".repeat(101), "notation 0 = 0 ! 3",
                "count 3 = 101", "method 0", "notation 1 = -1000 ! 0", "count 3 = 0");
        S.holds("6 WRONG is no FINDING, and the one ahead is gone", "method 0", "judge 7 = 0 ! 4", "notation 0 = -1 ! 0");
        S.holds("6 TOO LONG is no FINDING, and the one ahead is gone", "method 0", "tell " + "x".repeat(101),
                "judge 7 = 0 ! 4", "notation 0 = -1000 ! 0");
        for (int kind = 0; kind < 5; kind++) {
            S.holds("6 kind " + kind + " has a LEAD of its own", "method " + kind, "text 0 x1 = 2 ! 0");
        }
    }

    private static void whatStays() {
        S.holds("6 a MISSING LEAD stays MISSING, if the text is WRONG", "method 0", "text 0 x. = -2 ! 0",
                "lead 0 0 0 0 = -1 ! 1");
        S.holds("6 a MISSING LEAD stays MISSING, if it is TOO LONG", "method 0", "text 0 " + "x".repeat(101) + " = -1000",
                "cut 0 0 = 0 ! 1");
        S.holds("6 a LEAD told anew is no longer the old one", "method 0", "text 0 x1x2 = 4", "text 0 3 = 1",
                "lead 0 0 0 0 = 9", "lead 0 0 0 1 = -1 ! 2");
        S.holds("6 a LEAD that was cut to nothing is told anew", "method 0", "text 0 x1", "cut 0 0 = 0 ! 0",
                "text 0 1x1 = 3 ! 0", "lead 0 0 0 2 = 10");
        S.holds("6 another method's LEAD stays", "method 0", "method 0", "text 0 x1", "text 1 2", "lead 0 0 0 1 = 10",
                "lead 1 0 0 0 = 20");
        S.holds("6 a BOB stays", "method 0", "text 0 x1", "called 0 1 1 0", "text 0 xx", "lead 0 0 1 1 = 0");
    }
}
