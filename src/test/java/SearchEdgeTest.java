import java.util.ArrayList;
import java.util.Collections;
import java.util.List;

/** The boundaries of '6 A SEARCH' and of promises 37 to 40. */
public final class SearchEdgeTest {
    private static final Sentences S = new Sentences("SearchEdgeTest");
    /** On four bells; one lead of method 0 has eight rows, of which the last is ROUNDS. */
    private static final String[] HUNT = {"bells 4", "method 0", "text 0 x1x1x1x1 = 8", "allow 0 1 = 1"};
    /** On four bells; three leads of method 0 have all 24 rows, of which the last is ROUNDS. */
    private static final String[] MINIMUS = {"bells 4", "method 0", "text 0 x1x1x1x2 = 8", "allow 0 1 = 1"};

    /** On twelve bells: 100 CHANGES, which come round with twelve leads, all their rows different. */
    private static final String TWELVE_LEADS =
            "1278.56x12x1.56.34x10x16x90x18x34x16xETx90x1x14x1x14x5T.10.5Tx1x14x12x10x16x34xET,14";
    /** As MINIMUS, with a SPLICED method 1 and a BOB in method 0; a SEARCH is under way. */
    private static final String[] BUSY = with(MINIMUS, "method 5", "called 0 1 0 0 = 1", "search 3 0 0 5 = 2");

    public static void main(String[] args) {
        allow();
        nothingAllowed();
        passedOver();
        noSteps();
        spentAndGoneOn();
        steps();
        lengths();
        wanted();
        patterns();
        refusedSearch();
        refusedGoOn();
        ended();
        leftBehind();
        lastInOrder();
        calledOnce();
        voidByTelling();
        notVoid();
        voidAnswers();
        found();
        S.close();
    }

    private static String[] with(String[] ahead, String... lines) {
        List<String> all = new ArrayList<>(List.of(ahead));
        Collections.addAll(all, lines);
        return all.toArray(new String[0]);
    }

    private static void allow() {
        String[] made = {"bells 4", "method 0", "method 5", "text 0 xx"};
        for (int bits = 0; bits <= 7; bits++) {
            S.behind(made, "37 the bits " + bits, "allow 0 " + bits + " = " + Integer.bitCount(bits),
                    "allow 1 " + bits + " = " + 2 * Integer.bitCount(bits));
        }
        for (String bits : new String[] {"8", "-1", "max", "min", "15", "256"}) {
            S.behind(made, "37 the bits are not 0 .. 7: " + bits, "allow 0 1 = 1", "allow 0 " + bits + " = -1",
                    "allow 1 0 = 1", "search 1 0 0 9 = 1");
        }
        S.behind(made, "37 there is no such method", "allow 0 3 = 2", "allow 2 1 = -1", "allow -1 1 = -1", "allow max 1 = -1",
                "allow min 1 = -1", "allow 1 0 = 2");
        S.behind(made, "37 at first none is", "search 1 0 0 9 = 0", "allow 1 0 = 0");
        S.behind(made, "37 told anew", "allow 0 7 = 3", "allow 0 2 = 1", "allow 0 0 = 0");
        S.behind(made, "37 bit 1 is CALL 0", "called 0 1 1 2", "called 0 2 1 0", "allow 0 1", "search 1 0 0 9 = 1",
                "found 0 = 0");
        S.behind(made, "37 bit 2 is CALL 1", "called 0 1 1 5", "called 0 2 1 0", "allow 0 2", "search 1 0 0 9 = 1",
                "found 0 = 1");
        S.behind(made, "37 bit 4 is CALL 2", "called 0 1 1 0", "called 0 2 1 5", "allow 0 4", "search 1 0 0 9 = 1",
                "found 0 = 2");
        S.behind(made, "37 a MISSING CALL may be ALLOWED", "allow 0 6 = 2", "search 1 0 0 9 = 0", "trace 0 1 = 2");
        S.behind(made, "37 no ASK", "judge 9 ! 4", "allow 0 1 = 1 ! 4", "allow 0 8 = -1 ! 4");
        List<String> all = new ArrayList<>();
        for (int m = 0; m < 30; m++) {
            all.add("method " + m % 6);
            all.add("allow " + m + " 7 = " + 3 * (m + 1));
        }
        all.add("search 12 0 0 0 = 0");
        S.holds("37 all 90 ITEMS", all.toArray(new String[0]));
    }

    private static void nothingAllowed() {
        for (int length = 1; length <= 12; length += 11) {
            S.holds("6 no ITEM is ALLOWED, length " + length, "method 0", "text 0 xx",
                    "search " + length + " 0 0 0 = 0", "count 5 = 0", "goOn 9 = 0", "found 0 = -1", "trace 0 1 = 0",
                    "search " + length + " 0 0 1000 = 0");
        }
        S.holds("6 there are no methods", "search 1 0 0 1000 = 0", "goOn 1000 = 0", "count 5 = 0", "found 0 = -1");
        S.behind(HUNT, "6 what was ALLOWED is so no longer", "allow 0 0 = 0", "search 1 0 0 1000 = 0", "trace 0 1 = 0");
    }

    private static void passedOver() {
        S.behind(HUNT, "6 with a FINDING 1", "allow 0 2 = 1", "search 1 0 0 0 = 0", "trace 0 1 = 1", "count 5 = 0");
        S.behind(HUNT, "6 with a FINDING 2", "called 0 1 8 0", "allow 0 2", "search 1 0 0 0 = 0", "trace 0 1 = 1");
        S.behind(HUNT, "6 with a FINDING 7", "method 5", "allow 0 0", "allow 1 1", "search 1 0 0 0 = 0", "trace 5 1 = 1");
        S.behind(HUNT, "6 without CHANGES", "cut 0 0", "search 1 0 0 0 = 0", "trace 0 1 = 1", "count 5 = 0");
        S.behind(HUNT, "6 without CHANGES, it is no part of a COMPOSITION", "method 0", "text 1 x", "cut 1 0", "allow 1 1",
                "search 2 0 0 1000 = 0", "search 1 0 0 1000 = 1", "found 0 = 0");
        S.behind(HUNT, "6 the one behind what is passed over", "method 0", "text 1 xx", "allow 0 6", "allow 1 1 = 3",
                "search 1 0 0 9 = 1", "found 0 = 3", "count 5 = 2");
        S.behind(HUNT, "6 its FINDING is not that of an ASK", "allow 0 2", "judge 0 ! 0", "search 1 0 0 9 = 0 ! 0");
        S.behind(HUNT, "6 at one place only, by a PART", "method 4", "method 5", "part 2 1", "part 2 0", "text 1 x", "cut 1 0",
                "allow 0 0", "allow 2 1", "search 1 0 0 9 = 0", "search 2 0 0 9 = 0", "text 1 x", "search 1 0 0 9 = 0",
                "count 5 = 1");
    }

    private static void noSteps() {
        S.behind(HUNT, "6 SPENT at once, when a row is to be rung", "search 1 0 0 0 = 2", "count 5 = 0", "trace 0 1 = 1");
        S.behind(HUNT, "6 no STEPS again", "search 1 0 0 0 = 2", "goOn 0 = 2", "goOn 0 = 2", "count 5 = 0", "trace 0 1 = 1");
        S.behind(HUNT, "6 no STEPS, then enough", "search 1 0 0 0 = 2", "goOn 8 = 1", "count 5 = 8");
        S.behind(HUNT, "6 no STEPS, and nothing found yet", "search 1 0 0 0 = 2", "found 0 = -1");
    }

    private static void spentAndGoneOn() {
        S.behind(HUNT, "6 one STEP too few to find", "search 1 0 0 7 = 2", "count 5 = 7", "found 0 = -1", "goOn 0 = 2",
                "goOn 1 = 1", "count 5 = 8", "found 0 = 0");
        S.behind(HUNT, "6 just enough STEPS to find", "search 1 0 0 8 = 1", "count 5 = 8");
        S.behind(HUNT, "6 one STEP more than enough", "search 1 0 0 9 = 1", "count 5 = 8");
        S.behind(MINIMUS, "6 one STEP too few to find none", "search 2 0 0 15 = 2", "goOn 0 = 2", "goOn 1 = 0", "count 5 = 16");
        S.behind(MINIMUS, "6 just enough STEPS to find none", "search 2 0 0 16 = 0", "count 5 = 16");
        S.behind(MINIMUS, "6 SPENT at an item's end: the next one is looked at", "search 2 0 0 8 = 2", "trace 0 1 = 2",
                "goOn 8 = 0", "trace 0 1 = 2");
        S.behind(MINIMUS, "6 SPENT ahead of an item's end", "search 2 0 0 7 = 2", "trace 0 1 = 1", "goOn 1 = 2", "trace 0 1 = 2");
        List<String> single = new ArrayList<>(List.of("search 3 24 0 0 = 2"));
        for (int step = 1; step < 24; step++) {
            single.add("goOn 1 = 2");
            single.add("count 5 = " + step);
        }
        single.add("goOn 1 = 1");
        S.behind(MINIMUS, "6 STEP by STEP", single.toArray(new String[0]));
        S.behind(HUNT, "6 the last ITEM passed over needs no STEP", "allow 0 3", "search 1 9 0 8 = 0", "trace 0 1 = 2");
    }

    private static void steps() {
        S.behind(MINIMUS, "38 0 steps are taken", "search 3 0 0 0 = 2");
        S.behind(MINIMUS, "38 1000 steps are taken", "search 3 0 0 1000 = 1");
        S.behind(MINIMUS, "38 steps are not 0 .. 1000", "search 3 0 0 -1 = -1", "search 3 0 0 1001 = -1",
                "search 3 0 0 max = -1", "search 3 0 0 min = -1", "goOn 0 = -1", "trace 0 1 = 0");
        S.behind(MINIMUS, "39 0 and 1000 steps are taken", "search 3 0 0 1", "goOn 0 = 2", "goOn 1000 = 1");
        S.behind(MINIMUS, "39 steps are not 0 .. 1000", "search 3 0 0 1", "goOn -1 = -1", "goOn 1001 = -1", "goOn max = -1",
                "goOn min = -1", "count 5 = 1", "goOn 23 = 1");
        String[] wide = {"4x method 0", "text 0 x", "text 1 1", "text 2 12", "text 3 34", "allow 0 1", "allow 1 1",
            "allow 2 1", "allow 3 1 = 4"};
        S.behind(wide, "38 1000 STEPS are done, and no more", "search 12 99 0 1000 = 2", "count 5 = 1000", "goOn 1000 = 2",
                "count 5 = 2000", "goOn 1 = 2", "count 5 = 2001");
    }

    private static void lengths() {
        S.behind(HUNT, "38 LENGTH 1", "search 1 0 0 1000 = 1", "found 0 = 0", "found 1 = -1");
        String[] twelve = {"bells 4", "method 0", "method 4", "method 5", "text 0 x1x", "text 1 1", "part 2 0", "part 2 1",
            "allow 2 1"};
        S.behind(twelve, "38 LENGTH 12", "search 12 0 0 1000 = 0", "search 4 0 0 1000 = 1", "found 3 = 6", "found 4 = -1");
        S.holds("38 LENGTH 12 is found", "bells 12", "method 0", "method 0", "method 5", "text 0 x", "text 1 1", "part 2 0",
                "part 2 1", "allow 2 1 = 1", "search 12 0 0 1000 = 0", "bells 6", "method 0", "method 0", "method 5", "text 0 x",
                "text 1 1", "part 2 0", "part 2 1", "allow 2 1 = 1", "search 12 0 0 1000 = 1", "count 5 = 12", "found 0 = 6",
                "found 11 = 6", "found 12 = -1", "search 11 0 0 1000 = 0");
        S.holds("38 LENGTH 12, of 100 rows each", "bells 12", "method 0", "text 0 " + TWELVE_LEADS + " = 100", "allow 0 1 = 1",
                "search 12 1200 0 1000 = 2", "goOn 199 = 2", "found 11 = -1", "goOn 1 = 1", "count 5 = 1200", "found 11 = 0",
                "search 12 1201 0 1000 = 2", "goOn 200 = 0", "count 5 = 1200");
        for (String length : new String[] {"0", "13", "-1", "max", "min"}) {
            S.behind(MINIMUS, "38 length is not 1 .. 12: " + length, "search " + length + " 0 0 9 = -1", "goOn 1 = -1",
                    "count 5 = 0", "found 0 = -1", "trace 0 1 = 0");
        }
    }

    private static void wanted() {
        S.behind(MINIMUS, "38 wanted 0", "search 3 0 0 1000 = 1", "search 3 0 :4321 1000 = 1");
        S.behind(MINIMUS, "38 wanted is below 0", "search 3 -1 0 1000 = -1", "search 3 min 0 1000 = -1", "goOn 1 = -1");
        S.behind(MINIMUS, "6 just as many as wanted", "search 3 24 0 1000 = 1");
        S.behind(MINIMUS, "6 one too few", "search 3 25 0 1000 = 0", "count 5 = 24");
        S.behind(MINIMUS, "38 the most that can be wanted", "search 3 max 0 1000 = 0");
        S.behind(MINIMUS, "6 ROUNDS as the last row FITS, row 0 does not count", "search 3 1 :1234 1000 = 1",
                "search 3 2 :1234 1000 = 0");
        S.behind(MINIMUS, "6 the first row counts", "search 3 1 :2143 1000 = 1", "search 3 2 :2143 1000 = 0");
        S.behind(MINIMUS, "6 rows of all items count", "search 3 6 :1--- 1000 = 1", "search 3 7 :1--- 1000 = 0");
    }

    private static void patterns() {
        S.behind(MINIMUS, "38 bell n at place n", "search 3 6 :---4 1000 = 1", "search 3 7 :---4 1000 = 0");
        for (String none : new String[] {"5", ":----1", "-1", "lmin", "lmax", ":---5"}) {
            S.behind(MINIMUS, "38 the pattern is none: " + none, "search 3 0 " + none + " 1000 = -1", "goOn 1 = -1",
                    "trace 0 1 = 0");
        }
    }

    private static void refusedSearch() {
        String[] wrongs = {"search 0 0 0 5", "search 13 0 0 5", "search 3 -1 0 5", "search 3 0 5 5", "search 3 0 -1 5",
            "search 3 0 0 -1", "search 3 0 0 1001"};
        for (String wrong : wrongs) {
            S.behind(MINIMUS, "38 the former one stays, SPENT: " + wrong, "search 3 24 0 10 = 2", wrong + " = -1",
                    "count 5 = 10", "goOn 13 = 2", "goOn 1 = 1", "count 5 = 24", "found 2 = 0", "trace 0 1 = 3");
            S.behind(MINIMUS, "38 the former one stays, found: " + wrong, "search 3 0 0 1000 = 1", wrong + " = -1",
                    "found 0 = 0", "found 2 = 0", "found 3 = -1", "goOn 1 = 1", "count 5 = 24");
            S.behind(MINIMUS, "38 the former one stays, none: " + wrong, "search 2 0 0 1000 = 0", wrong + " = -1",
                    "goOn 1 = 0", "count 5 = 16", "found 0 = -1");
            S.behind(MINIMUS, "38 the former one stays, VOID: " + wrong, "search 3 0 0 10 = 2", "method 0", wrong + " = -1",
                    "goOn 1 = -2", "count 5 = 10");
            S.behind(MINIMUS, "38 there is no former one: " + wrong, wrong + " = -1", "goOn 1 = -1", "count 5 = 0");
        }
    }

    private static void refusedGoOn() {
        S.behind(MINIMUS, "39 there is none", "goOn 0 = -1", "goOn 1000 = -1", "goOn -1 = -1");
        S.behind(MINIMUS, "39 there is none, and what is told makes none", "method 0", "goOn 1 = -1");
        S.behind(MINIMUS, "39 -1 is ahead of -2", "search 3 0 0 1", "method 0", "goOn -1 = -1", "goOn 1001 = -1", "goOn 1 = -2");
        S.behind(MINIMUS, "39 no ASK", "judge 9 ! 4", "search 3 0 0 1 = 2 ! 4", "goOn 1 = 2 ! 4", "goOn -1 = -1 ! 4",
                "found 0 = -1 ! 4");
    }

    private static void ended() {
        S.behind(MINIMUS, "39 what it was: found", "search 3 0 0 1000 = 1", "goOn 0 = 1", "goOn 1000 = 1", "count 5 = 24",
                "trace 0 1 = 3");
        S.behind(MINIMUS, "39 what it was: none", "search 2 0 0 1000 = 0", "goOn 0 = 0", "goOn 1000 = 0", "count 5 = 16",
                "trace 0 1 = 2");
        S.behind(MINIMUS, "39 steps are looked at all the same", "search 3 0 0 1000 = 1", "goOn 1001 = -1", "goOn -1 = -1");
        S.behind(MINIMUS, "6 it ends with the first COMPOSITION found", "allow 0 7", "called 0 1 0 5", "search 3 0 0 1000 = 1",
                "found 0 = 0", "found 1 = 0", "found 2 = 0", "count 5 = 24");
        S.behind(MINIMUS, "38 a new one begins from its start", "search 3 0 0 10 = 2", "search 3 0 0 23 = 2", "count 5 = 23",
                "goOn 1 = 1", "trace 0 1 = 5");
    }

    private static void leftBehind() {
        S.behind(HUNT, "6 ROUNDS as the last row of an item that is not the last", "search 2 0 0 1000 = 0", "count 5 = 8",
                "trace 0 1 = 1");
        S.behind(HUNT, "6 ROUNDS in the last item's midst", "text 0 xx1", "search 1 0 0 1000 = 0", "count 5 = 2");
        S.behind(HUNT, "6 a row that is there already, but ROUNDS", "text 0 x1.1x", "search 1 0 0 1000 = 0", "count 5 = 3");
        S.behind(HUNT, "6 a row of an item ahead", "text 0 x1", "called 0 1 0 2", "allow 0 3", "search 2 0 0 1000 = 0",
                "trace 0 1 = 4");
        S.behind(HUNT, "6 behind the last item, if it is not ROUNDS", "text 0 x", "search 1 0 0 1000 = 0", "count 5 = 1");
        S.behind(HUNT, "6 ROUNDS with the first row of the only item", "text 0 1234", "search 1 0 0 1000 = 1", "count 5 = 1",
                "search 1 1 0 1000 = 1", "search 1 2 0 1000 = 0");
        S.behind(HUNT, "6 ROUNDS with the first row, and it is not the last item", "text 0 1234", "search 2 0 0 1000 = 0",
                "count 5 = 1");
        S.behind(HUNT, "6 the last row of the last item is there already, but not ROUNDS", "text 0 x1.1",
                "search 1 0 0 1000 = 0", "count 5 = 3");
    }

    /** Thirty methods; what is sought is made of the very last ITEM alone. */
    private static void lastInOrder() {
        List<String> made = new ArrayList<>(List.of("bells 4", "30x method 0"));
        for (int m = 0; m < 30; m++) {
            made.add("text " + m + " 1 = 1");
            made.add("allow " + m + " 7 = " + 3 * (m + 1));
        }
        made.add("called 29 2 0 5 = 1");
        String[] thirty = made.toArray(new String[0]);
        S.behind(thirty, "6 the last of all COMPOSITIONS", "search 2 1 :2143 1000 = 1", "count 5 = 992", "found 0 = 89",
                "found 1 = 89", "found 2 = -1");
        S.behind(thirty, "6 the last of all COMPOSITIONS, one STEP ahead of it", "search 2 1 :2143 991 = 2", "found 1 = -1",
                "goOn 1 = 1", "found 1 = 89", "trace 0 1 = 180");
        S.behind(thirty, "6 the first of all COMPOSITIONS", "search 2 0 0 1000 = 1", "count 5 = 2", "found 0 = 0", "found 1 = 0");
        S.behind(thirty, "6 one behind all COMPOSITIONS", "search 2 2 :2143 1000 = 0", "count 5 = 992", "goOn 9 = 0");
    }

    private static void calledOnce() {
        S.behind(HUNT, "6 CALLED once for each place, method and CALL", "text 0 x", "method 0", "text 1 1", "allow 0 1",
                "allow 1 1", "search 2 9 0 1000 = 0", "trace 0 1 = 4", "trace 0 0 = 4");
        S.behind(HUNT, "6 CALLED once, with a FINDING too", "text 0 x", "method 0", "text 1 1", "allow 0 3", "allow 1 3",
                "search 2 9 0 1000 = 0", "trace 0 1 = 8");
        S.behind(HUNT, "6 CALLED once, SPENT and gone on", "text 0 x", "search 2 9 0 0 = 2", "trace 0 1 = 1", "goOn 1 = 2",
                "trace 0 1 = 2", "goOn 0 = 2", "goOn 1 = 0", "trace 0 1 = 2");
        S.behind(HUNT, "6 CALLED again in another SEARCH", "text 0 x", "search 1 0 0 9", "search 1 0 0 9", "trace 0 1 = 2");
        S.behind(HUNT, "6 CALLED only when it is come to", "allow 0 7", "search 1 0 0 9 = 1", "trace 0 1 = 1");
        S.behind(HUNT, "6 what is told between two SEARCHES is seen", "search 1 0 0 1000 = 1", "text 0 x1",
                "search 1 0 0 1000 = 0", "count 5 = 2", "search 4 0 0 1000 = 1");
    }

    private static void voidByTelling() {
        String[] tells = {"method 0 = 2", "text 0 x = 1", "text 0 x1x1x1x2 = 8", "cut 0 8 = 8", "cut 0 0 = 0",
            "called 0 1 7 0 = 1", "called 0 1 0 0 = 1", "called 0 2 9 0 = 1", "part 1 0 = 1", "allow 0 1 = 1", "allow 0 0 = 0",
            "allow 1 0 = 1", "allow 1 7 = 4"};
        for (String tell : tells) {
            S.behind(BUSY, "6 VOID by " + tell, "goOn 1 = 2", tell, "goOn 1 = -2", "goOn 0 = -2", "count 5 = 6", "goOn 1000 = -2");
        }
        for (String tell : tells) {
            S.behind(BUSY, "6 a new one is not VOID behind " + tell, tell, "search 1 9 0 0", "goOn -1 = -1", "search 1 0 0 1000",
                    "goOn 1 = 0");
        }
    }

    private static void notVoid() {
        String[] tells = {"method 6 = -1", "method -1 = -1", "notation 0 = -1", "text 0 z = -1", "text 0 x1. = -4",
            "text 0 " + "x".repeat(101) + " = -1000", "notation 1 = 0 ! 3", "notation 2 = 0 ! 4", "cut 0 -1 = 0 ! 6",
            "cut 0 9 = 0 ! 5", "cut 1 0 = 0 ! 3", "cut 2 0 = 0 ! 4", "called 0 0 0 0 = 0 ! 2", "called 0 3 0 0 = 0 ! 2",
            "called 0 1 -1 0 = 0 ! 2", "called 0 1 0 3 = 0 ! 8", "called 1 1 0 0 = 0 ! 9", "called 2 1 0 0 = 0 ! 4",
            "part 0 0 = 0 ! 3", "part 1 1 = 0 ! 3", "part 1 2 = 0 ! 4", "part 2 0 = 0 ! 4", "allow 0 8 = -1", "allow 0 -1 = -1",
            "allow 2 1 = -1", "allow -1 1 = -1", "bells 3 = -1", "bells 13 = -1", "touch 0 0 = 1", "ring = 1", "clear = 1",
            "on 5 = 0", "proof = 1", "ringer 1 no = 3", "tell x = 1", "judge 0 = 1", "lead 0 0 1 0 = 0", "course 0 = 3",
            "search 0 0 0 5 = -1", "goOn 1001 = -1"};
        for (String tell : tells) {
            S.behind(BUSY, "6 not VOID by " + tell, tell, "goOn 0 = 2", "count 5 = 5", "goOn 18 = 2", "goOn 1 = 1", "found 2 = 0");
        }
        S.holds("6 not VOID by a 31st method", "bells 4", "30x method 0", "text 0 x", "allow 0 1", "search 3 0 0 1 = 2",
                "method 0 = -2", "goOn 0 = 2");
        S.holds("6 not VOID by a seventh PART", "bells 4", "method 0", "method 5", "6x part 1 0", "text 0 x", "allow 0 1",
                "search 3 0 0 1 = 2", "part 1 0 = 0 ! 2", "goOn 0 = 2");
        S.holds("6 not VOID by a cut of what is MISSING", "bells 4", "method 0", "method 0", "text 0 x", "allow 0 1",
                "search 3 0 0 1 = 2", "cut 1 0 = 0 ! 1", "goOn 0 = 2");
    }

    private static void voidAnswers() {
        S.behind(MINIMUS, "39 VOID, though it had found", "search 3 0 0 1000 = 1", "method 0", "goOn 1 = -2", "count 5 = 24",
                "found 0 = 0", "found 2 = 0", "found 3 = -1");
        S.behind(MINIMUS, "39 VOID, though there was none", "search 2 0 0 1000 = 0", "method 0", "goOn 1 = -2", "count 5 = 16");
        S.behind(MINIMUS, "39 VOID for good", "search 3 0 0 5 = 2", "allow 0 0", "allow 0 1", "goOn 1 = -2");
        S.behind(MINIMUS, "39 VOID does nothing", "search 3 0 0 5 = 2", "allow 0 1", "goOn 1000 = -2", "count 5 = 5",
                "trace 0 1 = 1");
        S.behind(MINIMUS, "39 bells() leaves none, VOID or not", "search 3 0 0 5 = 2", "allow 0 1", "bells 4", "goOn 1 = -1");
    }

    private static void found() {
        S.behind(MINIMUS, "40 the first and the last ITEM", "search 3 0 0 1000 = 1", "found 0 = 0", "found 2 = 0");
        S.behind(MINIMUS, "40 there is none beyond", "search 3 0 0 1000 = 1", "found 3 = -1", "found -1 = -1", "found max = -1",
                "found min = -1", "found 12 = -1");
        S.behind(MINIMUS, "40 there is none, SPENT", "search 3 0 0 23 = 2", "found 0 = -1");
        S.behind(MINIMUS, "40 there is none, none found", "search 2 0 0 1000 = 0", "found 0 = -1", "found 1 = -1");
        S.behind(MINIMUS, "40 there is none in a new one that is SPENT", "search 3 0 0 1000 = 1", "search 3 0 0 1 = 2",
                "found 0 = -1");
        S.behind(MINIMUS, "40 there is none in a new one that found none", "search 3 0 0 1000 = 1", "search 2 0 0 1000 = 0",
                "found 0 = -1");
        S.behind(HUNT, "40 a shorter one behind a longer one", "text 0 x1", "search 4 0 0 1000 = 1", "found 3 = 0",
                "text 0 xx", "search 1 0 0 1000 = 1", "found 0 = 0", "found 1 = -1", "found 3 = -1");
        S.behind(HUNT, "40 three times the method and the CALL", "allow 0 0", "method 0", "text 1 x1", "called 1 2 1 5",
                "allow 1 4", "search 1 0 0 9 = 1", "found 0 = 5");
    }
}
