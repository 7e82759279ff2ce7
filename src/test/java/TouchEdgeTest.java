import java.util.ArrayList;
import java.util.Collections;
import java.util.List;

/** The boundaries of '5 A TOUCH' and of promises 22 to 34 and 36. */
public final class TouchEdgeTest {
    private static final Sentences S = new Sentences("TouchEdgeTest");
    /** On twelve bells: 100 CHANGES, which come round with 20 leads, all their 2000 rows different. */
    private static final String TWO_THOUSAND =
            "x36xETx34x5Tx1x18x36x10x1x36x5Tx1x1236x78x1x12x78xETx18x12x10x12x1x14x1236,5T";
    /** On twelve bells: 28 CHANGES, which come round with 60 leads, all their 1680 rows different. */
    private static final String SIXTY_LEADS = "12.10.16.1T.16.34x1x10x18xET,1236";
    /** On four bells; method 0 is plain hunting, which comes round with four leads. */
    private static final String[] HUNT = {"bells 4", "method 0", "text 0 x1 = 2"};

    public static void main(String[] args) {
        items();
        clear();
        ring();
        on();
        comingRound();
        itemsWithoutChanges();
        itemsEnd();
        itemsBegin();
        itemsWithFindings();
        rowTwoThousand();
        twoThousandTrueRows();
        at();
        falseAt();
        proof();
        proofAtAndForge();
        check();
        ringer();
        heard();
        music();
        S.close();
    }

    private static String[] with(String[] ahead, String... lines) {
        List<String> all = new ArrayList<>(List.of(ahead));
        Collections.addAll(all, lines);
        return all.toArray(new String[0]);
    }

    private static void items() {
        S.behind(HUNT, "22 FINDING 4 is first", "touch 1 3 = 0 ! 4", "touch -1 -1 = 0 ! 4", "touch 1 0 = 0 ! 4",
                "count 2 = 0");
        S.behind(HUNT, "22 FINDING 2: call is not 0 .. 2", "touch 0 3 = 0 ! 2", "touch 0 -1 = 0 ! 2", "touch 0 max = 0 ! 2",
                "touch 0 min = 0 ! 2", "count 2 = 0", "on 1 = 0 ! 0");
        S.behind(HUNT, "22 calls 0, 1, 2 are taken, MISSING or not", "touch 0 0 = 1 ! 0", "touch 0 1 = 2 ! 0",
                "touch 0 2 = 3 ! 0", "trace 0 1 = 0");
        S.behind(HUNT, "22 the 100th is taken", "99x touch 0 0", "touch 0 0 = 100 ! 0", "count 2 = 100");
        S.behind(HUNT, "22 FINDING 2: there are 100", "100x touch 0 0", "touch 0 0 = 0 ! 2", "touch 0 2 = 0 ! 2",
                "touch 0 3 = 0 ! 2", "count 2 = 100", "touch 1 0 = 0 ! 4");
        S.behind(HUNT, "22 the 100th is rung, and no 101st", "text 0 x", "method 0", "text 1 34", "touch 0 0",
                "99x touch 1 0", "touch 1 0 = 0 ! 2", "on 1000 = 100 ! 0", "trace 0 1 = 100", "at 100 = :1243", "at 101 = 0");
        S.behind(HUNT, "22 clear() makes room for 100 again", "100x touch 0 0", "clear = 1", "99x touch 0 0",
                "touch 0 0 = 100 ! 0", "touch 0 0 = 0 ! 2");
        S.behind(HUNT, "22 ring() makes no room", "100x touch 0 0", "ring = 1", "touch 0 0 = 0 ! 2");
        S.holds("22 a SPLICED without PARTS is taken", "method 5", "touch 0 0 = 1 ! 0");
        S.behind(HUNT, "22 a touch that has come round takes more", "text 0 xx", "touch 0 0", "on 9 = 2", "touch 0 0 = 2 ! 0");
    }

    private static void clear() {
        S.behind(HUNT, "23 of an empty touch", "clear = 1", "count 2 = 0", "at 0 = :1234", "at 1 = 0");
        S.behind(HUNT, "23 of one that came round", "4x touch 0 0", "on 9 = 8", "clear = 1", "count 2 = 0", "round = -1",
                "at 0 = :1234", "at 1 = 0", "at 8 = 0", "music 0 = 0", "on 9 = 0 ! 0", "touch 0 0 = 1", "on 9 = 2 ! 0");
        S.behind(HUNT, "23 of one that is false", "text 0 x1.1", "touch 0 0", "on 9 = 3", "falseAt = 30001", "clear = 1",
                "falseAt = -1", "proof = 1");
        S.behind(HUNT, "23 of one that stopped", "touch 0 1", "on 9 = 0 ! 1", "clear = 1", "touch 0 0", "on 9 = 2 ! 0");
        S.behind(HUNT, "23 in an item's midst", "touch 0 0", "on 1 = 1", "clear = 1", "on 9 = 0 ! 0", "touch 0 0", "on 1 = 1",
                "at 1 = :2143");
        S.behind(HUNT, "23 the PROOF stays, and the ringers", "touch 0 0", "on 9 = 2", "proof = 3", "ringer 1 no = 3",
                "clear = 1", "count 4 = 3", "proofAt 2 = 10", "check = no", "heard 0 = :234", "ringer 2 yes = 3");
        S.behind(HUNT, "23 no ASK", "judge 9 ! 4", "clear = 1 ! 4");
    }

    private static void ring() {
        S.behind(HUNT, "24 of an empty touch", "ring = 1", "at 0 = :1234", "at 1 = 0");
        S.behind(HUNT, "24 of one that came round", "4x touch 0 0", "on 9 = 8", "ring = 1", "count 2 = 4", "round = -1",
                "at 0 = :1234", "at 1 = 0", "on 9 = 8 ! 0", "round = 8");
        S.behind(HUNT, "24 of one that is false", "text 0 x1.1", "touch 0 0", "on 9 = 3", "ring = 1", "falseAt = -1",
                "on 2 = 2", "falseAt = -1", "on 1 = 3", "falseAt = 30001");
        S.behind(HUNT, "24 of one that stopped: it is found again", "touch 0 1", "on 9 = 0 ! 1", "on 9 = 0 ! 0", "ring = 1",
                "on 9 = 0 ! 1", "on 9 = 0 ! 0");
        S.behind(HUNT, "24 in an item's midst: from its first CHANGE", "touch 0 0", "on 1 = 1", "ring = 1", "on 1 = 1",
                "at 1 = :2143", "on 9 = 2");
        S.behind(HUNT, "24 the items' methods as they are then", "touch 0 0", "on 9 = 2", "text 0 12", "ring = 1",
                "on 9 = 1 ! 0", "at 1 = :1243");
        S.behind(HUNT, "24 the PROOF stays", "touch 0 0", "on 9 = 2", "proof = 3", "ring = 1", "count 4 = 3", "check = no");
        S.behind(HUNT, "24 no ASK", "judge 9 ! 4", "ring = 1 ! 4");
    }

    private static void on() {
        String[] long_ = {"bells 12", "method 0", "text 0 " + TWO_THOUSAND, "19x touch 0 0"};
        S.behind(long_, "25 0 is taken", "on 0 = 0 ! 0", "trace 0 1 = 0", "at 1 = 0");
        S.behind(long_, "25 1000 is taken", "on 1000 = 1000 ! 0", "at 1000 ! 0", "at 1001 = 0", "trace 0 1 = 10");
        S.behind(long_, "25 FINDING 2: 1001", "on 1001 = 0 ! 2", "at 1 = 0", "on 7 = 7 ! 0", "on 1001 = 7 ! 2", "at 8 = 0");
        S.behind(long_, "25 FINDING 2: -1", "on -1 = 0 ! 2", "at 1 = 0", "on 7 = 7 ! 0", "on -1 = 7 ! 2", "at 8 = 0",
                "at 7 ! 2");
        S.behind(long_, "25 FINDING 2: far away", "on max = 0 ! 2", "on min = 0 ! 2", "trace 0 1 = 0");
        S.behind(long_, "25 FINDING 2 behind 2000 rows", "touch 0 0", "on 1000 = 1000", "on 1000 = 2000", "on 1001 = 2000 ! 2",
                "on 1000 = 2000 ! 0");
        S.behind(long_, "25 one row", "on 1 = 1 ! 0", "at 1 = :2143658709TE", "at 2 = 0");
        S.behind(long_, "25 0 changes nothing midway", "on 5 = 5", "on 0 = 5 ! 0", "at 6 = 0", "on 1 = 6 ! 0");
        S.behind(HUNT, "25 as many as come", "touch 0 0", "on 1000 = 2 ! 0", "on 1 = 2 ! 0");
        S.behind(HUNT, "25 no ITEMS: none come", "on 1000 = 0 ! 0");
    }

    private static void comingRound() {
        S.behind(HUNT, "5 with row 1", "text 0 1234", "touch 0 0", "on 9 = 1 ! 0", "round = 1", "falseAt = -1", "proof = 1",
                "at 1 = :1234");
        S.behind(HUNT, "5 at an item's end: the next does not begin", "text 0 xx", "touch 0 0", "touch 0 1", "on 9 = 2 ! 0",
                "round = 2", "trace 0 1 = 1", "on 9 = 2 ! 0", "trace 0 1 = 1");
        S.behind(HUNT, "5 in an item's midst: the rest is not rung", "text 0 xx12", "touch 0 0", "on 9 = 2 ! 0", "round = 2",
                "on 9 = 2 ! 0", "at 3 = 0");
        S.behind(HUNT, "5 for good, though there are more ITEMS", "text 0 xx", "touch 0 0", "on 9 = 2", "touch 0 0 = 2",
                "on 9 = 2 ! 0", "round = 2");
        S.behind(HUNT, "5 just with the last row wanted", "text 0 xx", "touch 0 0", "on 2 = 2 ! 0", "round = 2",
                "on 1 = 2 ! 0");
        S.behind(HUNT, "5 not with row 0", "touch 0 0", "round = -1", "on 0 = 0", "round = -1", "on 1 = 1", "round = -1");
        S.behind(HUNT, "27 not yet", "4x touch 0 0", "on 7 = 7", "round = -1", "on 1 = 8", "round = 8");
        S.behind(HUNT, "27 it did not, at the ITEMS' end", "3x touch 0 0", "on 9 = 6", "round = -1");
    }

    private static void itemsWithoutChanges() {
        String[] empty = with(HUNT, "method 0", "text 1 x", "cut 1 0 = 0");
        S.behind(empty, "5 alone: it gives none", "touch 1 0", "on 5 = 0 ! 0", "trace 0 1 = 1", "on 5 = 0 ! 0", "trace 0 1 = 1");
        S.behind(empty, "5 ahead: the next begins", "touch 1 0", "touch 0 0", "on 1 = 1 ! 0", "at 1 = :2143", "trace 0 1 = 2");
        S.behind(empty, "5 between", "touch 0 0", "touch 1 0", "touch 0 0", "on 3 = 3 ! 0", "at 3 = :4231", "trace 0 1 = 3");
        S.behind(empty, "5 behind: it begins only when a row more is wanted", "touch 0 0", "touch 1 0", "on 2 = 2 ! 0",
                "trace 0 1 = 1", "on 1 = 2 ! 0", "trace 0 1 = 2");
        S.behind(empty, "5 a hundred of them", "100x touch 1 0", "on 1 = 0 ! 0", "trace 0 1 = 100", "on 1000 = 0 ! 0",
                "trace 0 1 = 100");
        S.behind(empty, "5 ninety-nine, and one row", "99x touch 1 0", "touch 0 0 = 100", "on 1 = 1 ! 0", "trace 0 1 = 100",
                "at 1 = :2143", "on 1000 = 2 ! 0");
        S.behind(empty, "5 one with a FINDING behind them", "touch 1 0", "touch 1 1", "on 1 = 0 ! 1", "trace 0 1 = 2");
    }

    private static void itemsEnd() {
        S.behind(HUNT, "5 it waits for more", "touch 0 0", "on 9 = 2 ! 0", "on 9 = 2 ! 0", "touch 0 0", "on 9 = 4 ! 0",
                "at 3 = :4231", "at 4 = :4321");
        S.behind(HUNT, "5 just at the end, it waits for more", "touch 0 0", "on 2 = 2 ! 0", "touch 0 0", "on 1 = 3 ! 0");
        S.behind(HUNT, "5 an empty touch waits for more", "on 9 = 0 ! 0", "touch 0 0", "on 9 = 2 ! 0");
        S.behind(HUNT, "5 the number of a later item goes on", "method 4", "method 5", "text 1 12", "part 2 0", "part 2 1",
                "touch 0 0", "on 9 = 2", "touch 2 0", "on 9 = 3 ! 0", "trace 4 1 = 1", "touch 2 0", "on 9 = 5 ! 0",
                "trace 4 1 = 1");
    }

    private static void itemsBegin() {
        S.behind(HUNT, "5 an item begins only when a row more is wanted", "touch 0 0", "touch 0 0", "on 2 = 2", "trace 0 1 = 1",
                "on 0 = 2", "trace 0 1 = 1", "on 1 = 3", "trace 0 1 = 2");
        S.behind(HUNT, "5 its method as that is then", "touch 0 0", "touch 0 0", "on 2 = 2", "text 0 34", "on 1 = 3",
                "at 3 = :4213");
        S.behind(HUNT, "5 what has begun goes on as it was", "touch 0 0", "on 1 = 1", "text 0 34.34.34", "on 9 = 2 ! 0",
                "at 2 = :2413");
        S.behind(HUNT, "5 what has begun is not cut", "touch 0 0", "on 1 = 1", "cut 0 0", "on 9 = 2 ! 0");
        S.behind(HUNT, "5 its BOB as that is then", "touch 0 1", "touch 0 1", "called 0 1 1 0", "on 2 = 2 ! 0", "at 2 = :2143",
                "called 0 1 0 0", "on 1 = 3 ! 0", "at 3 = :2143");
    }

    private static void itemsWithFindings() {
        S.behind(HUNT, "5 FINDING 1, the BOB", "touch 0 1", "touch 0 0", "on 9 = 0 ! 1", "on 9 = 0 ! 0", "round = -1");
        S.behind(HUNT, "5 FINDING 1, the LEAD", "method 0", "touch 0 0", "touch 1 0", "on 9 = 2 ! 1", "on 9 = 2 ! 0");
        S.behind(HUNT, "5 FINDING 2, its place", "called 0 1 2 0", "touch 0 0", "touch 0 1", "on 9 = 2 ! 2", "on 9 = 2 ! 0");
        S.behind(HUNT, "5 FINDING 7", "method 5", "touch 0 0", "touch 1 0", "on 9 = 2 ! 7", "on 9 = 2 ! 0");
        S.behind(HUNT, "5 not found, before it begins", "touch 0 0", "touch 0 1", "on 2 = 2 ! 0", "on 0 = 2 ! 0", "on 1 = 2 ! 1");
        S.behind(HUNT, "5 it stops for good, though it is mended", "touch 0 1", "on 9 = 0 ! 1", "called 0 1 0 0",
                "on 9 = 0 ! 0", "touch 0 0", "on 9 = 0 ! 0", "ring", "on 9 = 1 ! 0");
        S.behind(HUNT, "5 the rows ahead of it stay", "touch 0 0", "touch 0 1", "on 9 = 2 ! 1", "at 2 = :2413", "at 3 = 0",
                "falseAt = -1", "proof = 3", "check = yes");
        S.behind(HUNT, "25 the FINDING is gone with the next ASK", "touch 0 1", "on 9 = 0 ! 1", "number :1234 = 0 ! 0");
        S.behind(HUNT, "25 on(0) begins nothing and finds nothing", "touch 0 1", "on 0 = 0 ! 0", "trace 0 1 = 0");
        S.behind(HUNT, "25 FINDING 2 is ahead of what an item finds", "touch 0 1", "on 1001 = 0 ! 2", "trace 0 1 = 0",
                "on 1000 = 0 ! 1");
    }

    private static void rowTwoThousand() {
        String many = "34.".repeat(99) + "34";
        String[] made = {"bells 4", "method 0", "method 0", "text 0 x", "text 1 " + many + " = 100"};
        S.behind(made, "5 row 2000 is rung, none behind it", "touch 0 0", "30x touch 1 0", "on 1000 = 1000 ! 0",
                "on 999 = 1999 ! 0", "at 1999 = :2143", "at 2000 = 0", "on 1 = 2000 ! 0", "at 2000 = :1243", "on 1 = 2000 ! 0",
                "on 1000 = 2000 ! 0", "at 2001 = 0", "round = -1", "falseAt = 30001");
        S.behind(made, "5 of 1000 only as many as come to 2000", "touch 0 0", "30x touch 1 0", "on 1000", "on 500 = 1500",
                "on 1000 = 2000 ! 0", "at 2001 = 0", "music 0 = 2000", "heard 2000 = :1243", "heard 2001 = 0");
        S.behind(made, "5 for good with row 2000, though there are more ITEMS", "touch 0 0", "20x touch 1 0",
                "on 1000", "on 1000 = 2000", "touch 0 0", "on 9 = 2000 ! 0");
        S.behind(made, "5 behind row 2000 no item begins", "text 0 x" + "34.".repeat(98) + "34 = 100", "touch 0 0",
                "19x touch 1 0", "touch 1 1 = 21", "on 1000", "on 1000 = 2000 ! 0", "on 1 = 2000 ! 0", "trace 0 1 = 20");
        S.behind(made, "5 ring() begins anew behind row 2000", "touch 0 0", "30x touch 1 0", "on 1000", "on 1000 = 2000",
                "ring = 1", "at 1 = 0", "on 1000 = 1000 ! 0", "on 1000 = 2000");
        S.behind(made, "5 row 2000 is ROUNDS", "method 0", "text 2 " + "34.".repeat(97) + "34 = 98", "touch 0 0",
                "19x touch 1 0", "touch 2 0", "touch 0 0", "on 1000 = 1000", "on 1000 = 2000 ! 0", "at 2000 = :1234",
                "round = 2000", "falseAt = 30001", "proof = -1");
    }

    private static void twoThousandTrueRows() {
        String[] made = {"bells 12", "method 0", "text 0 " + TWO_THOUSAND + " = 100"};
        S.behind(made, "5 2000 rows, the last of them ROUNDS, are TRUE", "20x touch 0 0", "on 1000", "on 999 = 1999",
                "round = -1", "falseAt = -1", "proof = 2000", "on 1 = 2000 ! 0", "round = 2000", "falseAt = -1", "check = yes",
                "proof = 2000", "count 4 = 2000", "proofAt 0 = 0", "proofAt 2000 = -1", "check = yes");
        S.behind(made, "5 2000 rows, the last of them not ROUNDS, are TRUE", "method 0", "text 1 1", "touch 1 0",
                "20x touch 0 0", "on 1000", "on 1000 = 2000", "round = -1",
                "falseAt = -1", "proof = 2001", "proofAt 2000 ! 0", "proofAt 2001 = -1", "check = yes");
        S.behind(made, "28 row 2000 is row 320", "method 0", "method 0", "text 1 " + TWO_THOUSAND, "cut 1 20 = 20",
                "text 2 " + SIXTY_LEADS, "touch 1 0", "3x touch 0 0", "60x touch 2 0", "on 1000", "on 999 = 1999",
                "falseAt = -1", "proof = 2000", "on 1 = 2000", "falseAt = 20000320", "proof = -1", "check = no");
    }

    private static void at() {
        String[] rung = with(HUNT, "touch 0 0", "on 9 = 2");
        S.behind(rung, "26 row 0", "at 0 = :1234");
        S.behind(rung, "26 the last one", "at 2 = :2413");
        S.behind(rung, "26 there is none", "at 3 = 0", "at -1 = 0", "at max = 0", "at min = 0");
        S.behind(rung, "26 rows of a former ringing are none", "ring", "at 1 = 0", "at 2 = 0", "on 1 = 1", "at 1 = :2143",
                "at 2 = 0");
        S.behind(rung, "26 no ASK", "judge 9 ! 4", "at 1 = :2143 ! 4", "at 9 = 0 ! 4");
    }

    private static void falseAt() {
        S.behind(HUNT, "28 TRUE so far", "falseAt = -1", "touch 0 0", "on 9 = 2", "falseAt = -1");
        S.behind(HUNT, "28 row 2 is row 1", "called 0 1 1 0", "touch 0 1", "on 9 = 2", "falseAt = 20001");
        S.behind(HUNT, "28 the first of several", "text 0 x1.1.1.1", "touch 0 0", "on 9 = 5", "falseAt = 30001");
        S.behind(HUNT, "28 one row ahead of it is TRUE", "text 0 x1.1", "touch 0 0", "on 2 = 2", "falseAt = -1", "on 1 = 3",
                "falseAt = 30001");
        S.behind(HUNT, "28 ROUNDS as the last row is left out", "text 0 xx", "touch 0 0", "on 9 = 2", "round = 2",
                "falseAt = -1");
        S.behind(HUNT, "28 what was false stays so, though it comes round", "text 0 x1.1x", "touch 0 0", "on 9 = 4",
                "round = 4", "falseAt = 30001", "proof = -1");
        S.behind(HUNT, "28 no ASK", "judge 9 ! 4", "falseAt = -1 ! 4", "round = -1 ! 4");
        S.holds("28 row 1682 is row 2", "bells 12", "method 0", "method 0", "text 0 x1",
                "text 1 " + SIXTY_LEADS, "touch 0 0", "61x touch 1 0", "on 1000", "on 1000",
                "falseAt = 16820002");
    }

    private static void proof() {
        S.behind(HUNT, "29 row 0 alone", "proof = 1", "count 4 = 1", "proofAt 0 = 0", "proofAt 1 = -1", "check = yes");
        S.behind(HUNT, "29 ROUNDS as the last row has no number", "text 0 xx", "touch 0 0", "on 1 = 1", "proof = 2", "on 1 = 2",
                "proof = 2", "proofAt 0 = 0", "proofAt 1 = 7", "proofAt 2 = -1");
        S.behind(HUNT, "29 ROUNDS as row 1 has no number, row 0 has", "text 0 1234", "touch 0 0", "on 1 = 1", "proof = 1",
                "proofAt 0 = 0");
        S.behind(HUNT, "29 not TRUE: -1, and the former one stays", "touch 0 0", "on 9 = 2", "proof = 3", "method 0",
                "text 1 1", "touch 1 0", "on 9 = 3", "falseAt = 30001", "proof = -1", "count 4 = 3", "proofAt 2 = 10",
                "proofAt 3 = -1");
        S.behind(HUNT, "29 not TRUE, and there is no former one", "text 0 x1.1", "touch 0 0", "on 9 = 3", "proof = -1",
                "count 4 = 0", "proofAt 0 = -1");
        S.behind(HUNT, "29 a shorter one in place of a longer one", "4x touch 0 0", "on 9 = 8", "proof = 8", "ring",
                "proof = 1", "count 4 = 1", "proofAt 1 = -1", "forge 1 0 = -1", "check = yes");
        S.behind(HUNT, "29 the least first", "4x touch 0 0", "on 9 = 8", "proof = 8", "proofAt 0 = 0", "proofAt 1 = 2",
                "proofAt 2 = 7", "proofAt 3 = 10", "proofAt 4 = 13", "proofAt 5 = 16", "proofAt 6 = 21", "proofAt 7 = 23");
        S.behind(HUNT, "29 no ASK", "judge 9 ! 4", "proof = 1 ! 4");
    }

    private static void proofAtAndForge() {
        String[] proven = with(HUNT, "touch 0 0", "on 9 = 2", "proof = 3");
        S.behind(proven, "30 the first and the last", "proofAt 0 = 0", "proofAt 2 = 10");
        S.behind(proven, "30 there is none", "proofAt -1 = -1", "proofAt 3 = -1", "proofAt max = -1", "proofAt min = -1");
        S.behind(HUNT, "30 there is no PROOF", "touch 0 0", "on 9 = 2", "proofAt 0 = -1");
        S.behind(proven, "31 the first", "forge 0 77 = 0", "proofAt 0 = 77", "proofAt 1 = 7", "check = no");
        S.behind(proven, "31 the last", "forge 2 77 = 10", "proofAt 2 = 77", "proofAt 1 = 7", "check = no");
        S.behind(proven, "31 there is none", "forge 3 77 = -1", "forge -1 77 = -1", "forge max 77 = -1", "forge min 77 = -1",
                "count 4 = 3", "check = yes");
        S.behind(HUNT, "31 there is no PROOF", "touch 0 0", "on 9 = 2", "forge 0 0 = -1", "count 4 = 0", "check = no");
        S.behind(proven, "31 any number", "forge 1 min = 7", "forge 1 max = min", "forge 1 -1 = max", "proofAt 1 = -1",
                "forge 1 7 = -1", "check = yes");
        S.behind(proven, "31 a number that stood there", "forge 1 7 = 7", "check = yes");
    }

    private static void check() {
        S.behind(HUNT, "32 there is none", "check = no", "touch 0 0", "on 9 = 2", "check = no");
        S.behind(HUNT, "32 a row more", "touch 0 0", "on 1 = 1", "proof = 2", "check = yes", "on 1 = 2", "check = no");
        S.behind(HUNT, "32 a row less", "touch 0 0", "on 2 = 2", "proof = 3", "ring", "on 1 = 1", "check = no", "on 1 = 2",
                "check = yes");
        S.behind(HUNT, "32 ROUNDS as the last row more", "text 0 xx", "touch 0 0", "on 1 = 1", "proof = 2", "on 1 = 2",
                "check = yes");
        S.behind(HUNT, "32 not TRUE, though the numbers are as many", "text 0 x1x", "touch 0 0", "on 9 = 3", "proof = 4",
                "text 0 x1.1", "ring", "on 9 = 3", "check = no");
        S.behind(HUNT, "32 the same rows in another order", "text 0 x", "touch 0 0", "on 1 = 1", "proof = 2", "clear",
                "method 0", "text 1 x", "touch 1 0", "on 1 = 1", "check = yes");
        S.behind(HUNT, "32 as many other rows", "text 0 x", "touch 0 0", "on 1 = 1", "proof = 2", "text 0 12", "ring",
                "on 1 = 1", "check = no");
        S.behind(HUNT, "32 the first number alone is forged", "proof = 1", "forge 0 1 = 0", "check = no", "forge 0 0 = 1",
                "check = yes");
        S.behind(HUNT, "32 no ASK", "judge 9 ! 4", "check = no ! 4", "proofAt 0 = -1 ! 4", "forge 0 0 = -1 ! 4");
    }

    private static void ringer() {
        S.behind(HUNT, "33 bell 1", "ringer 1 no = 3", "heard 0 = :234", "ringer 1 yes = 4", "heard 0 = :1234");
        S.behind(HUNT, "33 bell n", "ringer 4 no = 3", "heard 0 = :123", "ringer 4 yes = 4", "heard 0 = :1234");
        S.behind(HUNT, "33 there is no such bell", "ringer 0 no = -1", "ringer 5 no = -1", "ringer -1 no = -1",
                "ringer max no = -1", "ringer min no = -1", "ringer 33 no = -1", "ringer 32 no = -1", "heard 0 = :1234",
                "ringer 1 yes = 4");
        S.behind(HUNT, "33 there is no such bell, on", "ringer 2 no = 3", "ringer 0 yes = -1", "ringer 5 yes = -1",
                "ringer 34 yes = -1", "heard 0 = :134", "ringer 1 yes = 3");
        S.behind(HUNT, "33 nobody twice, somebody twice", "ringer 2 no = 3", "ringer 2 no = 3", "ringer 2 yes = 4",
                "ringer 2 yes = 4");
        S.behind(HUNT, "33 none are rung", "ringer 1 no", "ringer 2 no", "ringer 3 no = 1", "ringer 4 no = 0",
                "ringer 4 no = 0", "ringer 1 yes = 1");
        S.holds("33 twelve bells", "bells 12", "ringer 12 no = 11", "heard 0 = :1234567890E", "ringer 13 no = -1",
                "ringer 12 yes = 12");
        S.behind(HUNT, "33 no ASK", "judge 9 ! 4", "ringer 1 no = 3 ! 4", "ringer 9 no = -1 ! 4");
    }

    private static void heard() {
        String[] rung = with(HUNT, "touch 0 0", "on 9 = 2");
        S.behind(rung, "34 with all bells, the row", "heard 0 = :1234", "heard 2 = :2413");
        S.behind(rung, "34 closed up, ahead, between and behind", "ringer 2 no", "heard 2 = :413", "ringer 2 yes",
                "ringer 4 no", "heard 2 = :213", "ringer 4 yes", "ringer 3 no", "heard 2 = :241");
        S.behind(rung, "34 there is no such row", "heard 3 = 0", "heard -1 = 0", "heard max = 0", "heard min = 0");
        S.behind(rung, "34 nobody rings", "ringer 1 no", "ringer 2 no", "ringer 3 no", "ringer 4 no", "heard 0 = 0",
                "heard 2 = 0", "at 2 = :2413");
        S.behind(rung, "34 one rings", "ringer 1 no", "ringer 2 no", "ringer 3 no", "heard 0 = 4", "heard 2 = 4");
        S.behind(rung, "34 music and the PROOF are of all bells", "ringer 1 no", "music :2--- = 2", "proof = 3",
                "ringer 1 yes = 4", "check = yes");
        S.behind(rung, "34 no ASK", "judge 9 ! 4", "heard 1 = :2143 ! 4", "heard 9 = 0 ! 4");
    }

    private static void music() {
        String[] rung = with(HUNT, "4x touch 0 0", "on 9 = 8");
        S.behind(HUNT, "36 row 0 does not count", "music 0 = 0", "music :1234 = 0");
        S.behind(rung, "36 ROUNDS as the last row counts", "music :1234 = 1", "music 0 = 8");
        S.behind(rung, "36 none FITS", "music :4--4 = 0", "music :2341 = 0");
        S.behind(rung, "36 bell n at place n", "music :---4 = 2");
        S.behind(rung, "36 the pattern is none", "music 5 = -1", "music :----1 = -1", "music -1 = -1", "music lmin = -1");
        S.behind(HUNT, "36 the pattern is none, and there are no rows", "music 5 = -1", "music -1 = -1");
        S.behind(rung, "36 no ASK", "judge 9 ! 4", "music 0 = 8 ! 4", "music 5 = -1 ! 4", "fits 0 0 = no ! 4");
    }
}
