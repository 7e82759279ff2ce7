import java.util.Arrays;

/** Promises 22 to 36: the touch, its PROOF, and how it is heard. */
public final class TouchTest {
    private static final Due DUE = new Due("TouchTest");
    private static final String[] HUNT = {
        "1234", "2143", "2413", "4231", "4321", "3412", "3142", "1324", "1234"
    };
    private static final int[] HUNT_NUMBERS = {0, 2, 7, 10, 13, 16, 21, 23};
    /** On twelve bells: 28 CHANGES, which come round with 60 leads, all their rows different. */
    private static final String SIXTY_LEADS = "12.10.16.1T.16.34x1x10x18xET,1236";
    /** On twelve bells: 48 CHANGES, which do not come round in 2000 rows, all of them different. */
    private static final String ALL_DIFFERENT = "34.78x18.34.18x12x18x18x1Tx12xET.16.5Tx78x56,1236";

    public static void main(String[] args) {
        items();
        ringing();
        itemsAsTheyAreThen();
        itemsWithoutChanges();
        stoppingAtFindings();
        partsByItem();
        twoThousandRows();
        nothingBeginsBehindTheLastRow();
        manyRows();
        lateFalseness();
        longProof();
        clearAndRing();
        falseAt();
        proof();
        proofOfAnotherTouch();
        forge();
        ringers();
        fits();
        music();
        DUE.close();
    }

    /** Four bells, with x1 (which is plain hunting) in method 0. */
    private static RingingChamber hunting(int items) {
        RingingChamber x = new RingingChamber();
        x.bells(4);
        x.method(0);
        Due.lead(x, 0, "x1");
        for (int i = 0; i < items; i++) {
            x.touch(0, 0);
        }
        return x;
    }

    private static void items() {
        RingingChamber x = hunting(0);
        DUE.asks(x, "22 no method", x.touch(1, 3), 0, 4);
        DUE.asks(x, "22 method -1", x.touch(-1, 0), 0, 4);
        DUE.asks(x, "22 call 3", x.touch(0, 3), 0, 2);
        DUE.asks(x, "22 call -1", x.touch(0, -1), 0, 2);
        for (int i = 1; i <= 100; i++) {
            DUE.asks(x, "22 item", x.touch(0, i % 3), i, 0);
        }
        DUE.asks(x, "22 101st", x.touch(0, 0), 0, 2);
        DUE.asks(x, "22 101st of no method", x.touch(4, 0), 0, 4);
        DUE.is("22 count", x.count(2), 100);
    }

    private static void ringing() {
        RingingChamber x = hunting(3);
        DUE.asks(x, "25 none", x.on(0), 0, 0);
        DUE.is("25 no item begun", x.trace(0, 1), 0);
        DUE.asks(x, "25 below", x.on(-1), 0, 2);
        DUE.asks(x, "25 above", x.on(1001), 0, 2);
        DUE.asks(x, "25 two", x.on(2), 2, 0);
        DUE.is("25 one item begun", x.trace(0, 1), 1);
        DUE.asks(x, "25 one more", x.on(1), 3, 0);
        DUE.is("25 two items begun", x.trace(0, 1), 2);
        DUE.asks(x, "25 below, with rows", x.on(-5), 3, 2);
        DUE.asks(x, "25 as many as come", x.on(1000), 6, 0);
        DUE.is("27 not yet", x.round(), -1);
        x.touch(0, 0);
        x.touch(0, 0);
        DUE.asks(x, "25 it waited for more", x.on(1000), 8, 0);
        DUE.is("27 round", x.round(), 8);
        DUE.is("25 the fifth is not begun", x.trace(0, 1), 4);
        DUE.asks(x, "25 stopped for good", x.on(10), 8, 0);
        for (int i = 0; i < HUNT.length; i++) {
            DUE.is("26 at " + i, x.at(i), Due.code(HUNT[i]));
        }
        DUE.is("26 beyond", x.at(9), 0);
        DUE.is("26 below", x.at(-1), 0);
        DUE.is("26 far", x.at(Integer.MAX_VALUE), 0);
        DUE.is("28 TRUE", x.falseAt(), -1);
    }

    private static void itemsAsTheyAreThen() {
        RingingChamber x = hunting(2);
        x.on(1);
        Due.lead(x, 0, "12.12.12");
        DUE.asks(x, "25 the old lead to its end", x.on(1), 2, 0);
        DUE.is("26 at 2", x.at(2), Due.code("2413"));
        DUE.asks(x, "25 then the new one", x.on(1), 3, 0);
        DUE.is("26 at 3", x.at(3), Due.code("2431"));
        x.cut(0, 0);
        DUE.asks(x, "25 a cut is not seen in what has begun", x.on(9), 5, 0);
    }

    private static void itemsWithoutChanges() {
        RingingChamber x = hunting(0);
        x.method(0);
        Due.lead(x, 1, "x");
        x.cut(1, 0);
        x.touch(1, 0);
        x.touch(1, 0);
        DUE.asks(x, "25 no rows", x.on(5), 0, 0);
        DUE.is("25 both begun", x.trace(0, 1), 2);
        x.touch(1, 0);
        x.touch(0, 0);
        x.touch(1, 0);
        DUE.asks(x, "25 passed by", x.on(2), 2, 0);
        DUE.is("25 the last is not begun", x.trace(0, 1), 4);
        DUE.asks(x, "25 the last gives none", x.on(2), 2, 0);
        DUE.is("25 the last is begun", x.trace(0, 1), 5);
    }

    private static void stoppingAtFindings() {
        RingingChamber x = hunting(1);
        x.touch(0, 1);
        x.touch(0, 0);
        DUE.asks(x, "25 not yet", x.on(2), 2, 0);
        DUE.asks(x, "25 BOB MISSING", x.on(2), 2, 1);
        DUE.asks(x, "25 later", x.on(2), 2, 0);
        x.called(0, 1, 0, 0);
        DUE.asks(x, "25 for good", x.on(2), 2, 0);
        x.ring();
        DUE.asks(x, "24 anew", x.on(4), 4, 0);
        DUE.is("28 the row that stayed", x.falseAt(), 30002);
        x.called(0, 2, 2, 0);
        x.clear();
        x.touch(0, 2);
        DUE.asks(x, "25 place beyond", x.on(1), 0, 2);
        x.method(5);
        x.clear();
        x.touch(0, 0);
        x.touch(1, 0);
        DUE.asks(x, "25 rows, then no PARTS", x.on(1000), 2, 7);
        DUE.asks(x, "25 wrong k behind a stop", x.on(1001), 2, 2);
    }

    private static void partsByItem() {
        RingingChamber x = new RingingChamber();
        x.bells(4);
        x.method(0);
        x.method(4);
        x.method(5);
        Due.lead(x, 0, "x");
        Due.lead(x, 1, "1");
        x.part(2, 0);
        x.part(2, 1);
        for (int i = 0; i < 9; i++) {
            x.touch(2, 0);
        }
        DUE.asks(x, "25 PARTS by the item's number", x.on(100), 8, 0);
        DUE.is("26 at 5", x.at(5), Due.code(HUNT[5]));
        DUE.is("25 SPLICED begun", x.trace(5, 1), 8);
    }

    private static void twoThousandRows() {
        RingingChamber x = new RingingChamber();
        x.bells(4);
        x.method(0);
        x.method(0);
        Due.lead(x, 0, "x");
        Due.lead(x, 1, "34.".repeat(99) + "34");
        x.touch(0, 0);
        for (int i = 0; i < 30; i++) {
            x.touch(1, 0);
        }
        DUE.asks(x, "25 1000", x.on(1000), 1000, 0);
        DUE.asks(x, "25 1999", x.on(999), 1999, 0);
        DUE.asks(x, "25 2000", x.on(1000), 2000, 0);
        DUE.asks(x, "25 no more", x.on(1), 2000, 0);
        DUE.is("26 the last", x.at(2000), Due.code("1243"));
        DUE.is("26 none behind it", x.at(2001), 0);
        DUE.is("27 not round", x.round(), -1);
        DUE.is("28 false", x.falseAt(), 30001);
        DUE.is("29 no PROOF", x.proof(), -1);
        DUE.is("36 music", x.music(Due.code("1---")), 1000);
        DUE.is("34 heard", x.heard(2000), Due.code("1243"));
    }

    private static void nothingBeginsBehindTheLastRow() {
        RingingChamber x = new RingingChamber();
        x.bells(4);
        x.method(0);
        x.method(0);
        DUE.is("25 100 CHANGES", Due.lead(x, 0, "x" + "34.".repeat(98) + "34"), 100);
        DUE.is("25 100 CHANGES", Due.lead(x, 1, "34.".repeat(99) + "34"), 100);
        x.touch(0, 0);
        for (int i = 0; i < 20; i++) {
            x.touch(1, 0);
        }
        x.on(1000);
        DUE.asks(x, "25 20 items", x.on(1000), 2000, 0);
        DUE.asks(x, "25 the next does not begin", x.on(1), 2000, 0);
        DUE.is("15 so many items begun", x.trace(0, 1), 20);
    }

    private static RingingChamber onTwelve(String prefix, String text, int items) {
        RingingChamber x = new RingingChamber();
        x.bells(12);
        x.method(0);
        x.method(0);
        Due.lead(x, 0, text);
        if (Due.lead(x, 1, prefix) > 0) {
            x.touch(1, 0);
        }
        for (int i = 0; i < items; i++) {
            x.touch(0, 0);
        }
        x.on(1000);
        x.on(1000);
        return x;
    }

    private static void manyRows() {
        RingingChamber x = onTwelve("", SIXTY_LEADS, 60);
        DUE.is("13 60 leads", x.course(0), 60);
        DUE.is("27 round", x.round(), 1680);
        DUE.is("28 TRUE", x.falseAt(), -1);
        DUE.is("29 all numbers", x.proof(), 1680);
        DUE.is("32 all numbers", x.check(), true);
        DUE.is("36 all", x.music(0), 1680);
    }

    private static void lateFalseness() {
        RingingChamber x = onTwelve("x", SIXTY_LEADS, 61);
        DUE.is("28 row 1 comes again behind 60 leads", x.falseAt(), 16810001);
        RingingChamber y = onTwelve("x1", SIXTY_LEADS, 61);
        DUE.is("28 row 2 comes again", y.falseAt(), 16820002);
    }

    /** Every row of a long touch, told by objects that each tell a few, numbered here and sorted. */
    private static void longProof() {
        int[] numbers = new int[2001];
        int[] proof = new int[2001];
        RingingChamber x = null;
        for (int i = 0; i < numbers.length; i++) {
            if (i % 200 == 0) {
                x = onTwelve("", ALL_DIFFERENT, 45);
                DUE.is("29 2001 numbers", x.proof(), 2001);
                DUE.is("32 2001 numbers", x.check(), true);
            }
            numbers[i] = number(x.at(i));
            proof[i] = x.proofAt(i);
        }
        Arrays.sort(numbers);
        DUE.is("30 the numbers, the least first", Arrays.equals(proof, numbers), true);
        DUE.is("30 no more", x.proofAt(2001), -1);
    }

    private static int number(long row) {
        int number = 0;
        for (int p = 0; p < 12; p++) {
            int less = 0;
            for (int q = p + 1; q < 12; q++) {
                less += (row >> 4 * q & 15) < (row >> 4 * p & 15) ? 1 : 0;
            }
            number = number * (12 - p) + less;
        }
        return number;
    }

    private static void clearAndRing() {
        RingingChamber x = hunting(4);
        x.on(1000);
        DUE.is("24 ring", x.ring(), 1);
        DUE.is("24 items stay", x.count(2), 4);
        DUE.is("24 row 0 alone", x.at(1), 0);
        DUE.is("24 row 0", x.at(0), Due.code("1234"));
        DUE.is("24 not round", x.round(), -1);
        DUE.asks(x, "24 rung again", x.on(3), 3, 0);
        x.ring();
        DUE.asks(x, "24 from the first item's first CHANGE", x.on(1), 1, 0);
        DUE.is("24 its row", x.at(1), Due.code("2143"));
        DUE.is("23 clear", x.clear(), 1);
        DUE.is("23 no items", x.count(2), 0);
        DUE.is("23 row 0 alone", x.at(1), 0);
        DUE.asks(x, "23 nothing to ring", x.on(5), 0, 0);
        x.touch(0, 0);
        DUE.asks(x, "23 from the new item", x.on(5), 2, 0);
        DUE.is("23 its row", x.at(2), Due.code("2413"));
    }

    private static void falseAt() {
        RingingChamber x = hunting(0);
        x.method(0);
        Due.lead(x, 1, "x1.1.14");
        x.touch(1, 0);
        x.on(2);
        DUE.is("28 TRUE so far", x.falseAt(), -1);
        x.on(1);
        DUE.is("28 row 3 is row 1", x.falseAt(), 30001);
        x.on(1);
        DUE.is("28 the first stays", x.falseAt(), 30001);
        x.ring();
        DUE.is("28 anew", x.falseAt(), -1);
        Due.lead(x, 1, "x");
        x.touch(1, 0);
        x.on(9);
        DUE.is("27 round at 2", x.round(), 2);
        DUE.is("28 ROUNDS at last is left out", x.falseAt(), -1);
        Due.lead(x, 1, "1234");
        x.ring();
        x.on(9);
        DUE.is("27 round at 1", x.round(), 1);
        DUE.is("28 ROUNDS at once", x.falseAt(), -1);
        DUE.is("29 one number", x.proof(), 1);
    }

    private static void proof() {
        RingingChamber x = hunting(4);
        DUE.is("32 none", x.check(), false);
        DUE.is("30 none", x.proofAt(0), -1);
        DUE.is("29 row 0", x.proof(), 1);
        DUE.is("30 its number", x.proofAt(0), 0);
        DUE.is("32 of row 0", x.check(), true);
        x.on(7);
        DUE.is("32 no longer", x.check(), false);
        DUE.is("29 all rows", x.proof(), 8);
        DUE.is("32 of them", x.check(), true);
        x.on(1);
        DUE.is("32 ROUNDS at last adds none", x.check(), true);
        DUE.is("29 at the end", x.proof(), 8);
        for (int i = 0; i < HUNT_NUMBERS.length; i++) {
            DUE.is("30 number " + i, x.proofAt(i), HUNT_NUMBERS[i]);
        }
        DUE.is("30 beyond", x.proofAt(8), -1);
        DUE.is("30 below", x.proofAt(-1), -1);
        DUE.is("41 numbers", x.count(4), 8);
        x.ring();
        DUE.is("29 the PROOF stays", x.count(4), 8);
        DUE.is("32 of another touch", x.check(), false);
        x.on(8);
        DUE.is("32 rung again", x.check(), true);
        x.clear();
        x.method(0);
        Due.lead(x, 1, "x1.1");
        x.touch(1, 0);
        x.on(3);
        DUE.is("29 not TRUE", x.proof(), -1);
        DUE.is("29 the former stays", x.proofAt(7), 23);
        DUE.is("32 not TRUE", x.check(), false);
    }

    private static void proofOfAnotherTouch() {
        RingingChamber x = hunting(1);
        x.method(0);
        Due.lead(x, 1, "12x");
        x.on(2);
        DUE.is("29 three rows", x.proof(), 3);
        x.clear();
        x.touch(1, 0);
        x.on(2);
        DUE.is("32 three other rows", x.check(), false);
        DUE.is("29 of the others", x.proof(), 3);
        DUE.is("30 their numbers", x.proofAt(1), 1);
        DUE.is("30 their numbers", x.proofAt(2), 6);
        DUE.is("32 theirs", x.check(), true);
    }

    private static void forge() {
        RingingChamber x = hunting(4);
        DUE.is("31 none", x.forge(0, 5), -1);
        x.on(8);
        x.proof();
        DUE.is("31 beyond", x.forge(8, 5), -1);
        DUE.is("31 below", x.forge(-1, 5), -1);
        DUE.is("31 the same", x.forge(3, 10), 10);
        DUE.is("32 the same", x.check(), true);
        DUE.is("31 another", x.forge(3, Integer.MIN_VALUE), 10);
        DUE.is("30 it is so", x.proofAt(3), Integer.MIN_VALUE);
        DUE.is("32 forged", x.check(), false);
        DUE.is("31 back", x.forge(3, 10), Integer.MIN_VALUE);
        DUE.is("32 again", x.check(), true);
        DUE.is("31 the first", x.forge(0, 2), 0);
        DUE.is("31 the second", x.forge(1, 0), 2);
        DUE.is("31 the last", x.forge(7, 23), 23);
        DUE.is("32 the same numbers in another order", x.check(), false);
        DUE.is("29 made again", x.proof(), 8);
        DUE.is("32 made again", x.check(), true);
    }

    private static void ringers() {
        RingingChamber x = hunting(4);
        x.on(3);
        DUE.is("33 bell 0", x.ringer(0, false), -1);
        DUE.is("33 bell 5", x.ringer(5, false), -1);
        DUE.is("33 far", x.ringer(Integer.MIN_VALUE, true), -1);
        DUE.is("33 rung already", x.ringer(1, true), 4);
        DUE.is("33 nobody", x.ringer(1, false), 3);
        DUE.is("33 nobody again", x.ringer(1, false), 3);
        DUE.is("34 heard 0", x.heard(0), Due.code("234"));
        DUE.is("34 heard 1", x.heard(1), Due.code("243"));
        DUE.is("34 heard 3", x.heard(3), Due.code("423"));
        DUE.is("34 no row", x.heard(4), 0);
        DUE.is("34 below", x.heard(-1), 0);
        DUE.is("26 the row is as it was", x.at(1), Due.code("2143"));
        x.ringer(4, false);
        DUE.is("34 two", x.heard(1), Due.code("23"));
        x.clear();
        DUE.is("34 ringers stay", x.heard(0), Due.code("23"));
        DUE.is("33 back", x.ringer(4, true), 3);
        x.ringer(2, false);
        x.ringer(3, false);
        DUE.is("33 last one", x.ringer(4, false), 0);
        DUE.is("34 silence", x.heard(0), 0);
    }

    private static void fits() {
        RingingChamber x = new RingingChamber();
        long row = Due.code("153264");
        DUE.is("35 any", x.fits(row, 0), true);
        DUE.is("35 itself", x.fits(row, row), true);
        DUE.is("35 some", x.fits(row, Due.code("1-3--4")), true);
        DUE.is("35 another", x.fits(row, Due.code("1-3--5")), false);
        DUE.is("35 twice the same", x.fits(row, Due.code("11----")), false);
        DUE.is("35 no row", x.fits(Due.code("153265"), 0), false);
        DUE.is("35 above n", x.fits(row, Due.code("7-----")), false);
        DUE.is("35 beyond n", x.fits(row, Due.code("------1")), false);
        DUE.is("35 below 0", x.fits(row, Long.MIN_VALUE), false);
        x.judge(0);
        x.fits(0, 0);
        DUE.is("35 no ASK", x.count(6), 4);
    }

    private static void music() {
        RingingChamber x = hunting(4);
        DUE.is("36 none rung", x.music(0), 0);
        x.on(8);
        DUE.is("36 all behind row 0", x.music(0), 8);
        DUE.is("36 ROUNDS at last", x.music(Due.code("1234")), 1);
        DUE.is("36 treble first", x.music(Due.code("1---")), 2);
        DUE.is("36 two told", x.music(Due.code("2--3")), 2);
        DUE.is("36 never", x.music(Due.code("22--")), 0);
        DUE.is("36 above n", x.music(Due.code("5---")), -1);
        DUE.is("36 beyond n", x.music(Due.code("----1")), -1);
        DUE.is("36 below 0", x.music(-1), -1);
    }
}
