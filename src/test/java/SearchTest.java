/** Promises 37 to 41: what is ALLOWED, the SEARCH, and the counts. */
public final class SearchTest {
    private static final Due DUE = new Due("SearchTest");
    private static final String LONGEST =
            "1278.56x12x1.56.34x10x16x90x18x34x16xETx90x1x14x1x14x5T.10.5Tx1x14x12x10x16x34xET,14";

    public static void main(String[] args) {
        allow();
        searchForACourse();
        spentAndOn();
        inPieces();
        wanted();
        refused();
        order();
        passedOver();
        calledOnce();
        leftAtOnce();
        partsByPlace();
        itemsComeToAgain();
        longest();
        voids();
        voidAndEnded();
        found();
        counts();
        DUE.close();
    }

    /** Four bells; a PLAIN method for each text. */
    private static RingingChamber with(String... texts) {
        RingingChamber x = new RingingChamber();
        x.bells(4);
        for (int m = 0; m < texts.length; m++) {
            x.method(0);
            Due.lead(x, m, texts[m]);
        }
        return x;
    }

    private static RingingChamber minimus() {
        RingingChamber x = with("x1x1x1x2");
        x.allow(0, 1);
        return x;
    }

    private static void allow() {
        RingingChamber x = with("x", "1");
        DUE.is("37 no method", x.allow(2, 1), -1);
        DUE.is("37 method -1", x.allow(-1, 1), -1);
        DUE.is("37 bits 8", x.allow(0, 8), -1);
        DUE.is("37 bits -1", x.allow(0, -1), -1);
        DUE.is("37 two", x.allow(0, 5), 2);
        DUE.is("37 five in all", x.allow(1, 7), 5);
        DUE.is("37 told anew", x.allow(0, 2), 4);
        DUE.is("37 none", x.allow(1, 0), 1);
        x.method(5);
        DUE.is("37 SPLICED", x.allow(2, 4), 2);
        RingingChamber y = new RingingChamber();
        for (int m = 0; m < 30; m++) {
            y.method(m % 6);
            DUE.is("37 all", y.allow(m, 7), 3 * (m + 1));
        }
        DUE.is("38 thirty methods, all MISSING", y.search(12, 0, 0, 0), 0);
        Due.lead(y, 28, "x");
        DUE.is("38 the last but one", y.search(2, 0, 0, 2), 1);
        DUE.is("40 its number", y.found(1), 84);
    }

    private static void searchForACourse() {
        RingingChamber x = minimus();
        DUE.is("38 three leads", x.search(3, 0, 0, 1000), 1);
        DUE.is("41 STEPS", x.count(5), 24);
        DUE.is("38 two leads", x.search(2, 0, 0, 1000), 0);
        DUE.is("41 STEPS", x.count(5), 16);
        DUE.is("38 four leads", x.search(4, 0, 0, 1000), 0);
        DUE.is("41 left at ROUNDS", x.count(5), 24);
        DUE.is("38 twelve", x.search(12, 0, 0, 1000), 0);
        DUE.is("41 left at ROUNDS", x.count(5), 24);
        DUE.is("38 no rows of the touch", x.at(1), 0);
        DUE.is("38 nothing ALLOWED", x.allow(0, 0), 0);
        DUE.is("38 none", x.search(3, 0, 0, 0), 0);
        DUE.is("41 no STEPS", x.count(5), 0);
    }

    private static void spentAndOn() {
        RingingChamber x = minimus();
        DUE.is("38 no STEPS", x.search(3, 0, 0, 0), 2);
        DUE.is("38 the first item is looked at", x.trace(0, 1), 1);
        DUE.is("39 none more", x.goOn(0), 2);
        DUE.is("39 not looked at again", x.trace(0, 1), 1);
        DUE.is("39 23", x.goOn(23), 2);
        DUE.is("41 STEPS", x.count(5), 23);
        DUE.is("40 nothing yet", x.found(0), -1);
        DUE.is("39 one more", x.goOn(1), 1);
        DUE.is("41 STEPS", x.count(5), 24);
        DUE.is("39 it has ended", x.goOn(1000), 1);
        DUE.is("41 no more STEPS", x.count(5), 24);
        DUE.is("39 steps below", x.goOn(-1), -1);
        DUE.is("39 steps above", x.goOn(1001), -1);
        DUE.is("38 just enough", x.search(3, 0, 0, 24), 1);
        DUE.is("38 just enough for none", x.search(2, 0, 0, 16), 0);
        DUE.is("39 none", x.goOn(3), 0);
        DUE.is("38 one less", x.search(2, 0, 0, 15), 2);
        DUE.is("39 ends", x.goOn(1), 0);
    }

    /** However the STEPS are told out, the end is the same. */
    private static void inPieces() {
        for (int piece = 1; piece < 40; piece += 3) {
            RingingChamber x = with("x1x1x1x2");
            x.called(0, 1, 7, 0);
            x.called(0, 2, 7, Due.change(2));
            x.allow(0, 6);
            int answer = x.search(12, 0, 0, piece);
            for (int i = 0; i < 400 && answer == 2; i++) {
                answer = x.goOn(piece);
            }
            RingingChamber y = with("x1x1x1x2");
            y.called(0, 1, 7, 0);
            y.called(0, 2, 7, Due.change(2));
            y.allow(0, 6);
            DUE.is("39 as in one go", answer, y.search(12, 0, 0, 1000));
            DUE.is("41 as many STEPS", x.count(5), y.count(5));
            DUE.is("15 as often begun", x.trace(0, 1), y.trace(0, 1));
        }
    }

    private static void wanted() {
        RingingChamber x = minimus();
        DUE.is("38 all rows", x.search(3, 24, 0, 1000), 1);
        DUE.is("38 one too many", x.search(3, 25, 0, 1000), 0);
        DUE.is("41 its STEPS", x.count(5), 24);
        DUE.is("38 ROUNDS is counted at last alone", x.search(3, 1, Due.code("1234"), 1000), 1);
        DUE.is("38 not twice", x.search(3, 2, Due.code("1234"), 1000), 0);
        DUE.is("38 treble first", x.search(3, 6, Due.code("1---"), 1000), 1);
        DUE.is("38 not seven", x.search(3, 7, Due.code("1---"), 1000), 0);
        DUE.is("38 the most", x.search(3, Integer.MAX_VALUE, 0, 1000), 0);
    }

    private static void refused() {
        RingingChamber x = minimus();
        x.search(3, 0, 0, 10);
        DUE.is("38 length 0", x.search(0, 0, 0, 1), -1);
        DUE.is("38 length 13", x.search(13, 0, 0, 1), -1);
        DUE.is("38 wanted", x.search(3, -1, 0, 1), -1);
        DUE.is("38 pattern below 0", x.search(3, 0, -1, 1), -1);
        DUE.is("38 pattern above n", x.search(3, 0, 5, 1), -1);
        DUE.is("38 pattern beyond n", x.search(3, 0, Due.code("----1"), 1), -1);
        DUE.is("38 steps below", x.search(3, 0, 0, -1), -1);
        DUE.is("38 steps above", x.search(3, 0, 0, 1001), -1);
        DUE.is("41 the former stays", x.count(5), 10);
        DUE.is("39 and goes on", x.goOn(14), 1);
        DUE.is("40 found", x.found(2), 0);
        x.search(0, 0, 0, 0);
        DUE.is("40 the former stays found", x.found(2), 0);
        DUE.is("39 none", new RingingChamber().goOn(0), -1);
    }

    private static void order() {
        RingingChamber x = with("12", "x", "x");
        x.called(1, 1, 0, Due.change(1));
        x.called(1, 2, 0, Due.change(1, 3));
        x.allow(2, 1);
        x.allow(1, 7);
        DUE.is("38 methods by number, CALLS in order", x.search(2, 0, 0, 100), 1);
        DUE.is("40 item 0", x.found(0), 3);
        DUE.is("40 item 1", x.found(1), 3);
        DUE.is("41 STEPS", x.count(5), 2);
        x.allow(1, 6);
        DUE.is("38 the BOB first", x.search(2, 0, 0, 100), 1);
        DUE.is("40 item 0", x.found(0), 4);
        DUE.is("40 item 1", x.found(1), 4);
        x.allow(1, 4);
        x.called(1, 2, 0, Due.change(3));
        x.allow(0, 1);
        DUE.is("38 one by one", x.search(2, 2, Due.code("--34"), 100), 0);
        DUE.is("41 all tried: 3 first items, 3 behind each", x.count(5), 12);
        DUE.is("38 SINGLE and 12 are the same", x.search(2, 1, Due.code("1-43"), 100), 1);
        DUE.is("40 item 0", x.found(0), 0);
        DUE.is("40 item 1", x.found(1), 0);
    }

    private static void passedOver() {
        RingingChamber x = with("x", "1");
        x.method(5);
        x.cut(1, 0);
        x.method(0);
        for (int m = 0; m < 4; m++) {
            x.allow(m, 7);
        }
        x.judge(9);
        DUE.is("38 with FINDINGS and without CHANGES", x.search(2, 0, 0, 100), 1);
        DUE.is("41 STEPS", x.count(5), 2);
        DUE.is("41 no FINDING of its own", x.count(6), 4);
        x.allow(0, 0);
        DUE.is("38 all passed over", x.search(5, 0, 0, 0), 0);
        DUE.is("41 no STEPS", x.count(5), 0);
    }

    private static void calledOnce() {
        RingingChamber x = with("x", "1");
        x.allow(0, 1);
        x.allow(1, 1);
        DUE.is("38 none", x.search(2, 9, 0, 100), 0);
        DUE.is("41 STEPS", x.count(5), 6);
        DUE.is("15 each place and item once", x.trace(0, 1), 4);
        x.search(2, 9, 0, 100);
        DUE.is("15 again in another search", x.trace(0, 1), 8);
        x.allow(0, 7);
        x.allow(1, 0);
        x.search(2, 3, 0, 100);
        DUE.is("15 FINDINGS too, once each", x.trace(0, 1), 14);
        RingingChamber y = with("x");
        y.allow(0, 7);
        DUE.is("38 found", y.search(2, 0, 0, 100), 1);
        DUE.is("15 only what it came to", y.trace(0, 1), 2);
    }

    private static void leftAtOnce() {
        RingingChamber x = with("x1.1x");
        x.allow(0, 1);
        DUE.is("38 row 3 is row 1", x.search(1, 0, 0, 100), 0);
        DUE.is("41 left at it", x.count(5), 3);
        RingingChamber y = with("xx1.1");
        y.allow(0, 1);
        DUE.is("38 ROUNDS within", y.search(1, 0, 0, 100), 0);
        DUE.is("41 left at ROUNDS", y.count(5), 2);
        RingingChamber z = with("1234");
        z.allow(0, 1);
        DUE.is("38 ROUNDS at once", z.search(1, 1, 0, 100), 1);
        DUE.is("38 but not ahead of the last item", z.search(2, 0, 0, 100), 0);
        DUE.is("41 left", z.count(5), 1);
    }

    private static void partsByPlace() {
        RingingChamber x = with("x", "1");
        x.method(5);
        x.part(2, 0);
        x.part(2, 1);
        x.allow(2, 1);
        DUE.is("38 hunting by PARTS", x.search(8, 0, 0, 100), 1);
        DUE.is("40 item 7", x.found(7), 6);
        DUE.is("15 once a place", x.trace(5, 1), 8);
    }

    private static void itemsComeToAgain() {
        RingingChamber x = with("x", "1");
        x.allow(0, 1);
        x.allow(1, 1);
        DUE.is("38 behind another first item", x.search(2, 1, Due.code("1324"), 100), 1);
        DUE.is("40 item 0", x.found(0), 3);
        DUE.is("40 item 1", x.found(1), 3);
        DUE.is("41 STEPS", x.count(5), 6);
    }

    /** Twelve items of 100 rows, of which the last is ROUNDS. */
    private static void longest() {
        RingingChamber x = new RingingChamber();
        x.bells(12);
        x.method(0);
        DUE.is("6 100 CHANGES", Due.lead(x, 0, LONGEST), 100);
        DUE.is("13 twelve leads", x.course(0), 12);
        x.allow(0, 1);
        DUE.is("38 1000 STEPS", x.search(12, 1200, 0, 1000), 2);
        DUE.is("39 199 more", x.goOn(199), 2);
        DUE.is("39 the last one", x.goOn(1), 1);
        DUE.is("41 STEPS", x.count(5), 1200);
        DUE.is("40 the last item", x.found(11), 0);
        DUE.is("38 eleven", x.search(11, 0, 0, 1000), 2);
        DUE.is("39 not round", x.goOn(100), 0);
    }

    private static void voids() {
        String[] tells = {"method", "notation", "cut", "called", "part", "allow"};
        for (String tell : tells) {
            RingingChamber x = with("x1x1x1x2");
            x.method(5);
            x.allow(0, 1);
            x.search(3, 0, 0, 5);
            refusedTells(x);
            DUE.is("39 refused calls tell nothing", x.goOn(1), 2);
            tellOne(x, tell);
            DUE.is("39 VOID by " + tell, x.goOn(1), -2);
            DUE.is("39 wrong steps", x.goOn(-1), -1);
            DUE.is("41 STEPS stay", x.count(5), 6);
            DUE.is("38 a new one is not VOID", x.search(1, 0, 0, 0), 2);
            DUE.is("39 a new one is not VOID", x.goOn(0), 2);
            x.bells(4);
            DUE.is("39 none is there", x.goOn(0), -1);
        }
    }

    private static void refusedTells(RingingChamber x) {
        x.method(6);
        x.notation(1);
        x.notation(2);
        Due.lead(x, 0, "z");
        Due.lead(x, 0, "x".repeat(101));
        x.cut(0, -1);
        x.cut(0, 9);
        x.cut(1, 0);
        x.called(0, 1, 0, 3);
        x.called(0, 3, 0, 0);
        x.called(1, 1, 0, 0);
        x.part(0, 0);
        x.part(1, 1);
        x.allow(0, 8);
        x.allow(2, 0);
        x.touch(0, 0);
        x.on(3);
        x.proof();
        x.ring();
        x.clear();
        x.ringer(1, false);
        x.search(0, 0, 0, 0);
        Due.tell(x, "x");
    }

    private static void tellOne(RingingChamber x, String tell) {
        switch (tell) {
            case "method":
                x.method(0);
                break;
            case "notation":
                DUE.is("6 notation", x.notation(0), 1);
                break;
            case "cut":
                DUE.is("7 all of it", x.cut(0, 8), 8);
                break;
            case "called":
                x.called(0, 2, 99, 0);
                break;
            case "part":
                x.part(1, 0);
                break;
            default:
                DUE.is("37 the same bits", x.allow(0, 1), 1);
        }
    }

    private static void voidAndEnded() {
        RingingChamber x = minimus();
        x.search(3, 0, 0, 1000);
        x.method(0);
        DUE.is("39 VOID though it has ended", x.goOn(1), -2);
        DUE.is("40 what was found stays", x.found(2), 0);
        DUE.is("40 and no more than that", x.found(3), -1);
        DUE.is("41 STEPS stay", x.count(5), 24);
    }

    private static void found() {
        RingingChamber x = minimus();
        DUE.is("40 no search", x.found(0), -1);
        x.search(3, 0, 0, 1000);
        for (int i = 0; i < 3; i++) {
            DUE.is("40 item", x.found(i), 0);
        }
        DUE.is("40 beyond", x.found(3), -1);
        DUE.is("40 below", x.found(-1), -1);
        DUE.is("40 far", x.found(Integer.MAX_VALUE), -1);
        x.search(3, 0, 0, 3);
        DUE.is("40 not yet in the new one", x.found(0), -1);
        x.search(2, 0, 0, 1000);
        DUE.is("40 none", x.found(0), -1);
        x.search(3, 0, 0, 1000);
        x.bells(4);
        DUE.is("40 bells anew", x.found(0), -1);
    }

    private static void counts() {
        RingingChamber x = minimus();
        Due.tell(x, "x1");
        x.touch(0, 0);
        x.touch(0, 0);
        x.on(5);
        x.proof();
        x.search(2, 0, 0, 7);
        x.cut(0, -1);
        int[] counts = {4, 1, 2, 2, 6, 7, 6};
        for (int what = 0; what < counts.length; what++) {
            DUE.is("41 count(" + what + ")", x.count(what), counts[what]);
        }
        DUE.is("41 count(-1)", x.count(-1), -1);
        DUE.is("41 count(7)", x.count(7), -1);
        DUE.is("41 asking leaves the FINDING", x.count(6), 6);
    }
}
