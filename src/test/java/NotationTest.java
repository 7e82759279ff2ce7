/** Promises 1 to 6: a new object, the TAPE, the bells, methods and their notation. */
public final class NotationTest {
    private static final Due DUE = new Due("NotationTest");

    public static void main(String[] args) {
        newObject();
        feedAndEnd();
        bells();
        methods();
        changes();
        wrongTexts();
        thereAndBack();
        tooLong();
        findings();
        DUE.close();
    }

    private static void newObject() {
        RingingChamber x = new RingingChamber();
        int[] counts = {6, 0, 0, 0, 0, 0, 0};
        for (int what = 0; what < counts.length; what++) {
            DUE.is("1 count(" + what + ")", x.count(what), counts[what]);
        }
        DUE.is("1 at(0)", x.at(0), Due.code("123456"));
        DUE.is("1 at(1)", x.at(1), 0);
        DUE.is("1 round", x.round(), -1);
        DUE.is("1 falseAt", x.falseAt(), -1);
        DUE.is("1 check", x.check(), false);
        DUE.is("1 heard(0)", x.heard(0), Due.code("123456"));
        DUE.is("1 goOn", x.goOn(5), -1);
        DUE.is("1 found", x.found(0), -1);
        DUE.is("1 trace", x.trace(0, 0), 0);
        DUE.is("1 touch of no method", x.touch(0, 0), 0);
        DUE.is("1 its FINDING", x.count(6), 4);
    }

    private static void feedAndEnd() {
        RingingChamber x = new RingingChamber();
        x.method(0);
        for (int fed = 20; fed <= 300; fed += 20) {
            DUE.is("2 feed", x.feed(0, 0, 0, 0, 0), fed);
        }
        DUE.is("2 feed beyond", x.feed(0, 0, 0, 0, 0), -1);
        DUE.is("2 nothing done", x.count(3), 300);
        DUE.is("3 end beyond", x.end(301), -1);
        DUE.is("3 end below", x.end(-1), -1);
        DUE.is("3 end least", x.end(Integer.MIN_VALUE), -1);
        DUE.is("3 all stay", x.end(300), 300);
        DUE.is("3 end(281)", x.end(281), 281);
        DUE.is("2 feed to 301", x.feed(0, 0, 0, 0, 0), -1);
        DUE.is("3 end(280)", x.end(280), 280);
        DUE.is("2 feed to 300", x.feed(0, 0, 0, 0, 0), 300);
        DUE.is("3 end(0)", x.end(0), 0);
        DUE.is("3 nothing left", x.end(1), -1);
        // The signs of the five numbers, from the highest byte of the first on.
        x.feed(0x31322E33, 0x342E3536, 0x78317832, 0x78337834, 0x78357836);
        DUE.is("2 order of bytes", x.notation(0), 15);
        int[] lead = {20, 17, 5, 21, 10, 21, 20, 21, 9, 21, 18};
        for (int i = 0; i < lead.length; i++) {
            DUE.is("2 lead " + i, x.lead(0, 0, 0, i), lead[i]);
        }
        x.feed(-1, 0, 0, 0, 0);
        DUE.is("2 byte 255", x.notation(0), -1);
        x.feed(0x7878F8FF, 0, 0, 0, 0);
        DUE.is("2 byte above 127", x.notation(0), -3);
    }

    private static void bells() {
        RingingChamber x = new RingingChamber();
        x.method(0);
        Due.lead(x, 0, "x");
        x.allow(0, 1);
        x.touch(0, 0);
        x.on(1);
        x.proof();
        x.ringer(2, false);
        x.search(2, 0, 0, 1);
        Due.tell(x, "x12");
        x.judge(5);
        DUE.is("4 too few", x.bells(3), -1);
        DUE.is("4 too many", x.bells(13), -1);
        DUE.is("4 refused", x.count(1), 1);
        DUE.is("4 refused, search", x.goOn(0), 2);
        for (int n = 4; n <= 12; n++) {
            DUE.is("4 bells " + n, x.bells(n), 1);
            DUE.is("4 there are " + n, x.count(0), n);
            DUE.is("4 at(0)", x.at(0), Due.code("1234567890ET".substring(0, n)));
            DUE.is("4 rung", x.ringer(n, true), n);
        }
        x.bells(5);
        int[] counts = {5, 0, 0, 3, 0, 0, 4};
        for (int what = 0; what < counts.length; what++) {
            DUE.is("4 count(" + what + ")", x.count(what), counts[what]);
        }
        DUE.is("4 at(1)", x.at(1), 0);
        DUE.is("4 proofAt", x.proofAt(0), -1);
        DUE.is("4 check", x.check(), false);
        DUE.is("4 heard", x.heard(0), Due.code("12345"));
        DUE.is("4 search", x.goOn(0), -1);
        DUE.is("4 trace stays", x.trace(0, 1) > 0, true);
        DUE.is("4 method anew", x.method(0), 0);
        DUE.is("4 TAPE stays", x.notation(0), 2);
        DUE.is("4 not allowed", x.allow(0, 0), 0);
        x.bells(5);
        DUE.is("4 same bells", x.count(1), 0);
    }

    private static void methods() {
        RingingChamber x = new RingingChamber();
        DUE.is("5 kind -1", x.method(-1), -1);
        DUE.is("5 kind 6", x.method(6), -1);
        for (int m = 0; m < 30; m++) {
            DUE.is("5 method", x.method(m % 6), m);
        }
        DUE.is("5 31st", x.method(0), -2);
        DUE.is("5 31st of no kind", x.method(7), -1);
        DUE.is("5 count", x.count(1), 30);
        DUE.asks(x, "5 no method 30", x.judge(30), 0, 4);
        x.lead(29, 0, 0, 0);
        DUE.is("5 all MISSING, and no PARTS", x.count(6), 7);
        x.lead(28, 0, 0, 0);
        DUE.is("5 LEAD MISSING", x.count(6), 1);
    }

    private static void changes() {
        oneChange(6, "x", 1, 3, 5);
        oneChange(6, "1", 2, 4);
        oneChange(6, "2", 3, 5);
        oneChange(6, "3", 1, 4);
        oneChange(6, "4", 2, 5);
        oneChange(6, "5", 1, 3);
        oneChange(6, "6", 2, 4);
        oneChange(6, "12", 3, 5);
        oneChange(6, "34", 1, 5);
        oneChange(6, "1256", 3);
        oneChange(6, "123456");
        oneChange(6, "25", 3);
        oneChange(4, "x", 1, 3);
        oneChange(4, "3", 1);
        oneChange(5, "x", 1, 3);
        oneChange(5, "1", 2, 4);
        oneChange(5, "2", 3);
        oneChange(5, "3", 1, 4);
        oneChange(5, "5", 1, 3);
        oneChange(5, "145", 2);
        oneChange(11, "x", 1, 3, 5, 7, 9);
        oneChange(11, "E", 1, 3, 5, 7, 9);
        oneChange(12, "0", 2, 4, 6, 8, 11);
        oneChange(12, "E", 1, 3, 5, 7, 9);
        oneChange(12, "T", 2, 4, 6, 8, 10);
        oneChange(12, "90", 1, 3, 5, 7, 11);
        oneChange(12, "1890ET", 2, 4, 6);
    }

    private static void oneChange(int n, String text, int... places) {
        RingingChamber x = new RingingChamber();
        x.bells(n);
        x.method(0);
        DUE.asks(x, "6 " + text, Due.lead(x, 0, text), 1, 0);
        DUE.is("6 code of " + text, x.lead(0, 0, 0, 0), Due.change(places));
    }

    private static void wrongTexts() {
        wrong(6, "", 0);
        wrong(6, ".", 0);
        wrong(6, ",", 0);
        wrong(6, "X", 0);
        wrong(6, "-", 0);
        wrong(6, "e", 0);
        wrong(6, "7", 0);
        wrong(6, "0", 0);
        wrong(6, "x.", 1);
        wrong(6, "x.1", 1);
        wrong(6, "1.", 2);
        wrong(6, "1..2", 2);
        wrong(6, "1.x", 2);
        wrong(6, "1.,2", 2);
        wrong(6, "11", 1);
        wrong(6, "21", 1);
        wrong(6, "13", 1);
        wrong(6, "17", 1);
        wrong(6, "1.24", 3);
        wrong(6, "x1,", 3);
        wrong(6, "x1,,", 3);
        wrong(6, "x1,.1", 3);
        wrong(6, "x,x,x", 3);
        wrong(6, "x1 ", 2);
        wrong(9, "90", 1);
        wrong(10, "9E", 1);
        wrong(12, "0T", 1);
        wrong(12, "ET1", 2);
        wrong(4, "125", 2);
        wrong(6, "x".repeat(101) + "z", 101);
        wrong(6, "x".repeat(300), -1000);
        wrong(6, "x".repeat(299) + ",", 300);
    }

    /** The LEAD stays, the TAPE is empty, and there is no FINDING. */
    private static void wrong(int n, String text, int place) {
        RingingChamber x = new RingingChamber();
        x.bells(n);
        x.method(0);
        Due.lead(x, 0, "1");
        x.judge(9);
        String shown = text.length() > 20 ? "a long text" : text;
        DUE.asks(x, "6 " + shown, Due.lead(x, 0, text), place < 0 ? place : -1 - place, 0);
        DUE.is("6 TAPE behind " + shown, x.count(3), 0);
        DUE.is("6 LEAD behind " + shown, x.lead(0, 0, 0, 1), -1);
        DUE.is("6 LEAD behind " + shown, x.lead(0, 0, 0, 0) >= 0, true);
    }

    private static void thereAndBack() {
        leads("x1,2", 21, 10, 21, 20);
        leads("1.2,x3", 10, 20, 10, 21, 9, 21);
        leads("x,1", 21, 10);
        leads("x1x,2.1.2", 21, 10, 21, 10, 21, 20, 10, 20, 10, 20);
        leads("1x34x", 10, 21, 17, 21);
        leads("xx", 21, 21);
    }

    private static void leads(String text, int... changes) {
        RingingChamber x = new RingingChamber();
        x.method(0);
        DUE.is("6 " + text, Due.lead(x, 0, text), changes.length);
        for (int i = 0; i < changes.length; i++) {
            DUE.is("6 " + text + " at " + i, x.lead(0, 0, 0, i), changes[i]);
        }
        DUE.asks(x, "6 behind " + text, x.lead(0, 0, 0, changes.length), -1, 2);
    }

    private static void tooLong() {
        RingingChamber x = new RingingChamber();
        x.method(0);
        DUE.is("6 100 changes", Due.lead(x, 0, "x".repeat(100)), 100);
        DUE.is("6 101 changes", Due.lead(x, 0, "x".repeat(101)), -1000);
        DUE.is("6 the LEAD stays", x.cut(0, 100), 100);
        DUE.is("6 there and back 100", Due.lead(x, 0, "x".repeat(50) + ",x"), 100);
        DUE.is("6 there and back 102", Due.lead(x, 0, "x".repeat(51) + ",x"), -1000);
        DUE.is("6 there and back 102", Due.lead(x, 0, "x," + "1x".repeat(25) + "1"), -1000);
        DUE.is("6 100 told by PLACES", Due.lead(x, 0, "12.".repeat(99) + "12"), 100);
    }

    private static void findings() {
        RingingChamber x = new RingingChamber();
        x.method(5);
        Due.tell(x, "x1");
        DUE.asks(x, "6 no method", x.notation(1), 0, 4);
        DUE.asks(x, "6 method -1", x.notation(-1), 0, 4);
        DUE.asks(x, "6 SPLICED", x.notation(0), 0, 3);
        DUE.is("6 the TAPE stays with a FINDING", x.count(3), 2);
        x.method(4);
        DUE.asks(x, "6 then it is read", x.notation(1), 2, 0);
        DUE.is("6 the TAPE is empty", x.count(3), 0);
    }
}
