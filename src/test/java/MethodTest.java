/** Promises 7 to 15: what is told to methods, and their ACTS. */
public final class MethodTest {
    private static final Due DUE = new Due("MethodTest");
    private static final int PLAIN = 0;
    private static final int LITTLE = 1;
    private static final int TREBLE = 2;
    private static final int SURPRISE = 3;
    private static final int PRINCIPLE = 4;
    private static final int SPLICED = 5;
    private static final String BOB_MINOR = "x1x1x1,2";
    private static final String CROSSING = "x14x34x14x12";

    public static void main(String[] args) {
        cut();
        called();
        part();
        leadOfPlain();
        leadOfLittle();
        leadOfSurprise();
        leadOfPrinciple();
        leadOfSpliced();
        judge();
        judgeSpliced();
        leadHead();
        course();
        falseness();
        trace();
        tracesWithFindings();
        fullLeads();
        DUE.close();
    }

    private static RingingChamber with(int kind, String text) {
        RingingChamber x = new RingingChamber();
        x.method(kind);
        Due.lead(x, 0, text);
        return x;
    }

    private static void cut() {
        RingingChamber x = with(PLAIN, "x1x2");
        x.method(SPLICED);
        x.method(PLAIN);
        DUE.asks(x, "7 no method", x.cut(3, -1), 0, 4);
        DUE.asks(x, "7 SPLICED", x.cut(1, -1), 0, 3);
        DUE.asks(x, "7 MISSING", x.cut(2, -1), 0, 1);
        DUE.asks(x, "7 below", x.cut(0, -1), 0, 6);
        DUE.asks(x, "7 least", x.cut(0, Integer.MIN_VALUE), 0, 6);
        DUE.asks(x, "7 beyond", x.cut(0, 5), 0, 5);
        DUE.asks(x, "7 all", x.cut(0, 4), 4, 0);
        DUE.asks(x, "7 three", x.cut(0, 3), 3, 0);
        DUE.asks(x, "7 no longer four", x.cut(0, 4), 0, 5);
        DUE.is("7 the first ones", x.lead(0, 0, 0, 2), 21);
        DUE.asks(x, "7 none", x.cut(0, 0), 0, 0);
        DUE.asks(x, "7 nothing there", x.lead(0, 0, 0, 0), -1, 2);
        DUE.asks(x, "7 nothing is not MISSING", x.leadHead(0, 0), Due.code("123456"), 0);
    }

    private static void called() {
        RingingChamber x = with(PLAIN, "x1");
        x.method(SPLICED);
        DUE.asks(x, "8 no method", x.called(2, 0, -1, -1), 0, 4);
        DUE.asks(x, "8 SPLICED", x.called(1, 0, -1, -1), 0, 9);
        DUE.asks(x, "8 call 0", x.called(0, 0, 0, -1), 0, 2);
        DUE.asks(x, "8 call 3", x.called(0, 3, 0, 0), 0, 2);
        DUE.asks(x, "8 place", x.called(0, 1, -1, 3), 0, 2);
        DUE.asks(x, "8 no CHANGE", x.called(0, 1, 0, 3), 0, 8);
        DUE.asks(x, "8 below nought", x.called(0, 1, 0, -1), 0, 8);
        DUE.asks(x, "8 beyond the bells", x.called(0, 1, 0, 32), 0, 8);
        DUE.asks(x, "8 all stay", x.called(0, 1, 0, 0), 1, 0);
        DUE.asks(x, "8 highest", x.called(0, 2, 1, 21), 1, 0);
        DUE.is("8 BOB", x.lead(0, 0, 1, 0), 0);
        DUE.is("8 BOB's other CHANGE", x.lead(0, 0, 1, 1), 10);
        DUE.is("8 SINGLE", x.lead(0, 0, 2, 1), 21);
        DUE.asks(x, "8 told again", x.called(0, 1, 1, 16), 1, 0);
        DUE.is("8 BOB now", x.lead(0, 0, 1, 1), 16);
        DUE.is("8 no call", x.lead(0, 0, 0, 1), 10);
    }

    private static void part() {
        RingingChamber x = new RingingChamber();
        int[] kinds = {PLAIN, SPLICED, SPLICED, PRINCIPLE, SPLICED};
        for (int kind : kinds) {
            x.method(kind);
        }
        DUE.asks(x, "9 no m", x.part(5, 0), 0, 4);
        DUE.asks(x, "9 no p", x.part(1, 5), 0, 4);
        DUE.asks(x, "9 no p of no SPLICED", x.part(0, -1), 0, 4);
        DUE.asks(x, "9 m not SPLICED", x.part(3, 0), 0, 3);
        DUE.asks(x, "9 p SPLICED", x.part(4, 1), 0, 3);
        DUE.asks(x, "9 itself", x.part(4, 4), 0, 3);
        DUE.asks(x, "9 p greater", x.part(1, 3), 0, 2);
        for (int k = 1; k <= 6; k++) {
            DUE.asks(x, "9 part", x.part(4, k % 2 == 0 ? 0 : 3), k, 0);
        }
        DUE.asks(x, "9 seventh", x.part(4, 0), 0, 2);
        DUE.asks(x, "9 seventh is SPLICED", x.part(4, 1), 0, 3);
        DUE.asks(x, "9 another's first", x.part(1, 0), 1, 0);
    }

    private static void leadOfPlain() {
        RingingChamber x = with(PLAIN, "x1x2");
        x.method(TREBLE);
        DUE.asks(x, "10 no method", x.lead(2, -1, 3, 9), -1, 4);
        DUE.asks(x, "10 lead below 0", x.lead(1, -1, 0, 0), -1, 2);
        DUE.asks(x, "10 call below 0", x.lead(0, 0, -1, 0), -1, 2);
        DUE.asks(x, "10 call 3", x.lead(0, 0, 3, 0), -1, 2);
        DUE.asks(x, "10 LEAD MISSING", x.lead(1, 0, 0, 9), -1, 1);
        DUE.asks(x, "10 BOB MISSING", x.lead(0, 0, 1, 9), -1, 1);
        DUE.asks(x, "10 i below 0", x.lead(0, 0, 0, -1), -1, 2);
        DUE.asks(x, "10 i beyond", x.lead(0, 0, 0, 4), -1, 2);
        DUE.asks(x, "10 great lead", x.lead(0, Integer.MAX_VALUE, 0, 3), 20, 0);
        x.called(0, 1, 4, 1);
        DUE.asks(x, "10 BOB beyond", x.lead(0, 0, 1, 0), -1, 2);
        x.called(0, 1, Integer.MAX_VALUE, 1);
        DUE.asks(x, "10 BOB far beyond", x.lead(0, 0, 1, 0), -1, 2);
        x.called(0, 1, 3, 1);
        DUE.asks(x, "10 BOB at the last", x.lead(0, 0, 1, 3), 1, 0);
        x.called(0, 1, 0, 4);
        DUE.asks(x, "10 BOB at the first", x.lead(0, 0, 1, 0), 4, 0);
        DUE.asks(x, "10 TREBLE goes PLAIN's way", Due.lead(x, 1, "x1"), 2, 0);
        x.called(1, 2, 2, 1);
        DUE.asks(x, "10 TREBLE's place is not moved", x.lead(1, 0, 2, 0), -1, 2);
    }

    private static void leadOfLittle() {
        RingingChamber x = with(LITTLE, "x1x2");
        DUE.asks(x, "10 LITTLE without any", x.lead(0, 0, 2, 0), -1, 1);
        x.called(0, 1, 1, 4);
        DUE.asks(x, "10 SINGLE as BOB", x.lead(0, 0, 2, 1), 4, 0);
        x.called(0, 2, 0, 8);
        DUE.asks(x, "10 its SINGLE at the first", x.lead(0, 0, 2, 0), 8, 0);
        x.called(0, 2, 2, 8);
        DUE.asks(x, "10 its SINGLE", x.lead(0, 0, 2, 2), 8, 0);
        DUE.asks(x, "10 not the BOB", x.lead(0, 0, 2, 1), 10, 0);
        RingingChamber y = with(LITTLE, "x1x2");
        y.called(0, 2, 2, 8);
        DUE.asks(y, "10 a BOB is not a SINGLE", y.lead(0, 0, 1, 0), -1, 1);
    }

    private static void leadOfSurprise() {
        RingingChamber x = with(SURPRISE, "x1x2");
        x.called(0, 1, 400, 8);
        DUE.asks(x, "10 SURPRISE beyond", x.lead(0, 0, 1, 3), 8, 0);
        x.called(0, 1, 4, 16);
        DUE.asks(x, "10 SURPRISE just beyond", x.lead(0, 0, 1, 3), 16, 0);
        x.called(0, 1, 2, 16);
        DUE.asks(x, "10 SURPRISE within", x.lead(0, 0, 1, 2), 16, 0);
        DUE.asks(x, "10 SURPRISE's last", x.lead(0, 0, 1, 3), 20, 0);
        DUE.asks(x, "10 SINGLE MISSING", x.lead(0, 0, 2, 3), -1, 1);
        x.called(0, 1, 3, 1);
        x.cut(0, 2);
        DUE.asks(x, "10 moved in what is left", x.lead(0, 0, 1, 1), 1, 0);
        Due.lead(x, 0, "x1x2");
        DUE.asks(x, "10 the place was not changed", x.lead(0, 0, 1, 3), 1, 0);
        x.cut(0, 0);
        DUE.asks(x, "10 no CHANGE at all", x.lead(0, 0, 1, 0), -1, 2);
        DUE.asks(x, "10 no CHANGE, no call", x.leadHead(0, 0), Due.code("123456"), 0);
    }

    private static void leadOfPrinciple() {
        RingingChamber x = with(PRINCIPLE, "x1x2");
        x.called(0, 1, 0, 1);
        DUE.asks(x, "10 from the last back", x.lead(0, 0, 1, 3), 1, 0);
        x.called(0, 1, 3, 1);
        DUE.asks(x, "10 the first", x.lead(0, 0, 1, 0), 1, 0);
        x.called(0, 1, 4, 1);
        DUE.asks(x, "10 beyond the first", x.lead(0, 0, 1, 0), -1, 2);
        x.called(0, 1, Integer.MAX_VALUE, 1);
        DUE.asks(x, "10 far beyond", x.lead(0, 0, 1, 0), -1, 2);
        DUE.asks(x, "10 SINGLE MISSING", x.lead(0, 0, 2, 0), -1, 1);
        x.called(0, 2, 0, 1);
        x.cut(0, 0);
        DUE.asks(x, "10 nothing to call", x.lead(0, 0, 2, 0), -1, 2);
    }

    private static void leadOfSpliced() {
        RingingChamber x = with(PLAIN, "x");
        x.method(PRINCIPLE);
        Due.lead(x, 1, "1");
        x.method(SPLICED);
        DUE.asks(x, "10 no PARTS", x.lead(2, 0, 1, 0), -1, 7);
        x.part(2, 0);
        x.part(2, 1);
        x.part(2, 1);
        int[] firsts = {21, 10, 10, 21, 10, 10, 21};
        for (int lead = 0; lead < firsts.length; lead++) {
            DUE.asks(x, "10 PART of " + lead, x.lead(2, lead, 0, 0), firsts[lead], 0);
        }
        DUE.asks(x, "10 PART of the greatest", x.lead(2, Integer.MAX_VALUE, 0, 0), 10, 0);
        DUE.asks(x, "10 the PART's BOB MISSING", x.lead(2, 0, 1, 0), -1, 1);
        x.called(1, 1, 0, 4);
        DUE.asks(x, "10 the PART's BOB", x.lead(2, 1, 1, 0), 4, 0);
    }

    private static void judge() {
        judged(PLAIN, BOB_MINOR, 1);
        judged(PLAIN, "x", 0);
        judged(PLAIN, "x12x", 1);
        judged(LITTLE, BOB_MINOR, 0);
        judged(LITTLE, "x12x", 1);
        judged(LITTLE, "x", 0);
        judged(TREBLE, BOB_MINOR, 1);
        judged(TREBLE, "x12x", 0);
        judged(TREBLE, "x12x1", 1);
        judged(TREBLE, "x12", 0);
        judged(SURPRISE, BOB_MINOR, 0);
        judged(SURPRISE, CROSSING, 1);
        judged(SURPRISE, "x14x34x16x12", 0);
        judged(SURPRISE, "x16x34x14x12", 0);
        judged(TREBLE, "x16x34x14x12", 1);
        judged(SURPRISE, "x12x1", 1);
        judged(SURPRISE, "x12x", 0);
        judged(PRINCIPLE, "x", 1);
        judged(PRINCIPLE, BOB_MINOR, 0);
        RingingChamber x = new RingingChamber();
        DUE.asks(x, "11 no method", x.judge(0), 0, 4);
        for (int kind = 0; kind < 5; kind++) {
            x.method(kind);
            DUE.asks(x, "11 MISSING in kind " + kind, x.judge(kind), 0, 1);
            Due.lead(x, kind, "x");
            x.cut(kind, 0);
            DUE.asks(x, "11 no CHANGES in kind " + kind, x.judge(kind), kind == PRINCIPLE ? 0 : 1, 0);
        }
        x.bells(4);
        x.method(TREBLE);
        Due.lead(x, 0, "x14x14.14x14x12");
        DUE.is("11 oftener at the last place", x.judge(0), 0);
        x.bells(7);
        x.method(SURPRISE);
        Due.lead(x, 0, "x167x34x167x12");
        DUE.is("11 the last place but one stays", x.judge(0), 1);
        Due.lead(x, 0, "x1x34x167x12");
        DUE.is("11 place 7 is not enough", x.judge(0), 0);
        x.bells(12);
        x.method(TREBLE);
        Due.lead(x, 0, "x1x1x1x1x1x1,2");
        DUE.is("11 up to place 12", x.judge(0), 1);
        DUE.asks(x, "11 a method of former bells", x.judge(1), 0, 4);
        // On four bells the crossing has no place between 1 and 4 that stays.
        x.bells(4);
        x.method(SURPRISE);
        Due.lead(x, 0, "x14x12x14x12");
        DUE.is("11 SURPRISE on four", x.judge(0), 0);
    }

    private static void judged(int kind, String text, int verdict) {
        RingingChamber x = with(kind, text);
        DUE.asks(x, "11 kind " + kind + " " + text, x.judge(0), verdict, 0);
    }

    private static void judgeSpliced() {
        RingingChamber x = with(PLAIN, "x");
        x.method(PRINCIPLE);
        x.method(PRINCIPLE);
        Due.lead(x, 1, "x");
        x.method(SPLICED);
        DUE.asks(x, "11 no PARTS", x.judge(3), 0, 7);
        x.part(3, 1);
        DUE.asks(x, "11 all are 1", x.judge(3), 1, 0);
        x.part(3, 0);
        DUE.asks(x, "11 one is 0", x.judge(3), 0, 0);
        x.part(3, 2);
        DUE.asks(x, "11 up to the first that is 0", x.judge(3), 0, 0);
        x.method(SPLICED);
        x.part(4, 1);
        x.part(4, 2);
        DUE.asks(x, "11 what a PART finds", x.judge(4), 0, 1);
        DUE.is("11 PARTS begun", x.trace(PRINCIPLE, 2), 5);
        DUE.is("11 PARTS begun", x.trace(PLAIN, 2), 2);
        DUE.is("11 its own", x.trace(SPLICED, 2), 5);
    }

    private static void leadHead() {
        RingingChamber x = with(PLAIN, BOB_MINOR);
        x.method(PLAIN);
        DUE.asks(x, "12 no method", x.leadHead(2, 3), 0, 4);
        DUE.asks(x, "12 call", x.leadHead(1, 3), 0, 2);
        DUE.asks(x, "12 call", x.leadHead(1, -1), 0, 2);
        DUE.asks(x, "12 MISSING", x.leadHead(1, 0), 0, 1);
        DUE.asks(x, "12 BOB MISSING", x.leadHead(0, 1), 0, 1);
        DUE.asks(x, "12 lead", x.leadHead(0, 0), Due.code("135264"), 0);
        x.called(0, 1, 11, Due.change(2, 5));
        DUE.asks(x, "12 bob", x.leadHead(0, 1), Due.code("123564"), 0);
        x.called(0, 2, 11, Due.change(5));
        DUE.asks(x, "12 single", x.leadHead(0, 2), Due.code("132564"), 0);
        x.called(0, 2, 12, 0);
        DUE.asks(x, "12 beyond", x.leadHead(0, 2), 0, 2);
    }

    private static void course() {
        RingingChamber x = with(PLAIN, BOB_MINOR);
        x.method(SPLICED);
        x.method(PLAIN);
        DUE.asks(x, "13 no method", x.course(3), 0, 4);
        DUE.asks(x, "13 no PARTS", x.course(1), 0, 7);
        DUE.asks(x, "13 MISSING", x.course(2), 0, 1);
        DUE.asks(x, "13 Bob Minor", x.course(0), 5, 0);
        DUE.is("13 LEAD is done once", x.trace(PLAIN, 0), 2);
        x.part(1, 0);
        DUE.asks(x, "13 first PART", x.course(1), 5, 0);
        Due.lead(x, 0, "x1");
        DUE.asks(x, "13 hunting", x.course(0), 6, 0);
        Due.lead(x, 0, "123456");
        DUE.asks(x, "13 all stay", x.course(0), 1, 0);
        x.cut(0, 0);
        DUE.asks(x, "13 no CHANGES", x.course(0), 1, 0);
    }

    private static void falseness() {
        long rounds = Due.code("123456");
        RingingChamber x = with(PLAIN, "x1x1");
        x.method(PLAIN);
        DUE.asks(x, "14 no method", x.falseness(2, 0), 0, 4);
        DUE.asks(x, "14 no row", x.falseness(1, 0), 0, 8);
        DUE.asks(x, "14 MISSING", x.falseness(1, rounds), 0, 1);
        DUE.asks(x, "14 from ROUNDS", x.falseness(0, rounds), 4, 0);
        DUE.asks(x, "14 from its row 2", x.falseness(0, Due.code("241635")), 2, 0);
        DUE.asks(x, "14 from its last row", x.falseness(0, Due.code("462513")), 0, 0);
        DUE.asks(x, "14 from its row 1", x.falseness(0, Due.code("214365")), 2, 0);
        DUE.asks(x, "14 from afar", x.falseness(0, Due.code("123465")), 0, 0);
        Due.lead(x, 0, "1.1.1.1");
        DUE.asks(x, "14 each row that is shared", x.falseness(0, Due.code("132546")), 4, 0);
        x.cut(0, 0);
        DUE.asks(x, "14 no CHANGES", x.falseness(0, rounds), 0, 0);
        DUE.asks(x, "14 another's code", x.falseness(0, Due.code("12345")), 0, 8);
    }

    private static void trace() {
        RingingChamber x = new RingingChamber();
        int[][] none = {{-1, 0}, {6, 0}, {0, -1}, {0, 3}, {1, 0}, {2, 0}, {3, 0}, {2, 1}};
        for (int[] ask : none) {
            DUE.is("15 none of " + ask[0] + " " + ask[1], x.trace(ask[0], ask[1]), -1);
        }
        for (int kind = 0; kind < 5; kind++) {
            x.method(kind);
            Due.lead(x, kind, CROSSING);
            x.called(kind, 1, 0, 0);
        }
        x.lead(SURPRISE, 0, 0, 0);
        traces(x, "SURPRISE, no call", SURPRISE, 1, 1, PLAIN, 1, 1, PLAIN, 0, 1);
        x.lead(SURPRISE, 0, 1, 0);
        traces(x, "SURPRISE, BOB", SURPRISE, 1, 2, PLAIN, 1, 2, PLAIN, 0, 3);
        x.lead(SURPRISE, 0, 2, 0);
        traces(x, "SURPRISE, no SINGLE", SURPRISE, 1, 3, PLAIN, 1, 3, PLAIN, 0, 5);
        x.lead(LITTLE, 0, 2, 0);
        traces(x, "LITTLE", LITTLE, 1, 1, PLAIN, 1, 4, PLAIN, 0, 6);
        x.lead(TREBLE, 0, 1, 0);
        traces(x, "TREBLE", SURPRISE, 1, 3, PLAIN, 1, 5, PLAIN, 0, 7);
        x.lead(PRINCIPLE, 0, 1, 0);
        traces(x, "PRINCIPLE", PRINCIPLE, 1, 1, PRINCIPLE, 0, 1, PLAIN, 1, 5);
        x.judge(SURPRISE);
        traces(x, "judge SURPRISE", SURPRISE, 2, 1, TREBLE, 2, 1, PLAIN, 2, 1);
        DUE.is("15 its LEADS", x.trace(PLAIN, 0), 10);
        x.judge(LITTLE);
        traces(x, "judge LITTLE", LITTLE, 2, 1, PLAIN, 2, 2, PLAIN, 0, 12);
        Due.lead(x, LITTLE, "x");
        x.judge(LITTLE);
        traces(x, "LEAD again though it is 0", LITTLE, 2, 2, PLAIN, 2, 3, PLAIN, 0, 14);
        x.judge(PRINCIPLE);
        traces(x, "judge PRINCIPLE", PRINCIPLE, 2, 1, PRINCIPLE, 0, 2, PLAIN, 2, 3);
        Due.lead(x, TREBLE, "x");
        x.judge(TREBLE);
        traces(x, "LEAD again in TREBLE", TREBLE, 2, 2, PLAIN, 2, 4, PLAIN, 0, 16);
        Due.lead(x, SURPRISE, "x");
        x.judge(SURPRISE);
        traces(x, "LEAD again in SURPRISE", SURPRISE, 2, 2, TREBLE, 2, 3, PLAIN, 0, 19);
    }

    private static void tracesWithFindings() {
        RingingChamber x = new RingingChamber();
        x.method(SURPRISE);
        x.method(SPLICED);
        x.lead(0, 0, 1, 0);
        traces(x, "SURPRISE stops at its first look", SURPRISE, 1, 1, PLAIN, 0, 1, PLAIN, 1, 0);
        x.judge(0);
        traces(x, "judge stops in PLAIN's", SURPRISE, 2, 1, PLAIN, 2, 1, PLAIN, 0, 2);
        x.lead(1, 0, 0, 0);
        x.course(1);
        traces(x, "SPLICED without PARTS", SPLICED, 1, 1, SPLICED, 0, 1, PLAIN, 0, 2);
        x.lead(7, 0, 0, 0);
        x.lead(0, -1, 0, 0);
        x.falseness(0, 0);
        traces(x, "nothing begun", SURPRISE, 1, 1, SPLICED, 1, 1, PLAIN, 0, 2);
        x.part(1, 0);
        Due.lead(x, 0, "x");
        x.lead(1, 4, 0, 0);
        traces(x, "SPLICED and its PART", SPLICED, 1, 2, SURPRISE, 1, 2, PLAIN, 0, 3);
        x.course(1);
        traces(x, "LEAD of SPLICED", SPLICED, 0, 2, SPLICED, 1, 2, PLAIN, 0, 4);
    }

    private static void fullLeads() {
        long rounds = Due.code("123456");
        for (int kind = 0; kind < 5; kind++) {
            RingingChamber x = with(kind, "12.".repeat(99) + "12");
            x.called(0, 1, 99, 0);
            DUE.asks(x, "10 the 100th", x.lead(0, 0, 0, 99), 20, 0);
            DUE.asks(x, "10 the 100th called", x.lead(0, 0, 1, kind == PRINCIPLE ? 0 : 99), 0, 0);
            DUE.asks(x, "10 no 101st", x.lead(0, 0, 0, 100), -1, 2);
            DUE.asks(x, "11 of 100", x.judge(0), kind == PRINCIPLE ? 0 : 1, 0);
            DUE.asks(x, "12 of 100", x.leadHead(0, 0), rounds, 0);
            DUE.asks(x, "13 of 100", x.course(0), 1, 0);
            DUE.asks(x, "14 of 100", x.falseness(0, rounds), 100, 0);
        }
    }

    private static void traces(RingingChamber x, String what, int... asks) {
        for (int i = 0; i < asks.length; i += 3) {
            DUE.is("15 " + what + ": trace(" + asks[i] + ", " + asks[i + 1] + ")", x.trace(asks[i], asks[i + 1]), asks[i + 2]);
        }
    }
}
