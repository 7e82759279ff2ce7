/** '4 ASKS': which calls have a FINDING, which leave it alone, and which FINDING is the first. */
public final class FindingTest {
    private static final Sentences S = new Sentences("FindingTest");
    /** Method 0 is PLAIN, method 1 SPLICED; the latest ASK has the FINDING 9. */
    private static final String[] NINE = {"bells 4", "method 0", "method 5", "text 0 x1", "allow 0 1", "touch 0 0", "touch 0 0",
        "tell x1", "called 1 1 0 0 = 0 ! 9"};

    public static void main(String[] args) {
        noAsks();
        asksThatAreFine();
        asksThatFind();
        firstFindings();
        latestAsk();
        S.close();
    }

    private static void noAsks() {
        String[] calls = {"feed 0 0 0 0 0 = 22", "end 1 = 1", "end 9 = -1", "bells 5 = 1", "bells 3 = -1", "method 0 = 2",
            "method 9 = -1", "trace 0 0 = 0", "trace 9 0 = -1", "clear = 1", "ring = 1", "at 0 = :1234", "at 9 = 0", "round = -1",
            "falseAt = -1", "proof = 1", "proofAt 0 = -1", "forge 0 0 = -1", "check = no", "ringer 1 no = 3", "ringer 9 no = -1",
            "heard 0 = :1234", "heard 9 = 0", "fits :1234 0 = yes", "fits 0 0 = no", "music 0 = 0", "music -1 = -1",
            "allow 0 7 = 3", "allow 0 8 = -1", "search 3 0 0 9 = 0", "search 3 0 0 1 = 2", "search 0 0 0 0 = -1", "goOn 1 = -1",
            "found 0 = -1", "count 0 = 4", "count 9 = -1"};
        for (String call : calls) {
            S.behind(NINE, "4 no ASK: " + call, call + " ! 9", "count 6 = 9");
        }
    }

    private static void asksThatAreFine() {
        String[] calls = {"notation 0 = 2", "cut 0 1 = 1", "called 0 1 0 0 = 1", "part 1 0 = 1", "lead 0 0 0 0 = 5", "judge 0 = 0",
            "leadHead 0 0 = :2413", "course 0 = 4", "falseness 0 :1234 = 2", "change :1234 5 = :2143", "number :1234 = 0",
            "ofNumber 0 = :1234", "product :1234 :1234 = :1234", "inverse :1234 = :1234", "order :1234 = 1", "touch 0 0 = 3",
            "on 3 = 3", "on 0 = 0", "on 1000 = 4"};
        for (String call : calls) {
            S.behind(NINE, "4 an ASK without a FINDING: " + call, call + " ! 0", "count 6 = 0");
        }
        S.behind(NINE, "4 a LEAD that is WRONG is no FINDING", "text 0 z = -1 ! 0");
        S.behind(NINE, "4 a JUDGE that is 0 is no FINDING", "judge 0 = 0 ! 0");
        S.behind(NINE, "4 an answer 0 is no FINDING", "cut 0 0 = 0 ! 0");
    }

    private static void asksThatFind() {
        S.holds("4 FINDING 1", "method 0", "judge 0 = 0 ! 1");
        S.holds("4 FINDING 2", "ofNumber -1 = 0 ! 2");
        S.holds("4 FINDING 3", "method 5", "notation 0 = 0 ! 3");
        S.holds("4 FINDING 3 the other way", "method 0", "part 0 0 = 0 ! 3");
        S.holds("4 FINDING 4", "judge 0 = 0 ! 4");
        S.holds("4 FINDING 5", "method 0", "text 0 x", "cut 0 2 = 0 ! 5");
        S.holds("4 FINDING 6", "method 0", "text 0 x", "cut 0 -1 = 0 ! 6");
        S.holds("4 FINDING 7", "method 5", "judge 0 = 0 ! 7");
        S.holds("4 FINDING 8", "number 0 = -1 ! 8");
        S.holds("4 FINDING 9", "method 5", "called 0 1 0 0 = 0 ! 9");
        S.holds("4 lead answers -1, not 0", "lead 0 0 0 0 = -1 ! 4");
        S.holds("4 number answers -1, not 0", "number -1 = -1 ! 8");
        S.holds("4 on answers its rows, not 0", "method 0", "text 0 x1", "touch 0 0", "on 2 = 2", "on -1 = 2 ! 2");
        S.holds("4 the others answer 0", "notation 0 = 0 ! 4", "cut 0 0 = 0 ! 4", "called 0 1 0 0 = 0 ! 4", "part 0 0 = 0 ! 4",
                "judge 0 = 0 ! 4", "leadHead 0 0 = 0 ! 4", "course 0 = 0 ! 4", "falseness 0 :123456 = 0 ! 4", "change 0 0 = 0 ! 8",
                "ofNumber 720 = 0 ! 2", "product 0 0 = 0 ! 8", "inverse 0 = 0 ! 8", "order 0 = 0 ! 8", "touch 0 0 = 0 ! 4");
    }

    /** Several things are amiss at once; then, one by one, the first of them is mended. */
    private static void firstFindings() {
        String[] made = {"bells 4", "method 0", "method 5", "method 0", "text 0 x1x2", "method 0", "method 5"};
        S.behind(made, "7 cut: 4, 3, 1, 6 or 5", "cut 5 -1 = 0 ! 4", "cut 1 -1 = 0 ! 3", "cut 2 -1 = 0 ! 1", "cut 2 99 = 0 ! 1",
                "cut 0 -1 = 0 ! 6", "cut 0 5 = 0 ! 5", "cut 0 4 = 4 ! 0");
        S.behind(made, "8 called: 4, 9, 2, 8", "called 5 3 -1 3 = 0 ! 4", "called 1 3 -1 3 = 0 ! 9", "called 0 3 -1 3 = 0 ! 2",
                "called 0 1 -1 3 = 0 ! 2", "called 0 3 0 3 = 0 ! 2", "called 0 1 0 3 = 0 ! 8", "called 0 1 0 0 = 1 ! 0");
        S.behind(made, "9 part: 4, 4, 3, 2", "part 5 5 = 0 ! 4", "part 0 5 = 0 ! 4", "part 5 0 = 0 ! 4", "part 0 3 = 0 ! 3",
                "part 1 4 = 0 ! 3", "part 1 2 = 0 ! 2", "part 1 0 = 1 ! 0");
        S.behind(made, "10 lead: 4, 2, what CALLED finds, 2", "lead 5 -1 3 -1 = -1 ! 4", "lead 2 -1 3 -1 = -1 ! 2",
                "lead 2 0 3 -1 = -1 ! 2", "lead 2 -1 0 -1 = -1 ! 2", "lead 2 0 0 -1 = -1 ! 1", "lead 1 0 0 -1 = -1 ! 7",
                "lead 0 0 1 -1 = -1 ! 1", "called 0 1 4 0", "lead 0 0 1 -1 = -1 ! 2", "lead 0 0 0 4 = -1 ! 2",
                "lead 0 0 0 3 = 4 ! 0");
        S.behind(made, "12 leadHead: 4, 2, what it finds", "leadHead 5 3 = 0 ! 4", "leadHead 2 3 = 0 ! 2", "leadHead 1 3 = 0 ! 2",
                "leadHead 2 1 = 0 ! 1", "leadHead 1 1 = 0 ! 7", "leadHead 0 1 = 0 ! 1", "called 0 1 4 0", "leadHead 0 1 = 0 ! 2");
        S.behind(made, "14 falseness: 4, 8, what LEAD finds", "falseness 5 0 = 0 ! 4", "falseness 2 0 = 0 ! 8",
                "falseness 1 0 = 0 ! 8", "falseness 2 :1234 = 0 ! 1", "falseness 1 :1234 = 0 ! 7", "falseness 0 :1234 = 4 ! 0");
        S.behind(made, "22 touch: 4, 2", "touch 5 3 = 0 ! 4", "touch 2 3 = 0 ! 2", "touch 2 2 = 1 ! 0", "99x touch 0 0",
                "touch 5 3 = 0 ! 4", "touch 5 0 = 0 ! 4", "touch 0 0 = 0 ! 2");
        S.behind(made, "25 on: 2, what an item's beginning finds", "touch 2 0", "on 1001 = 0 ! 2", "on 1 = 0 ! 1", "on 1 = 0 ! 0");
        S.behind(made, "3 CALLED: the LEAD, then the BOB, then its place", "lead 2 0 1 0 = -1 ! 1", "text 2 x", "cut 2 0",
                "lead 2 0 1 0 = -1 ! 1", "called 2 1 0 0", "lead 2 0 1 0 = -1 ! 2", "text 2 x", "lead 2 0 1 0 = 0 ! 0");
    }

    private static void latestAsk() {
        S.holds("4 the latest ASK alone", "judge 0 = 0 ! 4", "number 0 = -1 ! 8", "ofNumber -1 = 0 ! 2", "order :123456 = 1 ! 0");
        S.holds("41 it may be told again and again", "number 0 = -1 ! 8", "count 6 = 8", "count 6 = 8");
    }
}
