import java.util.ArrayList;
import java.util.List;

/** An object is used for at most 512 calls: the 512th is a call as any other. */
public final class LastCallTest {
    private static final Due DUE = new Due("LastCallTest");
    private static final String[] STATE = {"bells 4", "method 0", "method 3", "method 5", "text 0 x1x1x1x2", "text 1 x1x12",
        "called 0 1 7 0", "part 2 0", "part 2 1", "allow 0 3", "allow 2 1", "touch 0 0", "touch 1 0", "touch 2 1", "on 5", "proof",
        "on 2", "ringer 3 no", "search 4 0 0 13", "tell x12"};
    private static final String[] LAST = {"feed 1 2 3 4 5", "end 2", "bells 6", "method 0", "notation 0", "cut 0 3",
        "called 0 2 0 0", "part 2 1", "lead 0 0 1 7", "judge 1", "leadHead 2 0", "course 0", "falseness 0 :1324", "trace 0 0",
        "change :1234 5", "number :4321", "ofNumber 23", "product :2341 :2143", "inverse :2341", "order :2341", "touch 0 0",
        "clear", "ring", "on 1000", "at 7", "round", "falseAt", "proof", "proofAt 5", "forge 5 1", "check", "ringer 3 yes",
        "heard 7", "fits :1234 :1---", "music 0", "allow 0 1", "search 3 0 0 1000", "goOn 1000", "found 0", "count 6"};

    public static void main(String[] args) {
        asAnyOther();
        again("search 12 99 0 1000", 2, "x", "1", "12", "34");
        again("search 3 0 0 1000", 0, "x1x1x1x1x1x2");
        again("judge 0", 1, "x1x1x1,2");
        again("course 0", 5, "x1x1x1,2");
        again("number :654321", 719, "x");
        again("bells 6", 1, "x");
        again("ring", 1, "x");
        again("feed 0 0 0 0 0", -1, "x");
        longTouches();
        traces();
        methodsAgainAndAgain();
        DUE.close();
    }

    /** Each of the forty calls as the 512th answers what it answers earlier. */
    private static void asAnyOther() {
        DUE.is("all the calls of the face", LAST.length, 40);
        for (String last : LAST) {
            Calls early = new Calls();
            Calls late = new Calls();
            early.sayAll(List.of(STATE));
            late.sayAll(List.of(STATE));
            while (late.made() < Calls.MOST - 1) {
                late.call("count", 0);
            }
            DUE.is(last + " as the 512th call", late.say(last), early.say(last));
            DUE.is("so many calls", late.made(), 512);
        }
    }

    /** The same call up to the 512th; the last answer is the one that is due. */
    private static void again(String call, long due, String... texts) {
        Calls calls = new Calls();
        for (int m = 0; m < texts.length; m++) {
            calls.call("method", 0);
            calls.say("text " + m + " " + texts[m]);
            calls.call("allow", m, 1);
        }
        long answer = 0;
        while (calls.made() < Calls.MOST) {
            answer = calls.say(call);
        }
        DUE.is(call + " again and again", answer, due);
    }

    private static void longTouches() {
        Calls calls = new Calls();
        List<String> lines = new ArrayList<>(List.of("bells 12", "method 0",
                "text 0 x36xETx34x5Tx1x18x36x10x1x36x5Tx1x1236x78x1x12x78xETx18x12x10x12x1x14x1236,5T"));
        for (int item = 0; item < 20; item++) {
            lines.add("touch 0 0");
        }
        calls.sayAll(lines);
        while (calls.made() + 6 <= Calls.MOST) {
            calls.sayAll(List.of("ring", "on 1000", "on 1000"));
            DUE.is("proof again and again", calls.call("proof"), 2000);
            DUE.is("check again and again", calls.say("check"), 1);
            DUE.is("round again and again", calls.say("round"), 2000);
        }
    }

    private static void traces() {
        Calls calls = new Calls();
        calls.sayAll(List.of("method 3", "method 5", "text 0 x14x34x14x12", "part 1 0", "part 1 0", "part 1 0",
                "part 1 0", "part 1 0", "part 1 0"));
        int before = calls.made();
        while (calls.made() < Calls.MOST - 3) {
            DUE.is("judge of six PARTS", calls.call("judge", 1), 1);
        }
        int times = Calls.MOST - 3 - before;
        DUE.is("510th: trace 5 2", calls.call("trace", 5, 2), times);
        DUE.is("511th: trace 3 2", calls.call("trace", 3, 2), 6L * times);
        DUE.is("512th: trace 0 0", calls.call("trace", 0, 0), 18L * times);
    }

    private static void methodsAgainAndAgain() {
        Calls calls = new Calls();
        long answer = 0;
        for (int made = 1; made <= Calls.MOST; made++) {
            answer = made % 32 == 1 ? calls.call("bells", 4 + made % 9) : calls.call("method", made % 6);
        }
        DUE.is("the 31st method as the 512th call", answer, -2);
    }
}
