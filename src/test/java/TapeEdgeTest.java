import java.util.ArrayList;
import java.util.List;

/** The boundaries of promises 1 to 5 and 41: a new object, the TAPE, the bells, new methods, counts. */
public final class TapeEdgeTest {
    private static final Sentences S = new Sentences("TapeEdgeTest");
    private static final String CROSSES = "feed 0x78787878 0x78787878 0x78787878 0x78787878 0x78787878";
    private static final String NOUGHTS = "feed 0 0 0 0 0";

    public static void main(String[] args) {
        newObject();
        feed();
        feedHighBytes();
        end();
        bellsTaken();
        bellsRefused();
        bellsKeep();
        bellsForget();
        method();
        count();
        S.close();
    }

    private static void newObject() {
        S.holds("1 six bells, ROUNDS", "count 0 = 6", "at 0 = :123456", "number :123456 = 0 ! 0",
                "number :12345 = -1 ! 8", "number :1234567 = -1 ! 8", "change :123456 16 = :123465 ! 0",
                "change :123456 32 = 0 ! 8");
        S.holds("1 no methods", "count 1 = 0", "judge 0 = 0 ! 4", "touch 0 0 = 0 ! 4", "allow 0 0 = -1",
                "method 0 = 0", "count 1 = 1");
        S.holds("1 an empty touch, not begun beyond row 0", "count 2 = 0", "at 1 = 0", "round = -1",
                "falseAt = -1", "music 0 = 0", "heard 1 = 0", "on 1000 = 0 ! 0", "at 1 = 0");
        S.holds("1 everybody rings: heard", "heard 0 = :123456");
        S.holds("1 everybody rings: how many", "ringer 6 yes = 6");
        S.holds("1 everybody rings: one less", "ringer 1 no = 5", "heard 0 = :23456");
        S.holds("1 no search", "goOn 0 = -1", "goOn 1000 = -1", "found 0 = -1", "count 5 = 0");
        S.holds("1 an empty TAPE", "count 3 = 0", "end 1 = -1", "end 0 = 0", "method 0", "notation 0 = -1 ! 0");
        S.holds("1 no PROOF", "count 4 = 0", "proofAt 0 = -1", "forge 0 5 = -1", "proofAt 0 = -1", "check = no");
        S.holds("1 no FINDING", "count 6 = 0");
        S.holds("1 no ITEM is ALLOWED", "method 0", "text 0 x", "search 1 0 0 1000 = 0", "count 5 = 0",
                "allow 0 0 = 0");
    }

    private static void feed() {
        List<String> lines = new ArrayList<>();
        for (int fed = 20; fed <= 300; fed += 20) {
            lines.add(NOUGHTS + " = " + fed);
            lines.add("count 3 = " + fed);
        }
        S.holds("2 up to 300 bytes are taken", lines.toArray(new String[0]));
        S.holds("2 more than 300: -1, and nothing is done", "method 0", "15x " + CROSSES, NOUGHTS + " = -1",
                "count 3 = 300", "end 100 = 100", "notation 0 = 100 ! 0", "lead 0 0 0 99 = 21");
        S.holds("2 301 would be more, 300 are not", "15x " + NOUGHTS, "end 281 = 281", NOUGHTS + " = -1",
                "count 3 = 281", "end 280 = 280", NOUGHTS + " = 300", NOUGHTS + " = -1");
        S.holds("2 the refused bytes are not there later", "method 0", "15x " + CROSSES, "end 281", NOUGHTS,
                "end 282 = -1", "end 100", "notation 0 = 100");
        S.holds("2 the 300th byte is kept", "method 0", "tell " + "x".repeat(299) + "z", "count 3 = 300",
                "notation 0 = -300 ! 0");
        S.holds("2 all 300 bytes are read", "method 0", "tell " + "12.".repeat(99) + "122", "count 3 = 300",
                "notation 0 = -300");
        S.holds("2 the highest byte of each number first", "bells 12", "method 0",
                "feed 0x31323334 0x35363738 0x39304554 0x78317832 0x78000000", "end 17 = 17",
                "notation 0 = 6", "lead 0 0 0 0 = 0", "lead 0 0 0 1 = 1365", "lead 0 0 0 2 = 682",
                "lead 0 0 0 3 = 1365", "lead 0 0 0 4 = 1364", "lead 0 0 0 5 = 1365");
        S.holds("2 twenty bytes, and noughts count", "method 0", "feed 0 0 0 0 1 = 20", "feed max min -1 0 1 = 40");
        S.holds("2 a TAPE emptied by notation takes 300 again", "method 0", "15x " + CROSSES, "notation 0 = -1000",
                "count 3 = 0", "14x " + CROSSES, CROSSES + " = 300", CROSSES + " = -1");
    }

    /** A byte of 128 and above is no sign, wherever it stands: also one that is a sign and 128. */
    private static void feedHighBytes() {
        for (int b = 128; b < 256; b++) {
            int[] first = Due.words((char) b + "x", 0);
            int[] second = Due.words("x" + (char) b, 0);
            int[] last = Due.words("x".repeat(19) + (char) b, 0);
            S.holds("2 byte " + b, "method 0", "text 0 1", "feed " + first[0] + " 0 0 0 0", "end 2",
                    "notation 0 = -1 ! 0", "feed " + second[0] + " 0 0 0 0", "end 2", "notation 0 = -2 ! 0",
                    "feed " + last[0] + " " + last[1] + " " + last[2] + " " + last[3] + " " + last[4],
                    "notation 0 = -20 ! 0", "lead 0 0 0 0 = 10", "lead 0 0 0 1 = -1");
        }
    }

    private static void end() {
        S.holds("3 0 of none", "end 0 = 0", "count 3 = 0");
        S.holds("3 1 of none", "end 1 = -1", "count 3 = 0");
        S.holds("3 0 of twenty", NOUGHTS, "end 0 = 0", "count 3 = 0", "end 1 = -1");
        S.holds("3 all of twenty", NOUGHTS, "end 20 = 20", "count 3 = 20");
        S.holds("3 one more than all", NOUGHTS, "end 21 = -1", "count 3 = 20");
        S.holds("3 all of 300", "15x " + NOUGHTS, "end 300 = 300", "end 301 = -1", "count 3 = 300");
        S.holds("3 below 0", NOUGHTS, "end -1 = -1", "count 3 = 20", "end min = -1", "count 3 = 20");
        S.holds("3 far beyond", NOUGHTS, "end max = -1", "count 3 = 20");
        S.holds("3 the first ones are kept", "method 0", "tell x1x2", "end 2 = 2", "notation 0 = 2",
                "lead 0 0 0 0 = 21", "lead 0 0 0 1 = 10");
        S.holds("3 what is cut off is gone", "method 0", "tell x1x2", "end 2", "end 3 = -1", "tell 2 = 3",
                "notation 0 = 2", "lead 0 0 0 1 = 20");
        S.holds("3 a refused end keeps the bytes", "method 0", "tell x1x2", "end 5 = -1", "end -1 = -1",
                "notation 0 = 4");
        S.holds("3 no ASK", "judge 0 ! 4", "end 1 = -1 ! 4", "end 0 = 0 ! 4");
    }

    private static void bellsTaken() {
        for (int n = 4; n <= 12; n++) {
            String rounds = "1234567890ET".substring(0, n);
            S.holds("4 there are " + n, "bells " + n + " = 1", "count 0 = " + n, "at 0 = :" + rounds,
                    "heard 0 = :" + rounds, "number :" + rounds + " = 0 ! 0", "ringer " + n + " yes = " + n,
                    "ringer " + (n + 1) + " yes = -1");
        }
    }

    private static void bellsRefused() {
        for (String n : new String[] {"3", "13", "0", "-1", "-4", "max", "min", "16", "268"}) {
            S.holds("4 n is not 4 .. 12: " + n, "bells 5", "method 0 = 0", "bells " + n + " = -1", "count 0 = 5",
                    "count 1 = 1", "at 0 = :12345");
        }
    }

    private static void bellsKeep() {
        S.holds("4 the TAPE stays", "method 0", "tell x1,2", "bells 8 = 1", "count 3 = 4", "method 0 = 0",
                "notation 0 = 4 ! 0", "lead 0 0 0 0 = 85");
        S.holds("4 a full TAPE stays", "15x " + CROSSES, "bells 4", "count 3 = 300", CROSSES + " = -1");
        S.holds("4 the TRACE stays", "method 0", "text 0 x", "judge 0 = 0", "lead 0 0 0 0 = 21", "bells 4 = 1",
                "trace 0 0 = 2", "trace 0 1 = 1", "trace 0 2 = 1", "method 0", "judge 0 = 0 ! 1", "trace 0 0 = 3",
                "trace 0 2 = 2");
        S.holds("4 the FINDING stays", "method 5", "called 0 1 0 0 = 0 ! 9", "bells 5 = 1", "count 6 = 9",
                "bells 3 = -1", "count 6 = 9");
    }

    private static void bellsForget() {
        for (String bells : new String[] {"bells 6", "bells 5"}) {
            String by = "4 all else is as at first, by " + bells + ": ";
            String rounds = bells.endsWith("6") ? ":123456" : ":12345";
            String[] ahead = {"method 0", "text 0 x1", "called 0 1 0 0", "allow 0 3"};
            S.behind(ahead, by + "methods", bells, "count 1 = 0", "judge 0 = 0 ! 4", "method 5 = 0",
                    "lead 0 0 0 0 = -1 ! 7");
            S.behind(ahead, by + "a LEAD", bells, "method 0 = 0", "lead 0 0 0 0 = -1 ! 1", "cut 0 0 = 0 ! 1");
            S.behind(ahead, by + "a BOB", bells, "method 0 = 0", "text 0 x", "lead 0 0 1 0 = -1 ! 1");
            S.behind(ahead, by + "what is ALLOWED", bells, "method 0 = 0", "text 0 x", "search 2 0 0 9 = 0",
                    "method 0 = 1", "allow 1 7 = 3");
            S.behind(ahead, by + "the touch", "touch 0 0", "on 1 = 1", bells, "count 2 = 0", "at 0 = " + rounds,
                    "at 1 = 0", "on 5 = 0 ! 0");
            S.behind(ahead, by + "an item begun", "touch 0 0", "on 1 = 1", bells, "method 0", "text 0 123",
                    "touch 0 0 = 1", "on 1 = 1", "lead 0 0 0 1 = -1", "on 1 = 1");
            S.behind(ahead, by + "a touch that came round", "text 0 xx", "touch 0 0", "on 9 = 2", "round = 2",
                    bells, "round = -1", "method 0", "text 0 x", "touch 0 0", "on 9 = 1 ! 0");
            S.behind(ahead, by + "a touch that is false", "text 0 x1.1", "touch 0 0", "on 9 = 3",
                    "falseAt = 30001", bells, "falseAt = -1", "proof = 1");
            S.behind(ahead, by + "a touch that stopped", "touch 0 2", "on 9 = 0 ! 1", bells, "method 0",
                    "text 0 x", "touch 0 0", "on 9 = 1 ! 0");
            S.behind(ahead, by + "the PROOF", "proof = 1", bells, "count 4 = 0", "proofAt 0 = -1",
                    "forge 0 0 = -1", "check = no");
            S.behind(ahead, by + "bells that nobody rings", "ringer 1 no = 5", "ringer 5 no = 4", bells,
                    "heard 0 = " + rounds, "ringer 1 yes = " + (rounds.length() - 1));
            S.behind(ahead, by + "a SEARCH that is SPENT", "search 2 0 0 1 = 2", bells, "goOn 9 = -1",
                    "count 5 = 0");
            S.behind(ahead, by + "a SEARCH that found", "text 0 xx", "search 1 0 0 9 = 1", "found 0 = 0", bells,
                    "found 0 = -1", "goOn 9 = -1", "count 5 = 0");
            S.behind(ahead, by + "a SEARCH that is VOID", "search 2 0 0 1 = 2", "method 0", "goOn 1 = -2", bells,
                    "goOn 1 = -1", "method 0", "goOn 1 = -1");
        }
    }

    private static void method() {
        for (int kind = 0; kind <= 5; kind++) {
            S.holds("5 kind " + kind, "method " + kind + " = 0", "count 1 = 1", "judge 0 = 0 ! " + (kind == 5 ? 7 : 1));
        }
        for (String kind : new String[] {"-1", "6", "min", "max", "256"}) {
            S.holds("5 no such kind " + kind, "method " + kind + " = -1", "count 1 = 0", "judge 0 = 0 ! 4",
                    "method 0 = 0");
        }
        S.holds("5 the 30th", "29x method 0", "method 0 = 29", "count 1 = 30", "text 29 x = 1", "touch 29 0 = 1",
                "on 5 = 1 ! 0");
        S.holds("5 the 31st", "30x method 0", "method 0 = -2", "method 5 = -2", "count 1 = 30", "judge 30 = 0 ! 4");
        S.holds("5 no such kind, when there are 30", "30x method 0", "method 6 = -1", "method -1 = -1", "count 1 = 30");
        S.holds("5 the 31st changes none that is there", "29x method 0", "method 4", "text 29 x1", "method 5 = -2",
                "cut 29 2 = 2 ! 0", "leadHead 29 0 = :241635 ! 0");
        S.holds("5 bells() makes room for 30 again", "30x method 0", "bells 6", "29x method 0", "method 0 = 29",
                "method 0 = -2");
        S.holds("5 no ASK", "judge 0 ! 4", "method 0 = 0 ! 4", "method 9 = -1 ! 4");
    }

    private static void count() {
        String[] full = {"bells 4", "method 0", "method 1", "text 0 x1", "touch 0 0", "touch 0 0", "touch 0 0",
            "on 4", "proof", "allow 0 1", "search 4 0 0 6", "tell x1x1x1x", "part 0 1 ! 3"};
        int[] counts = {4, 2, 3, 7, 5, 6, 3};
        for (int what = 0; what < counts.length; what++) {
            S.behind(full, "41 what = " + what, "count " + what + " = " + counts[what]);
        }
        for (String what : new String[] {"-1", "7", "min", "max", "256"}) {
            S.behind(full, "41 no such what: " + what, "count " + what + " = -1");
        }
        S.behind(full, "41 no ASK", "count 6 = 3", "count 7 = -1", "count 6 = 3", "count 0 = 4", "count 6 = 3");
    }
}
