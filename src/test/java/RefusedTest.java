import java.util.ArrayList;
import java.util.List;

/**
 * A call that is refused changes nothing but the FINDING (and the TRACE, where BODIES were begun). Two
 * objects are made alike, one of them is asked what is refused, and then both are asked all else.
 */
public final class RefusedTest {
    private static final Due DUE = new Due("RefusedTest");

    /** Methods 0 to 5 are of the kinds 0 to 5; method 6 has no LEAD, method 7 no PARTS. */
    private static final String[] METHODS = {"bells 4", "method 0", "method 1", "method 2", "method 3", "method 4",
        "method 5", "method 0", "method 5", "text 0 x1x1x1x2", "text 1 x1.1x", "text 2 x1x1", "text 3 x1x12", "text 4 x1",
        "called 0 1 7 0", "called 0 2 7 4", "called 1 1 0 1", "called 3 1 40 4", "called 4 2 0 0", "part 5 0", "part 5 4",
        "allow 0 3", "allow 4 1", "allow 5 1"};
    private static final String[] MIDWAY = {"touch 0 0", "touch 4 0", "touch 5 1", "touch 0 2", "on 2", "proof", "on 1",
        "ringer 2 no", "search 4 0 0 13", "tell x12"};
    private static final String[] ENDED = {"touch 4 0", "touch 4 0", "touch 4 0", "touch 4 0", "on 9", "proof", "forge 1 77",
        "search 3 0 0 1000"};
    private static final String[] STOPPED = {"touch 4 0", "touch 6 0", "on 9", "search 1 99 0 1000", "ringer 1 no",
        "ringer 2 no", "ringer 3 no", "ringer 4 no", "tell z"};
    private static final String[] FALSE_AND_VOID = {"touch 4 0", "on 2", "proof", "touch 1 0", "on 9", "search 3 0 0 7",
        "allow 0 3", "tell " + "x".repeat(101)};

    private static final String[] REFUSED = {
        "end -1 = -1", "end 301 = -1", "end min = -1", "bells 3 = -1", "bells 13 = -1", "method -1 = -1", "method 6 = -1",
        "trace 6 0 = -1", "trace 1 0 = -1", "trace 0 3 = -1", "at -1 = 0", "at 2001 = 0", "proofAt -1 = -1", "proofAt 2001 = -1",
        "forge -1 5 = -1", "forge 2001 5 = -1", "ringer 0 yes = -1", "ringer 5 no = -1", "heard -1 = 0", "heard 2001 = 0",
        "fits 0 0 = no", "fits :1234 -1 = no", "fits :1234 5 = no", "music 5 = -1", "music -1 = -1", "allow -1 7 = -1",
        "allow 30 7 = -1", "allow 0 8 = -1", "allow 0 -1 = -1", "search 0 0 0 9 = -1", "search 13 0 0 9 = -1",
        "search 3 -1 0 9 = -1", "search 3 0 5 9 = -1", "search 3 0 :----1 9 = -1", "search 3 0 0 -1 = -1",
        "search 3 0 0 1001 = -1", "goOn -1 = -1", "goOn 1001 = -1", "found -1 = -1", "found 12 = -1", "count -1 = -1",
        "count 7 = -1"};

    private static final String[] ASKS = {
        "notation -1 = 0 ! 4", "notation 30 = 0 ! 4", "notation 5 = 0 ! 3", "cut 30 0 = 0 ! 4", "cut 5 0 = 0 ! 3",
        "cut 6 0 = 0 ! 1", "cut 0 -1 = 0 ! 6", "cut 0 9 = 0 ! 5", "called 30 1 0 0 = 0 ! 4", "called 5 1 0 0 = 0 ! 9",
        "called 0 0 0 0 = 0 ! 2", "called 0 3 0 0 = 0 ! 2", "called 0 1 -1 0 = 0 ! 2", "called 0 1 0 3 = 0 ! 8",
        "called 0 2 0 8 = 0 ! 8", "part 30 0 = 0 ! 4", "part 5 30 = 0 ! 4", "part 0 1 = 0 ! 3", "part 7 5 = 0 ! 3",
        "part 5 6 = 0 ! 2", "lead 30 0 0 0 = -1 ! 4", "lead 0 -1 0 0 = -1 ! 2", "lead 0 0 3 0 = -1 ! 2", "judge 30 = 0 ! 4",
        "leadHead 30 0 = 0 ! 4", "leadHead 0 3 = 0 ! 2", "course 30 = 0 ! 4", "falseness 30 :1234 = 0 ! 4",
        "falseness 0 :123 = 0 ! 8", "change 0 0 = 0 ! 8", "change :1234 3 = 0 ! 8", "number 0 = -1 ! 8", "ofNumber 24 = 0 ! 2",
        "ofNumber -1 = 0 ! 2", "product 0 :1234 = 0 ! 8", "product :1234 0 = 0 ! 8", "inverse 0 = 0 ! 8", "order 0 = 0 ! 8",
        "touch 30 0 = 0 ! 4", "touch 0 3 = 0 ! 2", "touch 0 -1 = 0 ! 2"};

    /** These begin BODIES, so that the TRACE is not as it was. */
    private static final String[] ASKS_BEGUN = {
        "lead 6 0 0 0 = -1 ! 1", "lead 7 0 0 0 = -1 ! 7", "lead 0 0 0 8 = -1 ! 2", "lead 0 0 0 -1 = -1 ! 2",
        "lead 2 0 1 0 = -1 ! 1", "leadHead 6 0 = 0 ! 1", "leadHead 2 1 = 0 ! 1", "leadHead 7 0 = 0 ! 7", "judge 6 = 0 ! 1",
        "judge 7 = 0 ! 7", "course 6 = 0 ! 1", "course 7 = 0 ! 7", "falseness 6 :1234 = 0 ! 1", "falseness 7 :1234 = 0 ! 7"};

    /** What only tells something changes nothing either, though it is not refused. */
    private static final String[] READERS = {
        "lead 3 2 1 0 = 5 ! 0", "leadHead 0 0 = :1342 ! 0", "judge 0 = 1 ! 0", "course 0 = 3 ! 0", "falseness 0 :1234 = 8 ! 0",
        "change :1234 5 = :2143 ! 0", "number :4321 = 23 ! 0", "ofNumber 23 = :4321 ! 0", "product :4321 :4321 = :1234 ! 0",
        "inverse :2341 = :4123 ! 0", "order :2341 = 4 ! 0"};

    public static void main(String[] args) {
        statesAreAsMeant();
        String[][] states = {{}, MIDWAY, ENDED, STOPPED, FALSE_AND_VOID};
        for (String[] state : states) {
            inState(behindMethods(state));
        }
        full();
        voidAndFalse();
        DUE.close();
    }

    private static List<String> behindMethods(String[] state) {
        List<String> lines = new ArrayList<>(List.of(METHODS));
        lines.addAll(List.of(state));
        return lines;
    }

    /** Row 3 in an item's midst and a SEARCH that is SPENT; round and found; stopped and none; false and VOID. */
    private static void statesAreAsMeant() {
        String[] asks = {"on 0", "round", "falseAt", "goOn 0", "count 4", "count 5"};
        long[][] dues = {{3, -1, -1, 2, 3, 13}, {8, 8, -1, 1, 8, 24}, {2, -1, -1, 0, 0, 26}, {6, -1, 50003, -2, 3, 7}};
        String[][] states = {MIDWAY, ENDED, STOPPED, FALSE_AND_VOID};
        for (int s = 0; s < states.length; s++) {
            Calls calls = new Calls();
            calls.sayAll(behindMethods(states[s]));
            for (int k = 0; k < asks.length; k++) {
                DUE.is("state " + s + ": " + asks[k], calls.say(asks[k]), dues[s][k]);
            }
        }
    }

    private static void inState(List<String> state) {
        for (String line : REFUSED) {
            changesNothing(state, line, true, "");
        }
        for (String line : ASKS) {
            changesNothing(state, line, true, "");
        }
        for (String line : ASKS_BEGUN) {
            changesNothing(state, line, false, "");
        }
        for (String line : READERS) {
            changesNothing(state, line, false, "");
        }
        Calls other = new Calls();
        other.sayAll(state);
        long rows = other.call("on", 0);
        for (String k : new String[] {"-1", "1001", "max", "min"}) {
            changesNothing(state, "on " + k + " = " + rows + " ! 2", true, "");
        }
        changesNothing(state, "on 0 = " + rows + " ! 0", true, "");
        wrongLeads(state);
    }

    /** A LEAD that is WRONG or TOO LONG empties the TAPE, and changes nothing else. */
    private static void wrongLeads(List<String> state) {
        String[] texts = {"'' = -1", "z = -1", "x1. = -4", "13 = -2", "x".repeat(101) + " = -1000"};
        for (int m = 0; m <= 6; m += 6) {
            for (String text : texts) {
                changesNothing(state, "text " + m + " " + text + " ! 0", true, "end 0");
            }
        }
    }

    /** Thirty methods, 100 ITEMS, six PARTS, 300 bytes: what is one more is refused. */
    private static void full() {
        List<String> state = new ArrayList<>(List.of(METHODS));
        for (int m = 8; m < 30; m++) {
            state.add("method " + m % 6);
        }
        for (int part = 2; part < 6; part++) {
            state.add("part 5 4");
        }
        for (int fed = 0; fed < 15; fed++) {
            state.add("feed 0x78787878 0x78787878 0x78787878 0x78787878 0x78787878");
        }
        for (int item = 0; item < 100; item++) {
            state.add("touch " + (item == 50 ? 1 : 4) + " 0");
        }
        state.add("on 5");
        state.add("search 3 0 0 7");
        String[] refused = {"feed 0 0 0 0 0 = -1", "feed -1 -1 -1 -1 -1 = -1", "end 301 = -1", "method 0 = -2", "method 5 = -2",
            "method 6 = -1", "part 5 0 = 0 ! 2", "part 5 4 = 0 ! 2", "touch 0 0 = 0 ! 2", "touch 29 2 = 0 ! 2",
            "touch 30 0 = 0 ! 4", "judge 30 = 0 ! 4", "allow 30 1 = -1"};
        for (String line : refused) {
            changesNothing(state, line, true, "");
        }
    }

    private static void voidAndFalse() {
        List<String> state = behindMethods(FALSE_AND_VOID);
        changesNothing(state, "proof = -1", true, "");
        changesNothing(state, "goOn 0 = -2", true, "");
        changesNothing(state, "goOn 1000 = -2", true, "");
        changesNothing(List.of(METHODS), "goOn 0 = -1", true, "");
        changesNothing(List.of(METHODS), "proofAt 0 = -1", true, "");
        changesNothing(List.of(METHODS), "forge 0 5 = -1", true, "");
        changesNothing(List.of(METHODS), "check = no", true, "");
    }

    private static void changesNothing(List<String> state, String line, boolean withTrace, String instead) {
        Calls asked = new Calls();
        Calls other = new Calls();
        asked.sayAll(state);
        other.sayAll(state);
        long finding = asked.call("count", 6);
        other.call("count", 6);
        String[] parts = line.split("[=!]");
        String shown = (line.length() > 60 ? line.substring(0, 60) + ".." : line) + " behind " + state.get(state.size() - 1);
        DUE.is(shown, asked.say(parts[0]), Calls.number(parts[1].trim()));
        long due = parts.length > 2 ? Calls.number(parts[2].trim()) : finding;
        DUE.is("FINDING of " + shown, asked.call("count", 6), due);
        if (!instead.isEmpty()) {
            other.say(instead);
        }
        for (String ask : all(withTrace)) {
            DUE.is(ask + " changed by " + shown, asked.say(ask), other.say(ask));
        }
    }

    /** What tells all that an object has: first what changes nothing, then what goes on from there. */
    private static List<String> all(boolean withTrace) {
        List<String> lines = new ArrayList<>();
        range(lines, "count ", 0, 5);
        range(lines, "found ", -1, 4);
        range(lines, "at ", 0, 9);
        range(lines, "proofAt ", -1, 9);
        lines.addAll(List.of("heard 0", "heard 1", "round", "falseAt", "check", "music 0", "music :1---"));
        if (withTrace) {
            traces(lines);
        }
        lines.addAll(List.of("goOn 1", "count 5", "goOn 3", "goOn 1000", "count 5"));
        range(lines, "found ", 0, 4);
        lines.addAll(List.of("on 1", "at 3", "at 4", "on 3", "at 6", "on 1000", "round", "falseAt", "check", "at 8"));
        range(lines, "lead 0 0 0 ", 0, 8);
        for (int m = 0; m < 8; m++) {
            range(lines, "leadHead " + m + " ", 0, 2);
            lines.add("judge " + m);
        }
        lines.addAll(List.of("lead 5 1 0 0", "lead 5 1 2 1", "lead 5 2 0 0", "lead 5 3 0 7", "lead 7 0 0 0"));
        lines.addAll(List.of("ring", "on 3", "at 1", "at 3", "on 1000", "proof", "count 4", "proofAt 2", "check"));
        lines.addAll(List.of("ringer 1 yes", "heard 0", "allow 6 0", "part 5 0", "part 7 0", "touch 0 0", "count 2"));
        lines.addAll(List.of("notation 6", "leadHead 6 0", "cut 6 1", "feed 0 0 0 0 0", "end 1"));
        lines.addAll(List.of("search 3 0 0 1000", "count 5", "found 0", "found 1", "found 2", "method 0", "count 1"));
        if (withTrace) {
            traces(lines);
        }
        return lines;
    }

    private static void range(List<String> lines, String call, int first, int last) {
        for (int i = first; i <= last; i++) {
            lines.add(call + i);
        }
    }

    private static void traces(List<String> lines) {
        for (int kind = 0; kind < 6; kind++) {
            range(lines, "trace " + kind + " ", 0, 2);
        }
    }
}
