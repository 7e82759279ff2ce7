import java.util.ArrayList;
import java.util.List;

/** The boundaries of '3 METHODS' and of promises 7 to 15: what a method has, and its ACTS. */
public final class MethodEdgeTest {
    private static final Sentences S = new Sentences("MethodEdgeTest");
    private static final String[] KINDS = {"PLAIN", "LITTLE", "TREBLE", "SURPRISE", "PRINCIPLE", "SPLICED"};
    private static final int LITTLE = 1;
    private static final int SURPRISE = 3;
    private static final int PRINCIPLE = 4;
    private static final String FULL = "12.".repeat(99) + "12";

    public static void main(String[] args) {
        thirtyMethods();
        missingAtFirst();
        cut();
        called();
        parts();
        partOfALead();
        leadAsk();
        placesInTheLead();
        placesOfSurprise();
        placesOfPrinciple();
        singlesOfLittle();
        withoutChanges();
        splicedWithoutParts();
        judgeLittle();
        judgeTreble();
        judgeSurprise();
        judgePrinciple();
        judgeSpliced();
        fullLeads();
        leadHead();
        course();
        falseness();
        trace();
        traceWithFindings();
        S.close();
    }

    /** No method -1, none as many as there are, none far away: for each ASK that takes a method. */
    private static void thirtyMethods() {
        String[] asks = {"notation M", "cut M 0", "called M 1 0 0", "part M 0", "part 28 M", "lead M 0 0 0", "judge M",
            "leadHead M 0", "course M", "falseness M :123456", "touch M 0"};
        for (String ask : asks) {
            String due = ask.startsWith("lead ") ? " = -1 ! 4" : " = 0 ! 4";
            List<String> lines = new ArrayList<>(List.of("28x method 0", "method 5 = 28"));
            lines.add(ask.replace("M", "29") + due);
            lines.add("method 0 = 29");
            for (String m : new String[] {"30", "-1", "max", "min", "31"}) {
                lines.add(ask.replace("M", m) + due);
            }
            S.holds("4 no such method: " + ask, lines.toArray(new String[0]));
        }
        S.holds("3 method 29 is one", "29x method 0", "method 0 = 29", "text 29 x1 = 2 ! 0", "cut 29 1 = 1 ! 0",
                "called 29 1 0 0 = 1 ! 0", "lead 29 0 1 0 = 0 ! 0", "judge 29 = 0 ! 0", "leadHead 29 0 = :214365 ! 0",
                "course 29 = 2 ! 0", "falseness 29 :123456 = 1 ! 0", "touch 29 0 = 1 ! 0", "allow 29 1 = 1");
        S.holds("3 method 0 is one", "method 0 = 0", "text 0 x1 = 2 ! 0", "judge 0 = 0 ! 0", "allow 0 1 = 1");
        S.holds("37 no method 30", "30x method 0", "allow 29 7 = 3", "allow 30 7 = -1", "allow -1 7 = -1",
                "allow max 7 = -1", "allow min 7 = -1", "allow 29 7 = 3");
    }

    private static void missingAtFirst() {
        for (int kind = 0; kind < 5; kind++) {
            String[] made = {"method " + kind};
            S.behind(made, "3 the LEAD is MISSING at first: " + KINDS[kind], "lead 0 0 0 0 = -1 ! 1", "cut 0 0 = 0 ! 1",
                    "judge 0 = 0 ! 1", "leadHead 0 0 = 0 ! 1", "course 0 = 0 ! 1", "falseness 0 :123456 = 0 ! 1",
                    "touch 0 0 = 1 ! 0", "on 1 = 0 ! 1");
            S.behind(made, "3 the BOB is MISSING at first: " + KINDS[kind], "text 0 x1 = 2", "called 0 2 0 0 = 1",
                    "lead 0 0 1 0 = -1 ! 1", "leadHead 0 1 = 0 ! 1", "touch 0 1", "on 1 = 0 ! 1");
            S.behind(made, "3 the SINGLE is MISSING at first: " + KINDS[kind], "text 0 x1 = 2",
                    "lead 0 0 2 0 = -1 ! 1", "leadHead 0 2 = 0 ! 1", "touch 0 2", "on 1 = 0 ! 1");
            S.behind(made, "3 a MISSING LEAD is found with a BOB, too: " + KINDS[kind], "called 0 1 0 0 = 1 ! 0",
                    "lead 0 0 1 0 = -1 ! 1");
        }
        S.holds("3 another method's is MISSING all the same", "method 0", "method 0", "text 0 x", "called 0 1 0 0",
                "lead 1 0 0 0 = -1 ! 1", "text 1 x", "lead 1 0 1 0 = -1 ! 1");
    }

    private static void cut() {
        String[] four = {"method 0", "method 5", "method 0", "text 0 x1x2 = 4"};
        S.behind(four, "7 keeps all", "cut 0 4 = 4 ! 0", "lead 0 0 0 3 = 20 ! 0", "lead 0 0 0 4 = -1 ! 2");
        S.behind(four, "7 keeps all but one", "cut 0 3 = 3 ! 0", "lead 0 0 0 2 = 21 ! 0", "lead 0 0 0 3 = -1 ! 2");
        S.behind(four, "7 keeps one", "cut 0 1 = 1 ! 0", "lead 0 0 0 0 = 21 ! 0", "lead 0 0 0 1 = -1 ! 2");
        S.behind(four, "7 keeps none: it has no CHANGES, but is not MISSING", "cut 0 0 = 0 ! 0", "lead 0 0 0 0 = -1 ! 2",
                "leadHead 0 0 = :123456 ! 0", "cut 0 0 = 0 ! 0", "cut 0 1 = 0 ! 5");
        S.behind(four, "7 FINDING 5: it has not so many", "cut 0 5 = 0 ! 5", "cut 0 max = 0 ! 5", "cut 0 100 = 0 ! 5",
                "lead 0 0 0 3 = 20 ! 0");
        S.behind(four, "7 FINDING 5: it has them no longer", "cut 0 2 = 2", "cut 0 3 = 0 ! 5", "cut 0 2 = 2 ! 0");
        S.behind(four, "7 FINDING 6: below 0", "cut 0 -1 = 0 ! 6", "cut 0 min = 0 ! 6", "lead 0 0 0 3 = 20 ! 0");
        S.behind(four, "7 FINDING 1: MISSING", "cut 2 0 = 0 ! 1", "cut 2 -1 = 0 ! 1", "cut 2 9 = 0 ! 1");
        S.behind(four, "7 FINDING 3: SPLICED", "cut 1 0 = 0 ! 3", "cut 1 -1 = 0 ! 3", "cut 1 9 = 0 ! 3");
        S.behind(four, "7 FINDING 4: no such method", "cut 3 0 = 0 ! 4", "cut 3 -1 = 0 ! 4", "cut -1 -1 = 0 ! 4");
        S.holds("7 of 100", "method 0", "text 0 " + FULL, "cut 0 101 = 0 ! 5", "cut 0 100 = 100 ! 0", "cut 0 99 = 99 ! 0",
                "cut 0 100 = 0 ! 5");
    }

    private static void called() {
        String[] two = {"method 0", "method 5", "text 0 x1 = 2"};
        S.behind(two, "8 FINDING 4 is first", "called 2 0 -1 -1 = 0 ! 4", "called -1 0 -1 -1 = 0 ! 4");
        S.behind(two, "8 FINDING 9 is second", "called 1 0 -1 -1 = 0 ! 9", "called 1 1 0 0 = 0 ! 9");
        S.behind(two, "8 FINDING 2 is third: call 0", "called 0 0 0 -1 = 0 ! 2", "called 0 0 0 0 = 0 ! 2");
        S.behind(two, "8 FINDING 2: call 3", "called 0 3 0 -1 = 0 ! 2", "called 0 3 0 0 = 0 ! 2");
        S.behind(two, "8 FINDING 2: calls far away", "called 0 -1 0 0 = 0 ! 2", "called 0 max 0 0 = 0 ! 2",
                "called 0 min 0 0 = 0 ! 2", "called 0 4 0 0 = 0 ! 2");
        S.behind(two, "8 FINDING 2: the place is below 0", "called 0 1 -1 -1 = 0 ! 2", "called 0 1 -1 0 = 0 ! 2",
                "called 0 2 min 0 = 0 ! 2", "lead 0 0 1 0 = -1 ! 1", "lead 0 0 2 0 = -1 ! 1");
        S.behind(two, "8 FINDING 8 is last", "called 0 1 0 -1 = 0 ! 8", "called 0 1 0 3 = 0 ! 8",
                "called 0 1 0 32 = 0 ! 8", "called 0 2 max 24 = 0 ! 8", "called 0 1 0 min = 0 ! 8",
                "called 0 1 0 max = 0 ! 8", "lead 0 0 1 0 = -1 ! 1");
        S.behind(two, "8 call 1 and call 2 are taken", "called 0 1 0 1 = 1 ! 0", "called 0 2 0 4 = 1 ! 0",
                "lead 0 0 1 0 = 1 ! 0", "lead 0 0 2 0 = 4 ! 0", "lead 0 0 0 0 = 21 ! 0");
        S.behind(two, "8 place 0 is taken, and the greatest, too", "called 0 1 0 1 = 1 ! 0", "called 0 1 max 1 = 1 ! 0",
                "lead 0 0 1 0 = -1 ! 2");
        S.behind(two, "8 the CHANGES 0 and 16 are taken", "called 0 1 0 0 = 1 ! 0", "lead 0 0 1 0 = 0 ! 0",
                "called 0 1 0 16 = 1 ! 0", "lead 0 0 1 0 = 16 ! 0");
        S.behind(two, "8 a refused one leaves the one that was told", "called 0 1 1 4 = 1", "called 0 1 0 3 = 0 ! 8",
                "called 0 1 -1 0 = 0 ! 2", "lead 0 0 1 1 = 4 ! 0", "lead 0 0 1 0 = 21 ! 0");
        for (int n = 4; n <= 12; n++) {
            S.holds("8 the highest CHANGE of " + n, "bells " + n, "method 0", "text 0 x",
                    "called 0 1 0 " + (1 << n - 2) + " = 1 ! 0", "called 0 1 0 " + (1 << n - 1) + " = 0 ! 8",
                    "lead 0 0 1 0 = " + (1 << n - 2));
        }
    }

    private static void parts() {
        String[] made = {"method 0", "method 5", "method 4", "method 5", "method 3"};
        S.behind(made, "9 FINDING 4 of m", "part 5 0 = 0 ! 4", "part -1 0 = 0 ! 4", "part 5 5 = 0 ! 4");
        S.behind(made, "9 FINDING 4 of p", "part 3 5 = 0 ! 4", "part 3 -1 = 0 ! 4", "part 0 5 = 0 ! 4",
                "part 3 max = 0 ! 4", "part 3 min = 0 ! 4");
        S.behind(made, "9 FINDING 3: m is not SPLICED", "part 0 0 = 0 ! 3", "part 4 0 = 0 ! 3", "part 0 4 = 0 ! 3",
                "part 4 1 = 0 ! 3");
        S.behind(made, "9 FINDING 3: p is SPLICED", "part 3 1 = 0 ! 3", "part 1 3 = 0 ! 3", "part 3 3 = 0 ! 3");
        S.behind(made, "9 FINDING 2: p is not less than m", "part 1 2 = 0 ! 2", "part 3 4 = 0 ! 2",
                "lead 1 0 0 0 = -1 ! 7");
        S.behind(made, "9 p just less than m is taken", "part 3 2 = 1 ! 0", "part 1 0 = 1 ! 0");
        S.behind(made, "9 six are taken, the seventh is not", "part 3 0 = 1", "part 3 0 = 2", "part 3 2 = 3", "part 3 0 = 4",
                "part 3 0 = 5", "part 3 2 = 6 ! 0", "part 3 0 = 0 ! 2", "part 3 2 = 0 ! 2", "text 2 x", "text 0 1",
                "lead 3 5 0 0 = 21 ! 0", "lead 3 6 0 0 = 10 ! 0");
        S.behind(made, "9 with six the other FINDINGS are ahead", "6x part 3 0", "part 3 5 = 0 ! 4", "part 3 1 = 0 ! 3",
                "part 3 4 = 0 ! 2");
        S.behind(made, "9 another's six leave room", "6x part 3 0", "part 1 0 = 1 ! 0");
        for (int kind = 0; kind < 5; kind++) {
            S.holds("9 a " + KINDS[kind] + " may be a PART", "method " + kind, "method 5", "part 1 0 = 1 ! 0");
        }
    }

    private static void partOfALead() {
        List<String> six = new ArrayList<>(List.of("7x method 0", "method 5 = 7"));
        int[] codes = {10, 20, 9, 18, 5, 21};
        String[] texts = {"1", "2", "3", "4", "5", "x"};
        for (int p = 0; p < 6; p++) {
            six.add("text " + p + " " + texts[p] + " = 1");
            six.add("part 7 " + p + " = " + (p + 1));
        }
        String[] ahead = six.toArray(new String[0]);
        List<String> lines = new ArrayList<>();
        for (int i = 0; i < 14; i++) {
            lines.add("lead 7 " + i + " 0 0 = " + codes[i % 6] + " ! 0");
        }
        S.behind(ahead, "3 the PART i mod 6", lines.toArray(new String[0]));
        S.behind(ahead, "3 the PART of the greatest i", "lead 7 max 0 0 = 20 ! 0", "lead 7 2147483646 0 0 = 10 ! 0");
        S.behind(ahead, "3 the PART's BOB", "called 5 1 0 16 = 1", "lead 7 5 1 0 = 16 ! 0", "lead 7 11 1 0 = 16 ! 0",
                "lead 7 6 1 0 = -1 ! 1");
        S.holds("3 the one PART of all i", "method 0", "method 5", "text 0 x", "part 1 0 = 1", "lead 1 0 0 0 = 21",
                "lead 1 1 0 0 = 21", "lead 1 max 0 0 = 21");
        S.holds("3 a PART more changes which one it is", "method 0", "method 0", "method 5", "text 0 x", "text 1 1",
                "part 2 0", "lead 2 1 0 0 = 21", "part 2 1", "lead 2 1 0 0 = 10", "lead 2 2 0 0 = 21");
        S.holds("3 a PART's LEAD as it is then", "method 0", "method 5", "part 1 0 = 1 ! 0", "lead 1 0 0 0 = -1 ! 1",
                "text 0 x", "lead 1 0 0 0 = 21 ! 0", "cut 0 0", "lead 1 0 0 0 = -1 ! 2");
    }

    private static void leadAsk() {
        String[] made = {"method 0", "method 0", "method 5", "text 0 x1x2 = 4", "called 0 1 0 0"};
        S.behind(made, "10 FINDING 4 is first", "lead 3 -1 3 -1 = -1 ! 4");
        S.behind(made, "10 FINDING 2: lead is below 0", "lead 1 -1 0 0 = -1 ! 2", "lead 2 -1 0 0 = -1 ! 2",
                "lead 0 min 0 0 = -1 ! 2", "trace 0 1 = 0", "trace 5 1 = 0");
        S.behind(made, "10 FINDING 2: call is not 0 .. 2", "lead 1 0 -1 0 = -1 ! 2", "lead 1 0 3 0 = -1 ! 2",
                "lead 2 0 3 0 = -1 ! 2", "lead 0 0 max 0 = -1 ! 2", "lead 0 0 min 0 = -1 ! 2", "trace 0 1 = 0");
        S.behind(made, "10 what CALLED finds is ahead of no such CHANGE", "lead 1 0 0 -1 = -1 ! 1", "lead 0 0 2 9 = -1 ! 1",
                "lead 2 0 0 -1 = -1 ! 7");
        S.behind(made, "10 FINDING 2: no such CHANGE", "lead 0 0 0 -1 = -1 ! 2", "lead 0 0 0 4 = -1 ! 2",
                "lead 0 0 0 min = -1 ! 2", "lead 0 0 0 max = -1 ! 2", "lead 0 0 0 100 = -1 ! 2", "trace 0 1 = 5");
        S.behind(made, "10 the first and the last CHANGE", "lead 0 0 0 0 = 21 ! 0", "lead 0 0 0 3 = 20 ! 0");
        S.behind(made, "10 lead 0 and the greatest", "lead 0 0 0 1 = 10 ! 0", "lead 0 max 0 1 = 10 ! 0");
        S.behind(made, "10 calls 0, 1, 2", "called 0 2 0 1", "lead 0 0 0 0 = 21 ! 0", "lead 0 0 1 0 = 0 ! 0",
                "lead 0 0 2 0 = 1 ! 0");
        S.holds("10 the 100th CHANGE", "method 0", "text 0 " + FULL, "lead 0 0 0 99 = 20 ! 0", "lead 0 0 0 100 = -1 ! 2");
    }

    /** PLAIN's BODY, which LITTLE and TREBLE have from it. */
    private static void placesInTheLead() {
        for (int kind = 0; kind <= 2; kind++) {
            String[] made = {"method " + kind, "text 0 x1x2 = 4"};
            S.behind(made, "3 the last place in the lead: " + KINDS[kind], "called 0 1 3 1", "lead 0 0 1 3 = 1 ! 0",
                    "lead 0 0 1 2 = 21 ! 0");
            S.behind(made, "3 the first place in the lead: " + KINDS[kind], "called 0 1 0 1", "lead 0 0 1 0 = 1 ! 0",
                    "lead 0 0 1 1 = 10 ! 0");
            S.behind(made, "3 FINDING 2, the place behind the last: " + KINDS[kind], "called 0 1 4 1",
                    "lead 0 0 1 0 = -1 ! 2", "leadHead 0 1 = 0 ! 2", "touch 0 1", "on 1 = 0 ! 2");
            S.behind(made, "3 FINDING 2, the greatest place: " + KINDS[kind], "called 0 2 max 1", "lead 0 0 2 0 = -1 ! 2");
            S.behind(made, "3 a place that is no longer in the lead: " + KINDS[kind], "called 0 1 3 1", "cut 0 3",
                    "lead 0 0 1 0 = -1 ! 2", "text 0 1x1x", "lead 0 0 1 3 = 1 ! 0");
            S.holds("3 the places 99 and 100 of 100 CHANGES: " + KINDS[kind], "method " + kind, "text 0 " + FULL,
                    "called 0 1 99 1", "called 0 2 100 1", "lead 0 0 1 99 = 1 ! 0", "lead 0 0 2 0 = -1 ! 2");
        }
    }

    private static void placesOfSurprise() {
        String[] made = {"method 3", "text 0 x1x2 = 4"};
        S.behind(made, "3 SURPRISE: the last place is not beyond", "called 0 1 3 1", "lead 0 0 1 3 = 1 ! 0");
        S.behind(made, "3 SURPRISE: the last but one is not beyond", "called 0 1 2 1", "lead 0 0 1 2 = 1 ! 0",
                "lead 0 0 1 3 = 20 ! 0");
        S.behind(made, "3 SURPRISE: the place behind the last is as the last", "called 0 1 4 1", "lead 0 0 1 3 = 1 ! 0",
                "lead 0 0 1 2 = 21 ! 0");
        S.behind(made, "3 SURPRISE: the greatest place is as the last", "called 0 2 max 1", "lead 0 0 2 3 = 1 ! 0");
        S.behind(made, "3 SURPRISE: what is not there is not moved", "lead 0 0 1 0 = -1 ! 1", "lead 0 0 2 0 = -1 ! 1");
        S.behind(made, "3 SURPRISE: a SINGLE is not as a BOB", "called 0 1 0 1", "lead 0 0 2 0 = -1 ! 1");
        S.holds("3 SURPRISE: a lead of one CHANGE", "method 3", "text 0 x", "called 0 1 0 1", "lead 0 0 1 0 = 1 ! 0",
                "called 0 1 1 4", "lead 0 0 1 0 = 4 ! 0", "called 0 1 max 16", "lead 0 0 1 0 = 16 ! 0");
        S.holds("3 SURPRISE: a lead of 100 CHANGES", "method 3", "text 0 " + FULL, "called 0 1 100 1",
                "lead 0 0 1 99 = 1 ! 0", "lead 0 0 1 98 = 20 ! 0");
        S.holds("3 SURPRISE: a lead without CHANGES", "method 3", "text 0 x", "cut 0 0", "called 0 1 0 1",
                "lead 0 0 1 0 = -1 ! 2", "leadHead 0 1 = 0 ! 2", "called 0 1 5 1", "leadHead 0 1 = 0 ! 2",
                "leadHead 0 0 = :123456 ! 0", "leadHead 0 2 = 0 ! 1");
        S.behind(made, "3 SURPRISE: the place itself stays told", "called 0 1 9 1", "lead 0 0 1 3 = 1", "cut 0 2",
                "lead 0 0 1 1 = 1", "text 0 " + "x".repeat(12), "lead 0 0 1 9 = 1", "lead 0 0 1 11 = 21");
    }

    private static void placesOfPrinciple() {
        String[] made = {"method 4", "text 0 x1x2 = 4"};
        S.behind(made, "3 PRINCIPLE: 0 is the last one", "called 0 1 0 1", "lead 0 0 1 3 = 1 ! 0", "lead 0 0 1 0 = 21 ! 0");
        S.behind(made, "3 PRINCIPLE: the last place is the first one", "called 0 1 3 1", "lead 0 0 1 0 = 1 ! 0",
                "lead 0 0 1 3 = 20 ! 0");
        S.behind(made, "3 PRINCIPLE: FINDING 2 beyond", "called 0 1 4 1", "lead 0 0 1 0 = -1 ! 2", "called 0 1 max 1",
                "lead 0 0 1 0 = -1 ! 2");
        S.behind(made, "3 PRINCIPLE: FINDING 1, if it is MISSING", "lead 0 0 1 0 = -1 ! 1", "called 0 1 0 1",
                "lead 0 0 2 0 = -1 ! 1");
        S.holds("3 PRINCIPLE: a lead without CHANGES", "method 4", "text 0 x", "cut 0 0", "leadHead 0 1 = 0 ! 1",
                "called 0 1 0 1", "leadHead 0 1 = 0 ! 2", "leadHead 0 0 = :123456 ! 0");
        S.holds("3 PRINCIPLE: a lead of 100 CHANGES", "method 4", "text 0 " + FULL, "called 0 1 99 1", "called 0 2 100 1",
                "lead 0 0 1 0 = 1 ! 0", "lead 0 0 2 0 = -1 ! 2", "called 0 1 0 1", "lead 0 0 1 99 = 1 ! 0");
    }

    private static void singlesOfLittle() {
        String[] made = {"method 1", "text 0 x1x2 = 4"};
        S.behind(made, "3 LITTLE: both are MISSING", "lead 0 0 2 0 = -1 ! 1", "lead 0 0 1 0 = -1 ! 1");
        S.behind(made, "3 LITTLE: a MISSING SINGLE is as the BOB", "called 0 1 2 1", "lead 0 0 2 2 = 1 ! 0");
        S.behind(made, "3 LITTLE: a MISSING SINGLE is as a BOB beyond", "called 0 1 4 1", "lead 0 0 2 0 = -1 ! 2");
        S.behind(made, "3 LITTLE: its own SINGLE at place 0", "called 0 1 2 1", "called 0 2 0 4", "lead 0 0 2 0 = 4 ! 0",
                "lead 0 0 2 2 = 21 ! 0");
        S.behind(made, "3 LITTLE: its own SINGLE beyond", "called 0 1 2 1", "called 0 2 4 4", "lead 0 0 2 2 = -1 ! 2");
        S.behind(made, "3 LITTLE: a MISSING BOB is not as the SINGLE", "called 0 2 2 1", "lead 0 0 1 2 = -1 ! 1");
        for (int kind = 0; kind < 5; kind++) {
            if (kind != LITTLE) {
                S.holds("3 a MISSING SINGLE is as the BOB in LITTLE alone, not " + KINDS[kind], "method " + kind,
                        "text 0 x1", "called 0 1 0 1", "lead 0 0 2 0 = -1 ! 1");
            }
        }
    }

    private static void withoutChanges() {
        for (int kind = 0; kind < 5; kind++) {
            String[] made = {"method " + kind, "text 0 x", "cut 0 0 = 0 ! 0"};
            int verdict = kind == PRINCIPLE ? 0 : 1;
            S.behind(made, "3 a lead without CHANGES: " + KINDS[kind], "lead 0 0 0 0 = -1 ! 2", "judge 0 = " + verdict + " ! 0",
                    "leadHead 0 0 = :123456 ! 0", "course 0 = 1 ! 0", "falseness 0 :123456 = 0 ! 0",
                    "falseness 0 :213456 = 0 ! 0");
            S.behind(made, "3 a BOB in a lead without CHANGES: " + KINDS[kind], "lead 0 0 1 0 = -1 ! 1", "called 0 1 0 0",
                    "lead 0 0 1 0 = -1 ! 2");
        }
    }

    private static void splicedWithoutParts() {
        String[] made = {"method 0", "method 5", "text 0 xx"};
        S.behind(made, "3 FINDING 7: LEAD", "course 1 = 0 ! 7", "falseness 1 :123456 = 0 ! 7", "trace 5 0 = 2");
        S.behind(made, "3 FINDING 7: CALLED", "lead 1 0 0 0 = -1 ! 7", "lead 1 0 1 0 = -1 ! 7", "leadHead 1 2 = 0 ! 7",
                "trace 5 1 = 3", "trace 5 0 = 0");
        S.behind(made, "3 FINDING 7: JUDGE", "judge 1 = 0 ! 7", "trace 5 2 = 1", "trace 0 2 = 0");
        S.behind(made, "3 FINDING 7: an item", "touch 1 0 = 1 ! 0", "on 1 = 0 ! 7", "on 1 = 0 ! 0");
        S.behind(made, "3 FINDING 7: passed over in a SEARCH", "allow 1 7 = 3", "search 1 0 0 0 = 0", "trace 5 1 = 3");
        S.behind(made, "3 no FINDING 7 with one PART", "part 1 0 = 1", "course 1 = 1 ! 0", "judge 1 = 1 ! 0",
                "lead 1 0 0 0 = 21 ! 0");
    }

    private static void judged(String sentence, int n, int kind, String text, int verdict) {
        S.holds("3 JUDGE of " + KINDS[kind] + ": " + sentence, "bells " + n, "method " + kind, "text 0 " + text + " ! 0",
                "judge 0 = " + verdict + " ! 0");
    }

    private static void judgeLittle() {
        judged("place n - 1 is not n", 4, LITTLE, "x1.1x", 1);
        judged("place n in one row", 4, LITTLE, "x1xx1x", 0);
        judged("place n, n odd", 5, LITTLE, "x1x1.1x1x", 0);
        judged("place n - 1, n odd", 5, LITTLE, "x1xx1x", 1);
        judged("only bell 1 counts", 6, LITTLE, "1.12.1.12", 1);
        judged("its SUPER is 0", 4, LITTLE, "x", 0);
        judged("bell 1 stays at place 1", 4, LITTLE, "1", 1);
        judged("place 12 of 12", 12, LITTLE, "x1x1x1x1x1xx1x1x1x1x1x", 0);
        judged("place 11 of 12", 12, LITTLE, "x1x1x1x1x1.1x1x1x1x1x", 1);
    }

    private static void judgeTreble() {
        judged("at one place alone", 4, 2, "1", 1);
        judged("once at each", 4, 2, "x1xx1x1", 0);
        judged("twice at each", 4, 2, "x1x1x1x1", 1);
        judged("once too often at place 1", 4, 2, "x1x1x1x1.1", 0);
        judged("as often at each of two, the others never", 6, 2, "x12x1", 1);
        judged("once too often at place n", 4, 2, "x1x14.14x1x1", 0);
        judged("as often up to place 12", 12, 2, "x1x1x1x1x1x1,1", 1);
        judged("its SUPER is 0", 4, 2, "x", 0);
    }

    private static void judgeSurprise() {
        judged("another place than 1 and n stays", 6, SURPRISE, "x14x34x14x12", 1);
        judged("places 1 and n alone stay, on the way up", 6, SURPRISE, "x16x34x14x12", 0);
        judged("places 1 and n alone stay, on the way down", 6, SURPRISE, "x14x34x16x12", 0);
        judged("place n - 1 stays, n odd", 5, SURPRISE, "x145x34x145x1", 1);
        judged("place n alone stays beside 1, n odd", 7, SURPRISE, "x167x34x167x12", 1);
        judged("place 1 alone stays, n odd", 7, SURPRISE, "x1x34x167x12", 0);
        judged("between 1 and 2 none need stay", 6, SURPRISE, "x12x1", 1);
        judged("between 4 and 5 one must stay", 6, SURPRISE, "x14x16x12x16x14x12", 0);
        judged("its SUPER is 0, though all crossings are fit", 6, SURPRISE, "x14x34x14x", 0);
        judged("four bells have no place to stay", 4, SURPRISE, "x14x12x14x12", 0);
    }

    private static void judgePrinciple() {
        judged("bell 1 is not at place 1", 4, PRINCIPLE, "x", 1);
        judged("bell 1 is at place 1", 4, PRINCIPLE, "1", 0);
        judged("bell 1 is at place n", 4, PRINCIPLE, "x1x", 1);
        judged("bell 1 is at place 12 of 12", 12, PRINCIPLE, "x1x1x1x1x1x", 1);
    }

    private static void judgeSpliced() {
        String[] made = {"method 0", "method 4", "method 0", "method 5", "text 0 x", "text 1 x"};
        S.behind(made, "3 JUDGE of SPLICED: one PART that is 1", "part 3 1", "judge 3 = 1 ! 0", "trace 4 2 = 1");
        S.behind(made, "3 JUDGE of SPLICED: six PARTS that are 1", "6x part 3 1", "judge 3 = 1 ! 0", "trace 4 2 = 6");
        S.behind(made, "3 JUDGE of SPLICED: the sixth is 0", "5x part 3 1", "part 3 0 = 6", "judge 3 = 0 ! 0",
                "trace 4 2 = 5", "trace 0 2 = 1");
        S.behind(made, "3 JUDGE of SPLICED: up to the first that is 0", "part 3 0", "part 3 1", "part 3 2", "judge 3 = 0 ! 0",
                "trace 0 2 = 1", "trace 4 2 = 0");
        S.behind(made, "3 JUDGE of SPLICED: a FINDING ahead of one that is 0", "part 3 2", "part 3 0", "judge 3 = 0 ! 1",
                "trace 0 2 = 1");
        S.behind(made, "3 JUDGE of SPLICED: a FINDING behind one that is 1", "part 3 1", "part 3 2", "judge 3 = 0 ! 1",
                "trace 4 2 = 1", "trace 0 2 = 1");
    }

    private static void fullLeads() {
        for (int kind = 0; kind < 5; kind++) {
            String[] made = {"method " + kind, "text 0 " + FULL + " = 100"};
            S.behind(made, "3 JUDGE of 100 CHANGES: " + KINDS[kind], "judge 0 = " + (kind == PRINCIPLE ? 0 : 1) + " ! 0");
            S.behind(made, "3 the other acts of 100 CHANGES: " + KINDS[kind], "leadHead 0 0 = :123456 ! 0", "course 0 = 1 ! 0",
                    "falseness 0 :123456 = 100 ! 0", "falseness 0 :124365 = 100 ! 0", "falseness 0 :213456 = 0 ! 0",
                    "falseness 0 :124365 = 100 ! 0");
        }
    }

    private static void leadHead() {
        String[] made = {"method 0", "method 0", "method 5", "text 0 x1", "called 0 1 1 0", "called 0 2 0 0"};
        S.behind(made, "12 FINDING 4 is first", "leadHead 3 3 = 0 ! 4", "leadHead -1 -1 = 0 ! 4");
        S.behind(made, "12 FINDING 2: call is not 0 .. 2", "leadHead 1 -1 = 0 ! 2", "leadHead 1 3 = 0 ! 2",
                "leadHead 2 3 = 0 ! 2", "leadHead 0 max = 0 ! 2", "leadHead 0 min = 0 ! 2", "trace 0 1 = 0");
        S.behind(made, "12 what CALLED finds", "leadHead 1 0 = 0 ! 1", "leadHead 1 2 = 0 ! 1", "leadHead 2 0 = 0 ! 7");
        S.behind(made, "12 calls 0, 1, 2", "leadHead 0 0 = :241635 ! 0", "leadHead 0 1 = :214365 ! 0",
                "leadHead 0 2 = :132546 ! 0");
        S.behind(made, "12 CALLED of 0: the first PART", "text 1 1", "part 2 0", "part 2 1", "leadHead 2 0 = :241635 ! 0",
                "leadHead 2 1 = :214365 ! 0");
    }

    private static void course() {
        String[] made = {"method 0", "method 0", "method 5"};
        S.behind(made, "13 FINDING 4", "course 3 = 0 ! 4", "course -1 = 0 ! 4", "course max = 0 ! 4");
        S.behind(made, "13 what LEAD finds", "course 0 = 0 ! 1", "course 2 = 0 ! 7");
        S.behind(made, "13 one lead at least", "text 0 123456", "course 0 = 1 ! 0", "text 0 xx", "course 0 = 1 ! 0");
        S.behind(made, "13 a BOB plays no part", "text 0 x", "called 0 1 0 0", "course 0 = 2 ! 0", "trace 0 1 = 0");
        S.behind(made, "13 LEAD of 0 of a SPLICED: the first PART again and again", "text 0 x1", "text 1 x", "part 2 0",
                "part 2 1", "course 2 = 6 ! 0", "trace 5 0 = 1");
        S.holds("13 60 leads, the most of twelve bells", "bells 12", "method 0",
                "text 0 12.10.16.1T.16.34x1x10x18xET,1236 = 28", "course 0 = 60 ! 0");
    }

    private static void falseness() {
        String[] made = {"method 0", "method 0", "method 5", "text 0 x"};
        S.behind(made, "14 FINDING 4 is first", "falseness 3 0 = 0 ! 4", "falseness -1 :123456 = 0 ! 4");
        S.behind(made, "14 FINDING 8 is second", "falseness 1 0 = 0 ! 8", "falseness 2 :12345 = 0 ! 8",
                "falseness 0 :123455 = 0 ! 8", "falseness 0 lmin = 0 ! 8", "falseness 0 -1 = 0 ! 8", "trace 0 0 = 0",
                "trace 5 0 = 0");
        S.behind(made, "14 what LEAD finds", "falseness 1 :123456 = 0 ! 1", "falseness 2 :123456 = 0 ! 7");
        S.behind(made, "14 row 0 with them", "falseness 0 :123456 = 1 ! 0");
        S.behind(made, "14 the last one not", "falseness 0 :214365 = 0 ! 0");
        S.behind(made, "14 LEAD of 0 of a SPLICED", "text 1 x1.1", "part 2 1", "part 2 0", "falseness 2 :123456 = 3 ! 0",
                "falseness 2 :214365 = 2 ! 0");
        S.holds("14 100 rows", "bells 12", "method 0",
                "text 0 x36xETx34x5Tx1x18x36x10x1x36x5Tx1x1236x78x1x12x78xETx18x12x10x12x1x14x1236,5T = 100",
                "falseness 0 :1234567890ET = 100 ! 0", "falseness 0 :2143658709TE = 2 ! 0");
    }

    private static void trace() {
        for (int kind = -1; kind <= 6; kind++) {
            for (int act = -1; act <= 3; act++) {
                boolean there = kind >= 0 && kind <= 5 && act >= 0 && act <= 2;
                boolean own = act == 2 || (act == 1 ? kind != 2 : kind == 0 || kind >= 4);
                S.holds("15 trace of kind " + kind + " and act " + act,
                        "trace " + kind + " " + act + " = " + (there && own ? 0 : -1), "judge 0 = 0 ! 4",
                        "trace " + kind + " " + act + " = " + (there && own ? 0 : -1) + " ! 4");
            }
        }
        S.holds("15 far away", "trace max 0 = -1", "trace min 0 = -1", "trace 0 max = -1", "trace 0 min = -1",
                "trace 6 3 = -1", "trace -1 -1 = -1");
    }

    /** BODIES that were begun count, though the ASK has a FINDING; those that were not don't. */
    private static void traceWithFindings() {
        S.holds("4 TRACE: LEAD and CALLED of PLAIN", "method 0", "lead 0 0 0 0 = -1 ! 1", "trace 0 1 = 1", "trace 0 0 = 1");
        S.holds("4 TRACE: a BOB that is MISSING", "method 0", "text 0 x", "lead 0 0 1 0 = -1 ! 1", "trace 0 1 = 1",
                "trace 0 0 = 1");
        S.holds("4 TRACE: no such CHANGE", "method 0", "text 0 x", "lead 0 0 0 1 = -1 ! 2", "trace 0 1 = 1", "trace 0 0 = 1");
        S.holds("4 TRACE: LITTLE", "method 1", "lead 0 0 2 0 = -1 ! 1", "trace 1 1 = 1", "trace 0 1 = 1", "trace 0 0 = 1");
        S.holds("4 TRACE: PRINCIPLE", "method 4", "lead 0 0 2 0 = -1 ! 1", "trace 4 1 = 1", "trace 4 0 = 1", "trace 0 1 = 0");
        S.holds("4 TRACE: SURPRISE looks at LEAD, but with 0", "method 3", "text 0 x", "leadHead 0 0 = :214365",
                "trace 0 0 = 1", "leadHead 0 1 = 0 ! 1", "trace 0 0 = 3", "trace 3 1 = 2", "trace 0 1 = 2");
        S.holds("4 TRACE: JUDGE, up to the BODY with a FINDING", "method 3", "judge 0 = 0 ! 1", "trace 3 2 = 1",
                "trace 2 2 = 1", "trace 0 2 = 1", "trace 0 0 = 1");
        S.holds("4 TRACE: JUDGE of LITTLE, up to the BODY with a FINDING", "method 1", "judge 0 = 0 ! 1", "trace 1 2 = 1",
                "trace 0 2 = 1", "trace 0 0 = 1");
        S.holds("4 TRACE: SURPRISE's look at a LEAD that is MISSING", "method 3", "lead 0 0 1 0 = -1 ! 1", "trace 3 1 = 1",
                "trace 0 0 = 1", "trace 0 1 = 0");
        S.holds("3 TRACE: a SUPER that is 0 is no FINDING, LEAD is done again", "bells 4", "method 1", "method 2",
                "method 3", "text 0 x", "text 1 x", "text 2 x", "judge 0 = 0 ! 0", "trace 0 0 = 2", "judge 1 = 0 ! 0",
                "trace 0 0 = 4", "judge 2 = 0 ! 0", "trace 0 0 = 7", "trace 1 2 = 1", "trace 2 2 = 2", "trace 3 2 = 1",
                "trace 0 2 = 3");
        S.holds("4 TRACE: a PART's FINDING", "method 0", "method 5", "part 1 0", "lead 1 0 0 0 = -1 ! 1", "trace 5 1 = 1",
                "trace 0 1 = 1", "trace 0 0 = 1", "course 1 = 0 ! 1", "trace 5 0 = 1", "trace 0 0 = 2");
        S.holds("4 TRACE: an item's beginning", "method 0", "touch 0 0", "on 1 = 0 ! 1", "trace 0 1 = 1", "on 1 = 0 ! 0",
                "trace 0 1 = 1");
        S.holds("4 TRACE: nothing is begun ahead of a FINDING", "method 0", "judge 1 = 0 ! 4", "lead 0 -1 0 0 = -1 ! 2",
                "leadHead 0 3 = 0 ! 2", "falseness 0 0 = 0 ! 8", "touch 0 3 = 0 ! 2", "on -1 = 0 ! 2", "cut 0 0 = 0 ! 1",
                "trace 0 0 = 0", "trace 0 1 = 0", "trace 0 2 = 0");
    }
}
