import java.util.ArrayList;
import java.util.Arrays;
import java.util.List;
import java.util.Random;

/**
 * Runs of calls made by a seeded generator, each answer compared with the slow model's. An object is
 * used for at most 512 calls, those that look at its state counted.
 */
public final class ModelTest {
    private static final String[] TEXTS = {
        "x1x1x1x1x1x2", "x1,2", "x14x14,12", "x16x16x16,12", "3.1.3,1", "x1.2x1", "1x2x", "x", "1", "12",
        "x3x4x2x3x4x5,2", "x2x2x2,1", "34x34.1x12x1x12x1,1", "x1x1x1,2", "3,1.5.1.5.1", "2.1", "x,x", "1,1"
    };
    private static final int RUNS = 1500;
    private static final String SIGNS = "xxx111223344556.,.,7890ETX -\u00ff";

    private final Random random;
    private final Calls chamber = new Calls();
    private final ChamberModel model = new ChamberModel();
    private final List<String> calls = new ArrayList<>();
    private final int[] seen;
    private final boolean small;
    private int bells = 6;

    private ModelTest(long seed, int[] seen) {
        random = new Random(seed);
        this.seen = seen;
        small = random.nextInt(3) != 0;
    }

    public static void main(String[] args) {
        int runs = args.length > 0 ? Integer.parseInt(args[0]) : RUNS;
        int[] seen = new int[4];
        int wrong = 0;
        for (int run = 0; run < runs && wrong < 5; run++) {
            wrong += new ModelTest(run, seen).isRight(run) ? 0 : 1;
        }
        System.out.println("ModelTest: " + runs + " runs; searches: " + seen[0] + " none, " + seen[1]
                + " found, " + seen[2] + " spent, " + seen[3] + " touches came round");
        for (int often : seen) {
            wrong += runs >= RUNS && often < 100 ? 1 : 0;
        }
        if (wrong != 0) {
            System.exit(1);
        }
    }

    private boolean isRight(int run) {
        try {
            prepare();
            while (!isUsedUp()) {
                one();
            }
            return true;
        } catch (IllegalStateException different) {
            System.out.println("run " + run + ": " + different.getMessage());
            calls.subList(Math.max(0, calls.size() - 30), calls.size()).forEach(System.out::println);
            return false;
        }
    }

    private int upTo(int most) {
        return random.nextInt(most + 1);
    }

    private int wild() {
        int[] wild = {Integer.MIN_VALUE, Integer.MAX_VALUE, -1, -2, 13, 100, 1000, 1001, 1 << 20, random.nextInt()};
        return wild[random.nextInt(wild.length)];
    }

    /** Mostly in 0 .. most, sometimes just outside, sometimes far. */
    private int about(int most) {
        int kind = random.nextInt(40);
        return kind == 0 ? wild() : kind == 1 ? most + 1 : kind == 2 ? -1 : upTo(Math.max(most, 0));
    }

    private int aboutMethod() {
        return about((int) model.call("count", 1) - 1);
    }

    private long anyRow() {
        List<Integer> row = new ArrayList<>();
        for (int bell = 1; bell <= bells; bell++) {
            row.add(random.nextInt(row.size() + 1), bell);
        }
        long code = 0;
        for (int bell : row) {
            code = code * 16 + bell;
        }
        int kind = random.nextInt(25);
        return kind == 0 ? random.nextLong() : kind == 1 ? code + upTo(40) : kind == 2 ? code | 1L << 4 * bells : code;
    }

    private long anyPattern() {
        long pattern = random.nextInt(15) == 0 ? anyRow() : 0;
        for (int told = upTo(2); told > 0; told--) {
            int shift = 4 * random.nextInt(bells);
            pattern = pattern & ~(15L << shift) | (long) (1 + random.nextInt(bells)) << shift;
        }
        int kind = random.nextInt(25);
        return kind == 0 ? -pattern : kind == 1 ? pattern | 1L << 4 * bells : kind == 2 ? pattern | 13 : pattern;
    }

    private int anyChange() {
        int change = random.nextInt(1 << bells - 1);
        return random.nextInt(12) == 0 ? change : random.nextInt(20) == 0 ? wild() : change & ~(change << 1);
    }

    private String anyText() {
        int kind = random.nextInt(10);
        if (kind == 0) {
            return "x1".repeat(upTo(80));
        }
        if (kind == 1) {
            return "x,".repeat(upTo(1)) + "x".repeat(upTo(110));
        }
        StringBuilder text = new StringBuilder(TEXTS[random.nextInt(TEXTS.length)]);
        if (kind == 2 || kind == 3) {
            text.setLength(0);
            for (int length = upTo(12); length > 0; length--) {
                text.append(SIGNS.charAt(random.nextInt(SIGNS.length())));
            }
        } else if (kind == 4) {
            text.setCharAt(random.nextInt(text.length()), SIGNS.charAt(random.nextInt(SIGNS.length())));
        }
        return text.toString();
    }

    private void prepare() {
        bell(small ? 4 + upTo(2) : 4 + upTo(8));
        for (int m = 2 + upTo(4); m > 0; m--) {
            compare("method", upTo(5));
        }
        for (int m = 0; m < model.call("count", 1); m++) {
            notation(m);
            compare("called", m, 1, upTo(6), anyChange());
            compare("allow", m, upTo(7));
            compare("part", m, Math.max(0, m - 1));
        }
    }

    private void bell(int n) {
        if (compare("bells", n) == 1) {
            bells = n;
        }
    }

    private void notation(int m) {
        String text = anyText();
        for (int from = 0; from < text.length(); from += 20) {
            int[] words = Due.words(text, from);
            compare("feed", words[0], words[1], words[2], words[3], words[4]);
        }
        compare("end", random.nextInt(30) == 0 ? about(300) : text.length());
        compare("notation", m);
    }

    private void one() {
        switch (random.nextInt(random.nextInt(60) == 0 ? 28 : 27)) {
            case 0:
                compare("method", random.nextInt(3) == 0 ? about(5) : -1);
                return;
            case 1:
                notation(aboutMethod());
                return;
            case 2:
                compare("cut", aboutMethod(), about(8));
                return;
            case 3:
            case 4:
                compare("called", aboutMethod(), about(2), random.nextInt(4) == 0 ? about(110) : about(7), anyChange());
                return;
            case 5:
                compare("part", aboutMethod(), aboutMethod());
                return;
            case 6:
                compare("lead", aboutMethod(), about(20), about(2), about(12));
                return;
            case 7:
                compare("judge", aboutMethod());
                return;
            case 8:
                compare("leadHead", aboutMethod(), about(2));
                compare("course", aboutMethod());
                return;
            case 9:
                compare("falseness", aboutMethod(), anyRow());
                return;
            case 10:
                compare("change", anyRow(), anyChange());
                compare("number", anyRow());
                return;
            case 11:
                compare("ofNumber", random.nextInt(4) == 0 ? wild() : upTo(30));
                compare("product", anyRow(), anyRow());
                compare("inverse", anyRow());
                compare("order", anyRow());
                return;
            case 12:
            case 13:
            case 14:
                for (int more = upTo(4); more > 0; more--) {
                    compare("touch", aboutMethod(), about(2));
                }
                return;
            case 15:
                compare(random.nextBoolean() ? "clear" : "ring");
                return;
            case 16:
            case 17:
                ringOn();
                return;
            case 18:
                compare("proof");
                compare("check");
                return;
            case 19:
                compare("proofAt", about(10));
                compare("forge", about(10), random.nextBoolean() ? wild() : (int) model.call("proofAt", 0));
                compare("check");
                return;
            case 20:
                compare("ringer", about(bells), upTo(1));
                compare("heard", about(20));
                return;
            case 21:
                compare("fits", anyRow(), anyPattern());
                compare("music", anyPattern());
                return;
            case 22:
                compare("allow", aboutMethod(), about(7));
                return;
            case 23:
            case 24:
                search();
                return;
            case 25:
                note(compare("goOn", about(30)));
                return;
            case 26:
                compare("trace", about(5), about(2));
                return;
            default:
                bell(small ? 4 + upTo(2) : about(12));
        }
    }

    private void ringOn() {
        compare("on", random.nextInt(4) == 0 ? about(1000) : about(40));
        for (int k = 0; k < 3; k++) {
            compare("at", about(40));
        }
        seen[3] += compare("round") > 0 ? 1 : 0;
        compare("falseAt");
    }

    private void search() {
        long answer = compare("search", 1 + upTo(random.nextInt(6) == 0 ? 12 : 3), upTo(2), anyPattern(), about(60));
        for (int more = upTo(6); more > 0 && answer == 2; more--) {
            answer = compare("goOn", random.nextInt(3) == 0 ? upTo(300) : upTo(9));
        }
        note(answer);
        for (int i = -1; i < 4; i++) {
            compare("found", i);
        }
    }

    private void note(long answer) {
        if (answer >= 0) {
            seen[(int) answer]++;
        }
    }

    private long compare(String name, long... a) {
        if (isUsedUp()) {
            return 0;
        }
        StringBuilder call = new StringBuilder(name).append('(');
        for (int k = 0; k < a.length; k++) {
            call.append(k == 0 ? "" : ", ").append(a[k]);
        }
        long want = model.call(name, a);
        long got = chamber.call(name, a);
        calls.add(call.append(") answered ").append(got).toString());
        if (got != want) {
            throw new IllegalStateException(call + ", the model says " + want);
        }
        compareState();
        return got;
    }

    private void compareState() {
        compareOne("count", 6);
        if (random.nextInt(30) == 0) {
            for (int kind = 0; kind < 6; kind++) {
                for (int act = 0; act < 3; act++) {
                    compareOne("trace", kind, act);
                }
            }
        }
        compareOne("count", random.nextInt(9) - 1);
    }

    private void compareOne(String name, long... a) {
        if (isUsedUp()) {
            return;
        }
        long got = chamber.call(name, a);
        long want = model.call(name, a);
        if (got != want) {
            throw new IllegalStateException(name + Arrays.toString(a) + " is " + got + ", the model says " + want);
        }
    }

    private boolean isUsedUp() {
        return chamber.made() >= Calls.MOST;
    }
}
