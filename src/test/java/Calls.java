import java.util.ArrayList;
import java.util.List;

/**
 * A new object and the calls made on it, by their names or told as lines of text ("cut 0 -1"). It
 * refuses to make more than the 512 calls that an object is used for.
 */
final class Calls {
    static final int MOST = 512;

    private final RingingChamber x = new RingingChamber();
    private int made;

    int made() {
        return made;
    }

    /**
     * Makes the call that a line tells, and answers what it answers. Beside the calls of the object a
     * line may tell "tell TEXT" (the text is added to the TAPE) and "text M TEXT" (the TAPE is that text
     * alone, and then the LEAD of M); '' is the empty text.
     */
    long say(String line) {
        String[] words = line.trim().split(" +");
        switch (words[0]) {
            case "tell":
                return tell(words[1]);
            case "text":
                call("end", 0);
                tell(words[2]);
                return call("notation", number(words[1]));
            default:
                return call(words[0], numbers(words));
        }
    }

    private long tell(String word) {
        String text = word.equals("''") ? "" : word;
        long before = call("count", 3);
        for (int from = 0; from < text.length(); from += 20) {
            int[] words = Due.words(text, from);
            call("feed", words[0], words[1], words[2], words[3], words[4]);
        }
        return call("end", before + text.length());
    }

    private static long[] numbers(String[] words) {
        long[] numbers = new long[words.length - 1];
        for (int k = 0; k < numbers.length; k++) {
            numbers[k] = number(words[k + 1]);
        }
        return numbers;
    }

    /** A number; or a row or pattern, told by its bells behind a colon; or the name of a number. */
    static long number(String word) {
        if (word.startsWith(":")) {
            return Due.code(word.substring(1));
        }
        switch (word) {
            case "max": return Integer.MAX_VALUE;
            case "min": return Integer.MIN_VALUE;
            case "lmax": return Long.MAX_VALUE;
            case "lmin": return Long.MIN_VALUE;
            case "yes": return 1;
            case "no": return 0;
            default: return Long.decode(word);
        }
    }

    List<Long> sayAll(List<String> lines) {
        List<Long> answers = new ArrayList<>();
        for (String line : lines) {
            answers.add(say(line));
        }
        return answers;
    }

    /** One call, with its arguments as numbers; a boolean is 1 or 0. */
    long call(String name, long... a) {
        int[] i = new int[5];
        for (int k = 0; k < a.length; k++) {
            i[k] = (int) a[k];
        }
        made++;
        if (made > MOST) {
            throw new IllegalStateException("more than " + MOST + " calls on one object");
        }
        switch (name) {
            case "feed": return x.feed(i[0], i[1], i[2], i[3], i[4]);
            case "end": return x.end(i[0]);
            case "bells": return x.bells(i[0]);
            case "method": return x.method(i[0]);
            case "notation": return x.notation(i[0]);
            case "cut": return x.cut(i[0], i[1]);
            case "called": return x.called(i[0], i[1], i[2], i[3]);
            case "part": return x.part(i[0], i[1]);
            case "lead": return x.lead(i[0], i[1], i[2], i[3]);
            case "judge": return x.judge(i[0]);
            case "leadHead": return x.leadHead(i[0], i[1]);
            case "course": return x.course(i[0]);
            case "falseness": return x.falseness(i[0], a[1]);
            case "trace": return x.trace(i[0], i[1]);
            case "change": return x.change(a[0], i[1]);
            case "number": return x.number(a[0]);
            case "ofNumber": return x.ofNumber(i[0]);
            case "product": return x.product(a[0], a[1]);
            case "inverse": return x.inverse(a[0]);
            case "order": return x.order(a[0]);
            case "touch": return x.touch(i[0], i[1]);
            case "clear": return x.clear();
            case "ring": return x.ring();
            case "on": return x.on(i[0]);
            case "at": return x.at(i[0]);
            case "round": return x.round();
            case "falseAt": return x.falseAt();
            case "proof": return x.proof();
            case "proofAt": return x.proofAt(i[0]);
            case "forge": return x.forge(i[0], i[1]);
            case "check": return x.check() ? 1 : 0;
            case "ringer": return x.ringer(i[0], i[1] == 1);
            case "heard": return x.heard(i[0]);
            case "fits": return x.fits(a[0], a[1]) ? 1 : 0;
            case "music": return x.music(a[0]);
            case "allow": return x.allow(i[0], i[1]);
            case "search": return x.search(i[0], i[1], a[2], i[3]);
            case "goOn": return x.goOn(i[0]);
            case "found": return x.found(i[0]);
            case "count": return x.count(i[0]);
            default: throw new IllegalArgumentException(name);
        }
    }
}
