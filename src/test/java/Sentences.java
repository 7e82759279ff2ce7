import java.util.Arrays;
import java.util.HashSet;
import java.util.Set;

/**
 * Tests of the document's sentences, one by one: each is told by lines on a new object. A line is a
 * call as Calls takes it; behind "=" stands the answer that is due, and behind "!" the FINDING that is
 * due then. "7x" ahead of a call makes it seven times.
 */
final class Sentences {
    private final Due due;
    private final Set<String> told = new HashSet<>();

    Sentences(String test) {
        this(new Due(test));
    }

    Sentences(Due due) {
        this.due = due;
    }

    void holds(String sentence, String... lines) {
        due.is("told twice: " + sentence, told.add(sentence), true);
        Calls calls = new Calls();
        for (String line : lines) {
            one(sentence, calls, line);
        }
    }

    /** As holds, with lines ahead that several sentences share. */
    void behind(String[] ahead, String sentence, String... lines) {
        String[] all = Arrays.copyOf(ahead, ahead.length + lines.length);
        System.arraycopy(lines, 0, all, ahead.length, lines.length);
        holds(sentence, all);
    }

    private void one(String sentence, Calls calls, String line) {
        String[] finding = line.split("!");
        String[] answer = finding[0].split("=");
        String call = answer[0].trim();
        if (call.matches("\\d+x .*")) {
            int times = Integer.parseInt(call.substring(0, call.indexOf('x')));
            for (int k = 0; k < times; k++) {
                calls.say(call.substring(call.indexOf(' ')));
            }
            return;
        }
        long got = calls.say(call);
        String shown = sentence + ": " + (call.length() > 60 ? call.substring(0, 60) + ".." : call);
        if (answer.length > 1) {
            due.is(shown, got, Calls.number(answer[1].trim()));
        }
        if (finding.length > 1) {
            due.is("FINDING of " + shown, calls.call("count", 6), Calls.number(finding[1].trim()));
        }
    }

    void close() {
        due.close();
    }
}
