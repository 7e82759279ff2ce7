import java.util.ArrayList;
import java.util.Arrays;
import java.util.HashMap;
import java.util.HashSet;
import java.util.List;
import java.util.Map;
import java.util.Set;
import java.util.TreeSet;

/**
 * The document's words told a second time, as plainly and as slowly as they can be: rows are lists,
 * FINDINGS are thrown, numbers are counted, and a search is gone through from its start every time.
 */
final class ChamberModel {
    private static final int[] UNDER = {-1, 0, 0, 2, -1, -1};

    static final class Amiss extends RuntimeException {
        private static final long serialVersionUID = 1L;
        final int finding;

        Amiss(int finding) {
            super(null, null, false, false);
            this.finding = finding;
        }
    }

    static final class Spent extends RuntimeException {
        private static final long serialVersionUID = 1L;

        Spent() {
            super(null, null, false, false);
        }
    }

    static final class Tune {
        final int kind;
        List<Integer> lead;
        final int[][] calls = new int[3][];
        final List<Tune> parts = new ArrayList<>();
        int allowed;

        Tune(int kind) {
            this.kind = kind;
        }
    }

    static final class Quest {
        int length;
        int wanted;
        long pattern;
        int may;
        int steps;
        int answer;
        boolean isVoid;
        List<Integer> found = new ArrayList<>();
        final Map<Integer, List<Integer>> leads = new HashMap<>();
    }

    private final List<Integer> tape = new ArrayList<>();
    private final int[][] trace = new int[6][3];
    private int finding;
    private int n = 6;
    private List<Tune> tunes = new ArrayList<>();
    private List<int[]> items = new ArrayList<>();
    private List<List<Integer>> rows = new ArrayList<>();
    private List<Integer> todo = new ArrayList<>();
    private int begun;
    private boolean stopped;
    private List<Integer> proof;
    private Set<Integer> silent = new HashSet<>();
    private Quest quest;

    ChamberModel() {
        ring();
    }

    // ---- rows

    private List<Integer> rounds() {
        List<Integer> row = new ArrayList<>();
        for (int bell = 1; bell <= n; bell++) {
            row.add(bell);
        }
        return row;
    }

    private static long code(List<Integer> row) {
        long code = 0;
        long factor = 1;
        for (int bell : row) {
            code += bell * factor;
            factor *= 16;
        }
        return code;
    }

    private List<Integer> row(long code) {
        List<Integer> row = digits(code);
        if (row == null || !new TreeSet<>(row).equals(new TreeSet<>(rounds()))) {
            throw new Amiss(8);
        }
        return row;
    }

    private List<Integer> digits(long code) {
        if (code < 0) {
            return null;
        }
        List<Integer> digits = new ArrayList<>();
        long rest = code;
        for (int i = 0; i < n; i++) {
            digits.add((int) (rest % 16));
            if (rest % 16 > n) {
                return null;
            }
            rest /= 16;
        }
        return rest == 0 ? digits : null;
    }

    private void mustBeChange(int change) {
        if (change < 0 || change >= Math.pow(2, n - 1) || Integer.toBinaryString(change).contains("11")) {
            throw new Amiss(8);
        }
    }

    private static List<Integer> changed(List<Integer> row, int change) {
        List<Integer> next = new ArrayList<>(row);
        for (int p = 1; p < row.size(); p++) {
            if ((change & 1 << p - 1) != 0) {
                next.set(p - 1, row.get(p));
                next.set(p, row.get(p - 1));
            }
        }
        return next;
    }

    private static List<Integer> rung(List<Integer> row, List<Integer> lead) {
        List<Integer> now = row;
        for (int change : lead) {
            now = changed(now, change);
        }
        return now;
    }

    private static int factorial(int k) {
        return k < 2 ? 1 : k * factorial(k - 1);
    }

    private static int numberOf(List<Integer> row) {
        int number = 0;
        for (int p = 0; p < row.size(); p++) {
            int less = 0;
            for (int q = p + 1; q < row.size(); q++) {
                less += row.get(q) < row.get(p) ? 1 : 0;
            }
            number += less * factorial(row.size() - 1 - p);
        }
        return number;
    }

    private static List<Integer> times(List<Integer> a, List<Integer> b) {
        List<Integer> product = new ArrayList<>();
        for (int place : b) {
            product.add(a.get(place - 1));
        }
        return product;
    }

    private int orderOf(List<Integer> a) {
        int k = 1;
        for (List<Integer> power = a; !power.equals(rounds()); power = times(power, a)) {
            k++;
        }
        return k;
    }

    private static boolean fitting(List<Integer> row, List<Integer> pattern) {
        for (int p = 0; p < row.size(); p++) {
            if (pattern.get(p) != 0 && !pattern.get(p).equals(row.get(p))) {
                return false;
            }
        }
        return true;
    }

    // ---- acts

    private static boolean owns(int kind, int act) {
        return act == 2 || (act == 0 ? kind == 0 || kind >= 4 : kind != 2);
    }

    private static int owner(int kind, int act) {
        return owns(kind, act) ? kind : owner(UNDER[kind], act);
    }

    private List<Integer> leadOf(Tune tune, int i) {
        int body = owner(tune.kind, 0);
        trace[body][0]++;
        if (body == 5) {
            if (tune.parts.isEmpty()) {
                throw new Amiss(7);
            }
            return leadOf(tune.parts.get(i % tune.parts.size()), i);
        }
        if (tune.lead == null) {
            throw new Amiss(1);
        }
        return tune.lead;
    }

    private List<Integer> calledOf(Tune tune, int i, int call) {
        return calledBody(owner(tune.kind, 1), tune, i, call, call == 0 ? null : tune.calls[call]);
    }

    private List<Integer> calledBody(int body, Tune tune, int i, int call, int[] told) {
        trace[body][1]++;
        if (body == 1) {
            boolean asBob = call == 2 && tune.calls[2] == null;
            return calledBody(0, tune, i, asBob ? 1 : call, asBob ? tune.calls[1] : told);
        }
        if (body == 3) {
            int[] moved = told;
            if (call != 0) {
                int last = leadOf(tune, i).size() - 1;
                if (told != null && last >= 0 && told[0] > last) {
                    moved = new int[] {last, told[1]};
                }
            }
            return calledBody(0, tune, i, call, moved);
        }
        if (body == 5) {
            if (tune.parts.isEmpty()) {
                throw new Amiss(7);
            }
            return calledOf(tune.parts.get(i % tune.parts.size()), i, call);
        }
        List<Integer> lead = new ArrayList<>(leadOf(tune, i));
        if (call == 0) {
            return lead;
        }
        if (told == null) {
            throw new Amiss(1);
        }
        if (told[0] >= lead.size()) {
            throw new Amiss(2);
        }
        lead.set(body == 4 ? lead.size() - 1 - told[0] : told[0], told[1]);
        return lead;
    }

    private boolean judged(int body, Tune tune) {
        trace[body][2]++;
        if (body == 5) {
            if (tune.parts.isEmpty()) {
                throw new Amiss(7);
            }
            for (Tune part : tune.parts) {
                if (!judged(part.kind, part)) {
                    return false;
                }
            }
            return true;
        }
        boolean was = UNDER[body] < 0 || judged(UNDER[body], tune);
        List<Integer> lead = leadOf(tune, 0);
        List<List<Integer>> all = new ArrayList<>();
        all.add(rounds());
        for (int change : lead) {
            all.add(changed(all.get(all.size() - 1), change));
        }
        boolean home = all.get(all.size() - 1).get(0) == 1;
        List<List<Integer>> behind = all.subList(1, all.size());
        switch (body) {
            case 0:
                return home;
            case 4:
                return !home;
            case 1:
                return was && behind.stream().noneMatch(row -> row.get(n - 1) == 1);
            case 2:
                Map<Integer, Integer> often = new HashMap<>();
                behind.forEach(row -> often.merge(row.indexOf(1), 1, Integer::sum));
                return was && new HashSet<>(often.values()).size() <= 1;
            default:
                return was && crossesWell(all);
        }
    }

    private boolean crossesWell(List<List<Integer>> all) {
        for (int i = 1; i < all.size(); i++) {
            int from = all.get(i - 1).indexOf(1) + 1;
            int to = all.get(i).indexOf(1) + 1;
            boolean crosses = from != to && Math.min(from, to) % 2 == 0;
            boolean stays = false;
            for (int p = 2; p < n; p++) {
                stays |= all.get(i - 1).get(p - 1).equals(all.get(i).get(p - 1));
            }
            if (crosses && !stays) {
                return false;
            }
        }
        return true;
    }

    // ---- notation

    /** The CHANGES of a text, or null with the place where it is WRONG in wrong[0]. */
    private List<Integer> read(String text, int[] wrong) {
        List<List<Integer>> blocks = new ArrayList<>();
        int at = 0;
        do {
            List<Integer> block = new ArrayList<>();
            at += blocks.isEmpty() ? 0 : 1;
            at = readBlock(text, at, block);
            if (at < 0) {
                wrong[0] = -1 - at;
                return null;
            }
            blocks.add(block);
        } while (blocks.size() < 2 && at < text.length() && text.charAt(at) == ',');
        if (at < text.length()) {
            wrong[0] = at;
            return null;
        }
        if (blocks.size() == 1) {
            return blocks.get(0);
        }
        List<Integer> lead = new ArrayList<>();
        for (List<Integer> block : blocks) {
            lead.addAll(block);
            for (int i = block.size() - 2; i >= 0; i--) {
                lead.add(block.get(i));
            }
        }
        return lead;
    }

    private int readBlock(String text, int from, List<Integer> block) {
        int at = from;
        boolean places = false;
        boolean first = true;
        while (at < text.length()) {
            char sign = text.charAt(at);
            if (sign == 'x') {
                block.add(exchanges(new ArrayList<>()));
                at++;
                places = false;
            } else if (sign == '.' && places) {
                at++;
                if (at >= text.length() || place(text.charAt(at)) < 1) {
                    return -1 - at;
                }
                places = false;
                continue;
            } else if (!places && place(sign) >= 1) {
                at = readPlaces(text, at, block);
                if (at < 0) {
                    return at;
                }
                places = true;
            } else {
                break;
            }
            first = false;
        }
        return first ? -1 - at : at;
    }

    private int readPlaces(String text, int from, List<Integer> block) {
        List<Integer> stay = new ArrayList<>();
        int at = from;
        while (at < text.length() && place(text.charAt(at)) >= 1) {
            int place = place(text.charAt(at));
            int ahead = stay.isEmpty() ? 0 : stay.get(stay.size() - 1);
            if (place > n || place <= ahead || ahead > 0 && (place - ahead - 1) % 2 == 1) {
                return -1 - at;
            }
            stay.add(place);
            at++;
        }
        block.add(exchanges(stay));
        return at;
    }

    private static int place(char sign) {
        return "?1234567890ET".indexOf(sign);
    }

    private int exchanges(List<Integer> told) {
        Set<Integer> stay = new HashSet<>(told);
        if (told.isEmpty()) {
            if (n % 2 == 1) {
                stay.add(n);
            }
        } else {
            if ((told.get(0) - 1) % 2 == 1) {
                stay.add(1);
            }
            if ((n - told.get(told.size() - 1)) % 2 == 1) {
                stay.add(n);
            }
        }
        int code = 0;
        int p = 1;
        while (p <= n) {
            if (stay.contains(p)) {
                p++;
            } else {
                code += (int) Math.pow(2, p - 1);
                p += 2;
            }
        }
        return code;
    }

    // ---- asks

    private Tune tune(int m) {
        if (m < 0 || m >= tunes.size()) {
            throw new Amiss(4);
        }
        return tunes.get(m);
    }

    private static void must(boolean holds, int finding) {
        if (!holds) {
            throw new Amiss(finding);
        }
    }

    private void told() {
        if (quest != null) {
            quest.isVoid = true;
        }
    }

    /** One call by its name, with its arguments as numbers; a boolean is 1 or 0. */
    long call(String name, long... a) {
        int[] i = new int[a.length];
        for (int k = 0; k < a.length; k++) {
            i[k] = (int) a[k];
        }
        int former = finding;
        try {
            finding = 0;
            return ask(name, a, i);
        } catch (Amiss amiss) {
            finding = amiss.finding;
            return name.equals("lead") || name.equals("number") ? -1 : name.equals("on") ? rows.size() - 1 : 0;
        } catch (UnsupportedOperationException other) {
            finding = former;
            return tell(name, a, i);
        }
    }

    private long ask(String name, long[] a, int[] i) {
        switch (name) {
            case "notation":
                must(tune(i[0]).kind != 5, 3);
                StringBuilder text = new StringBuilder();
                tape.forEach(sign -> text.append((char) (int) sign));
                tape.clear();
                int[] wrong = new int[1];
                List<Integer> lead = read(text.toString(), wrong);
                if (lead == null) {
                    return -1 - wrong[0];
                }
                if (lead.size() > 100) {
                    return -1000;
                }
                told();
                tune(i[0]).lead = lead;
                return lead.size();
            case "cut":
                must(tune(i[0]).kind != 5, 3);
                must(tune(i[0]).lead != null, 1);
                must(i[1] >= 0, 6);
                must(i[1] <= tune(i[0]).lead.size(), 5);
                tune(i[0]).lead = new ArrayList<>(tune(i[0]).lead.subList(0, i[1]));
                told();
                return i[1];
            case "called":
                must(tune(i[0]).kind != 5, 9);
                must((i[1] == 1 || i[1] == 2) && i[2] >= 0, 2);
                mustBeChange(i[3]);
                tune(i[0]).calls[i[1]] = new int[] {i[2], i[3]};
                told();
                return 1;
            case "part":
                tune(i[0]);
                tune(i[1]);
                must(tune(i[0]).kind == 5 && tune(i[1]).kind != 5, 3);
                must(i[1] < i[0] && tune(i[0]).parts.size() < 6, 2);
                tune(i[0]).parts.add(tune(i[1]));
                told();
                return tune(i[0]).parts.size();
            case "lead":
                tune(i[0]);
                must(i[1] >= 0 && i[2] >= 0 && i[2] <= 2, 2);
                List<Integer> called = calledOf(tune(i[0]), i[1], i[2]);
                must(i[3] >= 0 && i[3] < called.size(), 2);
                return called.get(i[3]);
            case "judge":
                return judged(tune(i[0]).kind, tune(i[0])) ? 1 : 0;
            case "leadHead":
                tune(i[0]);
                must(i[1] >= 0 && i[1] <= 2, 2);
                return code(rung(rounds(), calledOf(tune(i[0]), 0, i[1])));
            case "course":
                return orderOf(rung(rounds(), leadOf(tune(i[0]), 0)));
            case "falseness":
                tune(i[0]);
                row(a[1]);
                return falseness(leadOf(tune(i[0]), 0), row(a[1]));
            case "touch":
                tune(i[0]);
                must(i[1] >= 0 && i[1] <= 2 && items.size() < 100, 2);
                items.add(new int[] {i[0], i[1]});
                return items.size();
            case "on":
                must(i[0] >= 0 && i[0] <= 1000, 2);
                return on(i[0]);
            default:
                return askRows(name, a, i);
        }
    }

    private long askRows(String name, long[] a, int[] i) {
        switch (name) {
            case "change":
                row(a[0]);
                mustBeChange(i[1]);
                return code(changed(row(a[0]), i[1]));
            case "number":
                return numberOf(row(a[0]));
            case "ofNumber":
                must(i[0] >= 0 && i[0] < factorial(n), 2);
                return code(ofNumber(i[0]));
            case "product":
                return code(times(row(a[0]), row(a[1])));
            case "inverse":
                List<Integer> inverse = rounds();
                for (int p = 1; p <= n; p++) {
                    inverse.set(row(a[0]).get(p - 1) - 1, p);
                }
                return code(inverse);
            case "order":
                return orderOf(row(a[0]));
            default:
                throw new UnsupportedOperationException(name);
        }
    }

    private List<Integer> ofNumber(int number) {
        List<Integer> left = rounds();
        List<Integer> row = new ArrayList<>();
        int rest = number;
        for (int p = 1; p <= n; p++) {
            row.add(left.remove(rest / factorial(n - p)));
            rest %= factorial(n - p);
        }
        return row;
    }

    private static List<List<Integer>> rowsOf(List<Integer> lead, List<Integer> start) {
        List<List<Integer>> all = new ArrayList<>();
        List<Integer> now = start;
        for (int change : lead) {
            all.add(now);
            now = changed(now, change);
        }
        return all;
    }

    private int falseness(List<Integer> lead, List<Integer> start) {
        List<List<Integer>> others = rowsOf(lead, start);
        return (int) rowsOf(lead, rounds()).stream().filter(others::contains).count();
    }

    private long on(int k) {
        int left = k;
        while (left > 0 && !stopped) {
            if (!todo.isEmpty()) {
                rows.add(changed(rows.get(rows.size() - 1), todo.remove(0)));
                left--;
                stopped = rows.get(rows.size() - 1).equals(rounds()) || rows.size() == 2001;
            } else if (begun < items.size()) {
                int[] item = items.get(begun);
                begun++;
                stopped = true;
                todo = new ArrayList<>(calledOf(tunes.get(item[0]), begun - 1, item[1]));
                stopped = false;
            } else {
                break;
            }
        }
        return rows.size() - 1;
    }

    // ---- calls that are no asks

    private long ring() {
        rows = new ArrayList<>(Arrays.asList(rounds()));
        todo = new ArrayList<>();
        begun = 0;
        stopped = false;
        return 1;
    }

    private boolean cameRound() {
        return rows.size() > 1 && rows.get(rows.size() - 1).equals(rounds());
    }

    private List<List<Integer>> rowsToProve() {
        return rows.subList(0, cameRound() ? rows.size() - 1 : rows.size());
    }

    private long falseAt() {
        Map<List<Integer>, Integer> seen = new HashMap<>();
        List<List<Integer>> all = rowsToProve();
        for (int i = 0; i < all.size(); i++) {
            Integer like = seen.putIfAbsent(all.get(i), i);
            if (like != null) {
                return i * 10000L + like;
            }
        }
        return -1;
    }

    private List<Integer> proofNow() {
        List<Integer> numbers = new ArrayList<>();
        rowsToProve().forEach(row -> numbers.add(numberOf(row)));
        numbers.sort(null);
        return numbers;
    }

    private long tell(String name, long[] a, int[] i) {
        switch (name) {
            case "feed":
                if (tape.size() + 20 > 300) {
                    return -1;
                }
                for (int k = 0; k < 20; k++) {
                    tape.add(i[k / 4] >>> 24 - 8 * (k % 4) & 255);
                }
                return tape.size();
            case "end":
                if (i[0] < 0 || i[0] > tape.size()) {
                    return -1;
                }
                tape.subList(i[0], tape.size()).clear();
                return i[0];
            case "bells":
                return bells(i[0]);
            case "method":
                if (i[0] < 0 || i[0] > 5) {
                    return -1;
                }
                if (tunes.size() == 30) {
                    return -2;
                }
                tunes.add(new Tune(i[0]));
                told();
                return tunes.size() - 1;
            case "trace":
                boolean there = i[0] >= 0 && i[0] <= 5 && i[1] >= 0 && i[1] <= 2;
                return there && owns(i[0], i[1]) ? trace[i[0]][i[1]] : -1;
            case "count":
                return count(i[0]);
            case "allow":
                if (i[0] < 0 || i[0] >= tunes.size() || i[1] < 0 || i[1] > 7) {
                    return -1;
                }
                tunes.get(i[0]).allowed = i[1];
                told();
                return allowedItems().size();
            case "search":
                return search(i[0], i[1], a[2], i[3]);
            case "goOn":
                return goOn(i[0]);
            case "found":
                boolean was = quest != null && quest.answer == 1 && i[0] >= 0 && i[0] < quest.length;
                return was ? quest.found.get(i[0]) : -1;
            default:
                return tellTouch(name, a, i);
        }
    }

    private long tellTouch(String name, long[] a, int[] i) {
        switch (name) {
            case "clear":
                items.clear();
                return ring();
            case "ring":
                return ring();
            case "at":
                return i[0] < 0 || i[0] >= rows.size() ? 0 : code(rows.get(i[0]));
            case "round":
                return cameRound() ? rows.size() - 1 : -1;
            case "falseAt":
                return falseAt();
            case "proof":
                if (falseAt() >= 0) {
                    return -1;
                }
                proof = proofNow();
                return proof.size();
            case "proofAt":
                return proof == null || i[0] < 0 || i[0] >= proof.size() ? -1 : proof.get(i[0]);
            case "forge":
                return proof == null || i[0] < 0 || i[0] >= proof.size() ? -1 : proof.set(i[0], i[1]);
            case "check":
                return proof != null && falseAt() < 0 && proof.equals(proofNow()) ? 1 : 0;
            case "ringer":
                if (i[0] < 1 || i[0] > n) {
                    return -1;
                }
                boolean changedNow = i[1] == 1 ? silent.remove(i[0]) : silent.add(i[0]);
                return n - silent.size();
            case "heard":
                if (i[0] < 0 || i[0] >= rows.size()) {
                    return 0;
                }
                List<Integer> heard = new ArrayList<>(rows.get(i[0]));
                heard.removeAll(silent);
                return code(heard);
            case "fits":
                try {
                    return digits(a[1]) != null && fitting(row(a[0]), digits(a[1])) ? 1 : 0;
                } catch (Amiss amiss) {
                    return 0;
                }
            case "music":
                List<Integer> pattern = digits(a[0]);
                return pattern == null
                        ? -1
                        : rows.subList(1, rows.size()).stream().filter(row -> fitting(row, pattern)).count();
            default:
                throw new IllegalStateException(name);
        }
    }

    private long bells(int bells) {
        if (bells < 4 || bells > 12) {
            return -1;
        }
        n = bells;
        tunes = new ArrayList<>();
        items = new ArrayList<>();
        proof = null;
        silent = new HashSet<>();
        quest = null;
        return ring();
    }

    private long count(int what) {
        int[] counts = {
            n, tunes.size(), items.size(), tape.size(), proof == null ? 0 : proof.size(),
            quest == null ? 0 : quest.steps, finding
        };
        return what < 0 || what > 6 ? -1 : counts[what];
    }

    // ---- search

    private List<Integer> allowedItems() {
        List<Integer> allowed = new ArrayList<>();
        for (int m = 0; m < tunes.size(); m++) {
            for (int call = 0; call < 3; call++) {
                if ((tunes.get(m).allowed & 1 << call) != 0) {
                    allowed.add(3 * m + call);
                }
            }
        }
        return allowed;
    }

    private long search(int length, int wanted, long pattern, int steps) {
        if (length < 1 || length > 12 || wanted < 0 || digits(pattern) == null || steps < 0 || steps > 1000) {
            return -1;
        }
        quest = new Quest();
        quest.length = length;
        quest.wanted = wanted;
        quest.pattern = pattern;
        quest.answer = 2;
        return goOn(steps);
    }

    private long goOn(int steps) {
        if (quest == null || steps < 0 || steps > 1000) {
            return -1;
        }
        if (quest.isVoid) {
            return -2;
        }
        if (quest.answer != 2) {
            return quest.answer;
        }
        quest.may += steps;
        quest.steps = 0;
        List<List<Integer>> start = new ArrayList<>();
        start.add(rounds());
        try {
            quest.answer = compose(start, new ArrayList<>()) ? 1 : 0;
        } catch (Spent spent) {
            quest.answer = 2;
        }
        return quest.answer;
    }

    private boolean compose(List<List<Integer>> ahead, List<Integer> chosen) {
        boolean isLast = chosen.size() == quest.length - 1;
        for (int item : allowedItems()) {
            List<List<Integer>> all = new ArrayList<>(ahead);
            List<Integer> lead = questLead(chosen.size(), item);
            boolean left = lead.isEmpty();
            for (int k = 0; k < lead.size() && !left; k++) {
                if (quest.steps == quest.may) {
                    throw new Spent();
                }
                quest.steps++;
                List<Integer> row = changed(all.get(all.size() - 1), lead.get(k));
                boolean home = isLast && k == lead.size() - 1 && row.equals(rounds());
                left = all.contains(row) && !home;
                all.add(row);
            }
            if (left) {
                continue;
            }
            List<Integer> now = new ArrayList<>(chosen);
            now.add(item);
            if (!isLast) {
                if (compose(all, now)) {
                    return true;
                }
            } else if (all.get(all.size() - 1).equals(rounds()) && fittingRows(all) >= quest.wanted) {
                quest.found = now;
                return true;
            }
        }
        return false;
    }

    private long fittingRows(List<List<Integer>> all) {
        List<Integer> pattern = digits(quest.pattern);
        return all.subList(1, all.size()).stream().filter(row -> fitting(row, pattern)).count();
    }

    private List<Integer> questLead(int place, int item) {
        int key = 90 * place + item;
        if (!quest.leads.containsKey(key)) {
            List<Integer> lead = new ArrayList<>();
            try {
                lead = new ArrayList<>(calledOf(tunes.get(item / 3), place, item % 3));
            } catch (Amiss amiss) {
                // An item with a FINDING is passed over, as one without CHANGES is.
            }
            quest.leads.put(key, lead);
        }
        return quest.leads.get(key);
    }
}
