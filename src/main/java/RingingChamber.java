import java.util.Arrays;

/**
 * A chamber in which bells are rung by methods of six kinds. The promises that it keeps, and the
 * words in capitals, are those of the document.
 */
public final class RingingChamber {
    private static final int FINE = 0;
    private static final int MISSING = 1;
    private static final int BEYOND = 2;
    private static final int OTHER_METHOD = 3;
    private static final int NO_METHOD = 4;
    private static final int COPY_BEYOND = 5;
    private static final int BELOW_NOUGHT = 6;
    private static final int DIVIDED_BY_NOUGHT = 7;
    private static final int NO_CODE = 8;
    private static final int NO_FAILURE = 9;

    private static final int PLAIN = 0;
    private static final int LITTLE = 1;
    private static final int TREBLE = 2;
    private static final int SURPRISE = 3;
    private static final int PRINCIPLE = 4;
    private static final int SPLICED = 5;
    private static final int KINDS = 6;

    private static final int LEAD = 0;
    private static final int CALLED = 1;
    private static final int JUDGE = 2;
    private static final int ACTS = 3;

    private static final int BOB = 1;
    private static final int SINGLE = 2;
    private static final int CALLS = 3;

    private static final int LEAST_BELLS = 4;
    private static final int FIRST_BELLS = 6;
    private static final int MOST_BELLS = 12;
    private static final int MOST_METHODS = 30;
    private static final int MOST_PARTS = 6;
    private static final int MOST_CHANGES = 100;
    private static final int MOST_BYTES = 300;
    private static final int FED_BYTES = 20;
    private static final int MOST_ITEMS = 100;
    private static final int MOST_ROWS = 2000;
    private static final int MOST_AT_ONCE = 1000;
    private static final int MOST_LENGTH = 12;
    private static final int TOO_LONG = -1000;

    private final Tape tape = new Tape();
    private final int[] begun = new int[KINDS * ACTS];
    private final Method[] methods = new Method[MOST_METHODS];
    private int methodCount;
    private int bellCount = FIRST_BELLS;
    private int rungBells = (1 << FIRST_BELLS) - 1;
    private int finding;
    private final Touch ringing = new Touch();
    private final Search seeking = new Search();
    private final Lead looked = new Lead();
    private final Rows others = new Rows(MOST_CHANGES);

    public RingingChamber() {
        ringing.forget(FIRST_BELLS);
    }

    public int feed(int a, int b, int c, int d, int e) {
        if (tape.length + FED_BYTES > MOST_BYTES) {
            return -1;
        }
        tape.add(a);
        tape.add(b);
        tape.add(c);
        tape.add(d);
        tape.add(e);
        return tape.length;
    }

    public int end(int n) {
        if (n < 0 || n > tape.length) {
            return -1;
        }
        tape.length = n;
        return n;
    }

    public int bells(int n) {
        if (n < LEAST_BELLS || n > MOST_BELLS) {
            return -1;
        }
        bellCount = n;
        rungBells = (1 << n) - 1;
        methodCount = 0;
        ringing.forget(n);
        seeking.forget();
        return 1;
    }

    public int method(int kind) {
        if (kind < 0 || kind >= KINDS) {
            return -1;
        }
        if (methodCount >= MOST_METHODS) {
            return -2;
        }
        methods[methodCount] = newMethod(kind);
        methodCount++;
        seeking.isVoid = true;
        return methodCount - 1;
    }

    public int notation(int m) {
        Method method = methodAt(m);
        if (method == null) {
            return finds(NO_METHOD, 0);
        }
        if (method instanceof Spliced) {
            return finds(OTHER_METHOD, 0);
        }
        int answer = tape.readLead(bellCount, method.own);
        tape.length = 0;
        if (answer >= 0) {
            seeking.isVoid = true;
        }
        return finds(FINE, answer);
    }

    public int cut(int m, int k) {
        Method method = methodAt(m);
        if (method == null) {
            return finds(NO_METHOD, 0);
        }
        if (method instanceof Spliced) {
            return finds(OTHER_METHOD, 0);
        }
        if (method.own.amiss != FINE) {
            return finds(method.own.amiss, 0);
        }
        if (k < 0) {
            return finds(BELOW_NOUGHT, 0);
        }
        if (k > method.own.size) {
            return finds(COPY_BEYOND, 0);
        }
        method.own.size = k;
        seeking.isVoid = true;
        return finds(FINE, k);
    }

    public int called(int m, int call, int place, int change) {
        Method method = methodAt(m);
        if (method == null) {
            return finds(NO_METHOD, 0);
        }
        if (method instanceof Spliced) {
            return finds(NO_FAILURE, 0);
        }
        if ((call != BOB && call != SINGLE) || place < 0) {
            return finds(BEYOND, 0);
        }
        if (!Rows.isChange(change, bellCount)) {
            return finds(NO_CODE, 0);
        }
        method.callPlaces[call] = place;
        method.callChanges[call] = change;
        seeking.isVoid = true;
        return finds(FINE, 1);
    }

    public int part(int m, int p) {
        Method whole = methodAt(m);
        Method piece = methodAt(p);
        if (whole == null || piece == null) {
            return finds(NO_METHOD, 0);
        }
        // A SPLICED part is refused here, so that acts never go deeper than one part.
        if (!(whole instanceof Spliced spliced) || piece instanceof Spliced) {
            return finds(OTHER_METHOD, 0);
        }
        if (p >= m || spliced.partCount >= MOST_PARTS) {
            return finds(BEYOND, 0);
        }
        spliced.parts[spliced.partCount] = piece;
        spliced.partCount++;
        seeking.isVoid = true;
        return finds(FINE, spliced.partCount);
    }

    public int lead(int m, int lead, int call, int i) {
        Method method = methodAt(m);
        if (method == null) {
            return finds(NO_METHOD, -1);
        }
        if (lead < 0 || !isCall(call)) {
            return finds(BEYOND, -1);
        }
        int amiss = method.calledOf(lead, call, looked);
        if (amiss != FINE) {
            return finds(amiss, -1);
        }
        if (i < 0 || i >= looked.size) {
            return finds(BEYOND, -1);
        }
        return finds(FINE, looked.changes[i]);
    }

    public int judge(int m) {
        Method method = methodAt(m);
        if (method == null) {
            return finds(NO_METHOD, 0);
        }
        int verdict = method.judged();
        if (verdict < 0) {
            return finds(-verdict, 0);
        }
        return finds(FINE, verdict);
    }

    public long leadHead(int m, int call) {
        Method method = methodAt(m);
        if (method == null) {
            return finds(NO_METHOD, 0);
        }
        if (!isCall(call)) {
            return finds(BEYOND, 0);
        }
        int amiss = method.calledOf(0, call, looked);
        if (amiss != FINE) {
            return finds(amiss, 0);
        }
        return findsRow(looked.rungFrom(Rows.rounds(bellCount)));
    }

    public int course(int m) {
        Method method = methodAt(m);
        if (method == null) {
            return finds(NO_METHOD, 0);
        }
        Lead lead = method.leadOf(0);
        if (lead.amiss != FINE) {
            return finds(lead.amiss, 0);
        }
        long head = lead.rungFrom(Rows.rounds(bellCount));
        return finds(FINE, Rows.orderOf(head, bellCount));
    }

    public int falseness(int m, long row) {
        Method method = methodAt(m);
        if (method == null) {
            return finds(NO_METHOD, 0);
        }
        if (!Rows.isRow(row, bellCount)) {
            return finds(NO_CODE, 0);
        }
        Lead lead = method.leadOf(0);
        if (lead.amiss != FINE) {
            return finds(lead.amiss, 0);
        }
        return finds(FINE, sharedRows(lead, row));
    }

    public int trace(int kind, int act) {
        if (kind < 0 || kind >= KINDS || act < 0 || act >= ACTS || !hasOwnBody(kind, act)) {
            return -1;
        }
        return begun[kind * ACTS + act];
    }

    public long change(long row, int change) {
        if (!Rows.isRow(row, bellCount) || !Rows.isChange(change, bellCount)) {
            return finds(NO_CODE, 0);
        }
        return findsRow(Rows.changed(row, change));
    }

    public int number(long row) {
        if (!Rows.isRow(row, bellCount)) {
            return finds(NO_CODE, -1);
        }
        return finds(FINE, Rows.numberOf(row, bellCount));
    }

    public long ofNumber(int number) {
        long row = Rows.rowOf(number, bellCount);
        if (row == 0) {
            return finds(BEYOND, 0);
        }
        return findsRow(row);
    }

    public long product(long a, long b) {
        if (!Rows.isRow(a, bellCount) || !Rows.isRow(b, bellCount)) {
            return finds(NO_CODE, 0);
        }
        return findsRow(Rows.times(a, b, bellCount));
    }

    public long inverse(long a) {
        if (!Rows.isRow(a, bellCount)) {
            return finds(NO_CODE, 0);
        }
        return findsRow(Rows.inverseOf(a, bellCount));
    }

    public int order(long a) {
        if (!Rows.isRow(a, bellCount)) {
            return finds(NO_CODE, 0);
        }
        return finds(FINE, Rows.orderOf(a, bellCount));
    }

    public int touch(int m, int call) {
        Method method = methodAt(m);
        if (method == null) {
            return finds(NO_METHOD, 0);
        }
        if (!isCall(call) || ringing.itemCount >= MOST_ITEMS) {
            return finds(BEYOND, 0);
        }
        ringing.addItem(method, call);
        return finds(FINE, ringing.itemCount);
    }

    public int clear() {
        ringing.itemCount = 0;
        ringing.beginAnew();
        return 1;
    }

    public int ring() {
        ringing.beginAnew();
        return 1;
    }

    public int on(int k) {
        if (k < 0 || k > MOST_AT_ONCE) {
            return finds(BEYOND, ringing.rows.size - 1);
        }
        int amiss = ringing.ringOn(k);
        return finds(amiss, ringing.rows.size - 1);
    }

    public long at(int i) {
        return ringing.rows.codeAt(i);
    }

    public int round() {
        return ringing.roundAt;
    }

    public int falseAt() {
        return ringing.firstFalse;
    }

    public int proof() {
        return ringing.makeProof();
    }

    public int proofAt(int i) {
        if (i < 0 || i >= ringing.proofSize) {
            return -1;
        }
        return ringing.proven[i];
    }

    public int forge(int i, int v) {
        if (i < 0 || i >= ringing.proofSize) {
            return -1;
        }
        int former = ringing.proven[i];
        ringing.proven[i] = v;
        return former;
    }

    public boolean check() {
        return ringing.isProven();
    }

    public int ringer(int bell, boolean on) {
        if (bell < 1 || bell > bellCount) {
            return -1;
        }
        int bit = 1 << (bell - 1);
        rungBells = on ? rungBells | bit : rungBells & ~bit;
        return Integer.bitCount(rungBells);
    }

    public long heard(int i) {
        return Rows.closedUp(ringing.rows.codeAt(i), rungBells);
    }

    public boolean fits(long row, long pattern) {
        return Rows.isRow(row, bellCount)
                && Rows.isPattern(pattern, bellCount)
                && (row & Rows.toldDigits(pattern)) == pattern;
    }

    public int music(long pattern) {
        if (!Rows.isPattern(pattern, bellCount)) {
            return -1;
        }
        return ringing.rows.countFitting(pattern);
    }

    public int allow(int m, int calls) {
        Method method = methodAt(m);
        if (method == null || calls < 0 || calls >= 1 << CALLS) {
            return -1;
        }
        method.allowedCalls = calls;
        seeking.isVoid = true;
        int all = 0;
        for (int i = 0; i < methodCount; i++) {
            Method each = methods[i];
            all += each == null ? 0 : Integer.bitCount(each.allowedCalls);
        }
        return all;
    }

    public int search(int length, int wanted, long pattern, int steps) {
        if (length < 1 || length > MOST_LENGTH || wanted < 0) {
            return -1;
        }
        if (!Rows.isPattern(pattern, bellCount) || steps < 0 || steps > MOST_AT_ONCE) {
            return -1;
        }
        seeking.begin(bellCount, length, wanted, pattern);
        for (int item = 0; item < methodCount * CALLS; item++) {
            Method method = methodAt(item / CALLS);
            if (method != null && (method.allowedCalls >> item % CALLS & 1) != 0) {
                seeking.offer(method, item);
            }
        }
        return seeking.seek(steps);
    }

    public int goOn(int steps) {
        if (!seeking.isThere() || steps < 0 || steps > MOST_AT_ONCE) {
            return -1;
        }
        if (seeking.isVoid) {
            return -2;
        }
        return seeking.seek(steps);
    }

    public int found(int i) {
        return seeking.itemFound(i);
    }

    public int count(int what) {
        switch (what) {
            case 0:
                return bellCount;
            case 1:
                return methodCount;
            case 2:
                return ringing.itemCount;
            case 3:
                return tape.length;
            case 4:
                return ringing.proofSize;
            case 5:
                return seeking.steps;
            case 6:
                return finding;
            default:
                return -1;
        }
    }

    private int finds(int what, int answer) {
        finding = what;
        return answer;
    }

    private long findsRow(long row) {
        finding = FINE;
        return row;
    }

    private Method methodAt(int m) {
        return m < 0 || m >= methodCount ? null : methods[m];
    }

    private Method newMethod(int kind) {
        switch (kind) {
            case PLAIN:
                return new Plain(bellCount, begun);
            case LITTLE:
                return new Little(bellCount, begun);
            case TREBLE:
                return new Treble(bellCount, begun);
            case SURPRISE:
                return new Surprise(bellCount, begun);
            case PRINCIPLE:
                return new Principle(bellCount, begun);
            default:
                return new Spliced(bellCount, begun);
        }
    }

    private int sharedRows(Lead lead, long start) {
        others.keepFirst(0);
        long row = start;
        for (int i = 0; i < lead.size; i++) {
            others.add(row);
            row = Rows.changed(row, lead.changes[i]);
        }
        int shared = 0;
        row = Rows.rounds(bellCount);
        for (int i = 0; i < lead.size; i++) {
            if (others.indexOf(row) >= 0) {
                shared++;
            }
            row = Rows.changed(row, lead.changes[i]);
        }
        return shared;
    }

    private static boolean isCall(int call) {
        return call >= 0 && call < CALLS;
    }

    private static boolean hasOwnBody(int kind, int act) {
        if (act == JUDGE) {
            return true;
        }
        boolean isUnder = kind == LITTLE || kind == TREBLE || kind == SURPRISE;
        return act == LEAD ? !isUnder : kind != TREBLE;
    }

    /** The reckoning with codes of rows, and a list of rows in which one is found by its code. */
    static final class Rows {
        private static final long TWELVE_ROUNDS = 0xCBA987654321L;
        private static final int DIGIT = 4;
        private static final int SLOT_BITS = 9;
        private static final long SPREAD = 0x9E3779B97F4A7C15L;
        /** No row of twelve bells has an order above this. */
        private static final int MOST_ORDER = 60;

        private final long[] codes;
        // The rows of one slot are a chain, the newest first: each link is an index and 1 more, 0 ends it.
        private final int[] links;
        private final int[] heads = new int[1 << SLOT_BITS];
        int size;

        Rows(int most) {
            codes = new long[Math.max(most, 0)];
            links = new int[Math.max(most, 0)];
        }

        void add(long row) {
            if (size >= codes.length) {
                return;
            }
            int slot = slotOf(row);
            codes[size] = row;
            links[size] = heads[slot];
            size++;
            heads[slot] = size;
        }

        // The newest row is always the head of its chain, so rows leave as they came, newest first.
        void keepFirst(int kept) {
            while (size > kept && size > 0) {
                size--;
                heads[slotOf(codes[size])] = links[size];
            }
        }

        int indexOf(long row) {
            int link = heads[slotOf(row)];
            for (int seen = 0; seen < size && link > 0; seen++) {
                if (codes[link - 1] == row) {
                    return link - 1;
                }
                link = links[link - 1];
            }
            return -1;
        }

        long codeAt(int i) {
            return i < 0 || i >= size ? 0 : codes[i];
        }

        int countFitting(long pattern) {
            long told = toldDigits(pattern);
            int fitting = 0;
            for (int i = 1; i < size; i++) {
                if ((codes[i] & told) == pattern) {
                    fitting++;
                }
            }
            return fitting;
        }

        private static int slotOf(long row) {
            return (int) (row * SPREAD >>> 64 - SLOT_BITS);
        }

        static long rounds(int bells) {
            return TWELVE_ROUNDS & (1L << DIGIT * bells) - 1;
        }

        private static int digit(long code, int index) {
            return (int) (code >>> DIGIT * index) & 15;
        }

        static boolean isPattern(long code, int bells) {
            if (code < 0 || code >>> DIGIT * bells != 0) {
                return false;
            }
            for (int i = 0; i < bells; i++) {
                if (digit(code, i) > bells) {
                    return false;
                }
            }
            return true;
        }

        static boolean isRow(long code, int bells) {
            if (!isPattern(code, bells)) {
                return false;
            }
            int seen = 0;
            for (int i = 0; i < bells; i++) {
                seen |= 1 << digit(code, i);
            }
            return seen == (1 << bells + 1) - 2;
        }

        static boolean isChange(int code, int bells) {
            return code >= 0 && code < 1 << bells - 1 && (code & code >> 1) == 0;
        }

        static long toldDigits(long pattern) {
            long told = 0;
            for (int i = 0; i < MOST_BELLS; i++) {
                if (digit(pattern, i) != 0) {
                    told |= 15L << DIGIT * i;
                }
            }
            return told;
        }

        static long changed(long row, int change) {
            long result = row;
            int shift = 0;
            for (int rest = change; rest > 0; rest >>= 1) {
                if ((rest & 1) != 0) {
                    long differing = (result >>> shift ^ result >>> shift + DIGIT) & 15;
                    result ^= differing << shift | differing << shift + DIGIT;
                }
                shift += DIGIT;
            }
            return result;
        }

        static int numberOf(long row, int bells) {
            int number = 0;
            int left = (1 << bells + 1) - 2;
            for (int i = 0; i < bells; i++) {
                int bit = 1 << digit(row, i);
                left &= ~bit;
                number = number * (bells - i) + Integer.bitCount(left & bit - 1);
            }
            return number;
        }

        /** 0, if no row has the number. */
        static long rowOf(int number, int bells) {
            if (number < 0) {
                return 0;
            }
            // How many of the bells still left are below the one to take, place 1 in the lowest digit.
            long below = 0;
            int rest = number;
            for (int choices = 1; choices <= bells; choices++) {
                below = below << DIGIT | rest % choices;
                rest /= choices;
            }
            return rest != 0 ? 0 : taken(below, bells);
        }

        private static long taken(long below, int bells) {
            long row = 0;
            int left = (1 << bells + 1) - 2;
            for (int i = 0; i < bells; i++) {
                int bell = bellLeft(left, digit(below, i));
                row |= (long) bell << DIGIT * i;
                left &= ~(1 << bell);
            }
            return row;
        }

        private static int bellLeft(int left, int passed) {
            int above = passed;
            for (int bell = 1; bell <= MOST_BELLS; bell++) {
                if ((left >> bell & 1) != 0) {
                    if (above == 0) {
                        return bell;
                    }
                    above--;
                }
            }
            return 0;
        }

        static long times(long a, long b, int bells) {
            long row = 0;
            for (int i = 0; i < bells; i++) {
                long bell = digit(a, digit(b, i) - 1);
                row |= bell << DIGIT * i;
            }
            return row;
        }

        static long inverseOf(long a, int bells) {
            long row = 0;
            for (int i = 0; i < bells; i++) {
                row |= i + 1L << DIGIT * (digit(a, i) - 1);
            }
            return row;
        }

        static int orderOf(long a, int bells) {
            long rounds = rounds(bells);
            long power = a;
            int order = 1;
            while (power != rounds && order < MOST_ORDER) {
                power = times(power, a, bells);
                order++;
            }
            return order;
        }

        static long closedUp(long row, int rungBells) {
            long heard = 0;
            int shift = 0;
            for (int i = 0; i < MOST_BELLS; i++) {
                long bell = digit(row, i);
                if (bell > 0 && (rungBells >> (int) bell - 1 & 1) != 0) {
                    heard |= bell << shift;
                    shift += DIGIT;
                }
            }
            return heard;
        }
    }

    /** A row of CHANGES, or what is found amiss where one should be. */
    static final class Lead {
        final int[] changes = new int[MOST_CHANGES];
        int size;
        int amiss = MISSING;

        void add(int change) {
            if (size < MOST_CHANGES) {
                changes[size] = change;
                size++;
            }
        }

        long rungFrom(long start) {
            long row = start;
            for (int i = 0; i < size; i++) {
                row = Rows.changed(row, changes[i]);
            }
            return row;
        }
    }

    /** The bytes that were fed, and how they are read as a LEAD. */
    static final class Tape {
        private static final int AT_BLOCK = 0;
        private static final int BEHIND_CROSS = 1;
        private static final int IN_PLACES = 2;
        private static final int BEHIND_DOT = 3;

        private final byte[] bytes = new byte[MOST_BYTES];
        int length;

        private final int[] told = new int[MOST_BYTES];
        private int toldCount;
        /** How many of the told CHANGES are ahead of the comma; 0, as long as there is none. */
        private int firstBlock;
        private int state;
        private int lastPlace;
        private int openChange;

        void add(int number) {
            for (int shift = 24; shift >= 0 && length < MOST_BYTES; shift -= 8) {
                bytes[length] = (byte) (number >> shift);
                length++;
            }
        }

        /** How many CHANGES the lead has then; below 0 it stays as it is: WRONG or TOO LONG. */
        int readLead(int bells, Lead lead) {
            toldCount = 0;
            firstBlock = 0;
            state = AT_BLOCK;
            for (int i = 0; i < length; i++) {
                if (!takes(bytes[i], bells)) {
                    return -1 - i;
                }
            }
            if (!canCloseBlock()) {
                return -1 - length;
            }
            closePlaces(bells);
            int changes = firstBlock == 0 ? toldCount : 2 * toldCount - 2;
            if (changes > MOST_CHANGES) {
                return TOO_LONG;
            }
            write(lead);
            return changes;
        }

        private boolean takes(int sign, int bells) {
            switch (sign) {
                case 'x':
                    return takesCross(bells);
                case '.':
                    return takesDot(bells);
                case ',':
                    return takesComma(bells);
                default:
                    return takesPlace(placeTold(sign), bells);
            }
        }

        private boolean takesCross(int bells) {
            if (state == BEHIND_DOT) {
                return false;
            }
            closePlaces(bells);
            tell(pairs(1, bells));
            state = BEHIND_CROSS;
            return true;
        }

        private boolean takesDot(int bells) {
            if (state != IN_PLACES) {
                return false;
            }
            closePlaces(bells);
            state = BEHIND_DOT;
            return true;
        }

        private boolean takesComma(int bells) {
            if (firstBlock != 0 || !canCloseBlock()) {
                return false;
            }
            closePlaces(bells);
            firstBlock = toldCount;
            state = AT_BLOCK;
            return true;
        }

        private boolean takesPlace(int place, int bells) {
            if (place < 1 || place > bells) {
                return false;
            }
            if (state != IN_PLACES) {
                // With an odd number of places ahead place 1 stays too.
                openChange = pairs(place % 2 == 0 ? 2 : 1, place - 1);
            } else if (place > lastPlace && (place - lastPlace) % 2 != 0) {
                openChange |= pairs(lastPlace + 1, place - 1);
            } else {
                return false;
            }
            lastPlace = place;
            state = IN_PLACES;
            return true;
        }

        private boolean canCloseBlock() {
            return state == BEHIND_CROSS || state == IN_PLACES;
        }

        private void closePlaces(int bells) {
            if (state == IN_PLACES) {
                tell(openChange | pairs(lastPlace + 1, bells));
            }
        }

        private void tell(int change) {
            if (toldCount < MOST_BYTES) {
                told[toldCount] = change;
                toldCount++;
            }
        }

        private void write(Lead lead) {
            lead.amiss = FINE;
            lead.size = 0;
            for (int i = 0; i < firstBlock; i++) {
                lead.add(told[i]);
            }
            for (int i = firstBlock - 2; i >= 0; i--) {
                lead.add(told[i]);
            }
            for (int i = firstBlock; i < toldCount; i++) {
                lead.add(told[i]);
            }
            for (int i = toldCount - 2; firstBlock > 0 && i >= firstBlock; i--) {
                lead.add(told[i]);
            }
        }

        /** 0, if the sign is none of a place. */
        private static int placeTold(int sign) {
            if (sign >= '1' && sign <= '9') {
                return sign - '0';
            }
            switch (sign) {
                case '0':
                    return 10;
                case 'E':
                    return 11;
                case 'T':
                    return 12;
                default:
                    return 0;
            }
        }

        private static int pairs(int first, int last) {
            int change = 0;
            for (int place = first; place < last; place += 2) {
                change |= 1 << place - 1;
            }
            return change;
        }
    }

    /** A method, whose ACTS are done by the BODIES of its kind. */
    abstract static class Method {
        final int bells;
        final int[] begun;
        final Lead own = new Lead();
        /** By CALL; below 0: MISSING. */
        final int[] callPlaces = {-1, -1, -1};
        final int[] callChanges = new int[CALLS];
        int allowedCalls;

        Method(int bells, int[] begun) {
            this.bells = bells;
            this.begun = begun;
        }

        abstract Lead leadOf(int i);

        /** The FINDING; without one the lead is in out. */
        abstract int calledOf(int i, int call, Lead out);

        /** 1 or 0; or the FINDING, with its sign turned. */
        abstract int judged();

        final int withCall(Lead lead, int call, int place, Lead out) {
            if (lead.amiss != FINE) {
                return lead.amiss;
            }
            out.amiss = FINE;
            out.size = lead.size;
            System.arraycopy(lead.changes, 0, out.changes, 0, lead.size);
            if (call == 0) {
                return FINE;
            }
            if (callPlaces[call] < 0) {
                return MISSING;
            }
            if (place < 0 || place >= out.size) {
                return BEYOND;
            }
            out.changes[place] = callChanges[call];
            return FINE;
        }

        final int trebleBehind(Lead lead) {
            int place = 1;
            for (int i = 0; i < lead.size; i++) {
                place = placeBehind(place, lead.changes[i]);
            }
            return place;
        }

        static int placeBehind(int place, int change) {
            if ((change >> place - 1 & 1) != 0) {
                return place + 1;
            }
            return place > 1 && (change >> place - 2 & 1) != 0 ? place - 1 : place;
        }
    }

    static class Plain extends Method {
        Plain(int bells, int[] begun) {
            super(bells, begun);
        }

        Lead leadOf(int i) {
            begun[PLAIN * ACTS + LEAD]++;
            return own;
        }

        int calledOf(int i, int call, Lead out) {
            return plainCalled(i, call, callPlaces[call], out);
        }

        /** PLAIN's BODY of CALLED, for a place that a kind under it may have moved. */
        final int plainCalled(int i, int call, int place, Lead out) {
            begun[PLAIN * ACTS + CALLED]++;
            return withCall(leadOf(i), call, place, out);
        }

        int judged() {
            begun[PLAIN * ACTS + JUDGE]++;
            Lead lead = leadOf(0);
            if (lead.amiss != FINE) {
                return -lead.amiss;
            }
            return trebleBehind(lead) == 1 ? 1 : 0;
        }
    }

    static final class Little extends Plain {
        Little(int bells, int[] begun) {
            super(bells, begun);
        }

        int calledOf(int i, int call, Lead out) {
            begun[LITTLE * ACTS + CALLED]++;
            int meant = call == SINGLE && callPlaces[SINGLE] < 0 ? BOB : call;
            return plainCalled(i, meant, callPlaces[meant], out);
        }

        int judged() {
            begun[LITTLE * ACTS + JUDGE]++;
            int verdict = super.judged();
            if (verdict < 0) {
                return verdict;
            }
            boolean keepsOff = trebleKeepsOffLastPlace(leadOf(0));
            return verdict == 1 && keepsOff ? 1 : 0;
        }

        private boolean trebleKeepsOffLastPlace(Lead lead) {
            int place = 1;
            for (int i = 0; i < lead.size; i++) {
                place = placeBehind(place, lead.changes[i]);
                if (place == bells) {
                    return false;
                }
            }
            return true;
        }
    }

    static class Treble extends Plain {
        Treble(int bells, int[] begun) {
            super(bells, begun);
        }

        int judged() {
            begun[TREBLE * ACTS + JUDGE]++;
            int verdict = super.judged();
            if (verdict < 0) {
                return verdict;
            }
            boolean isEven = trebleIsAsOftenAtEachPlace(leadOf(0));
            return verdict == 1 && isEven ? 1 : 0;
        }

        private boolean trebleIsAsOftenAtEachPlace(Lead lead) {
            int[] rowsAt = new int[MOST_BELLS + 1];
            int place = 1;
            for (int i = 0; i < lead.size; i++) {
                place = placeBehind(place, lead.changes[i]);
                rowsAt[place]++;
            }
            for (int p = 1; p <= bells; p++) {
                if (rowsAt[p] != 0 && rowsAt[p] != rowsAt[place]) {
                    return false;
                }
            }
            return true;
        }
    }

    static final class Surprise extends Treble {
        Surprise(int bells, int[] begun) {
            super(bells, begun);
        }

        int calledOf(int i, int call, Lead out) {
            begun[SURPRISE * ACTS + CALLED]++;
            int place = callPlaces[call];
            if (call != 0) {
                Lead lead = leadOf(i);
                if (lead.amiss != FINE) {
                    return lead.amiss;
                }
                if (place >= lead.size && lead.size > 0) {
                    place = lead.size - 1;
                }
            }
            return plainCalled(i, call, place, out);
        }

        int judged() {
            begun[SURPRISE * ACTS + JUDGE]++;
            int verdict = super.judged();
            if (verdict < 0) {
                return verdict;
            }
            boolean hasPlaces = hasPlacesWhereTrebleCrosses(leadOf(0));
            return verdict == 1 && hasPlaces ? 1 : 0;
        }

        private boolean hasPlacesWhereTrebleCrosses(Lead lead) {
            int place = 1;
            for (int i = 0; i < lead.size; i++) {
                int next = placeBehind(place, lead.changes[i]);
                if (next != place && Math.min(place, next) % 2 == 0
                        && !hasInnerPlace(lead.changes[i])) {
                    return false;
                }
                place = next;
            }
            return true;
        }

        private boolean hasInnerPlace(int change) {
            int moving = change | change << 1;
            int inner = (1 << bells - 1) - 2;
            return (inner & ~moving) != 0;
        }
    }

    static final class Principle extends Method {
        Principle(int bells, int[] begun) {
            super(bells, begun);
        }

        Lead leadOf(int i) {
            begun[PRINCIPLE * ACTS + LEAD]++;
            return own;
        }

        int calledOf(int i, int call, Lead out) {
            begun[PRINCIPLE * ACTS + CALLED]++;
            Lead lead = leadOf(i);
            return withCall(lead, call, lead.size - 1 - callPlaces[call], out);
        }

        int judged() {
            begun[PRINCIPLE * ACTS + JUDGE]++;
            Lead lead = leadOf(0);
            if (lead.amiss != FINE) {
                return -lead.amiss;
            }
            return trebleBehind(lead) != 1 ? 1 : 0;
        }
    }

    static final class Spliced extends Method {
        final Method[] parts = new Method[MOST_PARTS];
        int partCount;

        Spliced(int bells, int[] begun) {
            super(bells, begun);
            own.amiss = DIVIDED_BY_NOUGHT;
        }

        private Method partOf(int i) {
            return partCount == 0 ? null : parts[i % partCount];
        }

        Lead leadOf(int i) {
            begun[SPLICED * ACTS + LEAD]++;
            Method part = partOf(i);
            return part == null ? own : part.leadOf(i);
        }

        int calledOf(int i, int call, Lead out) {
            begun[SPLICED * ACTS + CALLED]++;
            Method part = partOf(i);
            return part == null ? DIVIDED_BY_NOUGHT : part.calledOf(i, call, out);
        }

        int judged() {
            begun[SPLICED * ACTS + JUDGE]++;
            int verdict = -DIVIDED_BY_NOUGHT;
            for (int i = 0; i < partCount; i++) {
                Method part = parts[i];
                verdict = part == null ? -NO_METHOD : part.judged();
                if (verdict != 1) {
                    return verdict;
                }
            }
            return verdict;
        }
    }

    /** The ITEMS of the touch, its rows as far as it is rung, and its PROOF. */
    static final class Touch {
        private static final int ROW_FACTOR = 10000;

        private final Method[] itemMethods = new Method[MOST_ITEMS];
        private final int[] itemCalls = new int[MOST_ITEMS];
        int itemCount;

        private int bells;
        private long rounds;
        final Rows rows = new Rows(MOST_ROWS + 1);
        /** A copy, for what is told to a method later does not change an item that has begun. */
        private final Lead current = new Lead();
        private int changesDone;
        private int nextItem;
        private boolean hasStopped;
        int roundAt;
        int firstFalse;

        private final int[] numbers = new int[MOST_ROWS + 1];
        /** For how many rows the numbers are made; 0: they are not. */
        private int numberedRows;
        final int[] proven = new int[MOST_ROWS + 1];
        int proofSize;

        void forget(int bells) {
            this.bells = bells;
            rounds = Rows.rounds(bells);
            itemCount = 0;
            proofSize = 0;
            beginAnew();
        }

        void beginAnew() {
            rows.keepFirst(0);
            rows.add(rounds);
            current.size = 0;
            changesDone = 0;
            nextItem = 0;
            hasStopped = false;
            roundAt = -1;
            firstFalse = -1;
            numberedRows = 0;
        }

        void addItem(Method method, int call) {
            if (itemCount < MOST_ITEMS) {
                itemMethods[itemCount] = method;
                itemCalls[itemCount] = call;
                itemCount++;
            }
        }

        /** The FINDING of the item at whose beginning it stopped, if it did. */
        int ringOn(int wanted) {
            int amiss = FINE;
            int left = wanted;
            // Every turn rings a row or begins an item.
            for (int turn = 0; turn < wanted + MOST_ITEMS && left > 0 && !hasStopped; turn++) {
                if (changesDone < current.size) {
                    ringRow();
                    left--;
                } else if (nextItem < itemCount) {
                    amiss = beginItem();
                } else {
                    break;
                }
            }
            return amiss;
        }

        private int beginItem() {
            Method method = itemMethods[nextItem];
            int amiss = method == null
                    ? NO_METHOD
                    : method.calledOf(nextItem, itemCalls[nextItem], current);
            changesDone = 0;
            nextItem++;
            hasStopped = amiss != FINE;
            return amiss;
        }

        private void ringRow() {
            int index = rows.size;
            long row = Rows.changed(rows.codeAt(index - 1), current.changes[changesDone]);
            changesDone++;
            if (row == rounds) {
                roundAt = index;
            } else if (firstFalse < 0) {
                int like = rows.indexOf(row);
                firstFalse = like < 0 ? -1 : index * ROW_FACTOR + like;
            }
            rows.add(row);
            hasStopped = row == rounds || index >= MOST_ROWS;
        }

        int makeProof() {
            if (firstFalse >= 0) {
                return -1;
            }
            proofSize = orderNumbers();
            System.arraycopy(numbers, 0, proven, 0, proofSize);
            return proofSize;
        }

        boolean isProven() {
            if (firstFalse >= 0 || proofSize != provableRows()) {
                return false;
            }
            orderNumbers();
            for (int i = 0; i < proofSize; i++) {
                if (proven[i] != numbers[i]) {
                    return false;
                }
            }
            return true;
        }

        private int provableRows() {
            return roundAt < 0 ? rows.size : rows.size - 1;
        }

        private int orderNumbers() {
            int size = provableRows();
            if (numberedRows != rows.size) {
                for (int i = 0; i < size; i++) {
                    numbers[i] = Rows.numberOf(rows.codeAt(i), bells);
                }
                heapSort(size);
                numberedRows = rows.size;
            }
            return size;
        }

        private void heapSort(int size) {
            for (int root = size / 2 - 1; root >= 0; root--) {
                sink(root, size);
            }
            for (int last = size - 1; last > 0; last--) {
                int greatest = numbers[0];
                numbers[0] = numbers[last];
                numbers[last] = greatest;
                sink(0, last);
            }
        }

        private void sink(int root, int size) {
            int value = numbers[root];
            int hole = root;
            for (int child = 2 * hole + 1; child < size; child = 2 * hole + 1) {
                if (child + 1 < size && numbers[child + 1] > numbers[child]) {
                    child++;
                }
                if (numbers[child] <= value) {
                    break;
                }
                numbers[hole] = numbers[child];
                hole = child;
            }
            numbers[hole] = value;
        }
    }

    /** A SEARCH: the COMPOSITION that is being rung, and how far it has come. */
    static final class Search {
        private static final int NO_SEARCH = -1;
        private static final int NONE = 0;
        private static final int FOUND = 1;
        private static final int SPENT = 2;
        private static final int ALL_ITEMS = MOST_METHODS * CALLS;
        /** Far above what the rows of one call and the items passed over among them can need. */
        private static final int MOST_TURNS = 1000000;
        private static final int UNSEEN = 0;
        private static final int USABLE = 1;
        private static final int PASSED_OVER = 2;

        private final int[] choices = new int[ALL_ITEMS];
        private final Method[] choiceMethods = new Method[ALL_ITEMS];
        private int choiceCount;
        private int length;
        private int wanted;
        private long pattern;
        private long toldDigits;
        private long rounds;

        /** By place in the COMPOSITION and item; made when first needed and kept for later searches. */
        private final Lead[] leads = new Lead[MOST_LENGTH * ALL_ITEMS];
        private final int[] usable = new int[MOST_LENGTH * ALL_ITEMS];
        private final Rows rows = new Rows(MOST_LENGTH * MOST_CHANGES + 1);
        /** How many of the rows behind row 0 FIT, up to each. */
        private final int[] fitting = new int[MOST_LENGTH * MOST_CHANGES + 1];
        private final int[] taken = new int[MOST_LENGTH];
        private final int[] firstRows = new int[MOST_LENGTH];
        private int depth;
        private Lead current;
        private int changesDone;

        private int answer = NO_SEARCH;
        int steps;
        boolean isVoid;

        void forget() {
            answer = NO_SEARCH;
            steps = 0;
        }

        void begin(int bells, int length, int wanted, long pattern) {
            this.length = length;
            this.wanted = wanted;
            this.pattern = pattern;
            toldDigits = Rows.toldDigits(pattern);
            rounds = Rows.rounds(bells);
            choiceCount = 0;
            Arrays.fill(usable, UNSEEN);
            rows.keepFirst(0);
            rows.add(rounds);
            depth = 0;
            openPlace();
            answer = SPENT;
            steps = 0;
            isVoid = false;
        }

        void offer(Method method, int item) {
            if (choiceCount < ALL_ITEMS) {
                choices[choiceCount] = item;
                choiceMethods[choiceCount] = method;
                choiceCount++;
            }
        }

        boolean isThere() {
            return answer != NO_SEARCH;
        }

        int itemFound(int i) {
            return answer != FOUND || i < 0 || i >= length ? -1 : choices[taken[i]];
        }

        int seek(int more) {
            int left = more;
            for (int turn = 0; turn < MOST_TURNS && answer == SPENT; turn++) {
                if (current != null && left == 0) {
                    break;
                }
                if (current != null) {
                    left--;
                    ringRow(current);
                } else if (takesNextChoice()) {
                    lookAtItem(choices[taken[depth]], choiceMethods[taken[depth]]);
                }
            }
            return answer;
        }

        private void openPlace() {
            taken[depth] = -1;
            firstRows[depth] = rows.size;
            current = null;
        }

        /** Whether there is an item more to look at; else it goes back to the place ahead, or ends. */
        private boolean takesNextChoice() {
            taken[depth]++;
            if (taken[depth] < choiceCount) {
                return true;
            }
            if (depth > 0) {
                depth--;
                leaveItem();
            } else {
                answer = NONE;
            }
            return false;
        }

        private void leaveItem() {
            rows.keepFirst(firstRows[depth]);
            current = null;
        }

        private void lookAtItem(int item, Method method) {
            int index = depth * ALL_ITEMS + item;
            Lead lead = leads[index];
            if (lead == null) {
                lead = new Lead();
                leads[index] = lead;
            }
            if (usable[index] == UNSEEN && method != null) {
                int amiss = method.calledOf(depth, item % CALLS, lead);
                usable[index] = amiss == FINE && lead.size > 0 ? USABLE : PASSED_OVER;
            }
            current = usable[index] == USABLE ? lead : null;
            changesDone = 0;
        }

        private void ringRow(Lead lead) {
            int index = rows.size;
            long row = Rows.changed(rows.codeAt(index - 1), lead.changes[changesDone]);
            changesDone++;
            steps++;
            int fittingNow = fitting[index - 1] + ((row & toldDigits) == pattern ? 1 : 0);
            boolean endsItem = changesDone >= lead.size;
            boolean endsAll = endsItem && depth == length - 1;
            if (endsAll && row == rounds && fittingNow >= wanted) {
                answer = FOUND;
            } else if (endsAll || rows.indexOf(row) >= 0) {
                leaveItem();
            } else {
                fitting[index] = fittingNow;
                rows.add(row);
                if (endsItem) {
                    depth++;
                    openPlace();
                }
            }
        }
    }
}
