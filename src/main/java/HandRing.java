import java.util.Arrays;

/**
 * Hands held in a ring, by which a light goes round. The numbered promises of the document say what
 * each call answers; words in capitals in the comments here are the document's.
 */
public final class HandRing {
    public static final int NONE = -1;

    private static final int PEOPLE_MOST = 8;
    private static final int SIDE = 5;
    private static final int CELLS = SIDE * SIDE;
    private static final int REACH_MOST = 4;
    private static final int KINDS = 4;
    private static final int HANDS = 2;
    private static final int SEEN_MOST = 6;
    private static final int LAWS_MOST = 6;
    private static final int IMAGES = 2;
    private static final int UNDO_MOST = 16;

    private static final int DAY = 0;
    private static final int SLIPS = 1;
    private static final int MOOD = 2;
    private static final int LIGHT = 3;
    private static final int TERMS = 4;
    private static final int[] TERM_FIRST = {0, 1, 0, 50};
    private static final int[] TERM_MOST = {999, 10, 9, 99};

    private static final int BAD_NUMBER = -1;
    private static final int NO_SUCH = -2;
    private static final int CANNOT_BE = -3;
    private static final int NO_ROOM = -5;
    private static final int BAD_TEXT = -6;
    private static final int REFUSALS = 5;

    private static final int TAKE = 0;
    private static final int LOOSE = 1;
    private static final int WALK = 2;
    private static final int PASS = 3;

    private static final int TAPE_MOST = 400;
    private static final int FEED_BYTES = 20;
    private static final int BYTE = 255;

    private static final int SEED_MOST = 1000000;
    private static final int DAYS_MOST = 60;
    private static final int FEW_K_MOST = 20;
    private static final int FEW_N_MOST = 99;
    private static final long ALL_PARTS = 1000000000000L;

    private final Village now = new Village();
    private final Village[] images = new Village[IMAGES];
    private final boolean[] imageStands = new boolean[IMAGES];
    private final Village paper = new Village();
    private boolean paperStands;
    private final Steps steps = new Steps();
    private final Judge judge = new Judge();
    private final Deeds deeds = new Deeds(judge);
    private final Errand errand = new Errand(judge, deeds);
    private final Circle circle = new Circle(judge);
    private final Reader reader = new Reader();
    private final char[] tape = new char[TAPE_MOST];
    private int tapeSize;
    private int faultPlace = NONE;
    private int stoppedAt = NONE;
    private int gapsMet;
    private int refusedBy;
    private final int[] refusals = new int[REFUSALS];
    private final long[] chances = new long[FEW_K_MOST];

    public HandRing() {
        for (int k = 0; k < IMAGES; k++) {
            images[k] = new Village();
        }
    }

    public int person(int cell, int reach, int kind) {
        if (!canBePerson(cell, reach, kind)) {
            return refused(BAD_NUMBER);
        }
        if (now.size >= PEOPLE_MOST) {
            return refused(NO_ROOM);
        }
        steps.clear();
        return granted(now.addPerson(cell, reach, kind));
    }

    public int of(int person, int what) {
        if (!now.has(person)) {
            return NONE;
        }
        switch (what) {
            case 0:
                return now.cells[person];
            case 1:
                return now.reaches[person];
            case 2:
                return now.kinds[person];
            case 3:
                return now.hands[person];
            case 4:
                return judge.canBits(now, now.lawInForce(), person);
            case 5:
                return judge.tiresBy(now, now.lawInForce(), person);
            default:
                return NONE;
        }
    }

    public int asks(int one, int other, int what) {
        if (!now.has(one) || !now.has(other) || one == other) {
            return NONE;
        }
        switch (what) {
            case 0:
                return now.farBetween(one, other);
            case 1:
                return judge.lostBetween(now, now.lawInForce(), one, other);
            case 2:
                return judge.isBarred(now, now.lawInForce(), one, other) ? 1 : 0;
            default:
                return NONE;
        }
    }

    public int terms(int what, int value) {
        if (what < 0 || what >= TERMS || value < 0 || value > TERM_MOST[what]) {
            return refused(BAD_NUMBER);
        }
        int was = now.termValues[what];
        now.termValues[what] = value;
        steps.clear();
        return granted(was);
    }

    public int feed(int a, int b, int c, int d, int e) {
        if (tapeSize + FEED_BYTES > TAPE_MOST) {
            return NONE;
        }
        putNumber(a);
        putNumber(b);
        putNumber(c);
        putNumber(d);
        putNumber(e);
        return tapeSize;
    }

    public int end(int n) {
        if (n < 0 || n > tapeSize) {
            return NONE;
        }
        tapeSize = n;
        return n;
    }

    public int row() {
        int size = emptiedTape();
        if (size == 0) {
            return refused(BAD_TEXT);
        }
        int came = 0;
        int gapsHere = 0;
        for (int at = 0; at < size; at += 3) {
            if (at + 2 < size && now.size < PEOPLE_MOST && canBePerson(tape[at], tape[at + 1], tape[at + 2])) {
                now.addPerson(tape[at], tape[at + 1], tape[at + 2]);
                came++;
            } else {
                gapsHere++;
            }
        }
        gapsMet = gapsHere;
        steps.clear();
        return granted(came);
    }

    public int gaps() {
        return gapsMet;
    }

    public int law() {
        int size = emptiedTape();
        if (now.lawSize >= LAWS_MOST) {
            return refused(NO_ROOM);
        }
        faultPlace = reader.readText(tape, size, true);
        if (faultPlace != NONE) {
            return refused(BAD_TEXT);
        }
        return granted(now.addLaw(reader.program.trimmed()));
    }

    public int orders() {
        int size = emptiedTape();
        stoppedAt = NONE;
        faultPlace = reader.readText(tape, size, false);
        if (faultPlace != NONE) {
            return refused(BAD_TEXT);
        }
        Program text = reader.program;
        errand.begin(now, steps);
        for (int clause = 0; clause < text.clauseSize; clause++) {
            int times = text.clausePart(clause, Program.TIMES);
            for (int time = 0; time < times; time++) {
                if (!errand.runOnce(text, clause, now, steps)) {
                    errand.takeBack(now, steps);
                    stoppedAt = clause;
                    return refused(CANNOT_BE);
                }
            }
        }
        return granted(errand.done);
    }

    public int fault() {
        return faultPlace;
    }

    public int stopped() {
        return stoppedAt;
    }

    public int force(int law) {
        if (law != NONE && !now.hasLaw(law)) {
            return refused(NO_SUCH);
        }
        int was = now.forced;
        now.forced = law;
        return granted(was);
    }

    public int take(int one, int other) {
        return told(deeds.doNoted(steps, now, TAKE, one, other));
    }

    public int loose(int one, int other) {
        return told(deeds.doNoted(steps, now, LOOSE, one, other));
    }

    public int walk(int person, int way) {
        return told(deeds.doNoted(steps, now, WALK, person, way));
    }

    public int pass() {
        return told(deeds.doNoted(steps, now, PASS, 0, 0));
    }

    public int undo() {
        return told(steps.goBack(now));
    }

    public int lights(int what) {
        switch (what) {
            case 0:
                return now.holdsGoRound() && judge.lostInHolds(now) <= now.termValues[LIGHT] ? 1 : 0;
            case 1:
                return judge.lostInHolds(now);
            case 2:
                return now.comesTo();
            default:
                return NONE;
        }
    }

    public int ring(int what) {
        circle.draw(now, now.lawInForce(), Circle.BY_LOST);
        return circle.tellRow(false, what);
    }

    public int rings() {
        circle.draw(now, now.lawInForce(), Circle.ALIKE);
        circle.solve(false);
        return circle.countRounds(circle.leastRound(circle.everybody()));
    }

    public int narrow(int what) {
        circle.draw(now, now.lawInForce(), Circle.BY_LOST);
        return circle.tellRow(true, what);
    }

    public int gloves(int what) {
        circle.draw(now, now.lawInForce(), Circle.BY_GLOVES);
        return circle.tellRow(false, what);
    }

    public int kept(int what) {
        if (what != 0 && what != 1) {
            return NONE;
        }
        circle.draw(now, now.lawInForce(), Circle.ALIKE);
        circle.solve(false);
        int most = circle.mostKept();
        return what == 0 && most != NONE ? Integer.bitCount(most) : most;
    }

    public int two(int what) {
        if (what != 0 && what != 1) {
            return NONE;
        }
        circle.draw(now, now.lawInForce(), Circle.BY_LOST);
        circle.solve(false);
        int part = circle.bestPart();
        return what == 0 && part != NONE ? circle.lostInBoth(part) : part;
    }

    public int stays() {
        for (int p = 0; p < now.size; p++) {
            circle.bits[p] = judge.canBits(now, now.lawInForce(), p);
        }
        int found = 0;
        for (int p = 0; p < now.size; p++) {
            if (circle.fallsApartWithout(p, now.size)) {
                found |= 1 << p;
            }
        }
        return found;
    }

    public int seen(int one, int other, int is) {
        if (one == other || is < 0 || is > 1) {
            return refused(BAD_NUMBER);
        }
        if (!now.has(one) || !now.has(other)) {
            return refused(NO_SUCH);
        }
        if (now.seenSize >= SEEN_MOST) {
            return refused(NO_ROOM);
        }
        return granted(now.addSeen(one, other, is));
    }

    public int forget() {
        int was = now.seenSize;
        now.seenSize = 0;
        return was;
    }

    public int fits(int what) {
        int due = circle.drawSeen(now, now.lawInForce());
        circle.solve(false);
        boolean fit = circle.hasRound(due);
        if (what == 0) {
            return fit ? circle.countRounds(due) : 0;
        }
        return fit ? circle.inRow(due, what - 1) : NONE;
    }

    public int ask(int what) {
        if (what != 0 && what != 1) {
            return NONE;
        }
        int due = circle.drawSeen(now, now.lawInForce());
        circle.solve(false);
        if (!circle.hasRound(due)) {
            return NONE;
        }
        int two = circle.bestAsked(due);
        return what == 0 || two == NONE ? two : circle.leftAtMost(two / 10, two % 10, due);
    }

    public long few(int k, int n) {
        if (k < 1 || k > FEW_K_MOST || n < 0 || n > FEW_N_MOST) {
            return NONE;
        }
        long slips = now.termValues[SLIPS];
        Arrays.fill(chances, 0L);
        chances[0] = ALL_PARTS;
        for (int hold = 0; hold < n; hold++) {
            for (int j = k - 1; j >= 0; j--) {
                long before = j > 0 ? chances[j - 1] : 0L;
                chances[j] = chances[j] * (10L - slips) / 10L + before * slips / 10L;
            }
        }
        long sum = 0L;
        for (int j = 0; j < k; j++) {
            sum += chances[j];
        }
        return sum;
    }

    public int compare(int law) {
        if (law != NONE && !now.hasLaw(law)) {
            return NONE;
        }
        circle.draw(now, law == NONE ? null : now.laws[law], Circle.BY_LOST);
        return circle.tellRow(false, 0);
    }

    public int days(int seed, int n) {
        if (seed < 0 || seed > SEED_MOST || n < 1 || n > DAYS_MOST) {
            return refused(BAD_NUMBER);
        }
        if (now.size == 0) {
            return refused(CANNOT_BE);
        }
        paper.copyFrom(now);
        paperStands = true;
        int s = seed;
        for (int i = 0; i < n && paper.termValues[DAY] < TERM_MOST[DAY]; i++) {
            s = nextDraw(s);
            int one = s % paper.size;
            s = nextDraw(s);
            int other = s % paper.size;
            s = nextDraw(s);
            int deed = s % 3;
            deeds.doOne(paper, deed, one, deed == WALK ? other % 4 + 1 : other);
            deeds.doOne(paper, PASS, 0, 0);
        }
        return granted(paper.countHolds());
    }

    public int drawn(int person, int what) {
        if (!paperStands || !paper.has(person)) {
            return NONE;
        }
        switch (what) {
            case 0:
                return paper.cells[person];
            case 1:
                return paper.reaches[person];
            case 2:
                return paper.hands[person];
            default:
                return NONE;
        }
    }

    public int image(int k) {
        if (k < 0 || k >= IMAGES) {
            return refused(BAD_NUMBER);
        }
        images[k].copyFrom(now);
        imageStands[k] = true;
        return granted(0);
    }

    public int back(int k) {
        if (k < 0 || k >= IMAGES) {
            return refused(BAD_NUMBER);
        }
        if (!imageStands[k]) {
            return refused(NO_SUCH);
        }
        now.copyFrom(images[k]);
        steps.clear();
        return granted(0);
    }

    public int count(int what) {
        if (what >= 6 && what <= 10) {
            return refusals[what - 6];
        }
        if (what >= 12 && what <= 15) {
            return now.termValues[what - 12];
        }
        switch (what) {
            case 0:
                return now.size;
            case 1:
                return now.countHolds();
            case 2:
                return now.seenSize;
            case 3:
                return now.lawSize;
            case 4:
                return steps.size;
            case 5:
                return tapeSize;
            case 11:
                return now.forced;
            default:
                return NONE;
        }
    }

    public int status() {
        return refusedBy;
    }

    private int refused(int code) {
        refusedBy = code;
        // there is no -4: what lies below it moves up by one
        int at = code >= CANNOT_BE ? -1 - code : -2 - code;
        if (at >= 0 && at < REFUSALS) {
            refusals[at]++;
        }
        return code;
    }

    private int granted(int answer) {
        refusedBy = 0;
        return answer;
    }

    private int told(int answer) {
        return answer < 0 ? refused(answer) : granted(answer);
    }

    private int emptiedTape() {
        int size = tapeSize;
        tapeSize = 0;
        return size;
    }

    private void putNumber(int number) {
        for (int shift = 24; shift >= 0; shift -= 8) {
            if (tapeSize < TAPE_MOST) {
                tape[tapeSize] = (char) (number >>> shift & BYTE);
                tapeSize++;
            }
        }
    }

    private static boolean canBePerson(int cell, int reach, int kind) {
        return cell >= 0 && cell < CELLS && reach >= 0 && reach <= REACH_MOST && kind >= 0 && kind < KINDS;
    }

    private static int nextDraw(int s) {
        return (int) ((s * 1103L + 12345L) % 1000003L);
    }

    /** All that an IMAGE keeps: people, holds, terms, laws and what was seen. */
    private static final class Village {
        int size;
        final int[] cells = new int[PEOPLE_MOST];
        final int[] reaches = new int[PEOPLE_MOST];
        final int[] kinds = new int[PEOPLE_MOST];
        final int[] hands = new int[PEOPLE_MOST];
        final int[] termValues = new int[TERMS];
        final Program[] laws = new Program[LAWS_MOST];
        int lawSize;
        int forced = NONE;
        final int[] seenLow = new int[SEEN_MOST];
        final int[] seenHigh = new int[SEEN_MOST];
        final int[] seenIs = new int[SEEN_MOST];
        int seenSize;

        Village() {
            System.arraycopy(TERM_FIRST, 0, termValues, 0, TERMS);
        }

        void copyFrom(Village other) {
            size = other.size;
            System.arraycopy(other.cells, 0, cells, 0, PEOPLE_MOST);
            System.arraycopy(other.reaches, 0, reaches, 0, PEOPLE_MOST);
            System.arraycopy(other.kinds, 0, kinds, 0, PEOPLE_MOST);
            System.arraycopy(other.hands, 0, hands, 0, PEOPLE_MOST);
            System.arraycopy(other.termValues, 0, termValues, 0, TERMS);
            for (int i = 0; i < LAWS_MOST; i++) {
                laws[i] = other.laws[i];
            }
            lawSize = other.lawSize;
            forced = other.forced;
            System.arraycopy(other.seenLow, 0, seenLow, 0, SEEN_MOST);
            System.arraycopy(other.seenHigh, 0, seenHigh, 0, SEEN_MOST);
            System.arraycopy(other.seenIs, 0, seenIs, 0, SEEN_MOST);
            seenSize = other.seenSize;
        }

        boolean has(int person) {
            return person >= 0 && person < size;
        }

        boolean hasLaw(int law) {
            return law >= 0 && law < lawSize;
        }

        Program lawInForce() {
            return hasLaw(forced) ? laws[forced] : null;
        }

        int addPerson(int cell, int reach, int kind) {
            if (size >= PEOPLE_MOST) {
                return NONE;
            }
            cells[size] = cell;
            reaches[size] = reach;
            kinds[size] = kind;
            hands[size] = 0;
            size++;
            return size - 1;
        }

        int addLaw(Program law) {
            if (lawSize >= LAWS_MOST) {
                return NONE;
            }
            laws[lawSize] = law;
            lawSize++;
            return lawSize - 1;
        }

        int addSeen(int one, int other, int is) {
            if (seenSize < SEEN_MOST) {
                seenLow[seenSize] = Math.min(one, other);
                seenHigh[seenSize] = Math.max(one, other);
                seenIs[seenSize] = is;
                seenSize++;
            }
            return seenSize;
        }

        int farBetween(int one, int other) {
            int across = cells[one] % SIDE - cells[other] % SIDE;
            int along = cells[one] / SIDE - cells[other] / SIDE;
            return Math.abs(across) + Math.abs(along);
        }

        boolean withinReach(int one, int other) {
            return farBetween(one, other) <= reaches[one] + reaches[other];
        }

        boolean holdHands(int one, int other) {
            return (hands[one] >> other & 1) == 1;
        }

        void join(int one, int other) {
            hands[one] |= 1 << other;
            hands[other] |= 1 << one;
        }

        void part(int one, int other) {
            hands[one] &= ~(1 << other);
            hands[other] &= ~(1 << one);
        }

        int countHolds() {
            int ends = 0;
            for (int p = 0; p < size; p++) {
                ends += Integer.bitCount(hands[p]);
            }
            return ends / 2;
        }

        int comesTo() {
            return size == 0 ? 0 : Circle.spread(hands, size, 1, Circle.ANYBODY);
        }

        boolean holdsGoRound() {
            for (int p = 0; p < size; p++) {
                if (Integer.bitCount(hands[p]) != HANDS) {
                    return false;
                }
            }
            return size >= Circle.RING_LEAST && comesTo() == (1 << size) - 1;
        }
    }

    /** A text that was read: its CLAUSES, and their SUMS and TESTS in the order in which they are worked out. */
    private static final class Program {
        static final int KIND = 0;
        static final int START = 1;
        static final int FIRST_END = 2;
        static final int SECOND_END = 3;
        static final int IF_END = 4;
        static final int TIMES = 5;
        static final int CLAUSE_PARTS = 6;
        static final int CLAUSES_MOST = 12;

        static final int NUMBER = 0;
        static final int WORD = 1;
        static final int ADD = 2;
        static final int SUBTRACT = 3;
        static final int MULTIPLY = 4;
        static final int DIVIDE = 5;
        static final int REMAIN = 6;
        static final int LESS = 7;
        static final int MORE = 8;
        static final int SAME = 9;
        static final int NOT = 10;
        static final int OR = 11;
        static final int AND = 12;

        final int[] ops;
        final int[] args;
        final int[] clauses;
        int size;
        int clauseSize;
        boolean asksLost;

        Program(int opRoom, int clauseRoom) {
            ops = new int[Math.max(0, opRoom)];
            args = new int[Math.max(0, opRoom)];
            clauses = new int[Math.max(0, clauseRoom) * CLAUSE_PARTS];
        }

        void clear() {
            size = 0;
            clauseSize = 0;
            asksLost = false;
        }

        void emit(int op, int arg) {
            if (size < ops.length) {
                ops[size] = op;
                args[size] = arg;
                size++;
            }
        }

        /** An "or", an "and" at this place leaps to what comes next now. */
        void leapToHere(int at) {
            if (at >= 0 && at < size) {
                args[at] = size;
            }
        }

        void setPart(int part, int value) {
            int at = clauseSize * CLAUSE_PARTS + part;
            if (at >= 0 && at < clauses.length) {
                clauses[at] = value;
            }
        }

        int clausePart(int clause, int part) {
            int at = clause * CLAUSE_PARTS + part;
            return at >= 0 && at < clauses.length ? clauses[at] : 0;
        }

        /** A copy with no more room than it needs: laws stay as long as the object and its images do. */
        Program trimmed() {
            Program copy = new Program(size, clauseSize);
            System.arraycopy(ops, 0, copy.ops, 0, size);
            System.arraycopy(args, 0, copy.args, 0, size);
            System.arraycopy(clauses, 0, copy.clauses, 0, clauseSize * CLAUSE_PARTS);
            copy.size = size;
            copy.clauseSize = clauseSize;
            copy.asksLost = asksLost;
            return copy;
        }
    }

    /** Reads a text of either language token by token; what can't go on is where the token at hand stands. */
    private static final class Reader {
        private static final int LETTERS = 0;
        private static final int DIGITS = 1;
        private static final int SIGN = 2;
        private static final int TEXT_END = 3;

        private static final int NUMBER_MOST = 1000;
        private static final int PARTS_MOST = 50;
        private static final int DEPTH_MOST = 8;
        private static final int TIMES_MOST = 20;

        private static final String LAW_HEADS = "loses tires bars";
        private static final String ORDER_HEADS = "take loose walk pass";
        private static final String ORDER_JOINS = "with from to";
        private static final String LAW_WORDS = "one other kind kin far reach day mood";
        private static final String ORDER_WORDS = "day done latest holds lost cell hands";

        final Program program = new Program(TAPE_MOST, Program.CLAUSES_MOST);
        private char[] text = new char[0];
        private int length;
        private boolean isLaw;
        private int token;
        private int start;
        private int stop;
        private int value;
        private int parts;
        private int depth;

        /** FAULT of the first bytes of a tape, NONE without; the program is what was read. */
        int readText(char[] tape, int size, boolean asLaw) {
            text = tape;
            length = Math.min(size, tape.length);
            isLaw = asLaw;
            stop = 0;
            parts = 0;
            depth = 0;
            program.clear();
            goOn();
            for (int i = 0; i < Program.CLAUSES_MOST; i++) {
                if (!readClause()) {
                    return start;
                }
                if (token == TEXT_END) {
                    return NONE;
                }
                if (!isSign(';')) {
                    return start;
                }
                goOn();
            }
            return start;
        }

        private boolean readClause() {
            int head = placeIn(isLaw ? LAW_HEADS : ORDER_HEADS);
            if (head == NONE) {
                return false;
            }
            goOn();
            boolean bare = head == (isLaw ? Judge.BARS : PASS);
            program.setPart(Program.KIND, head);
            program.setPart(Program.START, program.size);
            program.setPart(Program.TIMES, 1);
            boolean good = bare || readSum();
            program.setPart(Program.FIRST_END, program.size);
            if (!isLaw) {
                good = good && (bare || passJoin(head) && readSum()) && readTimes();
            }
            program.setPart(Program.SECOND_END, program.size);
            good = good && (!passWord("if") || readTest());
            program.setPart(Program.IF_END, program.size);
            program.clauseSize++;
            return good;
        }

        private boolean readTimes() {
            if (!passWord("times")) {
                return true;
            }
            if (!isNumber(1, TIMES_MOST)) {
                return false;
            }
            program.setPart(Program.TIMES, value);
            goOn();
            return true;
        }

        private boolean readTest() {
            if (!readBoth()) {
                return false;
            }
            for (int i = 0; i < TAPE_MOST && passWord("or"); i++) {
                int leap = program.size;
                program.emit(Program.OR, 0);
                if (!readBoth()) {
                    return false;
                }
                program.leapToHere(leap);
            }
            return true;
        }

        private boolean readBoth() {
            if (!readPlain()) {
                return false;
            }
            for (int i = 0; i < TAPE_MOST && passWord("and"); i++) {
                int leap = program.size;
                program.emit(Program.AND, 0);
                if (!readPlain()) {
                    return false;
                }
                program.leapToHere(leap);
            }
            return true;
        }

        /** A row of "not" is counted, not gone into: a tape has room for a hundred. */
        private boolean readPlain() {
            boolean turned = false;
            for (int i = 0; i < TAPE_MOST && passWord("not"); i++) {
                turned = !turned;
            }
            if (isSign('(')) {
                if (!open() || !readTest() || !close(')')) {
                    return false;
                }
            } else {
                if (!readSum()) {
                    return false;
                }
                int op = comparisonHere();
                if (op == NONE) {
                    return false;
                }
                goOn();
                if (!readSum()) {
                    return false;
                }
                program.emit(op, 0);
            }
            if (turned) {
                program.emit(Program.NOT, 0);
            }
            return true;
        }

        private int comparisonHere() {
            return isSign('<') ? Program.LESS : isSign('>') ? Program.MORE : isSign('=') ? Program.SAME : NONE;
        }

        private boolean readSum() {
            if (!readTerm()) {
                return false;
            }
            for (int i = 0; i < TAPE_MOST && (isSign('+') || isSign('-')); i++) {
                int op = isSign('+') ? Program.ADD : Program.SUBTRACT;
                goOn();
                if (!readTerm()) {
                    return false;
                }
                program.emit(op, 0);
            }
            return true;
        }

        private boolean readTerm() {
            if (!readPart()) {
                return false;
            }
            for (int i = 0; i < TAPE_MOST && (isSign('*') || isSign('/') || isSign('%')); i++) {
                int op = isSign('*') ? Program.MULTIPLY : isSign('/') ? Program.DIVIDE : Program.REMAIN;
                goOn();
                if (!readPart()) {
                    return false;
                }
                program.emit(op, 0);
            }
            return true;
        }

        private boolean readPart() {
            if (isSign('[')) {
                return open() && readSum() && close(']');
            }
            if (parts >= PARTS_MOST) {
                return false;
            }
            parts++;
            if (isNumber(0, NUMBER_MOST)) {
                program.emit(Program.NUMBER, value);
                goOn();
                return true;
            }
            int word = placeIn(isLaw ? LAW_WORDS : ORDER_WORDS);
            if (word == NONE) {
                return false;
            }
            goOn();
            if (!isLaw && word >= Errand.CELL) {
                return readWhose(word);
            }
            program.asksLost |= !isLaw && word == Errand.LOST;
            program.emit(Program.WORD, word);
            return true;
        }

        private boolean readWhose(int word) {
            if (!isNumber(0, PEOPLE_MOST - 1)) {
                return false;
            }
            program.emit(Program.WORD, (word == Errand.CELL ? Errand.CELL : Errand.HANDS_OF) + value);
            goOn();
            return true;
        }

        private boolean open() {
            if (depth >= DEPTH_MOST) {
                return false;
            }
            depth++;
            goOn();
            return true;
        }

        private boolean close(char sign) {
            if (!isSign(sign)) {
                return false;
            }
            depth--;
            goOn();
            return true;
        }

        private boolean isSign(char sign) {
            return token == SIGN && value == sign;
        }

        private boolean isNumber(int least, int most) {
            return token == DIGITS && value >= least && value <= most;
        }

        private boolean passWord(String word) {
            boolean stands = placeIn(word) == 0;
            if (stands) {
                goOn();
            }
            return stands;
        }

        /** The word between two SUMS stands in its list where the order's head stands in its own. */
        private boolean passJoin(int head) {
            boolean stands = placeIn(ORDER_JOINS) == head;
            if (stands) {
                goOn();
            }
            return stands;
        }

        /** Which of the words of a list, with one blank between them, the token at hand is. */
        private int placeIn(String words) {
            if (token != LETTERS) {
                return NONE;
            }
            int place = 0;
            int from = 0;
            for (int at = 0; at <= words.length(); at++) {
                if (at == words.length() || words.charAt(at) == ' ') {
                    if (at - from == stop - start && standsAt(words, from)) {
                        return place;
                    }
                    place++;
                    from = at + 1;
                }
            }
            return NONE;
        }

        private boolean standsAt(String words, int from) {
            for (int i = 0; i < stop - start; i++) {
                if (from + i >= words.length() || start + i >= length || text[start + i] != words.charAt(from + i)) {
                    return false;
                }
            }
            return true;
        }

        private void goOn() {
            start = stop;
            while (start < length && text[start] == ' ') {
                start++;
            }
            stop = start;
            value = 0;
            if (start >= length) {
                token = TEXT_END;
            } else if (isLetter(text[start])) {
                token = LETTERS;
                while (stop < length && isLetter(text[stop])) {
                    stop++;
                }
            } else if (isDigit(text[start])) {
                token = DIGITS;
                while (stop < length && isDigit(text[stop])) {
                    // held just above what any number may be, however long the row is
                    value = Math.min(value * 10 + text[stop] - '0', NUMBER_MOST + 1);
                    stop++;
                }
            } else {
                token = SIGN;
                value = text[start];
                stop++;
            }
        }

        private static boolean isLetter(char sign) {
            return sign >= 'a' && sign <= 'z';
        }

        private static boolean isDigit(char sign) {
            return sign >= '0' && sign <= '9';
        }
    }

    /** Works out SUMS and TESTS of a program over words that were set ahead. */
    private static final class Machine {
        private static final long MOST = 1000000000L;
        private static final int STACK_ROOM = 64;

        final int[] words;
        private final int[] stack = new int[STACK_ROOM];
        boolean broken;

        Machine(int wordRoom) {
            words = new int[Math.max(0, wordRoom)];
        }

        /** What stands from one place up to another comes to (a TEST: 1, 0); 0 if it is BROKEN. */
        int run(Program program, int from, int to) {
            broken = from < 0 || to > program.size;
            int top = -1;
            int at = from;
            for (int i = 0; i < TAPE_MOST && at < to && !broken; i++) {
                int op = program.ops[at];
                int arg = program.args[at];
                at++;
                if (op == Program.NUMBER || op == Program.WORD) {
                    top++;
                    broken = top >= STACK_ROOM || op == Program.WORD && (arg < 0 || arg >= words.length);
                    if (!broken) {
                        stack[top] = op == Program.NUMBER ? arg : words[arg];
                    }
                } else if (top < (op < Program.NOT ? 1 : 0)) {
                    broken = true;
                } else if (op == Program.NOT) {
                    stack[top] = 1 - stack[top];
                } else if (op > Program.NOT) {
                    // the first alone tells: what stands behind is leapt over, else it is the whole
                    boolean tells = stack[top] == (op == Program.OR ? 1 : 0);
                    at = tells && arg > at ? arg : at;
                    top = tells ? top : top - 1;
                } else {
                    top--;
                    long value = workOut(op, stack[top], stack[top + 1]);
                    broken = value > MOST || value < -MOST;
                    stack[top] = broken ? 0 : (int) value;
                }
            }
            return broken || top < 0 ? 0 : stack[0];
        }

        /** Divided by 0 it comes to more than may be. */
        private static long workOut(int op, long left, long right) {
            switch (op) {
                case Program.ADD:
                    return left + right;
                case Program.SUBTRACT:
                    return left - right;
                case Program.MULTIPLY:
                    return left * right;
                case Program.DIVIDE:
                    return right == 0L ? MOST + 1L : left / right;
                case Program.REMAIN:
                    return right == 0L ? MOST + 1L : left % right;
                case Program.LESS:
                    return left < right ? 1L : 0L;
                case Program.MORE:
                    return left > right ? 1L : 0L;
                default:
                    return left == right ? 1L : 0L;
            }
        }
    }

    /** Asks a law (null: none) of two people or of one. */
    private static final class Judge {
        private static final int LOSES = 0;
        private static final int TIRES = 1;
        static final int BARS = 2;

        // the words' places as the reader counts them
        private static final int ONE = 0;
        private static final int OTHER = 1;
        private static final int KIND = 2;
        private static final int KIN = 3;
        private static final int FAR = 4;
        private static final int REACH = 5;
        private static final int DAY_NOW = 6;
        private static final int MOOD_NOW = 7;
        private static final int WORDS = 8;

        private static final int LOST_MOST = 9;
        private static final int TIRED_MOST = 4;
        private static final int UNTOLD = 2000000000;

        private final Machine machine = new Machine(WORDS);

        int lostBetween(Village village, Program law, int one, int other) {
            setTwo(village, one, other);
            int told = lastTold(law, LOSES);
            return told == UNTOLD ? village.farBetween(one, other) : Math.max(0, Math.min(LOST_MOST, told));
        }

        boolean isBarred(Village village, Program law, int one, int other) {
            setTwo(village, one, other);
            return lastTold(law, BARS) != UNTOLD;
        }

        boolean canHold(Village village, Program law, int one, int other) {
            if (!village.withinReach(one, other)) {
                return false;
            }
            setTwo(village, one, other);
            return lastTold(law, BARS) == UNTOLD;
        }

        int canBits(Village village, Program law, int person) {
            int bits = 0;
            for (int p = 0; p < village.size; p++) {
                if (p != person && canHold(village, law, person, p)) {
                    bits |= 1 << p;
                }
            }
            return bits;
        }

        int tiresBy(Village village, Program law, int person) {
            setWords(village, person, village.reaches[person]);
            machine.words[OTHER] = NONE;
            machine.words[KIN] = NONE;
            machine.words[FAR] = NONE;
            int told = lastTold(law, TIRES);
            return told == UNTOLD ? 0 : Math.max(0, Math.min(TIRED_MOST, told));
        }

        int lostInHolds(Village village) {
            int lost = 0;
            for (int one = 0; one < village.size; one++) {
                for (int other = one + 1; other < village.size; other++) {
                    if (village.holdHands(one, other)) {
                        lost += lostBetween(village, village.lawInForce(), one, other);
                    }
                }
            }
            return lost;
        }

        private void setTwo(Village village, int one, int other) {
            int low = one < other ? one : other;
            int high = one < other ? other : one;
            setWords(village, low, village.reaches[one] + village.reaches[other]);
            machine.words[OTHER] = high;
            machine.words[KIN] = village.kinds[high];
            machine.words[FAR] = village.farBetween(one, other);
        }

        private void setWords(Village village, int one, int reach) {
            machine.words[ONE] = one;
            machine.words[KIND] = village.kinds[one];
            machine.words[REACH] = reach;
            machine.words[DAY_NOW] = village.termValues[DAY];
            machine.words[MOOD_NOW] = village.termValues[MOOD];
        }

        /** What the last CLAUSE of a kind that HOLDS tells ("bars": 0). */
        private int lastTold(Program law, int kind) {
            if (law == null) {
                return UNTOLD;
            }
            for (int clause = law.clauseSize - 1; clause >= 0; clause--) {
                if (law.clausePart(clause, Program.KIND) == kind) {
                    int from = law.clausePart(clause, Program.SECOND_END);
                    int to = law.clausePart(clause, Program.IF_END);
                    if (from == to || machine.run(law, from, to) == 1) {
                        int told = machine.run(law, law.clausePart(clause, Program.START), from);
                        if (!machine.broken) {
                            return told;
                        }
                    }
                }
            }
            return UNTOLD;
        }
    }

    /** What can be done in a village, the one that is or one on paper: an answer, or a refusal below 0. */
    private static final class Deeds {
        private static final int WAYS = 4;
        private static final int[] WAY_ACROSS = {0, 0, 1, 0, -1};
        private static final int[] WAY_ALONG = {0, 1, 0, -1, 0};

        private final Judge judge;
        private final int[] tired = new int[PEOPLE_MOST];

        Deeds(Judge asked) {
            judge = asked;
        }

        int doNoted(Steps steps, Village village, int deed, int first, int second) {
            steps.note(village);
            int answer = doOne(village, deed, first, second);
            if (answer >= 0) {
                steps.keepNoted(deed);
            }
            return answer;
        }

        int doOne(Village village, int deed, int first, int second) {
            int answer;
            switch (deed) {
                case TAKE:
                    return takeHands(village, first, second);
                case LOOSE:
                    return looseHands(village, first, second);
                case WALK:
                    answer = stepOn(village, first, second);
                    return answer < 0 ? answer : dropHolds(village);
                default:
                    answer = passDay(village);
                    if (answer >= 0) {
                        dropHolds(village);
                    }
                    return answer;
            }
        }

        private int takeHands(Village village, int one, int other) {
            if (one == other) {
                return BAD_NUMBER;
            }
            if (!village.has(one) || !village.has(other)) {
                return NO_SUCH;
            }
            boolean free = Integer.bitCount(village.hands[one]) < HANDS
                && Integer.bitCount(village.hands[other]) < HANDS;
            Program law = village.lawInForce();
            if (!free || village.holdHands(one, other) || !judge.canHold(village, law, one, other)) {
                return CANNOT_BE;
            }
            village.join(one, other);
            return judge.lostBetween(village, law, one, other);
        }

        private int looseHands(Village village, int one, int other) {
            if (one == other) {
                return BAD_NUMBER;
            }
            if (!village.has(one) || !village.has(other)) {
                return NO_SUCH;
            }
            if (!village.holdHands(one, other)) {
                return CANNOT_BE;
            }
            village.part(one, other);
            return village.countHolds();
        }

        private int stepOn(Village village, int person, int way) {
            if (way < 1 || way > WAYS) {
                return BAD_NUMBER;
            }
            if (!village.has(person)) {
                return NO_SUCH;
            }
            int x = village.cells[person] % SIDE + WAY_ACROSS[way];
            int y = village.cells[person] / SIDE + WAY_ALONG[way];
            if (x < 0 || x >= SIDE || y < 0 || y >= SIDE) {
                return CANNOT_BE;
            }
            village.cells[person] = SIDE * y + x;
            return 0;
        }

        private int passDay(Village village) {
            if (village.termValues[DAY] >= TERM_MOST[DAY]) {
                return CANNOT_BE;
            }
            for (int p = 0; p < village.size; p++) {
                tired[p] = judge.tiresBy(village, village.lawInForce(), p);
            }
            for (int p = 0; p < village.size; p++) {
                village.reaches[p] = Math.max(0, village.reaches[p] - tired[p]);
            }
            village.termValues[DAY]++;
            return village.termValues[DAY];
        }

        private int dropHolds(Village village) {
            int dropped = 0;
            for (int one = 0; one < village.size; one++) {
                for (int other = one + 1; other < village.size; other++) {
                    if (village.holdHands(one, other) && !judge.canHold(village, village.lawInForce(), one, other)) {
                        village.part(one, other);
                        dropped++;
                    }
                }
            }
            return dropped;
        }
    }

    /** How it was ahead of each of the latest deeds, so that they can be undone. */
    private static final class Steps {
        private static final int DEED = 0;
        private static final int DAY_THEN = 1;
        private static final int CELLS_FROM = 2;
        private static final int REACHES_FROM = CELLS_FROM + PEOPLE_MOST;
        private static final int HANDS_FROM = REACHES_FROM + PEOPLE_MOST;
        private static final int NOTE_SIZE = HANDS_FROM + PEOPLE_MOST;
        // one more than are kept: a deed that is refused must not cost the oldest
        private static final int ROOM = UNDO_MOST + 1;

        private final int[][] notes = new int[ROOM][NOTE_SIZE];
        private int first;
        int size;

        void clear() {
            size = 0;
        }

        void copyFrom(Steps other) {
            for (int i = 0; i < ROOM; i++) {
                System.arraycopy(other.notes[i], 0, notes[i], 0, NOTE_SIZE);
            }
            first = other.first;
            size = other.size;
        }

        void note(Village village) {
            int[] to = notes[(first + size) % ROOM];
            to[DAY_THEN] = village.termValues[DAY];
            System.arraycopy(village.cells, 0, to, CELLS_FROM, PEOPLE_MOST);
            System.arraycopy(village.reaches, 0, to, REACHES_FROM, PEOPLE_MOST);
            System.arraycopy(village.hands, 0, to, HANDS_FROM, PEOPLE_MOST);
        }

        void keepNoted(int deed) {
            notes[(first + size) % ROOM][DEED] = deed;
            if (size < UNDO_MOST) {
                size++;
            } else {
                first = (first + 1) % ROOM;
            }
        }

        int goBack(Village village) {
            if (size == 0) {
                return CANNOT_BE;
            }
            size--;
            int[] from = notes[(first + size) % ROOM];
            village.termValues[DAY] = from[DAY_THEN];
            System.arraycopy(from, CELLS_FROM, village.cells, 0, PEOPLE_MOST);
            System.arraycopy(from, REACHES_FROM, village.reaches, 0, PEOPLE_MOST);
            System.arraycopy(from, HANDS_FROM, village.hands, 0, PEOPLE_MOST);
            return from[DEED];
        }
    }

    /** ORDERS under way: what they ask for, and all as it was ahead of them. */
    private static final class Errand {
        // the words' places as the reader counts them; a cell, hands have one for each person
        private static final int DAY_NOW = 0;
        private static final int DONE = 1;
        private static final int LATEST = 2;
        private static final int HOLDS = 3;
        static final int LOST = 4;
        static final int CELL = 5;
        static final int HANDS_OF = CELL + PEOPLE_MOST;
        private static final int WORDS = HANDS_OF + PEOPLE_MOST;

        private final Judge judge;
        private final Deeds deeds;
        private final Machine machine = new Machine(WORDS);
        private final Village villageBefore = new Village();
        private final Steps stepsBefore = new Steps();
        private int latest;
        int done;

        Errand(Judge asked, Deeds doer) {
            judge = asked;
            deeds = doer;
        }

        void begin(Village village, Steps steps) {
            villageBefore.copyFrom(village);
            stepsBefore.copyFrom(steps);
            done = 0;
            latest = NONE;
        }

        void takeBack(Village village, Steps steps) {
            village.copyFrom(villageBefore);
            steps.copyFrom(stepsBefore);
        }

        /** Whether a CLAUSE can be: it was run, or its "if" is not so. */
        boolean runOnce(Program text, int clause, Village village, Steps steps) {
            int firstEnd = text.clausePart(clause, Program.FIRST_END);
            int secondEnd = text.clausePart(clause, Program.SECOND_END);
            int ifEnd = text.clausePart(clause, Program.IF_END);
            setWords(village, text.asksLost);
            if (secondEnd != ifEnd && machine.run(text, secondEnd, ifEnd) != 1) {
                return true;
            }
            int first = machine.run(text, text.clausePart(clause, Program.START), firstEnd);
            if (machine.broken) {
                return false;
            }
            int second = machine.run(text, firstEnd, secondEnd);
            if (machine.broken) {
                return false;
            }
            int deed = text.clausePart(clause, Program.KIND);
            steps.note(village);
            int answer = deeds.doOne(village, deed, first, second);
            if (answer < 0) {
                return false;
            }
            steps.keepNoted(deed);
            done++;
            latest = deed == TAKE ? answer : latest;
            return true;
        }

        private void setWords(Village village, boolean withLost) {
            int[] words = machine.words;
            words[DAY_NOW] = village.termValues[DAY];
            words[DONE] = done;
            words[LATEST] = latest;
            words[HOLDS] = village.countHolds();
            words[LOST] = withLost ? judge.lostInHolds(village) : 0;
            for (int p = 0; p < PEOPLE_MOST; p++) {
                boolean there = village.has(p);
                words[CELL + p] = there ? village.cells[p] : NONE;
                words[HANDS_OF + p] = there ? Integer.bitCount(village.hands[p]) : NONE;
            }
        }
    }

    /**
     * Rings on paper. What a hold costs is drawn first (NONE: it can't be), then the least cost of each way
     * from the lowest of some people through all of them is found, and in how many ways it is had.
     */
    private static final class Circle {
        static final int RING_LEAST = 3;
        static final int ANYBODY = -1;

        // what a hold costs: what is LOST in it; a glove where one is needed; every one the same, so that
        // every ring is one of the best
        static final int BY_LOST = 0;
        static final int BY_GLOVES = 1;
        static final int ALIKE = 2;

        private static final int GROUPS = 1 << PEOPLE_MOST;
        private static final int TOO_MUCH = 1000000;

        private final Judge judge;
        private final int[] costs = new int[PEOPLE_MOST * PEOPLE_MOST];
        private final int[] least = new int[GROUPS * PEOPLE_MOST];
        private final int[] ways = new int[GROUPS * PEOPLE_MOST];
        final int[] bits = new int[PEOPLE_MOST];
        private int size;
        private boolean byWorst;

        Circle(Judge asked) {
            judge = asked;
        }

        int everybody() {
            return (1 << size) - 1;
        }

        void draw(Village village, Program law, int by) {
            size = village.size;
            for (int one = 0; one < size; one++) {
                for (int other = one + 1; other < size; other++) {
                    setCost(one, other, costBy(village, law, by, one, other));
                }
            }
        }

        private int costBy(Village village, Program law, int by, int one, int other) {
            if (!village.withinReach(one, other)) {
                return NONE;
            }
            boolean barred = judge.isBarred(village, law, one, other);
            if (by == BY_GLOVES) {
                return barred ? 1 : 0;
            }
            if (barred) {
                return NONE;
            }
            return by == BY_LOST ? judge.lostBetween(village, law, one, other) : 1;
        }

        /**
         * Holds that were seen cost nothing, others 1, so that a ring has all that was seen just if it
         * costs as little as is answered here.
         */
        int drawSeen(Village village, Program law) {
            draw(village, law, ALIKE);
            long asked = 0L;
            for (int i = 0; i < village.seenSize; i++) {
                int one = village.seenLow[i];
                int other = village.seenHigh[i];
                if (village.seenIs[i] == 0) {
                    setCost(one, other, NONE);
                } else {
                    asked |= 1L << (one * PEOPLE_MOST + other);
                    setCost(one, other, Math.min(0, costBetween(one, other)));
                }
            }
            return size - Long.bitCount(asked);
        }

        void solve(boolean worst) {
            byWorst = worst;
            int groups = 1 << size;
            Arrays.fill(least, TOO_MUCH);
            Arrays.fill(ways, 0);
            for (int p = 0; p < size; p++) {
                offer(1 << p, p, 0, 1);
            }
            for (int group = 1; group < groups; group++) {
                int low = Integer.numberOfTrailingZeros(group);
                for (int last = low; last < size; last++) {
                    if (leastTo(group, last) < TOO_MUCH) {
                        goFurther(group, low, last);
                    }
                }
            }
        }

        private void goFurther(int group, int low, int last) {
            int spent = leastTo(group, last);
            int count = ways[group * PEOPLE_MOST + last];
            for (int next = low + 1; next < size; next++) {
                int cost = costBetween(last, next);
                if ((group >> next & 1) == 0 && cost != NONE) {
                    offer(group | 1 << next, next, together(spent, cost), count);
                }
            }
        }

        private void offer(int group, int last, int spent, int count) {
            int at = group * PEOPLE_MOST + last;
            if (spent < least[at]) {
                least[at] = spent;
                ways[at] = count;
            } else if (spent == least[at]) {
                ways[at] += count;
            }
        }

        /** What the best ring of a group costs; NONE without one. */
        int leastRound(int group) {
            if (Integer.bitCount(group) < RING_LEAST) {
                return NONE;
            }
            int low = Integer.numberOfTrailingZeros(group);
            int best = TOO_MUCH;
            for (int last = low + 1; last < size; last++) {
                best = Math.min(best, leastClosed(group, low, last));
            }
            return best < TOO_MUCH ? best : NONE;
        }

        /** Whether the best ring of all costs so much; below 0 (more was seen than a ring has holds) none does. */
        boolean hasRound(int due) {
            return due >= 0 && leastRound(everybody()) == due;
        }

        private int leastClosed(int group, int low, int last) {
            int cost = costBetween(last, low);
            return cost == NONE ? TOO_MUCH : together(leastTo(group, last), cost);
        }

        /** How many rings of all cost so much, the least; each is gone round both ways. */
        int countRounds(int best) {
            int both = 0;
            for (int last = 1; last < size && best != NONE; last++) {
                if (leastClosed(everybody(), 0, last) == best) {
                    both += ways[everybody() * PEOPLE_MOST + last];
                }
            }
            return both / 2;
        }

        int tellRow(boolean worst, int what) {
            if (what < 0 || what > size) {
                return NONE;
            }
            solve(worst);
            int best = leastRound(everybody());
            return what == 0 || best == NONE ? best : inRow(best, what - 1);
        }

        /** Who is k-th in the first row of a ring of all that costs so much, the least. */
        int inRow(int best, int k) {
            if (k < 0 || k >= size) {
                return NONE;
            }
            int last = 0;
            int met = 1;
            int spent = 0;
            for (int i = 0; i < k && last != NONE; i++) {
                int next = firstNext(met, last, spent, best);
                if (next != NONE) {
                    spent = together(spent, costBetween(last, next));
                    met |= 1 << next;
                }
                last = next;
            }
            return last;
        }

        private int firstNext(int met, int last, int spent, int best) {
            for (int next = 1; next < size; next++) {
                int cost = costBetween(last, next);
                if ((met >> next & 1) == 0 && cost != NONE) {
                    int home = leastTo(wayHome(met | 1 << next, next), next);
                    if (together(together(spent, cost), home) <= best) {
                        return next;
                    }
                }
            }
            return NONE;
        }

        /** The way home through all who were not met is the way from person 0 through these, gone backwards. */
        private int wayHome(int met, int last) {
            return everybody() & ~met | 1 | 1 << last;
        }

        /** The largest group of whom there is a ring, the lowest as bits. */
        int mostKept() {
            int most = NONE;
            int people = 0;
            for (int group = 1; group < 1 << size; group++) {
                if (Integer.bitCount(group) > people && leastRound(group) != NONE) {
                    most = group;
                    people = Integer.bitCount(group);
                }
            }
            return most;
        }

        /** The part with person 0 of the two rings that cost least together. */
        int bestPart() {
            int best = NONE;
            int leastOfBoth = TOO_MUCH;
            for (int part = 1; part < everybody(); part += 2) {
                int lost = lostInBoth(part);
                if (lost != NONE && lost < leastOfBoth) {
                    best = part;
                    leastOfBoth = lost;
                }
            }
            return best;
        }

        int lostInBoth(int part) {
            int here = leastRound(part);
            int there = here == NONE ? NONE : leastRound(everybody() & ~part);
            return there == NONE ? NONE : here + there;
        }

        int bestAsked(int best) {
            int asked = NONE;
            int fewest = TOO_MUCH;
            for (int one = 0; one < size; one++) {
                for (int other = one + 1; other < size; other++) {
                    int left = leftAtMost(one, other, best);
                    if (left < fewest) {
                        asked = 10 * one + other;
                        fewest = left;
                    }
                }
            }
            return asked;
        }

        int leftAtMost(int one, int other, int best) {
            int next = countWith(one, other, best);
            return Math.max(next, countRounds(best) - next);
        }

        /** In how many of the best rings two are neighbours: one way round each goes from the one to the other. */
        private int countWith(int one, int other, int best) {
            int cost = costBetween(one, other);
            int sum = 0;
            for (int met = 1; met < 1 << size && cost != NONE; met += 2) {
                if ((met >> one & 1) == 1 && (met >> other & 1) == 0) {
                    int home = wayHome(met | 1 << other, other);
                    if (leastTo(met, one) + cost + leastTo(home, other) == best) {
                        sum += ways[met * PEOPLE_MOST + one] * ways[home * PEOPLE_MOST + other];
                    }
                }
            }
            return sum;
        }

        /** Whether some who come to one another by the bits of who can hold whose hand need this one for it. */
        boolean fallsApartWithout(int person, int people) {
            int others = ~(1 << person);
            int withIt = spread(bits, people, 1 << person, ANYBODY) & others;
            int first = withIt & -withIt;
            return spread(bits, people, first, others) != withIt;
        }

        /** Who is come to from some, by bits of who is next to whom, through none but those allowed. */
        static int spread(int[] next, int people, int from, int allowed) {
            int met = from;
            for (int round = 0; round < people; round++) {
                for (int p = 0; p < people; p++) {
                    if ((met >> p & 1) == 1) {
                        met |= next[p] & allowed;
                    }
                }
            }
            return met;
        }

        private int together(int spent, int more) {
            return byWorst ? Math.max(spent, more) : spent + more;
        }

        private int leastTo(int group, int last) {
            return least[group * PEOPLE_MOST + last];
        }

        private int costBetween(int one, int other) {
            return costs[one * PEOPLE_MOST + other];
        }

        private void setCost(int one, int other, int cost) {
            costs[one * PEOPLE_MOST + other] = cost;
            costs[other * PEOPLE_MOST + one] = cost;
        }
    }
}
