/**
 * Heaps of jobs in versions that never change, made of one another by a plan told as a text and by acts
 * behind it. The document's words in capitals (VERSION, TREE, LINK ..) are used in the comments as there.
 */
public final class HeapVersions {
    public static final int NONE = -1;

    private static final int MISSING = -2;
    private static final int REFUSED = -3;
    private static final int FAULTY = -4;
    private static final int SPENT = -5;

    private static final int NEW = 0;
    private static final int PUT = 1;
    private static final int JOIN = 2;
    private static final int TAKE = 3;

    private static final int BYTES_MOST = 600;
    private static final int BYTES_FED = 20;
    private static final int TOLD_MOST = 20;
    private static final int VERSIONS_MOST = 30;
    private static final int SIZE_MOST = 24;
    private static final int KEY_MOST = 999;
    private static final int TIME_MOST = 99;
    private static final int HANDS_TOLD_MOST = 4;
    private static final int HANDS_MOST = 8;

    private final Tape tape = new Tape();
    private final Reader reader = new Reader(tape);
    private final Jobs jobs = new Jobs();
    private final Story story = new Story();
    private final Bags bags = new Bags();
    private final Bags supposed = new Bags();
    private final Heaps byLaw0 = new Heaps(0);
    private final Heaps byLaw1 = new Heaps(1);
    private final Walk walk = new Walk();
    private final Shop shop = new Shop(jobs);
    private int law;
    private int hands;
    private int lines;
    private int told;

    public HeapVersions() {
        // all that is ever made is made by the fields above: calls make nothing
    }

    // ---- the text and the plan

    public int feed(int a, int b, int c, int d, int e) {
        if (tape.length() + BYTES_FED > BYTES_MOST) {
            return NONE;
        }
        tape.add(a);
        tape.add(b);
        tape.add(c);
        tape.add(d);
        tape.add(e);
        return tape.length();
    }

    public int end(int n) {
        if (n < 0 || n > tape.length()) {
            return NONE;
        }
        tape.cut(n);
        return n;
    }

    public int plan() {
        boolean sound = reader.read();
        tape.cut(0);
        if (!sound) {
            return FAULTY;
        }
        cutTo(0);
        law = reader.lawTold();
        hands = reader.handsTold();
        lines = reader.linesTold();
        told = reader.versionsTold();
        for (int i = 0; i < told; i++) {
            grow(reader.howOf(i), reader.firstOf(i), reader.secondOf(i), reader.keyOf(i), reader.timeOf(i));
        }
        return lines;
    }

    public int fault(int what) {
        switch (what) {
            case 0: return reader.faultFound();
            case 1: return reader.faultPlace();
            default: return NONE;
        }
    }

    public int count(int what) {
        switch (what) {
            case 0: return law;
            case 1: return hands;
            case 2: return story.versions();
            case 3: return jobs.known();
            case 4: return told;
            case 5: return story.versions() - told;
            case 6: return lines;
            case 7: return tape.length();
            default: return NONE;
        }
    }

    public int version(int version, int what) {
        if (!has(version)) {
            return MISSING;
        }
        switch (what) {
            case 0: return story.howOf(version);
            case 1: return story.firstOf(version);
            case 2: return story.secondOf(version);
            case 3: return story.jobOf(version);
            default: return MISSING;
        }
    }

    public int job(int job, int what) {
        if (!jobs.has(job)) {
            return MISSING;
        }
        switch (what) {
            case 0: return jobs.keyOf(job);
            case 1: return jobs.timeOf(job);
            default: return MISSING;
        }
    }

    // ---- what a VERSION has

    public int size(int version) {
        return has(version) ? bags.sizeOf(version) : MISSING;
    }

    public int least(int version) {
        return has(version) ? bags.jobAt(version, 0) : MISSING;
    }

    public int place(int version, int i) {
        return has(version) && i >= 0 ? bags.jobAt(version, i) : MISSING;
    }

    public int times(int version, int job) {
        return has(version) && jobs.has(job) ? bags.timesOf(version, jobs.turnOf(job)) : MISSING;
    }

    // ---- in which TREES

    public int trees(int version) {
        return has(version) ? heaps().treesOf(version) : MISSING;
    }

    public int rank(int version, int i) {
        int tree = treeAt(version, i);
        return tree < 0 ? tree : heaps().cells().rankOf(tree);
    }

    public int holds(int version, int i) {
        int tree = treeAt(version, i);
        return tree < 0 ? tree : heaps().cells().holdsOf(tree);
    }

    public int singles(int version, int i) {
        int tree = treeAt(version, i);
        return tree < 0 ? tree : heaps().cells().lengthOf(heaps().cells().singlesOf(tree));
    }

    public int head(int version, int i) {
        int tree = treeAt(version, i);
        return tree < 0 ? tree : Jobs.jobOfTurn(heaps().cells().turnOf(tree));
    }

    public int depth(int version) {
        return has(version) ? heaps().cells().deepOf(heaps().heapOf(version)) : MISSING;
    }

    // ---- which CELLS

    public int parts(int version) {
        if (!has(version)) {
            return MISSING;
        }
        walk.begin();
        return walkOver(version);
    }

    public int own(int version) {
        if (!has(version)) {
            return MISSING;
        }
        walk.begin();
        walkOver(story.firstOf(version));
        int before = walkOver(story.secondOf(version));
        return walkOver(version) - before;
    }

    public int shared(int version, int other) {
        if (!has(version) || !has(other)) {
            return MISSING;
        }
        walk.begin();
        int one = walkOver(version);
        walk.begin();
        int two = walkOver(other);
        int both = walkOver(version);
        return one + two - both;
    }

    // ---- how many LINKS

    public int links(int version) {
        return has(version) ? heaps().linksOf(version) : MISSING;
    }

    public int all() {
        return lines == 0 ? MISSING : heaps().linksOfAll();
    }

    public int by(int law, int version) {
        if (!has(version) || law < 0 || law > 1) {
            return MISSING;
        }
        return law == 0 ? byLaw0.linksOf(version) : byLaw1.linksOf(version);
    }

    public int lean() {
        if (lines == 0) {
            return MISSING;
        }
        return byLaw1.linksOfAll() < byLaw0.linksOfAll() ? 1 : 0;
    }

    public int drain(int version) {
        return has(version) ? heaps().linksToEmpty(version) : MISSING;
    }

    public int dearest(int version) {
        return has(version) ? heaps().mostToEmpty(version) : MISSING;
    }

    // ---- two VERSIONS

    public int same(int version, int other) {
        if (!has(version) || !has(other)) {
            return MISSING;
        }
        return bags.excess(version, other) == 0 && bags.excess(other, version) == 0 ? 1 : 0;
    }

    public int more(int version, int other) {
        return has(version) && has(other) ? bags.excess(version, other) : MISSING;
    }

    public int from(int version, int other) {
        if (!has(version) || !has(other)) {
            return MISSING;
        }
        return version == other || story.madeOf(version, other) ? 1 : 0;
    }

    public int roots(int version) {
        return has(version) ? story.rootsOf(version) : MISSING;
    }

    public int without(int version, int put) {
        return suppose(version, put) ? supposed.jobAt(version, 0) : MISSING;
    }

    public int left(int version, int put) {
        return suppose(version, put) ? supposed.sizeOf(version) : MISSING;
    }

    // ---- JOBS done by HANDS

    public int done(int version, int what) {
        if (!has(version)) {
            return MISSING;
        }
        shop.work(bags, version, hands);
        switch (what) {
            case 0: return shop.last();
            case 1: return shop.late();
            case 2: return shop.lateTogether();
            case 3: return shop.lateMost();
            default: return MISSING;
        }
    }

    public int hand(int version, int i) {
        if (!has(version) || i < 0) {
            return MISSING;
        }
        shop.work(bags, version, hands);
        return shop.handOf(i);
    }

    public int ends(int version, int i) {
        if (!has(version) || i < 0) {
            return MISSING;
        }
        shop.work(bags, version, hands);
        return shop.endOf(i);
    }

    public int hands(int version) {
        if (!has(version)) {
            return MISSING;
        }
        for (int n = 1; n <= HANDS_MOST; n++) {
            shop.work(bags, version, n);
            if (shop.late() == 0) {
                return n;
            }
        }
        return NONE;
    }

    // ---- acts

    public int puts(int version, int key, int time) {
        if (!has(version) || key < 0 || key > KEY_MOST || time < 1 || time > TIME_MOST) {
            return MISSING;
        }
        if (story.versions() >= VERSIONS_MOST) {
            return SPENT;
        }
        if (bags.sizeOf(version) >= SIZE_MOST) {
            return REFUSED;
        }
        return grow(PUT, version, NONE, key, time);
    }

    public int joins(int version, int other) {
        if (!has(version) || !has(other)) {
            return MISSING;
        }
        if (story.versions() >= VERSIONS_MOST) {
            return SPENT;
        }
        if (bags.sizeOf(version) + bags.sizeOf(other) > SIZE_MOST) {
            return REFUSED;
        }
        return grow(JOIN, version, other, 0, 0);
    }

    public int takes(int version) {
        if (!has(version)) {
            return MISSING;
        }
        if (story.versions() >= VERSIONS_MOST) {
            return SPENT;
        }
        if (bags.sizeOf(version) == 0) {
            return REFUSED;
        }
        return grow(TAKE, version, NONE, 0, 0);
    }

    public int undo() {
        if (lines == 0) {
            return MISSING;
        }
        if (story.versions() <= told) {
            return SPENT;
        }
        cutTo(story.versions() - 1);
        return story.versions() - told;
    }

    public int anew() {
        if (lines == 0) {
            return MISSING;
        }
        int acts = story.versions() - told;
        cutTo(told);
        return acts;
    }

    // ---- what these share

    private boolean has(int version) {
        return version >= 0 && version < story.versions();
    }

    private Heaps heaps() {
        return law == 1 ? byLaw1 : byLaw0;
    }

    /** A TREE of a QUEUE, or (below 0) the answer that is due where there is none. */
    private int treeAt(int version, int i) {
        if (!has(version) || i < 0) {
            return MISSING;
        }
        int tree = heaps().treeOf(version, i);
        return tree == 0 ? NONE : tree;
    }

    private int walkOver(int version) {
        walk.over(heaps().cells(), heaps().heapOf(version));
        return walk.met();
    }

    /** Both LAWS grow side by side, so that what the other one would have cost needs no second telling. */
    private int grow(int how, int one, int other, int key, int time) {
        int version = story.versions();
        int job = NONE;
        if (how == PUT) {
            job = jobs.add(key, time);
        } else if (how == TAKE) {
            job = bags.jobAt(one, 0);
        }
        int turn = jobs.turnOf(job);
        bags.make(version, how, one, other, turn);
        byLaw0.grow(how, one, other, turn);
        byLaw1.grow(how, one, other, turn);
        story.add(how, one, other, job);
        return version;
    }

    private void cutTo(int count) {
        jobs.cut(jobs.known() - story.putsFrom(count));
        byLaw0.cut(count);
        byLaw1.cut(count);
        story.cut(count);
    }

    /** Makes the VERSIONS up to one anew, as JOBS alone, a put putting nothing; false: there are none such. */
    private boolean suppose(int version, int put) {
        if (!has(version) || !has(put) || story.howOf(put) != PUT) {
            return false;
        }
        for (int v = 0; v <= version && v < VERSIONS_MOST; v++) {
            if (v == put) {
                supposed.copy(v, story.firstOf(v), 0);
            } else {
                supposed.make(v, story.howOf(v), story.firstOf(v), story.secondOf(v), jobs.turnOf(story.jobOf(v)));
            }
        }
        return true;
    }

    private static int at(int[] row, int i) {
        return i >= 0 && i < row.length ? row[i] : 0;
    }

    private static void set(int[] row, int i, int value) {
        if (i >= 0 && i < row.length) {
            row[i] = value;
        }
    }

    /** The bytes that were fed. */
    private static final class Tape {
        private final int[] bytes = new int[BYTES_MOST];
        private int length;

        int length() {
            return length;
        }

        int byteAt(int i) {
            return i >= 0 && i < length && i < BYTES_MOST ? bytes[i] : 0;
        }

        void add(int four) {
            for (int shift = 24; shift >= 0; shift -= 8) {
                set(bytes, length, (four >>> shift) & 255);
                length++;
            }
        }

        void cut(int n) {
            length = n;
        }
    }

    /** The TOKEN of the TAPE that is looked at. */
    private static final class Tokens {
        static final int END = 0;
        static final int WORD = 1;
        static final int NUMBER = 2;
        static final int SIGN = 3;
        static final int WRONG = 4;
        /** Above all bounds; a number stays there, however many digits it has. */
        private static final int VALUE_MOST = 10000;

        private final Tape tape;
        private int kind;
        private int start;
        private int stop;
        private int value;

        Tokens(Tape tape) {
            this.tape = tape;
        }

        int kind() {
            return kind;
        }

        int start() {
            return start;
        }

        int value() {
            return value;
        }

        void begin() {
            stop = 0;
            move();
        }

        void move() {
            start = stop;
            while (start < tape.length() && isBlank(tape.byteAt(start))) {
                start++;
            }
            stop = start + 1;
            if (start >= tape.length()) {
                kind = END;
                stop = start;
            } else if (isLetter(tape.byteAt(start))) {
                kind = WORD;
                passLetters();
            } else if (isDigit(tape.byteAt(start))) {
                kind = NUMBER;
                passDigits();
            } else {
                kind = tape.byteAt(start) == ';' ? SIGN : WRONG;
            }
        }

        boolean isWord(String word) {
            if (kind != WORD || stop - start != word.length()) {
                return false;
            }
            for (int i = 0; i < word.length(); i++) {
                if (tape.byteAt(start + i) != word.charAt(i)) {
                    return false;
                }
            }
            return true;
        }

        private void passLetters() {
            while (stop < tape.length() && isLetter(tape.byteAt(stop))) {
                stop++;
            }
        }

        private void passDigits() {
            value = tape.byteAt(start) - '0';
            while (stop < tape.length() && isDigit(tape.byteAt(stop))) {
                value = Math.min(value * 10 + tape.byteAt(stop) - '0', VALUE_MOST);
                stop++;
            }
        }

        private static boolean isBlank(int sign) {
            return sign == 32 || sign == 10;
        }

        private static boolean isLetter(int sign) {
            return sign >= 'a' && sign <= 'z';
        }

        private static boolean isDigit(int sign) {
            return sign >= '0' && sign <= '9';
        }
    }

    /** Reads the TAPE as a PLAN, and keeps its LINES apart till it is known that there is no FAULT. */
    private static final class Reader {
        private final Tokens tokens;
        private final int[] hows = new int[TOLD_MOST];
        private final int[] firsts = new int[TOLD_MOST];
        private final int[] seconds = new int[TOLD_MOST];
        private final int[] keys = new int[TOLD_MOST];
        private final int[] times = new int[TOLD_MOST];
        private final int[] sizes = new int[TOLD_MOST];
        private int law;
        private int hands;
        private int lines;
        private int versions;
        private int fault;
        private int place;
        private int spot;

        Reader(Tape tape) {
            tokens = new Tokens(tape);
            place = NONE;
        }

        int lawTold() {
            return law;
        }

        int handsTold() {
            return hands;
        }

        int linesTold() {
            return lines;
        }

        int versionsTold() {
            return versions;
        }

        int faultFound() {
            return fault;
        }

        int faultPlace() {
            return place;
        }

        int howOf(int version) {
            return at(hows, version);
        }

        int firstOf(int version) {
            return at(firsts, version);
        }

        int secondOf(int version) {
            return at(seconds, version);
        }

        int keyOf(int version) {
            return at(keys, version);
        }

        int timeOf(int version) {
            return at(times, version);
        }

        boolean read() {
            law = 0;
            hands = 0;
            lines = 0;
            versions = 0;
            fault = 0;
            place = NONE;
            tokens.begin();
            for (int i = 0; i < BYTES_MOST && tokens.kind() != Tokens.END && fault == 0; i++) {
                if (lines == 0) {
                    readPlan();
                } else {
                    readOther();
                }
                lines++;
            }
            return fault == 0;
        }

        private void readPlan() {
            passWord("plan");
            passWord("law");
            law = passNumber(0, 1);
            passWord("hands");
            hands = passNumber(1, HANDS_TOLD_MOST);
            passSign();
        }

        private void readOther() {
            int how = howOfWord();
            if (how == NONE) {
                blame(1, tokens.start());
            } else if (versions >= TOLD_MOST) {
                blame(3, tokens.start());
            } else {
                tokens.move();
                switch (how) {
                    case PUT:
                        readPut();
                        break;
                    case JOIN:
                        readJoin();
                        break;
                    case TAKE:
                        readTake();
                        break;
                    default:
                        readNew();
                        break;
                }
            }
        }

        private int howOfWord() {
            if (tokens.isWord("new")) {
                return NEW;
            }
            if (tokens.isWord("put")) {
                return PUT;
            }
            if (tokens.isWord("join")) {
                return JOIN;
            }
            return tokens.isWord("take") ? TAKE : NONE;
        }

        private void readNew() {
            passSign();
            keep(NEW, NONE, NONE, 0);
        }

        private void readPut() {
            int of = passNumber(0, versions - 1);
            if (at(sizes, of) >= SIZE_MOST) {
                blame(2, spot);
            }
            int key = passNumber(0, KEY_MOST);
            passWord("for");
            int time = passNumber(1, TIME_MOST);
            passSign();
            set(keys, versions, key);
            set(times, versions, time);
            keep(PUT, of, NONE, at(sizes, of) + 1);
        }

        private void readJoin() {
            int one = passNumber(0, versions - 1);
            int other = passNumber(0, versions - 1);
            int size = at(sizes, one) + at(sizes, other);
            if (size > SIZE_MOST) {
                blame(2, spot);
            }
            passSign();
            keep(JOIN, one, other, size);
        }

        private void readTake() {
            int of = passNumber(0, versions - 1);
            if (at(sizes, of) == 0) {
                blame(2, spot);
            }
            passSign();
            keep(TAKE, of, NONE, at(sizes, of) - 1);
        }

        private void keep(int how, int one, int other, int size) {
            set(hows, versions, how);
            set(firsts, versions, one);
            set(seconds, versions, other);
            set(sizes, versions, size);
            versions++;
        }

        private void passWord(String word) {
            if (!tokens.isWord(word)) {
                blame(1, tokens.start());
            }
            tokens.move();
        }

        private int passNumber(int least, int most) {
            spot = tokens.start();
            if (tokens.kind() != Tokens.NUMBER) {
                blame(1, spot);
                return NONE;
            }
            int value = tokens.value();
            if (value < least || value > most) {
                blame(2, spot);
            }
            tokens.move();
            return value;
        }

        private void passSign() {
            if (tokens.kind() != Tokens.SIGN) {
                blame(1, tokens.start());
            }
            tokens.move();
        }

        /** TOKENS are looked at from the left to the right, so the first FAULT that is told is the one due. */
        private void blame(int what, int where) {
            if (fault == 0) {
                fault = what;
                place = where;
            }
        }
    }

    /** KEYS and TIMES of the JOBS, and their order. */
    private static final class Jobs {
        private final int[] keys = new int[VERSIONS_MOST];
        private final int[] times = new int[VERSIONS_MOST];
        private int count;

        int known() {
            return count;
        }

        boolean has(int job) {
            return job >= 0 && job < count;
        }

        int add(int key, int time) {
            set(keys, count, key);
            set(times, count, time);
            count++;
            return count - 1;
        }

        void cut(int n) {
            count = n;
        }

        int keyOf(int job) {
            return at(keys, job);
        }

        int timeOf(int job) {
            return at(times, job);
        }

        /** A number by which JOBS are in order: by KEY, those of one KEY by their own number. */
        int turnOf(int job) {
            return keyOf(job) * VERSIONS_MOST + job;
        }

        static int jobOfTurn(int turn) {
            return turn % VERSIONS_MOST;
        }
    }

    /** How each VERSION was made, and of which. */
    private static final class Story {
        private final int[] hows = new int[VERSIONS_MOST];
        private final int[] firsts = new int[VERSIONS_MOST];
        private final int[] seconds = new int[VERSIONS_MOST];
        private final int[] jobs = new int[VERSIONS_MOST];
        /** A bit for each VERSION of which one was made: 30 of them fit into an int. */
        private final int[] roots = new int[VERSIONS_MOST];
        private int count;

        int versions() {
            return count;
        }

        int howOf(int version) {
            return at(hows, version);
        }

        int firstOf(int version) {
            return at(firsts, version);
        }

        int secondOf(int version) {
            return at(seconds, version);
        }

        int jobOf(int version) {
            return at(jobs, version);
        }

        void add(int how, int one, int other, int job) {
            set(hows, count, how);
            set(firsts, count, one);
            set(seconds, count, other);
            set(jobs, count, job);
            set(roots, count, withRoots(one) | withRoots(other));
            count++;
        }

        void cut(int n) {
            count = n;
        }

        int putsFrom(int version) {
            int puts = 0;
            for (int v = version; v < count; v++) {
                if (howOf(v) == PUT) {
                    puts++;
                }
            }
            return puts;
        }

        boolean madeOf(int version, int other) {
            return (at(roots, version) & 1 << other) != 0;
        }

        int rootsOf(int version) {
            return Integer.bitCount(at(roots, version));
        }

        private int withRoots(int version) {
            return version < 0 ? 0 : at(roots, version) | 1 << version;
        }
    }

    /** The JOBS of each VERSION in order, told by their turns: they are the same by either LAW. */
    private static final class Bags {
        private final int[] turns = new int[VERSIONS_MOST * SIZE_MOST];
        private final int[] sizes = new int[VERSIONS_MOST];

        int sizeOf(int version) {
            return at(sizes, version);
        }

        int jobAt(int version, int i) {
            return i >= 0 && i < sizeOf(version) ? Jobs.jobOfTurn(turnAt(version, i)) : NONE;
        }

        int timesOf(int version, int turn) {
            int times = 0;
            for (int i = 0; i < sizeOf(version); i++) {
                if (turnAt(version, i) == turn) {
                    times++;
                }
            }
            return times;
        }

        /** How many JOBS one has more; as both are in order, one pass over both tells. */
        int excess(int version, int other) {
            int excess = 0;
            int j = 0;
            for (int i = 0; i < sizeOf(version); i++) {
                int turn = turnAt(version, i);
                while (j < sizeOf(other) && turnAt(other, j) < turn) {
                    j++;
                }
                if (j < sizeOf(other) && turnAt(other, j) == turn) {
                    j++;
                } else {
                    excess++;
                }
            }
            return excess;
        }

        void make(int version, int how, int one, int other, int turn) {
            switch (how) {
                case PUT:
                    copyWith(version, one, turn);
                    break;
                case JOIN:
                    mix(version, one, other);
                    break;
                case TAKE:
                    copy(version, one, 1);
                    break;
                default:
                    set(sizes, version, 0);
                    break;
            }
        }

        void copy(int version, int source, int begin) {
            set(sizes, version, 0);
            for (int i = begin; i < sizeOf(source); i++) {
                append(version, turnAt(source, i));
            }
        }

        private void copyWith(int version, int source, int turn) {
            set(sizes, version, 0);
            int i = 0;
            for (; i < sizeOf(source) && turnAt(source, i) < turn; i++) {
                append(version, turnAt(source, i));
            }
            append(version, turn);
            for (; i < sizeOf(source); i++) {
                append(version, turnAt(source, i));
            }
        }

        private void mix(int version, int one, int other) {
            set(sizes, version, 0);
            int j = 0;
            for (int i = 0; i < sizeOf(one); i++) {
                int turn = turnAt(one, i);
                for (; j < sizeOf(other) && turnAt(other, j) < turn; j++) {
                    append(version, turnAt(other, j));
                }
                append(version, turn);
            }
            for (; j < sizeOf(other); j++) {
                append(version, turnAt(other, j));
            }
        }

        private void append(int version, int turn) {
            int size = sizeOf(version);
            if (size < SIZE_MOST) {
                set(turns, version * SIZE_MOST + size, turn);
                set(sizes, version, size + 1);
            }
        }

        private int turnAt(int version, int i) {
            return at(turns, version * SIZE_MOST + i);
        }
    }

    /**
     * HEAPS and TREES (CELLS, from 1 on; 0 is the empty HEAP, or no TREE) and the rows in which they stand
     * (0 is the row of none). None is changed once it is made, and each is made behind all that stands in it.
     */
    private static final class Cells {
        /**
         * To make a VERSION, at most 16 CELLS and 48 parts of rows are made, as a TREE of RANK r has 2 to the r JOBS
         * at least and a VERSION 24 at most (NOTES.md reckons it). Room for as many VERSIONS as there can be, and for
         * one more that is emptied.
         */
        private static final int MAKES_MOST = VERSIONS_MOST + SIZE_MOST;
        private static final int CELLS_MOST = 16 * MAKES_MOST;
        private static final int ROWS_MOST = 48 * MAKES_MOST;

        private final int[] turns = new int[CELLS_MOST];
        private final int[] ranks = new int[CELLS_MOST];
        private final int[] heads = new int[CELLS_MOST];
        private final int[] singles = new int[CELLS_MOST];
        private final int[] belows = new int[CELLS_MOST];
        private final int[] holds = new int[CELLS_MOST];
        private final int[] deeps = new int[CELLS_MOST];
        private final int[] firsts = new int[ROWS_MOST];
        private final int[] rests = new int[ROWS_MOST];
        private int cells = 1;
        private int rows = 1;

        int cells() {
            return cells;
        }

        int rows() {
            return rows;
        }

        void cut(int cellsLeft, int rowsLeft) {
            cells = cellsLeft;
            rows = rowsLeft;
        }

        int row(int first, int rest) {
            if (rows < 1 || rows >= ROWS_MOST) {
                return 0;
            }
            firsts[rows] = first;
            rests[rows] = rest;
            rows++;
            return rows - 1;
        }

        int heap(int turn, int queue) {
            if (cells < 1 || cells >= CELLS_MOST) {
                return 0;
            }
            int heap = cells;
            cells++;
            turns[heap] = turn;
            ranks[heap] = 0;
            heads[heap] = 0;
            singles[heap] = 0;
            belows[heap] = queue;
            holds[heap] = 1;
            deeps[heap] = 0;
            for (int row = queue, i = 0; row != 0 && i < ROWS_MOST; row = restOf(row), i++) {
                holds[heap] += holdsOf(firstOf(row));
                deeps[heap] = Math.max(deeps[heap], deepOf(firstOf(row)));
            }
            deeps[heap]++;
            return heap;
        }

        int tree(int rank, int head, int itsSingles, int subtrees, int itHolds, int deep) {
            if (cells < 1 || cells >= CELLS_MOST || head < 0 || head >= CELLS_MOST) {
                return 0;
            }
            int tree = cells;
            cells++;
            turns[tree] = turns[head];
            ranks[tree] = rank;
            heads[tree] = head;
            singles[tree] = itsSingles;
            belows[tree] = subtrees;
            holds[tree] = itHolds;
            deeps[tree] = deep;
            return tree;
        }

        /** That of a HEAP's JOB, and of a TREE's head: so that either is compared with either. */
        int turnOf(int cell) {
            return cell >= 0 && cell < CELLS_MOST ? turns[cell] : 0;
        }

        int rankOf(int cell) {
            return cell >= 0 && cell < CELLS_MOST ? ranks[cell] : 0;
        }

        int headOf(int cell) {
            return cell >= 0 && cell < CELLS_MOST ? heads[cell] : 0;
        }

        int singlesOf(int cell) {
            return cell >= 0 && cell < CELLS_MOST ? singles[cell] : 0;
        }

        /** The QUEUE of a HEAP, the SUBTREES of a TREE. */
        int belowOf(int cell) {
            return cell >= 0 && cell < CELLS_MOST ? belows[cell] : 0;
        }

        int holdsOf(int cell) {
            return cell >= 0 && cell < CELLS_MOST ? holds[cell] : 0;
        }

        int deepOf(int cell) {
            return cell >= 0 && cell < CELLS_MOST ? deeps[cell] : 0;
        }

        int firstOf(int row) {
            return row >= 0 && row < ROWS_MOST ? firsts[row] : 0;
        }

        int restOf(int row) {
            return row >= 0 && row < ROWS_MOST ? rests[row] : 0;
        }

        int lengthOf(int row) {
            int length = 0;
            for (int r = row; r != 0 && length < ROWS_MOST; r = restOf(r)) {
                length++;
            }
            return length;
        }
    }

    /** The HEAPS of all VERSIONS, made by one LAW, and how many LINKS that took. */
    private static final class Heaps {
        /** Far above what a QUEUE can have. */
        private static final int TREES_MOST = 64;

        private final int law;
        private final Cells cells = new Cells();
        private final int[] heaps = new int[VERSIONS_MOST];
        private final int[] linksMade = new int[VERSIONS_MOST];
        private final int[] cellsAhead = new int[VERSIONS_MOST];
        private final int[] rowsAhead = new int[VERSIONS_MOST];
        private final int[] aside = new int[TREES_MOST];
        private int count;
        private int linked;
        private int linkedMost;

        Heaps(int law) {
            this.law = law;
        }

        Cells cells() {
            return cells;
        }

        int heapOf(int version) {
            return at(heaps, version);
        }

        int treesOf(int version) {
            return cells.lengthOf(cells.belowOf(heapOf(version)));
        }

        int treeOf(int version, int i) {
            int row = cells.belowOf(heapOf(version));
            for (int n = 0; n < i && row != 0; n++) {
                row = cells.restOf(row);
            }
            return cells.firstOf(row);
        }

        int linksOf(int version) {
            return at(linksMade, version);
        }

        int linksOfAll() {
            int links = 0;
            for (int v = 0; v < count; v++) {
                links += linksOf(v);
            }
            return links;
        }

        void grow(int how, int one, int other, int turn) {
            set(cellsAhead, count, cells.cells());
            set(rowsAhead, count, cells.rows());
            linked = 0;
            int heap = 0;
            if (how == PUT) {
                heap = join(cells.heap(turn, 0), heapOf(one));
            } else if (how == JOIN) {
                heap = join(heapOf(one), heapOf(other));
            } else if (how == TAKE) {
                heap = take(heapOf(one));
            }
            set(heaps, count, heap);
            set(linksMade, count, linked);
            count++;
        }

        void cut(int n) {
            if (n < count) {
                cells.cut(at(cellsAhead, n), at(rowsAhead, n));
                count = n;
            }
        }

        int mostToEmpty(int version) {
            linksToEmpty(version);
            return linkedMost;
        }

        /** What is made on the way is of no VERSION, so its room is given back. */
        int linksToEmpty(int version) {
            int cellsBefore = cells.cells();
            int rowsBefore = cells.rows();
            int together = 0;
            int heap = heapOf(version);
            linkedMost = 0;
            for (int i = 0; i < SIZE_MOST && heap != 0; i++) {
                linked = 0;
                heap = take(heap);
                together += linked;
                linkedMost = Math.max(linkedMost, linked);
            }
            cells.cut(cellsBefore, rowsBefore);
            return together;
        }

        private int join(int one, int other) {
            if (one == 0) {
                return other;
            }
            if (other == 0) {
                return one;
            }
            if (cells.turnOf(other) < cells.turnOf(one)) {
                return cells.heap(cells.turnOf(other), putInto(one, cells.belowOf(other)));
            }
            return cells.heap(cells.turnOf(one), putInto(other, cells.belowOf(one)));
        }

        private int take(int heap) {
            int queue = cells.belowOf(heap);
            if (queue == 0) {
                return 0;
            }
            int out = leastOf(queue);
            int others = merge(turned(cells.belowOf(out)), allBut(queue, out));
            int single = cells.singlesOf(out);
            for (int i = 0; i < TREES_MOST && single != 0; i++) {
                others = putInto(cells.firstOf(single), others);
                single = cells.restOf(single);
            }
            int head = cells.headOf(out);
            return cells.heap(cells.turnOf(head), merge(cells.belowOf(head), others));
        }

        private int leastOf(int queue) {
            int least = cells.firstOf(queue);
            int row = cells.restOf(queue);
            for (int i = 0; i < TREES_MOST && row != 0; i++) {
                if (cells.turnOf(cells.firstOf(row)) < cells.turnOf(least)) {
                    least = cells.firstOf(row);
                }
                row = cells.restOf(row);
            }
            return least;
        }

        private int turned(int row) {
            int turned = 0;
            int rest = row;
            for (int i = 0; i < TREES_MOST && rest != 0; i++) {
                turned = cells.row(cells.firstOf(rest), turned);
                rest = cells.restOf(rest);
            }
            return turned;
        }

        private int allBut(int queue, int out) {
            int n = 0;
            int row = queue;
            while (n < TREES_MOST && row != 0 && cells.firstOf(row) != out) {
                set(aside, n, cells.firstOf(row));
                n++;
                row = cells.restOf(row);
            }
            int left = cells.restOf(row);
            for (int i = n - 1; i >= 0; i--) {
                left = cells.row(at(aside, i), left);
            }
            return left;
        }

        private int putInto(int heap, int queue) {
            int first = cells.firstOf(queue);
            int rest = cells.restOf(queue);
            int second = cells.firstOf(rest);
            if (law == 0 && rest != 0 && cells.rankOf(first) == cells.rankOf(second)) {
                return cells.row(linkBeside(link(first, second), heap), cells.restOf(rest));
            }
            int tree = cells.tree(0, heap, 0, 0, cells.holdsOf(heap), cells.deepOf(heap));
            return law == 0 ? cells.row(tree, queue) : carry(tree, queue);
        }

        private int linkBeside(int tree, int heap) {
            boolean stays = cells.turnOf(tree) < cells.turnOf(heap);
            int head = stays ? cells.headOf(tree) : heap;
            int single = stays ? heap : cells.headOf(tree);
            int singles = cells.row(single, cells.singlesOf(tree));
            int holds = cells.holdsOf(tree) + cells.holdsOf(heap);
            int deep = Math.max(cells.deepOf(tree), cells.deepOf(heap));
            return cells.tree(cells.rankOf(tree), head, singles, cells.belowOf(tree), holds, deep);
        }

        private int link(int first, int second) {
            linked++;
            boolean turned = cells.turnOf(second) < cells.turnOf(first);
            int lesser = turned ? second : first;
            int subtrees = cells.row(turned ? first : second, cells.belowOf(lesser));
            int rank = cells.rankOf(lesser) + 1;
            int holds = cells.holdsOf(first) + cells.holdsOf(second);
            int deep = Math.max(cells.deepOf(first), cells.deepOf(second));
            return cells.tree(rank, cells.headOf(lesser), cells.singlesOf(lesser), subtrees, holds, deep);
        }

        private int carry(int tree, int queue) {
            if (tree == 0) {
                return queue;
            }
            int carried = tree;
            int rest = queue;
            for (int i = 0; i < TREES_MOST && rest != 0; i++) {
                if (cells.rankOf(carried) < cells.rankOf(cells.firstOf(rest))) {
                    break;
                }
                carried = link(carried, cells.firstOf(rest));
                rest = cells.restOf(rest);
            }
            return cells.row(carried, rest);
        }

        /**
         * Once both first TREES are CARRIED, the RANKS of each QUEUE go up: so what goes ahead of the MERGE of
         * all others has a lesser RANK than these, and to CARRY it there is to put it ahead.
         */
        private int merge(int queue, int other) {
            int one = carry(cells.firstOf(queue), cells.restOf(queue));
            int two = carry(cells.firstOf(other), cells.restOf(other));
            int n = 0;
            while (n < TREES_MOST && one != 0 && two != 0) {
                int first = cells.firstOf(one);
                int second = cells.firstOf(two);
                int difference = Integer.compare(cells.rankOf(first), cells.rankOf(second));
                int next = difference < 0 ? first : second;
                set(aside, n, difference == 0 ? link(first, second) : next);
                n++;
                one = difference <= 0 ? cells.restOf(one) : one;
                two = difference >= 0 ? cells.restOf(two) : two;
            }
            int merged = one == 0 ? two : one;
            for (int i = n - 1; i >= 0; i--) {
                merged = carry(at(aside, i), merged);
            }
            return merged;
        }
    }

    /** Meets CELLS, each once from one begin to the next. */
    private static final class Walk {
        private final int[] rounds = new int[Cells.CELLS_MOST];
        private final int[] row = new int[Cells.CELLS_MOST];
        private int round;
        private int count;

        void begin() {
            round++;
            count = 0;
        }

        int met() {
            return count;
        }

        /** All that is met waits in one row, so that what stands in it is looked at without recursion. */
        void over(Cells cells, int heap) {
            int next = count;
            meet(heap);
            for (; next < count && next < Cells.CELLS_MOST; next++) {
                int cell = at(row, next);
                meet(cells.headOf(cell));
                meetAll(cells, cells.singlesOf(cell));
                meetAll(cells, cells.belowOf(cell));
            }
        }

        private void meetAll(Cells cells, int begin) {
            int rest = begin;
            for (int i = 0; i < Cells.ROWS_MOST && rest != 0; i++) {
                meet(cells.firstOf(rest));
                rest = cells.restOf(rest);
            }
        }

        private void meet(int cell) {
            if (cell != 0 && at(rounds, cell) != round) {
                set(rounds, cell, round);
                set(row, count, cell);
                count++;
            }
        }
    }

    /** JOBS of a VERSION, done by HANDS. */
    private static final class Shop {
        private final Jobs jobs;
        private final int[] free = new int[HANDS_MOST];
        private final int[] doers = new int[SIZE_MOST];
        private final int[] moments = new int[SIZE_MOST];
        private int size;
        private int last;
        private int late;
        private int lateTogether;
        private int lateMost;

        Shop(Jobs jobs) {
            this.jobs = jobs;
        }

        int last() {
            return last;
        }

        int late() {
            return late;
        }

        int lateTogether() {
            return lateTogether;
        }

        int lateMost() {
            return lateMost;
        }

        int handOf(int i) {
            return i < size ? at(doers, i) : NONE;
        }

        int endOf(int i) {
            return i < size ? at(moments, i) : NONE;
        }

        void work(Bags bags, int version, int hands) {
            last = 0;
            late = 0;
            lateTogether = 0;
            lateMost = 0;
            size = bags.sizeOf(version);
            for (int h = 0; h < HANDS_MOST; h++) {
                set(free, h, 0);
            }
            for (int i = 0; i < size; i++) {
                workOn(bags.jobAt(version, i), i, hands);
            }
        }

        private void workOn(int job, int i, int hands) {
            int doer = freeFirst(hands);
            int moment = at(free, doer) + jobs.timeOf(job);
            set(free, doer, moment);
            set(doers, i, doer);
            set(moments, i, moment);
            last = Math.max(last, moment);
            int behind = moment - jobs.keyOf(job);
            if (behind > 0) {
                late++;
                lateTogether += behind;
                lateMost = Math.max(lateMost, behind);
            }
        }

        private int freeFirst(int hands) {
            int first = 0;
            for (int h = 1; h < hands; h++) {
                if (at(free, h) < at(free, first)) {
                    first = h;
                }
            }
            return first;
        }
    }
}
