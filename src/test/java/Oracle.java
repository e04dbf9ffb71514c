import java.util.ArrayList;
import java.util.Collections;
import java.util.IdentityHashMap;
import java.util.List;
import java.util.Set;
import java.util.TreeSet;
import java.util.regex.Matcher;
import java.util.regex.Pattern;

/**
 * The document once more, told as literally as can be, with objects, lists and recursion, and everything made
 * anew after each change: what HeapVersions answers is compared with what this answers.
 */
public final class Oracle {
    record Job(int number, int key, int time) {
        boolean less(Job other) {
            return key < other.key || key == other.key && number < other.number;
        }
    }

    static final class Heap {
        final Job job;
        final List<Tree> queue;

        Heap(Job job, List<Tree> queue) {
            this.job = job;
            this.queue = queue;
        }
    }

    static final class Tree {
        final int rank;
        final Heap head;
        final List<Heap> singles;
        final List<Tree> subtrees;

        Tree(int rank, Heap head, List<Heap> singles, List<Tree> subtrees) {
            this.rank = rank;
            this.head = head;
            this.singles = singles;
            this.subtrees = subtrees;
        }
    }

    record Line(int how, int one, int other, int key, int time) {
    }

    record Token(int place, String text) {
    }

    static final class Fault extends RuntimeException {
        private static final long serialVersionUID = 1;
        final int what;
        final int place;

        Fault(int what, int place) {
            this.what = what;
            this.place = place;
        }
    }

    /** All VERSIONS by one LAW; skipped: the VERSION whose put puts nothing. */
    static final class World {
        final int law;
        final List<Heap> heaps = new ArrayList<>();
        final List<Integer> links = new ArrayList<>();
        final List<Job> jobs = new ArrayList<>();
        final List<Integer> touched = new ArrayList<>();
        int linked;

        World(int law, List<Line> lines, int skipped) {
            this.law = law;
            for (int v = 0; v < lines.size(); v++) {
                linked = 0;
                heaps.add(made(lines.get(v), v == skipped));
                links.add(linked);
            }
        }

        Heap made(Line line, boolean skip) {
            if (line.how == 0) {
                touched.add(-1);
                return null;
            }
            Heap one = heaps.get(line.one);
            if (line.how == 1) {
                Job job = new Job(jobs.size(), line.key, line.time);
                jobs.add(job);
                touched.add(job.number);
                return skip ? one : join(new Heap(job, List.of()), one);
            }
            if (line.how == 2) {
                touched.add(-1);
                return join(one, heaps.get(line.other));
            }
            touched.add(one == null ? -1 : one.job.number);
            return one == null ? null : take(one);
        }

        Tree link(Tree first, Tree second) {
            if (first.rank != second.rank) {
                throw new IllegalStateException("ranks " + first.rank + " and " + second.rank);
            }
            linked++;
            if (second.head.job.less(first.head.job)) {
                return new Tree(first.rank + 1, second.head, second.singles, ahead(first, second.subtrees));
            }
            return new Tree(first.rank + 1, first.head, first.singles, ahead(second, first.subtrees));
        }

        List<Tree> carried(Tree tree, List<Tree> queue) {
            if (queue.isEmpty() || tree.rank < queue.get(0).rank) {
                return ahead(tree, queue);
            }
            return carried(link(tree, queue.get(0)), rest(queue));
        }

        List<Tree> put(Heap heap, List<Tree> queue) {
            if (law == 0 && queue.size() >= 2 && queue.get(0).rank == queue.get(1).rank) {
                Tree link = link(queue.get(0), queue.get(1));
                Tree tree = link.head.job.less(heap.job)
                        ? new Tree(link.rank, link.head, ahead(heap, link.singles), link.subtrees)
                        : new Tree(link.rank, heap, ahead(link.head, link.singles), link.subtrees);
                return ahead(tree, rest(rest(queue)));
            }
            Tree tree = new Tree(0, heap, List.of(), List.of());
            return law == 0 ? ahead(tree, queue) : carried(tree, queue);
        }

        List<Tree> merge(List<Tree> one, List<Tree> other) {
            List<Tree> a = one.isEmpty() ? one : carried(one.get(0), rest(one));
            List<Tree> b = other.isEmpty() ? other : carried(other.get(0), rest(other));
            return mergeOn(a, b);
        }

        List<Tree> mergeOn(List<Tree> a, List<Tree> b) {
            if (a.isEmpty() || b.isEmpty()) {
                return a.isEmpty() ? b : a;
            }
            if (a.get(0).rank < b.get(0).rank) {
                return ahead(a.get(0), mergeOn(rest(a), b));
            }
            if (b.get(0).rank < a.get(0).rank) {
                return ahead(b.get(0), mergeOn(a, rest(b)));
            }
            List<Tree> rests = mergeOn(rest(a), rest(b));
            return carried(link(a.get(0), b.get(0)), rests);
        }

        Heap join(Heap one, Heap other) {
            if (one == null || other == null) {
                return one == null ? other : one;
            }
            if (other.job.less(one.job)) {
                return new Heap(other.job, put(one, other.queue));
            }
            return new Heap(one.job, put(other, one.queue));
        }

        Heap take(Heap heap) {
            if (heap.queue.isEmpty()) {
                return null;
            }
            int out = 0;
            for (int i = 1; i < heap.queue.size(); i++) {
                if (heap.queue.get(i).head.job.less(heap.queue.get(out).head.job)) {
                    out = i;
                }
            }
            Tree tree = heap.queue.get(out);
            List<Tree> left = new ArrayList<>(heap.queue);
            left.remove(out);
            List<Tree> turned = new ArrayList<>(tree.subtrees);
            Collections.reverse(turned);
            List<Tree> others = merge(turned, left);
            for (Heap single : tree.singles) {
                others = put(single, others);
            }
            return new Heap(tree.head.job, merge(tree.head.queue, others));
        }
    }

    private final List<Byte> tape = new ArrayList<>();
    private List<Line> lines = new ArrayList<>();
    private boolean planned = false;
    private int law = 0;
    private int hands = 0;
    private int told = 0;
    private int fault = 0;
    private int place = -1;
    private World world = new World(0, lines, -1);
    private World byOther = new World(1, lines, -1);

    private static <X> List<X> ahead(X first, List<X> rest) {
        List<X> row = new ArrayList<>();
        row.add(first);
        row.addAll(rest);
        return row;
    }

    private static <X> List<X> rest(List<X> row) {
        return row.subList(1, row.size());
    }

    public int feed(int a, int b, int c, int d, int e) {
        if (tape.size() > 580) {
            return -1;
        }
        for (int number : new int[] {a, b, c, d, e}) {
            for (byte one : java.nio.ByteBuffer.allocate(4).putInt(number).array()) {
                tape.add(one);
            }
        }
        return tape.size();
    }

    public int end(int n) {
        if (n < 0 || n > tape.size()) {
            return -1;
        }
        tape.subList(n, tape.size()).clear();
        return n;
    }

    private List<Token> tokens() {
        StringBuilder text = new StringBuilder();
        for (byte one : tape) {
            text.append((char) (one & 255));
        }
        List<Token> tokens = new ArrayList<>();
        Matcher matcher = Pattern.compile("[a-z]+|[0-9]+|;|[^ \n]", Pattern.DOTALL).matcher(text);
        while (matcher.find()) {
            tokens.add(new Token(matcher.start(), matcher.group()));
        }
        tokens.add(new Token(tape.size(), ""));
        return tokens;
    }

    private static int number(Token token, int least, int most) {
        if (!token.text.matches("[0-9]+")) {
            throw new Fault(1, token.place);
        }
        java.math.BigInteger value = new java.math.BigInteger(token.text);
        if (value.compareTo(java.math.BigInteger.valueOf(least)) < 0
                || value.compareTo(java.math.BigInteger.valueOf(most)) > 0) {
            throw new Fault(2, token.place);
        }
        return value.intValue();
    }

    private static void word(Token token, String word) {
        if (!token.text.equals(word)) {
            throw new Fault(1, token.place);
        }
    }

    public int plan() {
        List<Token> tokens = tokens();
        tape.clear();
        try {
            tellAll(tokens);
        } catch (Fault found) {
            fault = found.what;
            place = found.place;
            return -4;
        }
        fault = 0;
        place = -1;
        makeAnew();
        return planned ? told + 1 : 0;
    }

    private void tellAll(List<Token> tokens) {
        int at = 0;
        int newLaw = 0;
        int newHands = 0;
        boolean some = tokens.size() > 1;
        List<Line> found = new ArrayList<>();
        List<Integer> sizes = new ArrayList<>();
        if (some) {
            word(tokens.get(0), "plan");
            word(tokens.get(1), "law");
            newLaw = number(tokens.get(2), 0, 1);
            word(tokens.get(3), "hands");
            newHands = number(tokens.get(4), 1, 4);
            word(tokens.get(5), ";");
            at = 6;
        }
        while (at < tokens.size() - 1) {
            Token word = tokens.get(at++);
            int how = List.of("new", "put", "join", "take").indexOf(word.text);
            if (how < 0) {
                throw new Fault(1, word.place);
            }
            if (found.size() == 20) {
                throw new Fault(3, word.place);
            }
            int one = -1;
            int other = -1;
            int key = 0;
            int time = 0;
            int size = 0;
            if (how != 0) {
                Token token = tokens.get(at++);
                one = number(token, 0, found.size() - 1);
                size = sizes.get(one) + (how == 1 ? 1 : how == 3 ? -1 : 0);
                if (size > 24 || size < 0) {
                    throw new Fault(2, token.place);
                }
            }
            if (how == 1) {
                key = number(tokens.get(at++), 0, 999);
                word(tokens.get(at++), "for");
                time = number(tokens.get(at++), 1, 99);
            }
            if (how == 2) {
                Token token = tokens.get(at++);
                other = number(token, 0, found.size() - 1);
                size += sizes.get(other);
                if (size > 24) {
                    throw new Fault(2, token.place);
                }
            }
            word(tokens.get(at++), ";");
            found.add(new Line(how, one, other, key, time));
            sizes.add(size);
        }
        planned = some;
        law = newLaw;
        hands = newHands;
        told = found.size();
        lines = found;
    }

    private void makeAnew() {
        world = new World(law, lines, -1);
        byOther = new World(1 - law, lines, -1);
    }

    public int fault(int what) {
        return what == 0 ? fault : what == 1 ? place : -1;
    }

    public int count(int what) {
        int[] counts = {law, hands, lines.size(), world.jobs.size(), told, lines.size() - told, planned ? told + 1 : 0,
            tape.size()};
        return what >= 0 && what < counts.length ? counts[what] : -1;
    }

    private boolean no(int version) {
        return version < 0 || version >= lines.size();
    }

    public int version(int version, int what) {
        if (no(version) || what < 0 || what > 3) {
            return -2;
        }
        Line line = lines.get(version);
        return new int[] {line.how, line.one, line.other, world.touched.get(version)}[what];
    }

    public int job(int job, int what) {
        if (job < 0 || job >= world.jobs.size() || what < 0 || what > 1) {
            return -2;
        }
        return what == 0 ? world.jobs.get(job).key : world.jobs.get(job).time;
    }

    private static void collect(Heap heap, List<Job> jobs) {
        if (heap != null) {
            jobs.add(heap.job);
            heap.queue.forEach(tree -> collect(tree, jobs));
        }
    }

    private static void collect(Tree tree, List<Job> jobs) {
        collect(tree.head, jobs);
        tree.singles.forEach(single -> collect(single, jobs));
        tree.subtrees.forEach(subtree -> collect(subtree, jobs));
    }

    private static List<Job> sorted(Heap heap) {
        List<Job> jobs = new ArrayList<>();
        collect(heap, jobs);
        jobs.sort((a, b) -> a.less(b) ? -1 : b.less(a) ? 1 : 0);
        return jobs;
    }

    private List<Job> jobs(int version) {
        return sorted(world.heaps.get(version));
    }

    public int size(int version) {
        return no(version) ? -2 : jobs(version).size();
    }

    public int least(int version) {
        if (no(version)) {
            return -2;
        }
        return world.heaps.get(version) == null ? -1 : world.heaps.get(version).job.number;
    }

    public int place(int version, int i) {
        if (no(version) || i < 0) {
            return -2;
        }
        return i < jobs(version).size() ? jobs(version).get(i).number : -1;
    }

    public int times(int version, int job) {
        if (no(version) || job < 0 || job >= world.jobs.size()) {
            return -2;
        }
        return (int) jobs(version).stream().filter(j -> j.number == job).count();
    }

    private List<Tree> queue(int version) {
        Heap heap = world.heaps.get(version);
        return heap == null ? List.of() : heap.queue;
    }

    public int trees(int version) {
        return no(version) ? -2 : queue(version).size();
    }

    private int ofTree(int version, int i, java.util.function.ToIntFunction<Tree> what) {
        if (no(version) || i < 0) {
            return -2;
        }
        return i < queue(version).size() ? what.applyAsInt(queue(version).get(i)) : -1;
    }

    public int rank(int version, int i) {
        return ofTree(version, i, tree -> tree.rank);
    }

    public int holds(int version, int i) {
        return ofTree(version, i, tree -> {
            List<Job> jobs = new ArrayList<>();
            collect(tree, jobs);
            return jobs.size();
        });
    }

    public int singles(int version, int i) {
        return ofTree(version, i, tree -> tree.singles.size());
    }

    public int head(int version, int i) {
        return ofTree(version, i, tree -> tree.head.job.number);
    }

    private static int deep(Heap heap) {
        return heap == null ? 0 : 1 + heap.queue.stream().mapToInt(Oracle::deep).max().orElse(0);
    }

    private static int deep(Tree tree) {
        int deep = deep(tree.head);
        for (Heap single : tree.singles) {
            deep = Math.max(deep, deep(single));
        }
        for (Tree subtree : tree.subtrees) {
            deep = Math.max(deep, deep(subtree));
        }
        return deep;
    }

    public int depth(int version) {
        return no(version) ? -2 : deep(world.heaps.get(version));
    }

    private static void cells(Object cell, Set<Object> cells) {
        if (cell == null || !cells.add(cell)) {
            return;
        }
        if (cell instanceof Heap heap) {
            heap.queue.forEach(tree -> cells(tree, cells));
        } else if (cell instanceof Tree tree) {
            cells(tree.head, cells);
            tree.singles.forEach(single -> cells(single, cells));
            tree.subtrees.forEach(subtree -> cells(subtree, cells));
        }
    }

    private Set<Object> cells(int version) {
        Set<Object> cells = Collections.newSetFromMap(new IdentityHashMap<>());
        if (version >= 0) {
            cells(world.heaps.get(version), cells);
        }
        return cells;
    }

    public int parts(int version) {
        return no(version) ? -2 : cells(version).size();
    }

    public int own(int version) {
        if (no(version)) {
            return -2;
        }
        Set<Object> one = cells(lines.get(version).one);
        Set<Object> other = cells(lines.get(version).other);
        return (int) cells(version).stream().filter(cell -> !one.contains(cell) && !other.contains(cell)).count();
    }

    public int shared(int version, int other) {
        if (no(version) || no(other)) {
            return -2;
        }
        Set<Object> cells = cells(other);
        return (int) cells(version).stream().filter(cells::contains).count();
    }

    public int links(int version) {
        return no(version) ? -2 : world.links.get(version);
    }

    private static int together(World world) {
        return world.links.stream().mapToInt(i -> i).sum();
    }

    public int all() {
        return planned ? together(world) : -2;
    }

    public int by(int law, int version) {
        if (no(version) || law < 0 || law > 1) {
            return -2;
        }
        return (law == this.law ? world : byOther).links.get(version);
    }

    public int lean() {
        if (!planned) {
            return -2;
        }
        if (together(world) == together(byOther)) {
            return 0;
        }
        return together(world) < together(byOther) ? law : 1 - law;
    }

    private List<Integer> drained(int version) {
        List<Integer> costs = new ArrayList<>();
        for (Heap heap = world.heaps.get(version); heap != null;) {
            world.linked = 0;
            heap = world.take(heap);
            costs.add(world.linked);
        }
        return costs;
    }

    public int drain(int version) {
        return no(version) ? -2 : drained(version).stream().mapToInt(i -> i).sum();
    }

    public int dearest(int version) {
        return no(version) ? -2 : drained(version).stream().mapToInt(i -> i).max().orElse(0);
    }

    public int same(int version, int other) {
        if (no(version) || no(other)) {
            return -2;
        }
        return jobs(version).equals(jobs(other)) ? 1 : 0;
    }

    public int more(int version, int other) {
        if (no(version) || no(other)) {
            return -2;
        }
        List<Job> left = jobs(version);
        jobs(other).forEach(left::remove);
        return left.size();
    }

    private void ancestors(int version, Set<Integer> found) {
        for (int source : new int[] {lines.get(version).one, lines.get(version).other}) {
            if (source >= 0 && found.add(source)) {
                ancestors(source, found);
            }
        }
    }

    private Set<Integer> ancestors(int version) {
        Set<Integer> found = new TreeSet<>();
        ancestors(version, found);
        return found;
    }

    public int from(int version, int other) {
        if (no(version) || no(other)) {
            return -2;
        }
        return version == other || ancestors(version).contains(other) ? 1 : 0;
    }

    public int roots(int version) {
        return no(version) ? -2 : ancestors(version).size();
    }

    private boolean noPut(int version, int put) {
        return no(version) || no(put) || lines.get(put).how != 1;
    }

    public int without(int version, int put) {
        if (noPut(version, put)) {
            return -2;
        }
        Heap heap = new World(law, lines, put).heaps.get(version);
        return heap == null ? -1 : heap.job.number;
    }

    public int left(int version, int put) {
        return noPut(version, put) ? -2 : sorted(new World(law, lines, put).heaps.get(version)).size();
    }

    /** Of each JOB its HAND and its end. */
    private static int[][] work(List<Job> jobs, int hands) {
        int[] free = new int[hands];
        int[][] work = new int[jobs.size()][2];
        for (int i = 0; i < jobs.size(); i++) {
            int first = 0;
            for (int h = hands - 1; h >= 0; h--) {
                first = free[h] <= free[first] ? h : first;
            }
            free[first] += jobs.get(i).time;
            work[i] = new int[] {first, free[first]};
        }
        return work;
    }

    private static int[] done(List<Job> jobs, int hands) {
        int[] done = new int[4];
        int[][] work = work(jobs, hands);
        for (int i = 0; i < work.length; i++) {
            int late = Math.max(0, work[i][1] - jobs.get(i).key);
            done[0] = Math.max(done[0], work[i][1]);
            done[1] += late > 0 ? 1 : 0;
            done[2] += late;
            done[3] = Math.max(done[3], late);
        }
        return done;
    }

    public int done(int version, int what) {
        return no(version) || what < 0 || what > 3 ? -2 : done(jobs(version), hands)[what];
    }

    private int ofWork(int version, int i, int what) {
        if (no(version) || i < 0) {
            return -2;
        }
        int[][] work = work(jobs(version), hands);
        return i < work.length ? work[i][what] : -1;
    }

    public int hand(int version, int i) {
        return ofWork(version, i, 0);
    }

    public int ends(int version, int i) {
        return ofWork(version, i, 1);
    }

    public int hands(int version) {
        if (no(version)) {
            return -2;
        }
        for (int n = 1; n <= 8; n++) {
            if (done(jobs(version), n)[1] == 0) {
                return n;
            }
        }
        return -1;
    }

    private int act(int size, Line line) {
        if (lines.size() >= 30) {
            return -5;
        }
        if (size < 0 || size > 24) {
            return -3;
        }
        lines.add(line);
        makeAnew();
        return lines.size() - 1;
    }

    public int puts(int version, int key, int time) {
        if (no(version) || key < 0 || key > 999 || time < 1 || time > 99) {
            return -2;
        }
        return act(size(version) + 1, new Line(1, version, -1, key, time));
    }

    public int joins(int version, int other) {
        if (no(version) || no(other)) {
            return -2;
        }
        return act(size(version) + size(other), new Line(2, version, other, 0, 0));
    }

    public int takes(int version) {
        return no(version) ? -2 : act(size(version) - 1, new Line(3, version, -1, 0, 0));
    }

    public int undo() {
        if (!planned) {
            return -2;
        }
        if (lines.size() == told) {
            return -5;
        }
        lines.remove(lines.size() - 1);
        makeAnew();
        return lines.size() - told;
    }

    public int anew() {
        if (!planned) {
            return -2;
        }
        int acts = lines.size() - told;
        lines.subList(told, lines.size()).clear();
        makeAnew();
        return acts;
    }
}
