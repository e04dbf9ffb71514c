import java.lang.reflect.Method;
import java.nio.charset.StandardCharsets;
import java.util.ArrayList;
import java.util.Arrays;
import java.util.List;
import java.util.Random;

/** Long runs of calls, made by chance from fixed seeds, answered by HeapVersions as by the Oracle. */
public final class OracleTest {
    private static final int RUNS = 400;
    private static final int CALLS = 512;
    private static final String[] ALL = {"version", "job", "size", "least", "place", "times", "trees", "rank", "holds",
        "singles", "head", "depth", "parts", "own", "shared", "links", "all", "by", "lean", "drain", "dearest", "same",
        "more", "from", "roots", "without", "left", "done", "hand", "ends", "hands", "fault", "count"};

    private final Check check;
    private final Random random;
    private final int run;
    private final HeapVersions ours = new HeapVersions();
    private final Oracle oracle = new Oracle();
    private int calls = 0;

    private OracleTest(Check check, int run) {
        this.check = check;
        this.run = run;
        this.random = new Random(7_000_003L * run + 11);
    }

    public static void main(String[] args) throws Exception {
        Check check = new Check("OracleTest");
        for (int run = 1; run <= RUNS; run++) {
            new OracleTest(check, run).go();
        }
        check.finish();
    }

    private int ask(String name, int... args) throws Exception {
        calls++;
        Class<?>[] types = new Class<?>[args.length];
        Arrays.fill(types, int.class);
        Object[] boxed = Arrays.stream(args).boxed().toArray();
        Method one = HeapVersions.class.getMethod(name, types);
        Method other = Oracle.class.getMethod(name, types);
        int got = (Integer) one.invoke(ours, boxed);
        check.due("run " + run + " call " + calls + " " + name + Arrays.toString(args), got,
                (Integer) other.invoke(oracle, boxed));
        return got;
    }

    private void go() throws Exception {
        while (calls < CALLS) {
            tell(random.nextInt(4) == 0 ? hurt(text()) : text());
            int acts = random.nextInt(160);
            for (int i = 0; i < acts && calls < CALLS; i++) {
                act();
                while (calls < CALLS && random.nextInt(5) != 0) {
                    query();
                }
            }
        }
    }

    private void tell(String text) throws Exception {
        byte[] bytes = text.getBytes(StandardCharsets.ISO_8859_1);
        if (random.nextInt(3) == 0) {
            ask("feed", random.nextInt(), random.nextInt(), random.nextInt(), random.nextInt(), random.nextInt());
        }
        ask("end", 0);
        for (int[] five : Check.fives(bytes)) {
            ask("feed", five);
        }
        ask("end", bytes.length);
        ask("count", 7);
        ask("plan");
        for (int what = -1; what <= 8; what++) {
            ask("count", what);
        }
        for (int what = -1; what <= 2; what++) {
            ask("fault", what);
        }
    }

    /** A PLAN, mostly without a FAULT, mostly of as many VERSIONS as there may be. */
    private String text() {
        if (random.nextInt(40) == 0) {
            return random.nextBoolean() ? "" : " \n ";
        }
        StringBuilder text = new StringBuilder();
        text.append("plan law ").append(random.nextInt(2)).append(" hands ").append(1 + random.nextInt(4)).append(';');
        int versions = random.nextInt(3) == 0 ? random.nextInt(22) : 20;
        int keys = random.nextInt(3) == 0 ? 1000 : 1 + random.nextInt(60);
        int times = 1 + random.nextInt(random.nextBoolean() ? 9 : 99);
        List<Integer> sizes = new ArrayList<>();
        for (int v = 0; v < versions; v++) {
            text.append(line(sizes, keys, times)).append(random.nextInt(9) == 0 ? "\n" : "");
        }
        return text.substring(0, Math.min(text.length(), 600));
    }

    private String line(List<Integer> sizes, int keys, int times) {
        int n = sizes.size();
        int kind = n == 0 ? 0 : random.nextInt(16);
        int one = n == 0 ? 0 : random.nextInt(3) == 0 ? random.nextInt(n) : n - 1;
        int other = n == 0 ? 0 : random.nextInt(n);
        if (kind == 0) {
            sizes.add(0);
            return "new;";
        }
        if (kind < 5 && sizes.get(one) > 0) {
            sizes.add(sizes.get(one) - 1);
            return "take " + one + ";";
        }
        if (kind < 8 && sizes.get(one) + sizes.get(other) <= (random.nextInt(30) == 0 ? 25 : 24)) {
            sizes.add(sizes.get(one) + sizes.get(other));
            return "join " + one + " " + other + ";";
        }
        if (sizes.get(one) < 24 || random.nextInt(30) == 0) {
            sizes.add(sizes.get(one) + 1);
            return "put " + one + " " + random.nextInt(keys) + " for " + (1 + random.nextInt(times)) + ";";
        }
        sizes.add(0);
        return "new;";
    }

    /** A text with some bytes changed, so that there are FAULTS at all places. */
    private String hurt(String text) {
        String[] bits = {" ", "\n", ";", "plan", "law", "hands", "new", "put", "join", "take", "for", "0", "1", "7", "24",
            "99", "100", "999", "1000", "007", "99999999999", "A", "-", "\t", "\0", "\u00e9", "x"};
        StringBuilder out = new StringBuilder(text);
        for (int i = 1 + random.nextInt(2); i > 0; i--) {
            int at = random.nextInt(out.length() + 1);
            int to = Math.min(out.length(), at + random.nextInt(4));
            out.replace(at, to, random.nextInt(4) == 0 ? "" : bits[random.nextInt(bits.length)]);
        }
        if (random.nextInt(6) == 0) {
            out.setLength(random.nextInt(out.length() + 1));
        }
        return out.substring(0, Math.min(out.length(), 600));
    }

    private int someVersion() {
        int n = oracle.count(2);
        int kind = random.nextInt(30);
        if (kind == 0) {
            return new int[] {-1, -2, n, n + 1, Integer.MAX_VALUE, Integer.MIN_VALUE}[random.nextInt(6)];
        }
        return n == 0 ? 0 : kind < 12 ? n - 1 : random.nextInt(n);
    }

    private int someIndex(int most) {
        int kind = random.nextInt(30);
        return kind == 0 ? new int[] {-1, Integer.MAX_VALUE, Integer.MIN_VALUE}[random.nextInt(3)]
                : random.nextInt(most + 1);
    }

    private void act() throws Exception {
        switch (random.nextInt(14)) {
            case 0: ask("undo"); break;
            case 1: if (random.nextInt(4) == 0) { ask("anew"); } break;
            case 2: case 3: case 4: ask("takes", someVersion()); break;
            case 5: case 6: case 7: ask("joins", someVersion(), someVersion()); break;
            default:
                int key = random.nextInt(20) == 0 ? random.nextInt(1003) - 1 : random.nextInt(40);
                int time = random.nextInt(20) == 0 ? random.nextInt(102) : 1 + random.nextInt(20);
                ask("puts", someVersion(), key, time);
                break;
        }
    }

    private void query() throws Exception {
        String name = ALL[random.nextInt(ALL.length)];
        switch (name) {
            case "all": case "lean": ask(name); break;
            case "size": case "least": case "trees": case "depth": case "parts": case "own": case "links": case "drain":
            case "dearest": case "roots": case "hands": ask(name, someVersion()); break;
            case "shared": case "same": case "more": case "from": case "without": case "left":
                ask(name, someVersion(), someVersion()); break;
            case "fault": ask(name, someIndex(2)); break;
            case "count": ask(name, someIndex(8)); break;
            case "by": ask(name, someIndex(2), someVersion()); break;
            case "job": ask(name, someIndex(30), someIndex(2)); break;
            case "version": case "done": ask(name, someVersion(), someIndex(4)); break;
            case "times": case "place": case "hand": case "ends": ask(name, someVersion(), someIndex(25)); break;
            default: ask(name, someVersion(), someIndex(5)); break;
        }
    }
}
