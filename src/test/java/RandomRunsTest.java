import java.util.Random;

/** Random runs of calls: each answer against the oracle's; what is refused changes nothing; nothing is ever thrown. */
public final class RandomRunsTest {
    private static final String SIGNS = "gsowhgsowh0123456789+-*/<>=&|()!- ";
    private static final String[] LAWS = {"g+s-o-w", "g+s-o-w+h", "g", "(g+s)*2/3-o", "g>100&(s-w)|h", "!(o>0)*g+h",
        "g/o", "g-g/(s-50)", "-g+600", "(g<300)*g+(g>299)*(s+h)", "g*g*g*g*g*g*g*g", "o=w", "g+", "1000000*g", "999999+s"};

    private static final int LONGEST_STEP = 60;

    private final Random random;
    private final SonsPurse made = new SonsPurse();
    private final Oracle due = new Oracle();
    private int lastDay = 0;
    private String call = "";
    /** A narrow run is of one who deals in two trades, so that many of his deals meet in THE LINE. */
    private boolean narrow;
    /** How many calls were made on the object: more than 512 are not promised. */
    private int calls;

    private RandomRunsTest(long seed) {
        random = new Random(seed);
    }

    public static void main(String[] args) {
        int wrong = 0;
        int runs = args.length > 0 ? Integer.parseInt(args[0]) : 200;
        for (int seed = 0; seed < runs && wrong < 5; seed++) {
            String told = new RandomRunsTest(seed).run(seed);
            if (told != null) {
                wrong++;
                System.out.println("seed " + seed + ": " + told);
            }
        }
        if (wrong != 0) System.exit(1);
        System.out.println(runs + " random runs as due");
    }

    private String run(int seed) {
        StringBuilder all = new StringBuilder();
        calls = 3 + random.nextInt(6);
        for (int k = 0; k < calls; k++) {
            made.person();
            due.person();
        }
        narrow = seed % 3 == 1;
        if (narrow) begin();
        for (int k = 0; calls < 512 - LONGEST_STEP; k++) {
            long[] answers = step(seed % 10 == 9);
            calls++;
            all.append(call).append('\n');
            if (answers[0] != answers[1]) return all + "answered " + answers[0] + ", due is " + answers[1];
            boolean isRefused = answers[0] < -1;
            if (!isRefused && k % 6 != 0) continue;
            calls++;
            if (made.digest() != due.digest()) return all + (isRefused ? "refused, but changed something" : "another digest");
        }
        return made.digest() == due.digest() ? null : all + "another digest at the end";
    }

    private void begin() {
        int[][] notes = {{0, 0, 1, 0, 0}, {0, 0, 2, 1, 0}, {0, 8, 1, 0, 0}, {0, 8, 1, 1, 0}, {0, 11, 1, 0, 60},
            {0, 1, 1, 0, 1 + pick(400)}, {0, 1, 1, 1, 1 + pick(400)}, {0, 1, 1, 2, 1 + pick(200)}};
        for (int[] n : notes) {
            made.note(n[0], n[1], n[2], n[3], n[4]);
            due.note(n[0], n[1], n[2], n[3], n[4]);
        }
        calls += notes.length;
        for (int k = 0; k < 6; k++) {
            int[] n = {1 + k / 3, 4, oneIn(6) ? 2 : 1, pick(3), 1 + pick(300)};
            made.note(n[0], n[1], n[2], n[3], n[4]);
            due.note(n[0], n[1], n[2], n[3], n[4]);
            made.line(k);
            due.line(k);
            calls += 2;
        }
        lastDay = 2;
    }

    private int pick(int bound) {
        return random.nextInt(bound);
    }

    private boolean oneIn(int n) {
        return pick(n) == 0;
    }

    /** Mostly a number from 0 to bound - 1, sometimes one beside it or far off. */
    private int near(int bound) {
        if (oneIn(40)) return new int[] {-1, -2, bound, bound + 1, Integer.MIN_VALUE, Integer.MAX_VALUE}[pick(6)];
        return pick(Math.max(1, bound));
    }

    private int day() {
        if (oneIn(30)) return new int[] {-1, 0, 999, 1000, Integer.MAX_VALUE, Integer.MIN_VALUE}[pick(6)];
        return oneIn(4) ? pick(lastDay + 2) : Math.min(999, lastDay + (oneIn(12) ? 355 + pick(12) : pick(3)));
    }

    private long[] step(boolean wild) {
        int what = pick(100);
        if (wild && oneIn(3)) return text();
        if (narrow ? what < 12 : what < 34) return note();
        if (what < 38) return doubt();
        if (what < 42) return oneIn(2) ? text() : law();
        if (what < 45) return law();
        return query();
    }

    private long[] note() {
        int kind = near(15);
        if (oneIn(3)) kind = new int[] {0, 1, 4, 8, 9, 11, 3}[pick(7)];
        int add = oneIn(3) ? pick(4) : 0;
        int day = Math.min(999, due.now.notes.isEmpty() ? pick(3) : due.now.notes.get(due.now.notes.size() - 1)[0] + add);
        if (oneIn(100)) day = day();
        boolean ofDeal = kind == 5 || kind == 9 || kind == 10 || kind == 13;
        int a = ofDeal ? near(due.count(2)) : narrow && !oneIn(4) ? 1 : near(due.count(0));
        int b = kind == 0 || kind == 11 || kind == 12 ? near(due.count(0)) : kind == 14 ? near(3) : near(oneIn(3) ? 4 : 2);
        int v = oneIn(40) ? new int[] {0, 1000, 1001, -1}[pick(4)] : 1 + pick(oneIn(3) ? 1000 : 120);
        call = "note(" + day + ", " + kind + ", " + a + ", " + b + ", " + v + ")";
        long[] answers = {made.note(day, kind, a, b, v), due.note(day, kind, a, b, v)};
        if (answers[1] >= 0) lastDay = day;
        return answers;
    }

    private long[] doubt() {
        int n = near(due.count(1));
        boolean is = !oneIn(5);
        call = "doubt(" + n + ", " + is + ")";
        return new long[] {made.doubt(n, is), due.doubt(n, is)};
    }

    private long[] text() {
        int what = pick(6);
        if (what == 0) {
            call = "clear()";
            return new long[] {made.clear(), due.clear()};
        }
        if (what == 1) {
            call = "read()";
            long[] answers = {made.read(), due.read()};
            if (due.count(1) > 0) lastDay = due.told(due.count(1) - 1, 0);
            return answers;
        }
        if (what == 2) {
            long v = random.nextLong();
            int n = near(9);
            call = "type(" + v + ", " + n + ")";
            return new long[] {made.type(v, n), due.type(v, n)};
        }
        return typeItem();
    }

    private long[] typeItem() {
        int kind = pick(15);
        StringBuilder item = new StringBuilder();
        int day = due.count(1) == 0 ? 0 : due.told(due.count(1) - 1, 0);
        item.append(oneIn(10) ? pick(12000) : day).append(oneIn(9) ? "" : " ").append(oneIn(20) ? "gave" : Oracle.VERBS[kind]);
        String shape = Oracle.SHAPES[kind];
        for (int k = 0; k < shape.length(); k++) {
            if (!(k == 0 && oneIn(9))) item.append(' ');
            if (shape.charAt(k) == 'b' && oneIn(6)) item.append('-');
            else item.append(shape.charAt(k) == 'v' ? 1 + pick(150) : pick(oneIn(9) ? 5 : 2));
            if (oneIn(25)) item.append(" ");
        }
        item.append(oneIn(15) ? "" : ";");
        call = "type \"" + item + "\"";
        long[] answers = {0, 0};
        calls += item.length();
        for (int k = 0; k < item.length(); k++) answers = new long[] {made.type(item.charAt(k), 1), due.type(item.charAt(k), 1)};
        return answers;
    }

    private long[] law() {
        int law = pick(2);
        if (oneIn(3)) {
            call = "fault(" + law + ")";
            return new long[] {made.fault(law), due.fault(law)};
        }
        if (oneIn(3)) {
            int c = oneIn(20) ? near(128) : SIGNS.charAt(pick(SIGNS.length()));
            call = "write(" + law + ", " + c + ")";
            return new long[] {made.write(law, c), due.write(law, c)};
        }
        String text = LAWS[pick(LAWS.length)];
        call = "erase and write " + law + " \"" + text + "\"";
        long[] answers = {made.erase(law), due.erase(law)};
        if (answers[0] != answers[1]) return answers;
        calls += text.length();
        for (char c : text.toCharArray()) answers = new long[] {made.write(law, c), due.write(law, c)};
        return answers;
    }

    private long[] query() {
        int d = near(due.count(2));
        int p = near(due.count(0));
        int i = near(due.count(4));
        int day = day();
        int ask = near(4);
        int two = near(2);
        int what = narrow && oneIn(2) ? 13 + pick(5) : pick(27);
        call = what + ": d " + d + " p " + p + " i " + i + " day " + day + " ask " + ask + " two " + two;
        switch (what) {
            case 0: return new long[] {made.holder(p, day), due.holder(p, day)};
            case 1: return new long[] {made.in(p, ask + two, day), due.in(p, ask + two, day)};
            case 2: return new long[] {made.own(p, ask, day), due.own(p, ask, day)};
            case 3: return new long[] {made.net(p, two, day), due.net(p, two, day)};
            case 4: return new long[] {made.owed(d, day), due.owed(d, day)};
            case 5: return new long[] {made.answers(d, day), due.answers(d, day)};
            case 6: case 7: case 8: return new long[] {made.ask(d, ask, day), due.ask(d, ask, day)};
            case 9: return new long[] {made.best(d, day), due.best(d, day)};
            case 10: case 11: return new long[] {made.line(d), due.line(d)};
            case 12:
                if (!oneIn(4)) return new long[] {0, 0};
                return new long[] {made.unline(), due.unline()};
            case 13: case 14: return new long[] {made.served(i, day), due.served(i, day)};
            case 15: return oneIn(3) ? new long[] {made.orders(i, two, day), due.orders(i, two, day)} : new long[] {0, 0};
            case 16: case 17: return new long[] {made.rests(ask - 1, day), due.rests(ask - 1, day)};
            case 18:
                int v = near(oneIn(2) ? 500 : 3000);
                call += " v " + v;
                return oneIn(3) ? new long[] {made.wise(p, v, day), due.wise(p, v, day)} : new long[] {0, 0};
            case 19: case 20: return new long[] {made.sure(d, ask, two, day), due.sure(d, ask, two, day)};
            case 21: case 22: return new long[] {made.hangs(d, ask, day), due.hangs(d, ask, day)};
            case 23: return new long[] {made.parted(day), due.parted(day)};
            case 24: return new long[] {made.told(near(due.count(1)), 0) == -10 ? 0 : 0, 0};
            case 25: return new long[] {made.image(two), due.image(two)};
            default:
                if (oneIn(2)) return new long[] {made.count(ask + two), due.count(ask + two)};
                long[] answers = {made.from(two), due.from(two)};
                lastDay = due.count(1) == 0 ? 0 : due.told(due.count(1) - 1, 0);
                return answers;
        }
    }
}
