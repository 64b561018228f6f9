import java.math.BigInteger;
import java.util.ArrayList;
import java.util.List;

/** The document told a second time, slowly and in another way: every answer is asked of the row of notes anew. */
final class Oracle {
    static final class Rational implements Comparable<Rational> {
        static final Rational ZERO = new Rational(0, 1);
        final BigInteger above;
        final BigInteger below;

        Rational(long a, long b) {
            BigInteger x = BigInteger.valueOf(a);
            BigInteger y = BigInteger.valueOf(b);
            BigInteger g = x.gcd(y);
            above = x.divide(g);
            below = y.divide(g);
        }

        public int compareTo(Rational o) {
            return above.multiply(o.below).compareTo(o.above.multiply(below));
        }
    }

    static final class Flaw extends RuntimeException {
        private static final long serialVersionUID = 1;
        final int number;

        Flaw(int number) {
            super(null, null, false, false);
            this.number = number;
        }
    }

    static final class State {
        int persons;
        List<int[]> notes = new ArrayList<>();
        String[] laws = {"", ""};
        List<Integer> line = new ArrayList<>();

        State copy() {
            State s = new State();
            s.persons = persons;
            for (int[] n : notes) s.notes.add(n.clone());
            s.laws = laws.clone();
            s.line = new ArrayList<>(line);
            return s;
        }
    }

    State now = new State();
    final State[] images = new State[2];
    final List<Integer> text = new ArrayList<>();
    Rational fraction = Rational.ZERO;

    // ---- the notes that are looked at: as of a day, in one way

    final class View {
        final int day;
        final List<int[]> notes = new ArrayList<>();

        View(int day, int notSo) {
            this.day = day;
            int d = 0;
            for (int[] n : now.notes) {
                boolean so = true;
                if (n[5] == 1) so = (notSo >> d++ & 1) == 0;
                if (n[0] <= day && so) notes.add(n);
            }
        }

        View(int day, List<int[]> some) {
            this.day = day;
            notes.addAll(some);
        }

        View ahead(int[] note) {
            return new View(day, notes.subList(0, notes.indexOf(note)));
        }

        int[] last(int a, int... kinds) {
            int[] found = null;
            for (int[] n : notes) for (int k : kinds) if (n[1] == k && n[2] == a) found = n;
            return found;
        }

        int[] last(int kind, int kind2, int a, int b) {
            int[] found = null;
            for (int[] n : notes) if ((n[1] == kind || n[1] == kind2) && n[2] == a && n[3] == b) found = n;
            return found;
        }

        int sum(int kind, int a, int b) {
            int all = 0;
            for (int[] n : notes) if (n[1] == kind && n[2] == a && (b == -9 || n[3] == b)) all += n[4];
            return all;
        }

        int holder(int p) {
            int[] n = last(p, 0, 14);
            return n == null || n[1] == 14 ? -1 : n[3];
        }

        int in(int p, int t) {
            if (t == 4) return in(p, 0) + in(p, 1) + in(p, 2) + in(p, 3);
            return Math.max(0, sum(1, p, t) - sum(2, p, t) - sum(3, p, t));
        }

        int owes(int p, int q) {
            return Math.max(0, sum(11, p, q) - sum(12, p, q));
        }

        int second(int p) {
            int all = 0;
            for (int q = 0; q < now.persons; q++) if (holder(q) == p) all += net(q, 0, 0, 0);
            return all;
        }

        int own0(int p) {
            return holder(p) < 0 ? 0 : owes(p, holder(p));
        }

        int own1(int p) {
            int all = 0;
            if (holder(p) < 0) return 0;
            for (int q = 0; q < now.persons; q++) if (q != p && holder(q) == holder(p)) all += owes(p, q);
            return all;
        }

        int net(int p, int law, long hidden, int more) {
            long g = in(p, 4) + more;
            long s = second(p);
            long v;
            try {
                v = new LawRun(now.laws[law], new long[] {g, s, own0(p), own1(p), hidden}).all();
            } catch (Flaw f) {
                v = g + s - own0(p) - own1(p) + hidden;
            }
            return (int) Math.max(0, Math.min(1000000, v));
        }

        int[] deal(int d) {
            int k = 0;
            for (int[] n : notes) if (n[1] == 4 && k++ == d) return n;
            return null;
        }

        int deals() {
            int k = 0;
            while (deal(k) != null) k++;
            return k;
        }

        int owed(int d) {
            return deal(d)[4] - sum(13, d, -9);
        }

        int hidden(int d) {
            int all = 0;
            for (int[] n : notes.subList(notes.indexOf(deal(d)), notes.size())) if (n[1] == 3 && n[2] == deal(d)[2]) all += n[4];
            return all;
        }

        int answers(int d) {
            int p = deal(d)[2];
            int[] n = last(p, 0, 14);
            if (n == null) return -1;
            return n[1] == 0 ? n[3] : ahead(n).holder(p);
        }

        boolean purseOpen(int d) {
            if (answers(d) < 0) return false;
            if (holder(deal(d)[2]) >= 0) return true;
            int[] n = last(deal(d)[2], 14);
            return day - n[0] <= 360 && n[3] != 2;
        }

        boolean known(int d) {
            return ahead(deal(d)).last(8, 8, deal(d)[2], deal(d)[3]) != null;
        }

        boolean set(int p, int t) {
            int[] n = last(6, 7, p, t);
            return n != null && n[1] == 6;
        }

        Rational ask(int d, int ask) {
            if (answers(d) < 0) return Rational.ZERO;
            int p = deal(d)[2];
            int t = deal(d)[3];
            long owed = owed(d);
            if (ask == 0) return new Rational(last(d, 5) != null || ahead(deal(d)).set(p, t) ? owed : 0, 1);
            if (ask == 1) return new Rational(Math.min(owed, Math.max(0, sum(9, d, -9) - sum(10, d, -9))), 1);
            if (ask == 2) return new Rational(purse(d, 0), 1);
            long all = own0(p);
            for (int k = 0; k < deals(); k++) if (deal(k)[2] == p && deal(k)[3] == t) all += owed(k);
            return known(d) ? share(in(p, t), owed, all) : Rational.ZERO;
        }

        Rational share(long part, long owed, long all) {
            if (owed == 0) return Rational.ZERO;
            Rational s = new Rational(part * owed, all);
            Rational o = new Rational(owed, 1);
            return s.compareTo(o) < 0 ? s : o;
        }

        long purse(int d, int law) {
            return purseOpen(d) ? Math.min(owed(d), net(deal(d)[2], law, hidden(d), 0)) : 0;
        }

        boolean isHere(int d) {
            return deal(d) != null;
        }

        /** What all in a row of deals get, by choices. */
        Rational[] got(List<Integer> row, int shares) {
            Rational[] got = new Rational[row.size()];
            for (int i = 0; i < got.length; i++) {
                got[i] = Rational.ZERO;
                if (!isHere(row.get(i))) continue;
                int p = deal(row.get(i))[2];
                int t = deal(row.get(i))[3];
                if ((shares >> i & 1) == 1) {
                    long all = own0(p);
                    for (int j = 0; j < got.length; j++) {
                        int[] other = deal(row.get(j));
                        if ((shares >> j & 1) == 1 && other[2] == p && other[3] == t) all += owed(row.get(j));
                    }
                    if (answers(row.get(i)) >= 0) got[i] = share(in(p, t), owed(row.get(i)), all);
                    continue;
                }
                if (!purseOpen(row.get(i))) continue;
                long left = net(p, 0, hidden(row.get(i)), 0);
                for (int trade = 0; trade < 4; trade++) {
                    boolean some = false;
                    for (int j = 0; j < got.length; j++) {
                        if ((shares >> j & 1) == 1 && deal(row.get(j))[2] == p && deal(row.get(j))[3] == trade) some = true;
                    }
                    if (some) left -= in(p, trade);
                }
                for (int j = 0; j < i; j++) {
                    if ((shares >> j & 1) == 0 && isHere(row.get(j)) && deal(row.get(j))[2] == p) left -= got[j].above.longValue();
                }
                got[i] = new Rational(Math.max(0, Math.min(left, owed(row.get(i)))), 1);
            }
            return got;
        }
    }

    // ---- a law worked as it is read

    static final class LawRun {
        final String text;
        final long[] given;
        int at;
        int open;

        LawRun(String text, long[] given) {
            this.text = text;
            this.given = given;
        }

        long all() {
            long v = level(0);
            has("");
            if (at < text.length()) throw new Flaw(10 * at + 1);
            return v;
        }

        boolean has(String signs) {
            while (at < text.length() && text.charAt(at) == ' ') at++;
            return at < text.length() && signs.indexOf(text.charAt(at)) >= 0;
        }

        long level(int n) {
            String[] signs = {"|", "&", "<>=", "+-", "*/"};
            if (n == 5) return unit();
            long v = level(n + 1);
            while (has(signs[n])) {
                char c = text.charAt(at++);
                long w = level(n + 1);
                switch (c) {
                    case '|': v = v != 0 || w != 0 ? 1 : 0; break;
                    case '&': v = v != 0 && w != 0 ? 1 : 0; break;
                    case '<': v = v < w ? 1 : 0; break;
                    case '>': v = v > w ? 1 : 0; break;
                    case '=': v = v == w ? 1 : 0; break;
                    case '+': v += w; break;
                    case '-': v -= w; break;
                    case '*': v *= w; break;
                    default: v = w == 0 ? 0 : v / w; break;
                }
                if (n == 2) break;
            }
            return v;
        }

        long unit() {
            if (!has("0123456789gsowh(!-")) throw new Flaw(10 * at + 1);
            int first = at;
            char c = text.charAt(at++);
            if (c == '!') return unit() == 0 ? 1 : 0;
            if (c == '-') return -unit();
            if (c == '(') {
                if (++open == 9) throw new Flaw(10 * first + 3);
                long v = level(0);
                if (!has(")")) throw new Flaw(10 * at + 1);
                at++;
                open--;
                return v;
            }
            if ("gsowh".indexOf(c) >= 0) return given["gsowh".indexOf(c)];
            while (at < text.length() && Character.isDigit(text.charAt(at))) at++;
            if (at - first > 6) throw new Flaw(10 * first + 2);
            return Long.parseLong(text.substring(first, at));
        }
    }

    // ---- the calls

    boolean isPerson(int p) {
        return p >= 0 && p < now.persons;
    }

    int allDeals() {
        int k = 0;
        for (int[] n : now.notes) if (n[1] == 4) k++;
        return k;
    }

    boolean isDeal(int d) {
        return d >= 0 && d < allDeals();
    }

    static boolean isDay(int day) {
        return day >= 0 && day <= 999;
    }

    View view(int day) {
        return new View(day, 0);
    }

    int person() {
        return now.persons == 10 ? -4 : now.persons++;
    }

    int note(int day, int kind, int a, int b, int v) {
        if (!isDay(day) || kind < 0 || kind > 14) return -2;
        if (!now.notes.isEmpty() && day < now.notes.get(now.notes.size() - 1)[0]) return -2;
        boolean ofDeal = kind == 5 || kind == 9 || kind == 10 || kind == 13;
        if (ofDeal ? !isDeal(a) : !isPerson(a)) return -2;
        if (kind == 0 && b != -1 && !isPerson(b)) return -2;
        if ((kind == 11 || kind == 12) && (!isPerson(b) || a == b)) return -2;
        if (kind == 14 && (b < 0 || b > 2)) return -2;
        boolean trade = kind >= 1 && kind <= 4 || kind >= 6 && kind <= 8;
        if (trade && (b < 0 || b > 3)) return -2;
        boolean sum = kind >= 1 && kind <= 4 || kind >= 9 && kind <= 13;
        if (sum && (v < 1 || v > 1000)) return -2;
        View w = view(999);
        boolean no = false;
        if (kind == 0) for (int up = b, k = 0; up != -1 && k < 20; up = w.holder(up), k++) no |= up == a;
        if (kind == 2 || kind == 3) no = w.in(a, b) < v;
        if (kind == 5) no = w.last(a, 5) != null;
        if (kind == 6) no = w.set(a, b);
        if (kind == 7) no = !w.set(a, b);
        if (kind == 8) no = w.last(8, 8, a, b) != null;
        if (kind == 9) no = w.sum(9, a, -9) + v > w.deal(a)[4];
        if (kind == 10) no = w.sum(10, a, -9) + v > w.sum(9, a, -9);
        if (kind == 12) no = w.owes(a, b) < v;
        if (kind == 13) no = w.owed(a) < v;
        if (kind == 14) no = w.holder(a) == -1;
        if (no) return -3;
        if (now.notes.size() == 60) return -4;
        now.notes.add(new int[] {day, kind, a, ofDeal ? 0 : b, sum ? v : 0, 0});
        return now.notes.size() - 1;
    }

    int doubts() {
        int k = 0;
        for (int[] n : now.notes) k += n[5];
        return k;
    }

    int doubt(int note, boolean is) {
        if (note < 0 || note >= now.notes.size()) return -2;
        int[] n = now.notes.get(note);
        if (n[1] == 0 || n[1] == 4 || n[1] == 14) return -2;
        if (n[5] == (is ? 1 : 0)) return -3;
        if (is && doubts() == 5) return -4;
        n[5] = is ? 1 : 0;
        return 1;
    }

    int type(long v, int n) {
        if (n < 1 || n > 8) return -2;
        if (text.size() + n > 300) return -4;
        for (int k = n - 1; k >= 0; k--) text.add((int) (v >>> 8 * k & 255));
        return text.size();
    }

    int clear() {
        int had = text.size();
        text.clear();
        return had;
    }

    static final String[] VERBS = {"hand", "give", "take", "hide", "deal", "order", "post", "unpost", "know", "use",
        "lose", "owe", "settle", "pay", "end"};
    static final String[] SHAPES = {"ab", "abv", "abv", "abv", "abv", "a", "ab", "ab", "ab", "av", "av", "abv", "abv",
        "av", "ab"};

    int read() {
        // tokens first: {place, kind: 'w' with verb, 'n' with number, '-', ';', 'x'}
        List<int[]> tokens = new ArrayList<>();
        StringBuilder s = new StringBuilder();
        for (int c : text) s.append((char) c);
        int at = 0;
        while (at < s.length()) {
            int first = at;
            char c = s.charAt(at++);
            if (c == ' ') continue;
            if (c >= 'a' && c <= 'z') {
                while (at < s.length() && s.charAt(at) >= 'a' && s.charAt(at) <= 'z') at++;
                int verb = java.util.Arrays.asList(VERBS).indexOf(s.substring(first, at));
                tokens.add(new int[] {first, verb < 0 ? 'x' : 'w', verb});
            } else if (c >= '0' && c <= '9') {
                while (at < s.length() && s.charAt(at) >= '0' && s.charAt(at) <= '9') at++;
                tokens.add(new int[] {first, at - first > 4 ? 'x' : 'n', at - first > 4 ? 0 : Integer.parseInt(s.substring(first, at))});
            } else {
                tokens.add(new int[] {first, c == '-' || c == ';' ? c : 'x', -1});
            }
        }
        List<int[]> items = new ArrayList<>();
        String due = "nw";
        int[] item = {0, 0, 0, 0, 0};
        int told = 0;
        for (int[] t : tokens) {
            char want = due.charAt(told);
            boolean fits = want == t[1] || want == 'a' && t[1] == 'n' || want == 'b' && t[1] == 'n' || want == 'v' && t[1] == 'n'
                || want == 'b' && t[1] == '-' && item[1] == 0;
            if (!fits) return -10 - t[0];
            if (want == 'n') item[0] = t[2];
            if (want == 'w') {
                item[1] = t[2];
                due = "nw" + SHAPES[t[2]] + ";";
            }
            if (want == 'a') item[2] = t[2];
            if (want == 'b') item[3] = t[2];
            if (want == 'v') item[4] = t[2];
            told++;
            if (want == ';') {
                items.add(item);
                item = new int[5];
                due = "nw";
                told = 0;
            }
        }
        if (told != 0) return -10 - s.length();
        State before = now.copy();
        for (int k = 0; k < items.size(); k++) {
            int[] i = items.get(k);
            if (note(i[0], i[1], i[2], i[3], i[4]) < 0) {
                now = before;
                return -1000 - k;
            }
        }
        text.clear();
        return items.size();
    }

    int write(int law, int c) {
        if (law < 0 || law > 1 || c < 0 || c > 127) return -2;
        if (now.laws[law].length() == 50) return -4;
        now.laws[law] += (char) c;
        return now.laws[law].length();
    }

    int erase(int law) {
        if (law < 0 || law > 1) return -2;
        int had = now.laws[law].length();
        now.laws[law] = "";
        return had;
    }

    int fault(int law) {
        if (law < 0 || law > 1) return -2;
        try {
            new LawRun(now.laws[law], new long[5]).all();
            return -1;
        } catch (Flaw f) {
            return f.number;
        }
    }

    int holder(int p, int day) {
        return !isPerson(p) || !isDay(day) ? -10 : view(day).holder(p);
    }

    int in(int p, int part, int day) {
        return !isPerson(p) || !isDay(day) || part < 0 || part > 4 ? -2 : view(day).in(p, part);
    }

    int own(int p, int what, int day) {
        if (!isPerson(p) || !isDay(day) || what < 0 || what > 2) return -2;
        View w = view(day);
        return what == 0 ? w.second(p) : what == 1 ? w.own0(p) : w.own1(p);
    }

    int net(int p, int law, int day) {
        return !isPerson(p) || !isDay(day) || law < 0 || law > 1 ? -2 : view(day).net(p, law, 0, 0);
    }

    int owed(int d, int day) {
        if (!isDeal(d) || !isDay(day)) return -2;
        return view(day).isHere(d) ? view(day).owed(d) : -3;
    }

    int answers(int d, int day) {
        if (!isDeal(d) || !isDay(day)) return -10;
        return view(day).isHere(d) ? view(day).answers(d) : -20;
    }

    int ask(int d, int ask, int day) {
        if (!isDeal(d) || !isDay(day) || ask < 0 || ask > 3) return -2;
        if (!view(day).isHere(d)) return -3;
        fraction = view(day).ask(d, ask);
        return 1;
    }

    int best(int d, int day) {
        if (!isDeal(d) || !isDay(day)) return -10;
        if (!view(day).isHere(d)) return -20;
        int best = 0;
        for (int k = 1; k < 4; k++) if (view(day).ask(d, k).compareTo(view(day).ask(d, best)) > 0) best = k;
        return view(day).ask(d, best).compareTo(Rational.ZERO) == 0 ? -1 : best;
    }

    int line(int d) {
        if (!isDeal(d)) return -2;
        if (now.line.contains(d)) return -3;
        if (now.line.size() == 6) return -4;
        now.line.add(d);
        return now.line.size();
    }

    int unline() {
        int had = now.line.size();
        now.line.clear();
        return had;
    }

    int served(int i, int day) {
        if (i < 0 || i >= now.line.size() || !isDay(day)) return -2;
        return view(day).got(now.line, 0)[i].above.intValue();
    }

    int orders(int i, int what, int day) {
        if (i < 0 || i >= now.line.size() || !isDay(day) || what < 0 || what > 1) return -2;
        View w = view(day);
        int[] least = {Integer.MAX_VALUE, -1};
        tryOrder(w, new ArrayList<>(), now.line.get(i), least);
        return least[what];
    }

    private void tryOrder(View w, List<Integer> row, int wanted, int[] range) {
        if (row.size() == now.line.size()) {
            int got = w.got(row, 0)[row.indexOf(wanted)].above.intValue();
            range[0] = Math.min(range[0], got);
            range[1] = Math.max(range[1], got);
        }
        for (int d : now.line) {
            if (row.contains(d)) continue;
            row.add(d);
            tryOrder(w, row, wanted, range);
            row.remove(row.size() - 1);
        }
    }

    int rests(int what, int day) {
        if (what < -1 || !isDay(day)) return -10;
        View w = view(day);
        int may = 0;
        for (int i = 0; i < now.line.size(); i++) {
            int d = now.line.get(i);
            if (w.isHere(d) && w.known(d)) may |= 1 << i;
        }
        List<Integer> rests = new ArrayList<>();
        for (int row = 0; row < 1 << now.line.size(); row++) {
            if ((row & ~may) != 0) continue;
            Rational[] got = w.got(now.line, row);
            boolean rest = true;
            for (int i = 0; i < got.length; i++) {
                if ((may >> i & 1) == 1 && w.got(now.line, row ^ 1 << i)[i].compareTo(got[i]) > 0) rest = false;
            }
            if (rest) rests.add(row);
        }
        if (what == -1) return rests.size();
        return what < rests.size() ? rests.get(what) : -5;
    }

    int wise(int p, int v, int day) {
        if (!isPerson(p) || v < 1 || v > 1000000 || !isDay(day)) return -10;
        View w = view(day);
        for (int x = 0; x <= 2000; x++) if (w.net(p, 0, 0, x) >= v) return x;
        return -1;
    }

    int sure(int d, int ask, int what, int day) {
        if (!isDeal(d) || !isDay(day) || ask < 0 || ask > 3 || what < 0 || what > 1) return -2;
        if (!view(day).isHere(d)) return -3;
        Rational found = null;
        for (int way = 0; way < 1 << doubts(); way++) {
            Rational r = new View(day, way).ask(d, ask);
            if (found == null || (what == 0 ? r.compareTo(found) < 0 : r.compareTo(found) > 0)) found = r;
        }
        fraction = found;
        return 1;
    }

    int hangs(int d, int ask, int day) {
        if (!isDeal(d) || !isDay(day) || ask < 0 || ask > 3) return -2;
        if (!view(day).isHere(d)) return -3;
        int bits = 0;
        for (int k = 0; k < doubts(); k++) {
            for (int way = 0; way < 1 << doubts(); way++) {
                if ((way >> k & 1) == 1) continue;
                Rational with = new View(day, way).ask(d, ask);
                if (with.compareTo(new View(day, way + (1 << k)).ask(d, ask)) != 0) bits |= 1 << k;
            }
        }
        return bits;
    }

    int parted(int day) {
        if (!isDay(day)) return -10;
        View w = view(day);
        for (int d = 0; d < w.deals(); d++) if (w.purse(d, 0) != w.purse(d, 1)) return d;
        return -1;
    }

    long part(int what) {
        return what == 0 ? fraction.above.longValue() : what == 1 ? fraction.below.longValue() : -1;
    }

    int told(int n, int what) {
        return n < 0 || n >= now.notes.size() || what < 0 || what > 5 ? -10 : now.notes.get(n)[what];
    }

    int image(int i) {
        if (i < 0 || i > 1) return -2;
        images[i] = now.copy();
        return 1;
    }

    int from(int i) {
        if (i < 0 || i > 1) return -2;
        if (images[i] == null) return -3;
        now = images[i].copy();
        return 1;
    }

    int count(int what) {
        switch (what) {
            case 0: return now.persons;
            case 1: return now.notes.size();
            case 2: return allDeals();
            case 3: return doubts();
            case 4: return now.line.size();
            case 5: return text.size();
            default: return -2;
        }
    }

    long digest() {
        List<Long> v = new ArrayList<>();
        for (int k = 0; k < 5; k++) v.add((long) count(k));
        for (int n = 0; n < count(1); n++) for (int k = 0; k < 6; k++) v.add((long) told(n, k));
        for (String law : now.laws) {
            v.add((long) law.length());
            for (char c : law.toCharArray()) v.add((long) c);
        }
        for (int d : now.line) v.add((long) d);
        for (int p = 0; p < now.persons; p++) {
            v.add((long) holder(p, 999));
            v.add((long) in(p, 4, 999));
            v.add((long) net(p, 0, 999));
            v.add((long) net(p, 1, 999));
        }
        v.add(part(0));
        v.add(part(1));
        long h = 491;
        for (long x : v) h = 31 * h + x;
        return h;
    }
}
