/**
 * People in one another's hands, the purses they are let keep, and how far he
 * in whose hand they are answers for their deals. shared/DOC.md is the law here.
 */
public final class SonsPurse {
    public static final int NONE = -1, BAD = -2, NO = -3, FULL = -4;

    private static final int PERSONS = 10;
    private static final int NOTES = 60;
    private static final int DAYS = 1000;
    private static final int TRADES = 4;
    private static final int SUM_MOST = 1000;
    private static final int DOUBTS = 5;
    private static final int WAYS = 32;
    private static final int LAWS = 2;
    private static final int LAW_TEXT = 50;
    private static final int SIGNS = 128;
    private static final int OPEN_MOST = 8;
    private static final int DIGITS_MOST = 6;
    private static final int NOT_HERE = 1, TOO_LONG = 2, TOO_OPEN = 3, EMPTY_FLAW = 1;
    private static final int NET_MOST = 1000000;
    private static final int TEXT = 300;
    private static final int BYTES = 8;
    private static final int FIGURES_MOST = 4;
    private static final int LINE = 6;
    private static final int IMAGES = 2;
    private static final int ASKS = 4;
    private static final int MORE_MOST = 2000;
    private static final int DAYS_BEHIND_END = 360;
    private static final int WITH_PURSE = 2;
    private static final int COUNTS = 6;
    private static final int GCD_STEPS = 200;

    private static final int WHOLE = 0, TURNED = 1, PURSE = 2;

    private static final int HAND = 0, GIVE = 1, TAKE = 2, HIDE = 3, DEAL = 4, ORDER = 5, POST = 6, UNPOST = 7,
        KNOW = 8, USE = 9, LOSE = 10, OWE = 11, SETTLE = 12, PAY = 13, END = 14, KINDS = 15;
    private static final String VERBS =
        "hand give take hide deal order post unpost know use lose owe settle pay end ";

    // One character a kind. a: p a person, d a deal. b: h who may be nobody, t a trade, o another person,
    // w a way to end, - not named. v: s a sum, - not named. The last row: ? may be doubted.
    private static final String A_FORM = "pppppdpppddppdp";
    private static final String B_FORM = "htttt-ttt--oo-w";
    private static final String V_FORM = "-ssss----sssss-";
    private static final String DOUBT_FORM = "-???-?????????-";

    private static final int AT_DAY = 0, AT_KIND = 1, AT_A = 2, AT_B = 3, AT_V = 4, AT_DOUBT = 5, ROW = 6;
    private static final int G = 0, S = 1, O = 2, W = 3, H = 4, GIVEN = 5;
    private static final String LETTERS = "gsowh";

    private final Kept kept = new Kept();
    private final Kept[] images = {new Kept(), new Kept()};
    private final boolean[] imaged = new boolean[IMAGES];
    private final House house = new House(kept);
    private final Queue queue = new Queue();
    private final Items items = new Items();
    private final long[] wayAbove = new long[WAYS];
    private final long[] wayBelow = new long[WAYS];
    private long above = 0;
    private long below = 1;

    public SonsPurse() {
    }

    // ---- persons, notes, texts

    public int person() {
        if (kept.persons >= PERSONS) return FULL;
        kept.persons++;
        return kept.persons - 1;
    }

    public int note(int day, int kind, int a, int b, int v) {
        return bring(day, kind, a, b, v);
    }

    public int doubt(int note, boolean is) {
        if (!isNote(note) || !kept.mayBeDoubted(note)) return BAD;
        if (kept.isDoubted(note) == is) return NO;
        if (is && kept.doubted >= DOUBTS) return FULL;
        kept.markDoubt(note, is);
        return 1;
    }

    public int type(long v, int n) {
        if (n < 1 || n > BYTES) return BAD;
        if (items.size + n > TEXT) return FULL;
        for (int k = n - 1; k >= 0; k--) items.add((int) (v >> (8 * k)) & 255);
        return items.size;
    }

    public int clear() {
        int had = items.size;
        items.size = 0;
        return had;
    }

    public int read() {
        int flaw = items.flawOfAll();
        if (flaw != NONE) return -10 - flaw;
        int notes = kept.notes;
        int deals = kept.deals;
        int read = 0;
        items.goToStart();
        for (; read < TEXT && items.next(); read++) {
            if (bring(items.day, items.kind, items.a, items.b, items.v) < 0) {
                kept.notes = notes;
                kept.deals = deals;
                return -1000 - read;
            }
        }
        items.size = 0;
        return read;
    }

    public int write(int law, int character) {
        if (!isLaw(law) || character < 0 || character >= SIGNS) return BAD;
        Law written = kept.laws[law];
        if (written.size >= LAW_TEXT) return FULL;
        written.add(character);
        return written.size;
    }

    public int erase(int law) {
        if (!isLaw(law)) return BAD;
        return kept.laws[law].empty();
    }

    public int fault(int law) {
        if (!isLaw(law)) return BAD;
        return kept.laws[law].flaw;
    }

    // ---- purses

    public int holder(int person, int day) {
        if (!isPerson(person) || !isDay(day)) return -10;
        house.replay(day, 0);
        return house.people[person].hand;
    }

    public int in(int person, int part, int day) {
        if (!isPerson(person) || part < 0 || part > TRADES || !isDay(day)) return BAD;
        house.replay(day, 0);
        Person asked = house.people[person];
        return part < TRADES ? asked.partOf(part) : asked.allParts();
    }

    public int own(int person, int what, int day) {
        if (!isPerson(person) || what < 0 || what > 2 || !isDay(day)) return BAD;
        house.reckon(day, 0);
        if (what == 0) return house.people[person].second;
        return what == 1 ? house.debtToHolder(person) : house.debtToFellows(person);
    }

    public int net(int person, int law, int day) {
        if (!isPerson(person) || !isLaw(law) || !isDay(day)) return BAD;
        house.reckon(day, 0);
        return house.netOf(person, law, 0, 0);
    }

    // ---- asks

    public int owed(int deal, int day) {
        if (!isDeal(deal) || !isDay(day)) return BAD;
        house.replay(day, 0);
        return house.isThere(deal) ? house.dealt[deal].left() : NO;
    }

    public int answers(int deal, int day) {
        if (!isDeal(deal) || !isDay(day)) return -10;
        house.replay(day, 0);
        return house.isThere(deal) ? house.answerer(deal) : -20;
    }

    public int ask(int deal, int ask, int day) {
        if (!isDeal(deal) || !isAsk(ask) || !isDay(day)) return BAD;
        house.reckon(day, 0);
        if (!house.isThere(deal)) return NO;
        setFraction(house.askAbove(deal, ask), house.askBelow(deal, ask));
        return 1;
    }

    public int best(int deal, int day) {
        if (!isDeal(deal) || !isDay(day)) return -10;
        house.reckon(day, 0);
        if (!house.isThere(deal)) return -20;
        int best = NONE;
        long most = 0;
        long mostBelow = 1;
        for (int k = 0; k < ASKS; k++) {
            long asked = house.askAbove(deal, k);
            long askedBelow = house.askBelow(deal, k);
            if (compare(asked, askedBelow, most, mostBelow) > 0) {
                best = k;
                most = asked;
                mostBelow = askedBelow;
            }
        }
        return best;
    }

    // ---- lines, choices

    public int line(int deal) {
        if (!isDeal(deal)) return BAD;
        for (int k = 0; k < kept.lined; k++) {
            if (kept.line[k] == deal) return NO;
        }
        if (kept.lined >= LINE) return FULL;
        kept.line[kept.lined] = deal;
        kept.lined++;
        return kept.lined;
    }

    public int unline() {
        int had = kept.lined;
        kept.lined = 0;
        return had;
    }

    public int served(int i, int day) {
        if (!isLined(i) || !isDay(day)) return BAD;
        lineUp(day);
        return (int) queue.fromPurse(i, 0);
    }

    public int orders(int i, int what, int day) {
        if (!isLined(i) || what < 0 || what > 1 || !isDay(day)) return BAD;
        lineUp(day);
        queue.tryOrders(i);
        return (int) (what == 0 ? queue.least : queue.most);
    }

    public int rests(int what, int day) {
        if (what < NONE || !isDay(day)) return -10;
        lineUp(day);
        int found = 0;
        for (int row = 0; row < 1 << kept.lined; row++) {
            if (queue.isRest(row)) {
                if (found == what) return row;
                found++;
            }
        }
        return what == NONE ? found : -5;
    }

    // ---- how much to let, what is not sure

    public int wise(int person, int v, int day) {
        if (!isPerson(person) || v < 1 || v > NET_MOST || !isDay(day)) return -10;
        house.reckon(day, 0);
        for (int more = 0; more <= MORE_MOST; more++) {
            if (house.netOf(person, 0, 0, more) >= v) return more;
        }
        return NONE;
    }

    public int sure(int deal, int ask, int what, int day) {
        if (!isDeal(deal) || !isAsk(ask) || what < 0 || what > 1 || !isDay(day)) return BAD;
        if (isTooEarly(deal, day)) return NO;
        askInAllWays(deal, ask, day);
        int found = 0;
        int wanted = what == 0 ? -1 : 1;
        for (int way = 1; way < ways(); way++) {
            if (compareWays(way, found) == wanted) found = way;
        }
        setFraction(wayAbove[found], wayBelow[found]);
        return 1;
    }

    public int hangs(int deal, int ask, int day) {
        if (!isDeal(deal) || !isAsk(ask) || !isDay(day)) return BAD;
        if (isTooEarly(deal, day)) return NO;
        askInAllWays(deal, ask, day);
        int bits = 0;
        for (int way = 0; way < ways(); way++) {
            for (int k = 0; k < kept.doubted; k++) {
                int without = way | 1 << k;
                if (compareWays(way, without) != 0) bits |= 1 << k;
            }
        }
        return bits;
    }

    public int parted(int day) {
        if (!isDay(day)) return -10;
        house.reckon(day, 0);
        for (int deal = 0; deal < house.deals; deal++) {
            if (house.purseAsk(deal, 0) != house.purseAsk(deal, 1)) return deal;
        }
        return NONE;
    }

    // ---- what there is

    public long part(int what) {
        if (what < 0 || what > 1) return -1;
        return what == 0 ? above : below;
    }

    public int told(int note, int what) {
        if (!isNote(note) || what < 0 || what >= ROW) return -10;
        return kept.rows[ROW * note + what];
    }

    public int image(int i) {
        if (i < 0 || i >= IMAGES) return BAD;
        images[i].takeAll(kept);
        imaged[i] = true;
        return 1;
    }

    public int from(int i) {
        if (i < 0 || i >= IMAGES) return BAD;
        if (!imaged[i]) return NO;
        kept.takeAll(images[i]);
        return 1;
    }

    public int count(int what) {
        if (what < 0 || what >= COUNTS) return BAD;
        return what == COUNTS - 1 ? items.size : kept.howMany(what);
    }

    public long digest() {
        long h = 491;
        for (int k = 0; k < COUNTS - 1; k++) h = 31 * h + kept.howMany(k);
        for (int k = 0; k < ROW * kept.notes; k++) h = 31 * h + kept.rows[k];
        for (int k = 0; k < LAWS; k++) h = kept.laws[k].digestFrom(h);
        for (int k = 0; k < kept.lined; k++) h = 31 * h + kept.line[k];
        h = digestOfPersons(h);
        h = 31 * h + above;
        return 31 * h + below;
    }

    private long digestOfPersons(long from) {
        long h = from;
        house.reckon(DAYS - 1, 0);
        for (int k = 0; k < kept.persons; k++) {
            h = 31 * h + house.people[k].hand;
            h = 31 * h + house.people[k].allParts();
            h = 31 * h + house.netOf(k, 0, 0, 0);
            h = 31 * h + house.netOf(k, 1, 0, 0);
        }
        return h;
    }

    private boolean isPerson(int person) {
        return person >= 0 && person < kept.persons;
    }

    private boolean isNote(int note) {
        return note >= 0 && note < kept.notes;
    }

    private boolean isDeal(int deal) {
        return deal >= 0 && deal < kept.deals;
    }

    private boolean isLined(int i) {
        return i >= 0 && i < kept.lined;
    }

    private static boolean isDay(int day) {
        return day >= 0 && day < DAYS;
    }

    private static boolean isLaw(int law) {
        return law >= 0 && law < LAWS;
    }

    private static boolean isAsk(int ask) {
        return ask >= 0 && ask < ASKS;
    }

    private int bring(int day, int kind, int a, int b, int v) {
        if (!kept.isWellTold(day, kind, a, b, v)) return BAD;
        house.replay(DAYS - 1, 0);
        if (house.refuses(kind, a, b, v)) return NO;
        if (kept.notes >= NOTES) return FULL;
        return kept.add(day, kind, a, b, v);
    }

    private void lineUp(int day) {
        house.reckon(day, 0);
        queue.lineUp(kept, house);
    }

    private boolean isTooEarly(int deal, int day) {
        house.replay(day, 0);
        return !house.isThere(deal);
    }

    private int ways() {
        return 1 << kept.doubted;
    }

    /** A way is told by bits: which of the doubted notes are not so. */
    private void askInAllWays(int deal, int ask, int day) {
        for (int way = 0; way < ways(); way++) {
            house.reckon(day, way);
            wayAbove[way] = house.askAbove(deal, ask);
            wayBelow[way] = house.askBelow(deal, ask);
        }
    }

    private int compareWays(int one, int other) {
        return compare(wayAbove[one], wayBelow[one], wayAbove[other], wayBelow[other]);
    }

    private static int compare(long above, long below, long otherAbove, long otherBelow) {
        return Long.compare(above * otherBelow, otherAbove * below);
    }

    private void setFraction(long newAbove, long newBelow) {
        long both = commonMeasure(newAbove, newBelow);
        if (both == 0) return;
        above = newAbove / both;
        below = newBelow / both;
    }

    private static long commonMeasure(long one, long other) {
        long big = one;
        long small = other;
        for (int k = 0; k < GCD_STEPS && small != 0; k++) {
            long rest = big % small;
            big = small;
            small = rest;
        }
        return big;
    }

    /** What an image keeps. */
    private static final class Kept {
        int persons;
        int notes;
        int deals;
        int doubted;
        int lined;
        final int[] rows = new int[ROW * NOTES];
        final int[] line = new int[LINE];
        final Law[] laws = {new Law(), new Law()};

        void takeAll(Kept other) {
            persons = other.persons;
            notes = other.notes;
            deals = other.deals;
            doubted = other.doubted;
            lined = other.lined;
            System.arraycopy(other.rows, 0, rows, 0, ROW * NOTES);
            System.arraycopy(other.line, 0, line, 0, LINE);
            for (int k = 0; k < LAWS; k++) laws[k].takeAll(other.laws[k]);
        }

        int howMany(int what) {
            switch (what) {
                case 0: return persons;
                case 1: return notes;
                case 2: return deals;
                case 3: return doubted;
                default: return lined;
            }
        }

        boolean isWellTold(int day, int kind, int a, int b, int v) {
            if (!isDay(day) || day < lastDay() || kind < 0 || kind >= KINDS) return false;
            if (a < 0 || a >= (A_FORM.charAt(kind) == 'd' ? deals : persons)) return false;
            return isWellToldB(B_FORM.charAt(kind), a, b) && (V_FORM.charAt(kind) == '-' || v >= 1 && v <= SUM_MOST);
        }

        private int lastDay() {
            return notes == 0 ? 0 : rows[ROW * (notes - 1) + AT_DAY];
        }

        private boolean isWellToldB(char form, int a, int b) {
            switch (form) {
                case 'h': return b >= NONE && b < persons;
                case 't': return b >= 0 && b < TRADES;
                case 'o': return b >= 0 && b < persons && b != a;
                case 'w': return b >= 0 && b <= WITH_PURSE;
                default: return true;
            }
        }

        int add(int day, int kind, int a, int b, int v) {
            int at = ROW * notes;
            rows[at + AT_DAY] = day;
            rows[at + AT_KIND] = kind;
            rows[at + AT_A] = a;
            rows[at + AT_B] = B_FORM.charAt(kind) == '-' ? 0 : b;
            rows[at + AT_V] = V_FORM.charAt(kind) == '-' ? 0 : v;
            rows[at + AT_DOUBT] = 0;
            if (kind == DEAL) deals++;
            notes++;
            return notes - 1;
        }

        boolean mayBeDoubted(int note) {
            return DOUBT_FORM.charAt(rows[ROW * note + AT_KIND]) == '?';
        }

        boolean isDoubted(int note) {
            return rows[ROW * note + AT_DOUBT] != 0;
        }

        void markDoubt(int note, boolean is) {
            rows[ROW * note + AT_DOUBT] = is ? 1 : 0;
            doubted += is ? 1 : -1;
        }
    }

    /** A law's text, and the steps to work it: each operand ahead of its sign, so that no tree is needed. */
    private static final class Law {
        final int[] text = new int[LAW_TEXT];
        int size;
        private final int[] steps = new int[LAW_TEXT];
        private final long[] numbers = new long[LAW_TEXT];
        private final long[] stack = new long[LAW_TEXT];
        private int stepped;
        private int at;
        int flaw = EMPTY_FLAW;

        void add(int character) {
            if (size >= LAW_TEXT) return;
            text[size] = character;
            size++;
            parse();
        }

        int empty() {
            int had = size;
            size = 0;
            parse();
            return had;
        }

        void takeAll(Law other) {
            System.arraycopy(other.text, 0, text, 0, LAW_TEXT);
            size = other.size;
            parse();
        }

        long digestFrom(long from) {
            long h = 31 * from + size;
            for (int k = 0; k < size; k++) h = 31 * h + text[k];
            return h;
        }

        /** NET by this law. */
        int brought(long[] given) {
            long told = flaw == NONE ? work(given) : given[G] + given[S] - given[O] - given[W] + given[H];
            return (int) Math.max(0, Math.min(NET_MOST, told));
        }

        private void parse() {
            flaw = NONE;
            at = 0;
            stepped = 0;
            value(0);
            if (peek() != NONE) blame(at, NOT_HERE);
        }

        private void blame(int place, int code) {
            if (flaw == NONE) flaw = 10 * place + code;
        }

        /** The next character that is no blank, or NONE at the end or behind a flaw. */
        private int peek() {
            for (; at < size && text[at] == ' '; at++) {
            }
            return at < size && flaw == NONE ? text[at] : NONE;
        }

        private void step(int sign, long number) {
            if (stepped >= LAW_TEXT) return;
            steps[stepped] = sign;
            numbers[stepped] = number;
            stepped++;
        }

        private void value(int open) {
            both(open);
            for (int k = 0; k < LAW_TEXT && peek() == '|'; k++) {
                at++;
                both(open);
                step('|', 0);
            }
        }

        private void both(int open) {
            held(open);
            for (int k = 0; k < LAW_TEXT && peek() == '&'; k++) {
                at++;
                held(open);
                step('&', 0);
            }
        }

        private void held(int open) {
            sum(open);
            int sign = peek();
            if (sign != '<' && sign != '>' && sign != '=') return;
            at++;
            sum(open);
            step(sign, 0);
        }

        private void sum(int open) {
            term(open);
            for (int k = 0; k < LAW_TEXT; k++) {
                int sign = peek();
                if (sign != '+' && sign != '-') return;
                at++;
                term(open);
                step(sign, 0);
            }
        }

        private void term(int open) {
            unit(open);
            for (int k = 0; k < LAW_TEXT; k++) {
                int sign = peek();
                if (sign != '*' && sign != '/') return;
                at++;
                unit(open);
                step(sign, 0);
            }
        }

        /** The signs ahead of a unit are worked from the last of them to the first: no call goes deeper for them. */
        private void unit(int open) {
            int first = at;
            for (int k = 0; k < LAW_TEXT && (peek() == '!' || peek() == '-'); k++) at++;
            int behind = at;
            operand(open);
            for (int k = behind - 1; k >= first; k--) {
                if (text[k] == '!') step('!', 0);
                if (text[k] == '-') step('~', 0);
            }
        }

        private void operand(int open) {
            int sign = peek();
            if (isDigit(sign)) {
                digits();
            } else if (sign == '(') {
                opened(open);
            } else if (sign != NONE && LETTERS.indexOf((char) sign) >= 0) {
                at++;
                step('v', LETTERS.indexOf((char) sign));
            } else {
                blame(at, NOT_HERE);
            }
        }

        private void opened(int open) {
            if (open >= OPEN_MOST) {
                blame(at, TOO_OPEN);
                return;
            }
            at++;
            value(open + 1);
            if (peek() == ')') at++;
            else blame(at, NOT_HERE);
        }

        private void digits() {
            int first = at;
            long number = 0;
            for (; at < size && isDigit(text[at]); at++) {
                if (at - first < DIGITS_MOST) number = 10 * number + (text[at] - '0');
            }
            if (at - first > DIGITS_MOST) blame(first, TOO_LONG);
            step('n', number);
        }

        private static boolean isDigit(int sign) {
            return sign >= '0' && sign <= '9';
        }

        private long work(long[] given) {
            int top = 0;
            for (int k = 0; k < stepped; k++) {
                int sign = steps[k];
                if (sign == 'n' || sign == 'v') {
                    if (top >= LAW_TEXT) return 0;
                    stack[top] = sign == 'n' ? numbers[k] : given[(int) numbers[k]];
                    top++;
                } else if (sign == '!' || sign == '~') {
                    if (top < 1) return 0;
                    stack[top - 1] = sign == '~' ? -stack[top - 1] : stack[top - 1] == 0 ? 1 : 0;
                } else {
                    if (top < 2) return 0;
                    top--;
                    stack[top - 1] = join(sign, stack[top - 1], stack[top]);
                }
            }
            return top < 1 ? 0 : stack[0];
        }

        private static long join(int sign, long left, long right) {
            switch (sign) {
                case '+': return left + right;
                case '-': return left - right;
                case '*': return left * right;
                case '/': return right == 0 ? 0 : left / right;
                case '<': return left < right ? 1 : 0;
                case '>': return left > right ? 1 : 0;
                case '=': return left == right ? 1 : 0;
                case '&': return left != 0 && right != 0 ? 1 : 0;
                default: return left != 0 || right != 0 ? 1 : 0;
            }
        }
    }

    /** THE TEXT, and the item of it that was read last. */
    private static final class Items {
        private final int[] text = new int[TEXT];
        int size;
        private int at;
        private int flaw = NONE;
        int day;
        int kind;
        int a;
        int b;
        int v;

        void add(int one) {
            if (size >= TEXT) return;
            text[size] = one;
            size++;
        }

        void goToStart() {
            at = 0;
            flaw = NONE;
        }

        int flawOfAll() {
            goToStart();
            for (int k = 0; k < TEXT && next(); k++) {
            }
            return flaw;
        }

        /** Reads one more item; false at the text's end or at a flaw. */
        boolean next() {
            skipBlanks();
            if (at >= size) return false;
            day = number();
            kind = verb();
            if (kind == NONE) return false;
            a = number();
            b = B_FORM.charAt(kind) == '-' ? 0 : second(B_FORM.charAt(kind));
            v = V_FORM.charAt(kind) == '-' ? 0 : number();
            sign(';');
            return flaw == NONE;
        }

        private void skipBlanks() {
            for (; at < size && text[at] == ' '; at++) {
            }
        }

        private void blame(int place) {
            if (flaw == NONE) flaw = place;
        }

        private int second(char form) {
            skipBlanks();
            if (form != 'h' || at >= size || text[at] != '-') return number();
            sign('-');
            return NONE;
        }

        private void sign(char wanted) {
            skipBlanks();
            if (at < size && text[at] == wanted) at++;
            else blame(at);
        }

        private int number() {
            skipBlanks();
            int first = at;
            int number = 0;
            for (; at < size && text[at] >= '0' && text[at] <= '9'; at++) {
                if (at - first < FIGURES_MOST) number = 10 * number + (text[at] - '0');
            }
            if (at == first || at - first > FIGURES_MOST) blame(first);
            return number;
        }

        private int verb() {
            skipBlanks();
            int first = at;
            for (; at < size && text[at] >= 'a' && text[at] <= 'z'; at++) {
            }
            int found = kindOf(first);
            if (found == NONE) blame(first);
            return found;
        }

        private int kindOf(int first) {
            int kind = 0;
            int start = 0;
            for (int k = 0; k < VERBS.length(); k++) {
                if (VERBS.charAt(k) == ' ') {
                    if (isVerb(first, start, k)) return kind;
                    kind++;
                    start = k + 1;
                }
            }
            return NONE;
        }

        private boolean isVerb(int first, int start, int end) {
            if (at - first != end - start) return false;
            for (int k = start; k < end; k++) {
                if (text[first + k - start] != VERBS.charAt(k)) return false;
            }
            return true;
        }
    }

    /** How a person stands as of a day. */
    private static final class Person {
        int hand;
        int lastHand;
        int endDay;
        int endWay;
        int hidden;
        int second;
        int steps;
        final int[] parts = new int[TRADES];
        final int[] debts = new int[PERSONS];
        final boolean[] isSet = new boolean[TRADES];
        final boolean[] isKnown = new boolean[TRADES];

        void restart() {
            hand = NONE;
            lastHand = NONE;
            endDay = 0;
            endWay = 0;
            hidden = 0;
            second = 0;
            steps = 0;
            for (int k = 0; k < PERSONS; k++) debts[k] = 0;
            for (int k = 0; k < TRADES; k++) {
                parts[k] = 0;
                isSet[k] = false;
                isKnown[k] = false;
            }
        }

        /** What is taken can be more than what is there, where a doubted gift is not so. */
        int partOf(int trade) {
            return Math.max(0, parts[trade]);
        }

        int allParts() {
            int all = 0;
            for (int k = 0; k < TRADES; k++) all += partOf(k);
            return all;
        }

        /** What is settled can be more than what is owed, where a doubted debt is not so. */
        int debtTo(int other) {
            return Math.max(0, debts[other]);
        }

        void end(int day, int way) {
            lastHand = hand;
            endDay = day;
            endWay = way;
            hand = NONE;
        }

        void goInto(int other) {
            hand = other;
            lastHand = NONE;
        }
    }

    /** How a deal stands as of a day, and what stood ahead of it. */
    private static final class Deal {
        int maker;
        int trade;
        int sum;
        int paid;
        int came;
        int gone;
        int hiddenAhead;
        boolean isOrdered;
        boolean isSetAhead;
        boolean isKnownAhead;

        void start(int newMaker, int newTrade, int newSum, Person by) {
            maker = newMaker;
            trade = newTrade;
            sum = newSum;
            paid = 0;
            came = 0;
            gone = 0;
            hiddenAhead = by.hidden;
            isOrdered = false;
            isSetAhead = by.isSet[newTrade];
            isKnownAhead = by.isKnown[newTrade];
        }

        int left() {
            return sum - paid;
        }

        /** What is lost can be more than what came in, where a doubted use is not so. */
        int there() {
            return Math.max(0, came - gone);
        }
    }

    /** All persons and deals as of a day, in one way of what is not sure. */
    private static final class House {
        private final Kept kept;
        final Person[] people = new Person[PERSONS];
        final Deal[] dealt = new Deal[NOTES];
        private final long[] given = new long[GIVEN];
        int deals;
        private int asOf;

        House(Kept from) {
            kept = from;
            for (int k = 0; k < PERSONS; k++) people[k] = new Person();
            for (int k = 0; k < NOTES; k++) dealt[k] = new Deal();
        }

        /** Tells the notes up to a day anew; bits of notSo leave out doubted notes. */
        void replay(int day, int notSo) {
            asOf = day;
            deals = 0;
            for (int k = 0; k < PERSONS; k++) people[k].restart();
            int doubted = 0;
            for (int n = 0; n < kept.notes && kept.rows[ROW * n + AT_DAY] <= day; n++) {
                boolean isSo = true;
                if (kept.isDoubted(n)) {
                    isSo = (notSo >> doubted & 1) == 0;
                    doubted++;
                }
                if (isSo) apply(ROW * n);
            }
        }

        void reckon(int day, int notSo) {
            replay(day, notSo);
            addSeconds();
        }

        private void apply(int at) {
            int kind = kept.rows[at + AT_KIND];
            int a = kept.rows[at + AT_A];
            int b = kept.rows[at + AT_B];
            int v = kept.rows[at + AT_V];
            if (A_FORM.charAt(kind) == 'd') {
                changeDeal(kind, dealt[a], v);
            } else if (kind == DEAL) {
                dealt[deals].start(a, b, v, people[a]);
                deals++;
            } else if (kind == END) {
                people[a].end(kept.rows[at + AT_DAY], b);
            } else {
                changePerson(kind, people[a], b, v);
            }
        }

        private static void changeDeal(int kind, Deal deal, int v) {
            switch (kind) {
                case ORDER: deal.isOrdered = true; break;
                case USE: deal.came += v; break;
                case LOSE: deal.gone += v; break;
                default: deal.paid += v; break;
            }
        }

        private static void changePerson(int kind, Person person, int b, int v) {
            switch (kind) {
                case HAND: person.goInto(b); break;
                case GIVE: person.parts[b] += v; break;
                case TAKE: person.parts[b] -= v; break;
                case HIDE:
                    person.parts[b] -= v;
                    person.hidden += v;
                    break;
                case POST: person.isSet[b] = true; break;
                case UNPOST: person.isSet[b] = false; break;
                case KNOW: person.isKnown[b] = true; break;
                case OWE: person.debts[b] += v; break;
                default: person.debts[b] -= v; break;
            }
        }

        /** What a note asks for must be possible by all notes ahead of it. */
        boolean refuses(int kind, int a, int b, int v) {
            if (A_FORM.charAt(kind) == 'd') return refusesOfDeal(kind, dealt[a], v);
            switch (kind) {
                case HAND: return isInHand(b, a);
                case TAKE: return people[a].partOf(b) < v;
                case HIDE: return people[a].partOf(b) < v;
                case POST: return people[a].isSet[b];
                case UNPOST: return !people[a].isSet[b];
                case KNOW: return people[a].isKnown[b];
                case SETTLE: return people[a].debtTo(b) < v;
                case END: return people[a].hand == NONE;
                default: return false;
            }
        }

        private static boolean refusesOfDeal(int kind, Deal deal, int v) {
            switch (kind) {
                case ORDER: return deal.isOrdered;
                case USE: return deal.came + v > deal.sum;
                case LOSE: return deal.there() < v;
                default: return deal.left() < v;
            }
        }

        /** Whether one is the other, or in the other's hand by any steps. */
        private boolean isInHand(int one, int other) {
            int up = one;
            for (int k = 0; k <= PERSONS && up != NONE; k++) {
                if (up == other) return true;
                up = people[up].hand;
            }
            return false;
        }

        /** From those deepest in hands upward, so that each one's own second is whole before it counts. */
        private void addSeconds() {
            for (int p = 0; p < kept.persons; p++) people[p].steps = stepsUp(p);
            for (int steps = PERSONS; steps > 0; steps--) {
                for (int p = 0; p < kept.persons; p++) {
                    if (people[p].steps == steps) people[people[p].hand].second += netOf(p, 0, 0, 0);
                }
            }
        }

        private int stepsUp(int person) {
            int steps = 0;
            int up = people[person].hand;
            for (; steps < PERSONS && up != NONE; steps++) up = people[up].hand;
            return steps;
        }

        int netOf(int person, int law, long hidden, long more) {
            given[G] = people[person].allParts() + more;
            given[S] = people[person].second;
            given[O] = debtToHolder(person);
            given[W] = debtToFellows(person);
            given[H] = hidden;
            return kept.laws[law].brought(given);
        }

        int debtToHolder(int person) {
            int hand = people[person].hand;
            return hand == NONE ? 0 : people[person].debtTo(hand);
        }

        int debtToFellows(int person) {
            int hand = people[person].hand;
            int all = 0;
            for (int p = 0; hand != NONE && p < kept.persons; p++) {
                if (p != person && people[p].hand == hand) all += people[person].debtTo(p);
            }
            return all;
        }

        /** A deal is there from its own day on. */
        boolean isThere(int deal) {
            return deal >= 0 && deal < deals;
        }

        int answerer(int deal) {
            Person maker = people[dealt[deal].maker];
            return maker.hand != NONE ? maker.hand : maker.lastHand;
        }

        boolean isPurseOpen(int deal) {
            Person maker = people[dealt[deal].maker];
            if (maker.hand != NONE) return true;
            return maker.lastHand != NONE && maker.endWay != WITH_PURSE && asOf - maker.endDay <= DAYS_BEHIND_END;
        }

        int hiddenBehind(int deal) {
            return people[dealt[deal].maker].hidden - dealt[deal].hiddenAhead;
        }

        int purseAsk(int deal, int law) {
            if (!isPurseOpen(deal)) return 0;
            return Math.min(dealt[deal].left(), netOf(dealt[deal].maker, law, hiddenBehind(deal), 0));
        }

        /** What an ask comes to is askAbove by askBelow. */
        long askAbove(int deal, int ask) {
            if (answerer(deal) == NONE) return 0;
            Deal asked = dealt[deal];
            switch (ask) {
                case WHOLE: return asked.isOrdered || asked.isSetAhead ? asked.left() : 0;
                case TURNED: return Math.min(asked.left(), asked.there());
                case PURSE: return purseAsk(deal, 0);
                default: return asked.isKnownAhead ? shareAbove(asked) : 0;
            }
        }

        long askBelow(int deal, int ask) {
            return ask <= PURSE ? 1 : Math.max(1, allOwed(dealt[deal]));
        }

        private long shareAbove(Deal asked) {
            long owed = asked.left();
            return Math.min(owed * people[asked.maker].partOf(asked.trade), owed * allOwed(asked));
        }

        private long allOwed(Deal asked) {
            long all = debtToHolder(asked.maker);
            for (int k = 0; k < deals; k++) {
                if (dealt[k].maker == asked.maker && dealt[k].trade == asked.trade) all += dealt[k].left();
            }
            return all;
        }
    }

    /** THE LINE as of a day: what each deal in it can get, and by which choices. */
    private static final class Queue {
        private int size;
        private final int[] maker = new int[LINE];
        private final int[] trade = new int[LINE];
        private final int[] owed = new int[LINE];
        private final int[] depth = new int[LINE];
        private final int[] part = new int[LINE];
        private final int[] holderDebt = new int[LINE];
        private final boolean[] mayShare = new boolean[LINE];
        private final boolean[] isAnswered = new boolean[LINE];
        long least;
        long most;

        void lineUp(Kept kept, House house) {
            size = kept.lined;
            for (int i = 0; i < size; i++) {
                leaveOut(i);
                if (house.isThere(kept.line[i])) stand(i, kept.line[i], house);
            }
        }

        /** A deal of a later day gets nothing and stands in nobody's way. */
        private void leaveOut(int i) {
            maker[i] = NONE;
            trade[i] = NONE;
            owed[i] = 0;
            depth[i] = 0;
            part[i] = 0;
            holderDebt[i] = 0;
            mayShare[i] = false;
            isAnswered[i] = false;
        }

        private void stand(int i, int deal, House house) {
            Deal lined = house.dealt[deal];
            maker[i] = lined.maker;
            trade[i] = lined.trade;
            owed[i] = lined.left();
            if (house.isPurseOpen(deal)) depth[i] = house.netOf(lined.maker, 0, house.hiddenBehind(deal), 0);
            part[i] = house.people[lined.maker].partOf(lined.trade);
            holderDebt[i] = house.debtToHolder(lined.maker);
            mayShare[i] = lined.isKnownAhead;
            isAnswered[i] = house.answerer(deal) != NONE;
        }

        private long take(int i, long goneAhead) {
            return Math.max(0, Math.min(owed[i], depth[i] - goneAhead));
        }

        private static boolean isIn(int row, int i) {
            return (row >> i & 1) != 0;
        }

        /** What one gets of the purse, where those in the row share. */
        long fromPurse(int i, int row) {
            long goneAhead = sharedParts(maker[i], row);
            for (int j = 0; j < i; j++) {
                if (maker[j] == maker[i] && !isIn(row, j)) goneAhead += take(j, goneAhead);
            }
            return take(i, goneAhead);
        }

        private long sharedParts(int whose, int row) {
            long all = 0;
            int seen = 0;
            for (int j = 0; j < size; j++) {
                if (isIn(row, j) && maker[j] == whose && trade[j] >= 0 && !isIn(seen, trade[j])) {
                    seen |= 1 << trade[j];
                    all += part[j];
                }
            }
            return all;
        }

        void tryOrders(int i) {
            least = owed[i];
            most = 0;
            tryAhead(i, 0, 0, 0);
        }

        /** Whoever comes behind i takes nothing from him: it is enough to try who stands ahead, in which order. */
        private void tryAhead(int i, int ahead, long goneAhead, int level) {
            long gets = take(i, goneAhead);
            least = Math.min(least, gets);
            most = Math.max(most, gets);
            if (level >= LINE) return;
            for (int j = 0; j < size; j++) {
                if (j != i && maker[j] == maker[i] && !isIn(ahead, j)) {
                    tryAhead(i, ahead | 1 << j, goneAhead + take(j, goneAhead), level + 1);
                }
            }
        }

        boolean isRest(int row) {
            for (int i = 0; i < size; i++) {
                if (isIn(row, i) && !mayShare[i]) return false;
            }
            for (int i = 0; i < size; i++) {
                if (mayShare[i] && isBetterOtherwise(i, row)) return false;
            }
            return true;
        }

        private boolean isBetterOtherwise(int i, int row) {
            int sharing = row | 1 << i;
            long byPurse = fromPurse(i, sharing ^ 1 << i);
            long all = sharersOwed(i, sharing);
            int purseIsMore = Long.compare(byPurse * Math.max(1, all), shareAbove(i, all));
            return isIn(row, i) ? purseIsMore > 0 : purseIsMore < 0;
        }

        /** A share that nobody answers for may be chosen, but nothing is got by it. */
        private long shareAbove(int i, long all) {
            return isAnswered[i] ? Math.min((long) owed[i] * part[i], owed[i] * all) : 0;
        }

        private long sharersOwed(int i, int row) {
            long all = holderDebt[i];
            for (int j = 0; j < size; j++) {
                if (isIn(row, j) && maker[j] == maker[i] && trade[j] == trade[i]) all += owed[j];
            }
            return all;
        }
    }
}
