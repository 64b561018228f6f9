/** The kinds of notes and the answers that refuse, by their names; a house to try them in. */
abstract class Kinds {
    static final int HAND = 0, GIVE = 1, TAKE = 2, HIDE = 3, DEAL = 4, ORDER = 5, POST = 6, UNPOST = 7, KNOW = 8, USE = 9, LOSE = 10,
        OWE = 11, SETTLE = 12, PAY = 13, END = 14, KINDS = 15;
    static final int NONE = -1, BAD = -2, NO = -3, FULL = -4;
    static final int DAY_AT = 0, KIND_AT = 1, A_AT = 2, B_AT = 3, V_AT = 4;
    static final int MIN = Integer.MIN_VALUE, MAX = Integer.MAX_VALUE;
    static final int WHOLE = 0, TURNED = 1, PURSE = 2, SHARE = 3;
    static final String[] VERBS = {"hand", "give", "take", "hide", "deal", "order", "post", "unpost", "know", "use", "lose", "owe", "settle",
        "pay", "end"};

    /** Whether a is a DEAL; else it is a person. */
    static boolean isOfDeal(int kind) {
        return kind == ORDER || kind == USE || kind == LOSE || kind == PAY;
    }

    static boolean hasTrade(int kind) {
        return kind >= GIVE && kind <= DEAL || kind >= POST && kind <= KNOW;
    }

    static boolean hasB(int kind) {
        return !isOfDeal(kind);
    }

    static boolean hasSum(int kind) {
        return kind >= GIVE && kind <= DEAL || kind >= USE && kind <= PAY;
    }

    /** A note with one of its numbers told otherwise. */
    static int[] with(int[] note, int at, int number) {
        int[] other = note.clone();
        other[at] = number;
        return other;
    }

    /**
     * A father 0, his son 1 and a free man 2, told on day 5. The son has 1000 in part 0 and 900 in part 3 and owes 2 1000; DEAL 0 of 1000
     * was ordered and all of it came in, DEAL 1 is of 1000, DEAL 2 of 10. The free man is set over trades 0 and 3, and his trade 0 is known.
     */
    static SonsPurse house(Due due) {
        SonsPurse x = Due.persons(3);
        due.comes(x, new int[][] {{5, HAND, 1, 0, 0}, {5, GIVE, 1, 0, 1000}, {5, GIVE, 1, 3, 900}, {5, DEAL, 1, 0, 1000},
            {5, DEAL, 1, 0, 1000}, {5, DEAL, 1, 0, 10}, {5, USE, 0, 0, 1000}, {5, ORDER, 0, 0, 0}, {5, OWE, 1, 2, 1000},
            {5, POST, 2, 0, 0}, {5, POST, 2, 3, 0}, {5, KNOW, 2, 0, 0}});
        return x;
    }

    /** A note of each kind that comes into the house. */
    static final int[][] COMES = {{5, HAND, 2, 0, 0}, {5, GIVE, 1, 0, 5}, {5, TAKE, 1, 0, 5}, {5, HIDE, 1, 0, 5}, {5, DEAL, 1, 0, 5},
        {5, ORDER, 1, 0, 0}, {5, POST, 1, 0, 0}, {5, UNPOST, 2, 0, 0}, {5, KNOW, 1, 0, 0}, {5, USE, 1, 0, 5}, {5, LOSE, 0, 0, 5},
        {5, OWE, 1, 2, 5}, {5, SETTLE, 1, 2, 5}, {5, PAY, 1, 0, 5}, {5, END, 1, 0, 0}};

    /** A note of each kind that can be refused by NO, and is in the house. */
    static final int[][] REFUSED = {{5, HAND, 0, 1, 0}, {5, TAKE, 1, 3, 901}, {5, HIDE, 1, 3, 901}, {5, ORDER, 0, 0, 0}, {5, POST, 2, 0, 0},
        {5, UNPOST, 1, 0, 0}, {5, KNOW, 2, 0, 0}, {5, USE, 0, 0, 1}, {5, LOSE, 1, 0, 1}, {5, SETTLE, 2, 1, 1}, {5, PAY, 2, 0, 11},
        {5, END, 2, 0, 0}};
}
