/** Promises 1 to 4 at their bounds: a new object, persons, notes, doubts. What the document says stands ahead of each test. */
public final class BoundsOfNotesTest extends Kinds {
    private static final Due due = new Due();

    public static void main(String[] args) {
        constants();
        newObject();
        tenPersons();
        sixtyNotes();
        days();
        noEarlierDay();
        kinds();
        sums();
        whatIsNotNamed();
        personsThatAreNotThere();
        dealsThatAreNotThere();
        trades();
        unlikePersons();
        waysToEnd();
        handsInHisOwn();
        handsByNineSteps();
        handsThen();
        handsThatCome();
        refusedOnTheLastDay();
        takes(TAKE);
        takes(HIDE);
        orders();
        posts();
        posters();
        knowns();
        uses();
        losses();
        settles();
        pays();
        ends();
        badFirst();
        noAheadOfFull();
        kindsOfDoubt();
        fiveDoubts();
        doubtsThatAreSo();
        doubtsOfNoNote();
        doubtsInOrder();
        due.end();
    }

    /** NONE = -1, BAD = -2, NO = -3, FULL = -4 */
    private static void constants() {
        due.is("NONE", SonsPurse.NONE, -1);
        due.is("BAD", SonsPurse.BAD, -2);
        due.is("NO", SonsPurse.NO, -3);
        due.is("FULL", SonsPurse.FULL, -4);
    }

    /** "As told; nobody is there." */
    private static void newObject() {
        SonsPurse x = new SonsPurse();
        for (int k = 0; k < 6; k++) due.is("count(" + k + ")", x.count(k), 0);
        due.fraction("new", x, 0, 1);
        for (int k = 0; k < 2; k++) {
            due.is("fault", x.fault(k), 1);
            due.is("erase", x.erase(k), 0);
            due.is("from", x.from(k), NO);
        }
        due.is("holder", x.holder(0, 0), -10);
        due.is("told", x.told(0, 0), -10);
        due.is("owed", x.owed(0, 0), BAD);
        due.is("line", x.line(0), BAD);
        due.is("served", x.served(0, 0), BAD);
        due.is("unline", x.unline(), 0);
        due.is("rests", x.rests(NONE, 0), 1);
        due.is("the one of them", x.rests(0, 0), 0);
        due.is("parted", x.parted(999), NONE);
        due.is("read", x.read(), 0);
        due.is("clear", x.clear(), 0);
    }

    /** "PERSONS 0 .. 9, as they come, are free." "FULL: 10." */
    private static void tenPersons() {
        SonsPurse x = new SonsPurse();
        for (int k = 0; k < 10; k++) {
            due.is("person", x.person(), k);
            due.is("count(0)", x.count(0), k + 1);
            due.is("he is free", x.holder(k, 999), NONE);
        }
        due.refuses("person 10", x, FULL, () -> x.person(), () -> x.person());
        due.is("count(0)", x.count(0), 10);
    }

    /** "NOTES 0 .. 59, as they come"; "A NOTE: its number." "FULL: 60." */
    private static void sixtyNotes() {
        SonsPurse x = house(due);
        for (int n = 12; n < 60; n++) {
            due.is("note", x.note(5, GIVE, 2, 2, 1), n);
            due.is("count(1)", x.count(1), n + 1);
        }
        due.refusesNotes(x, FULL, COMES);
        due.is("told(59)", x.told(59, KIND_AT), GIVE);
        due.is("told(60)", x.told(60, KIND_AT), -10);
        due.is("all are so", x.in(2, 2, 5), 48);
    }

    /** "of a DAY (0 .. 999 ..)": too small, too large, the least, the greatest. */
    private static void days() {
        SonsPurse x = Due.persons(3);
        for (int[] n : new int[][] {{0, HAND, 1, 0, 0}, {0, GIVE, 1, 0, 1}, {0, DEAL, 1, 0, 1}}) {
            due.refusesNotes(x, BAD, with(n, DAY_AT, -1), with(n, DAY_AT, 1000), with(n, DAY_AT, MIN), with(n, DAY_AT, MAX));
        }
        due.comes(x, new int[][] {{0, HAND, 1, 0, 0}, {999, GIVE, 1, 0, 1}, {999, DEAL, 1, 0, 1}});
        due.refusesNotes(x, BAD, new int[] {1000, GIVE, 1, 0, 1});
        SonsPurse y = house(due);
        for (int[] n : COMES) {
            due.refusesNotes(y, BAD, with(n, DAY_AT, -1), with(n, DAY_AT, 1000), with(n, DAY_AT, MIN), with(n, DAY_AT, MAX));
            due.comes(house(due), with(n, DAY_AT, 999));
        }
    }

    /** "no earlier than the one ahead": the same day comes, the day ahead of it is BAD. */
    private static void noEarlierDay() {
        SonsPurse x = house(due);
        for (int[] n : COMES) {
            due.refusesNotes(x, BAD, with(n, DAY_AT, 4), with(n, DAY_AT, 0));
            due.comes(house(due), n);
            due.comes(house(due), with(n, DAY_AT, 6));
        }
        due.comes(x, new int[][] {{7, GIVE, 1, 0, 1}});
        due.refusesNotes(x, BAD, new int[] {6, GIVE, 1, 0, 1});
        SonsPurse y = Due.persons(2);
        due.comes(y, new int[] {7, HAND, 1, 0, 0});
        due.refusesNotes(y, BAD, new int[] {6, GIVE, 1, 0, 1}, new int[] {0, DEAL, 1, 0, 1});
        due.refusesNotes(x, NO, new int[] {9, TAKE, 1, 1, 1});
        due.is("the day of a refused note does not count", x.note(8, GIVE, 1, 0, 1), 13);
    }

    /** KINDS are 0 .. 14. */
    private static void kinds() {
        SonsPurse x = house(due);
        for (int kind : new int[] {-1, 15, MIN, MAX}) due.refusesNotes(x, BAD, new int[] {5, kind, 1, 0, 1}, new int[] {5, kind, 1, 2, 1});
        for (int kind = 0; kind < KINDS; kind++) {
            SonsPurse y = house(due);
            due.comes(y, COMES[kind]);
            due.is("told(12, 1)", y.told(12, KIND_AT), kind);
        }
    }

    /** "v 1 .. 1000 where it is a sum" */
    private static void sums() {
        for (int kind = 0; kind < KINDS; kind++) {
            if (!hasSum(kind)) continue;
            SonsPurse x = house(due);
            for (int v : new int[] {0, -1, 1001, MIN, MAX}) due.refusesNotes(x, BAD, with(COMES[kind], V_AT, v));
            due.comes(x, with(COMES[kind], V_AT, 1));
            due.is("told(12, 4)", x.told(12, V_AT), 1);
            SonsPurse y = house(due);
            due.comes(y, with(COMES[kind], V_AT, 1000));
            due.is("told(12, 4)", y.told(12, V_AT), 1000);
        }
    }

    /** "what is not named here is 0 and not looked at" */
    private static void whatIsNotNamed() {
        for (int kind = 0; kind < KINDS; kind++) {
            for (int number : new int[] {MIN, -2, 1001, MAX}) {
                SonsPurse x = house(due);
                int[] n = COMES[kind];
                if (!hasB(kind)) n = with(n, B_AT, number);
                if (!hasSum(kind)) n = with(n, V_AT, number);
                due.comes(x, n);
                for (int k = 0; k < 5; k++) due.is("told(12, " + k + ") of kind " + kind, x.told(12, k), COMES[kind][k]);
                due.is("told(12, 5)", x.told(12, 5), 0);
            }
        }
    }

    /** "BAD: persons .. that are not there, too": a, and b of HAND (but NONE), OWE and SETTLE. */
    private static void personsThatAreNotThere() {
        SonsPurse x = house(due);
        for (int[] n : COMES) {
            if (!isOfDeal(n[KIND_AT])) {
                due.refusesNotes(x, BAD, with(n, A_AT, -1), with(n, A_AT, 3), with(n, A_AT, 10), with(n, A_AT, MIN), with(n, A_AT, MAX));
            }
        }
        for (int kind : new int[] {HAND, OWE, SETTLE}) {
            int[] n = COMES[kind];
            due.refusesNotes(x, BAD, with(n, B_AT, -2), with(n, B_AT, 3), with(n, B_AT, 10), with(n, B_AT, MIN), with(n, B_AT, MAX));
        }
        due.refusesNotes(x, BAD, with(COMES[OWE], B_AT, NONE), with(COMES[SETTLE], B_AT, NONE));
        due.comes(x, with(COMES[HAND], B_AT, NONE));
        x.person();
        due.comes(x, with(COMES[OWE], B_AT, 3), with(COMES[HAND], A_AT, 3), with(COMES[HAND], B_AT, 3));
    }

    /** "BAD: .. DEALS that are not there, too" "DEALS are numbered as they come." */
    private static void dealsThatAreNotThere() {
        SonsPurse x = house(due);
        for (int kind : new int[] {ORDER, USE, LOSE, PAY}) {
            int[] n = COMES[kind];
            due.refusesNotes(x, BAD, with(n, A_AT, -1), with(n, A_AT, 3), with(n, A_AT, 60), with(n, A_AT, MIN), with(n, A_AT, MAX));
        }
        due.is("count(2)", x.count(2), 3);
        due.comes(x, new int[][] {{5, DEAL, 2, 1, 7}, {5, ORDER, 3, 0, 0}, {5, USE, 3, 0, 7}, {5, LOSE, 3, 0, 7}, {5, PAY, 3, 0, 7}});
        due.is("count(2)", x.count(2), 4);
        due.refusesNotes(Due.persons(3), BAD, new int[] {0, ORDER, 0, 0, 0}, new int[] {0, PAY, 0, 0, 1});
    }

    /** "TRADE b (0 .. 3)" */
    private static void trades() {
        SonsPurse x = house(due);
        for (int[] n : COMES) {
            if (!hasTrade(n[KIND_AT])) continue;
            for (int b : new int[] {-1, 4, MIN, MAX}) due.refusesNotes(x, BAD, with(n, B_AT, b));
            for (int b : new int[] {0, 3}) {
                SonsPurse y = house(due);
                due.comes(y, with(n, B_AT, b));
                due.is("told(12, 3)", y.told(12, B_AT), b);
            }
        }
    }

    /** "a owes person b (unlike) v"; "v of that is paid". */
    private static void unlikePersons() {
        SonsPurse x = house(due);
        for (int p = 0; p < 3; p++) due.refusesNotes(x, BAD, new int[] {5, OWE, p, p, 1}, new int[] {5, SETTLE, p, p, 1});
    }

    /** "dies (b = 0), is freed without (1), with his PURSE (2)" */
    private static void waysToEnd() {
        SonsPurse x = house(due);
        for (int b : new int[] {-1, 3, MIN, MAX}) due.refusesNotes(x, BAD, with(COMES[END], B_AT, b));
        for (int b = 0; b < 3; b++) {
            SonsPurse y = house(due);
            due.comes(y, with(COMES[END], B_AT, b));
            due.is("he is free then", y.holder(1, 5), NONE);
            due.is("told(12, 3)", y.told(12, B_AT), b);
        }
    }

    /** HAND "NO: b is a" */
    private static void handsInHisOwn() {
        SonsPurse x = house(due);
        for (int p = 0; p < 3; p++) due.refusesNotes(x, NO, new int[] {5, HAND, p, p, 0});
    }

    /** A chain of ten, each in the hand of the one ahead. */
    private static SonsPurse chain() {
        SonsPurse x = Due.persons(10);
        for (int p = 1; p < 10; p++) due.comes(x, new int[] {0, HAND, p, p - 1, 0});
        return x;
    }

    /** HAND "NO: b is a, or in a's hand by any steps": nine steps are the most. */
    private static void handsByNineSteps() {
        SonsPurse x = chain();
        for (int a = 0; a < 10; a++) {
            for (int b = a; b < 10; b++) due.refusesNotes(x, NO, new int[] {0, HAND, a, b, 0});
        }
        for (int b = 0; b < 9; b++) due.is("upward", chain().note(0, HAND, 9, b, 0), 9);
    }

    /** "then": what was so ahead of the NOTE, and is no more, does not refuse it. */
    private static void handsThen() {
        SonsPurse x = chain();
        due.comes(x, new int[] {1, HAND, 5, NONE, 0});
        due.refusesNotes(x, NO, new int[] {1, HAND, 0, 4, 0}, new int[] {1, HAND, 5, 9, 0});
        due.comes(x, new int[] {1, HAND, 0, 9, 0});
        due.refusesNotes(x, NO, new int[] {1, HAND, 5, 4, 0});
        SonsPurse y = chain();
        due.comes(y, new int[] {1, END, 1, 0, 0});
        due.comes(y, new int[] {1, HAND, 0, 9, 0});
        due.refusesNotes(y, NO, new int[] {1, HAND, 1, 0, 0});
    }

    /** HAND refuses nothing else: who is free may be let free, who is in a hand may come into it again, or into one beside him. */
    private static void handsThatCome() {
        SonsPurse x = house(due);
        due.comes(x, new int[][] {{5, HAND, 2, NONE, 0}, {5, HAND, 1, 0, 0}, {5, HAND, 2, 0, 0}, {5, HAND, 2, 1, 0}, {5, HAND, 2, 0, 0},
            {5, HAND, 1, 2, 0}});
        due.is("holder", x.holder(1, 5), 2);
    }

    /** "NO: .. then": by all NOTES ahead, those of DAY 999 too. */
    private static void refusedOnTheLastDay() {
        SonsPurse x = house(due);
        due.comes(x, new int[][] {{999, POST, 1, 1, 0}, {999, KNOW, 1, 1, 0}, {999, ORDER, 1, 0, 0}, {999, HAND, 2, 1, 0}, {999, TAKE, 1, 3, 900},
            {999, PAY, 2, 0, 10}, {999, USE, 2, 0, 10}, {999, SETTLE, 1, 2, 1000}, {999, UNPOST, 2, 0, 0}, {999, LOSE, 0, 0, 1000}});
        due.refusesNotes(x, NO, new int[][] {{999, POST, 1, 1, 0}, {999, KNOW, 1, 1, 0}, {999, ORDER, 1, 0, 0}, {999, HAND, 1, 2, 0}, {999, TAKE, 1, 3, 1},
            {999, HIDE, 1, 3, 1}, {999, PAY, 2, 0, 1}, {999, USE, 2, 0, 1}, {999, SETTLE, 1, 2, 1}, {999, UNPOST, 2, 0, 0}, {999, LOSE, 0, 0, 1}});
        due.comes(x, new int[][] {{999, END, 1, 0, 0}});
        due.refusesNotes(x, NO, new int[] {999, END, 1, 0, 0});
    }

    /** TAKE, HIDE "NO: that TRADE's PART has not so much." All of it may go. */
    private static void takes(int kind) {
        SonsPurse x = house(due);
        due.refusesNotes(x, NO, new int[] {5, kind, 1, 3, 901}, new int[] {5, kind, 1, 1, 1}, new int[] {5, kind, 2, 0, 1},
            new int[] {5, kind, 0, 0, 1});
        due.comes(x, new int[][] {{5, kind, 1, 3, 899}});
        due.refusesNotes(x, NO, new int[] {5, kind, 1, 3, 2});
        due.comes(x, new int[][] {{6, kind, 1, 3, 1}});
        due.refusesNotes(x, NO, new int[] {6, kind, 1, 3, 1});
        due.is("in", x.in(1, 3, 6), 0);
        due.comes(x, new int[][] {{7, GIVE, 1, 3, 1}, {7, kind, 1, 3, 1}});
        due.refusesNotes(x, NO, new int[] {7, TAKE, 1, 3, 1}, new int[] {7, HIDE, 1, 3, 1});
        due.comes(x, new int[][] {{7, kind, 1, 0, 1000}});
    }

    /** ORDER "NO: it was told so." */
    private static void orders() {
        SonsPurse x = house(due);
        due.refusesNotes(x, NO, new int[] {5, ORDER, 0, 0, 0}, new int[] {99, ORDER, 0, 0, 0});
        due.comes(x, new int[][] {{5, ORDER, 1, 0, 0}});
        due.refusesNotes(x, NO, new int[] {5, ORDER, 1, 0, 0});
    }

    /** POST "NO: he is."; UNPOST "NO: he is not." */
    private static void posts() {
        SonsPurse x = house(due);
        for (int b = 0; b < 4; b++) {
            due.refusesNotes(x, NO, new int[] {5, UNPOST, 1, b, 0});
            due.comes(x, new int[][] {{5, POST, 1, b, 0}});
            due.refusesNotes(x, NO, new int[] {5, POST, 1, b, 0});
            due.comes(x, new int[][] {{5, UNPOST, 1, b, 0}});
            due.refusesNotes(x, NO, new int[] {5, UNPOST, 1, b, 0});
            due.comes(x, new int[][] {{5, POST, 1, b, 0}});
        }
    }

    /** POST and UNPOST are of one person and one TRADE. */
    private static void posters() {
        SonsPurse x = house(due);
        due.refusesNotes(x, NO, new int[] {5, POST, 2, 0, 0}, new int[] {5, POST, 2, 3, 0}, new int[] {5, UNPOST, 2, 1, 0},
            new int[] {5, UNPOST, 0, 0, 0});
        due.comes(x, new int[][] {{5, UNPOST, 2, 3, 0}});
        due.refusesNotes(x, NO, new int[] {5, POST, 2, 0, 0}, new int[] {5, UNPOST, 2, 3, 0});
    }

    /** KNOW "NO: it is." */
    private static void knowns() {
        SonsPurse x = house(due);
        due.refusesNotes(x, NO, new int[] {5, KNOW, 2, 0, 0}, new int[] {99, KNOW, 2, 0, 0});
        due.comes(x, new int[][] {{5, KNOW, 2, 3, 0}, {5, KNOW, 1, 0, 0}, {5, KNOW, 1, 3, 0}, {5, KNOW, 0, 0, 0}});
        due.refusesNotes(x, NO, new int[] {5, KNOW, 1, 0, 0}, new int[] {5, KNOW, 1, 3, 0});
    }

    /** USE "NO: more than the DEAL then." All of it may come. */
    private static void uses() {
        SonsPurse x = house(due);
        due.refusesNotes(x, NO, new int[] {5, USE, 0, 0, 1}, new int[] {5, USE, 2, 0, 11});
        due.comes(x, new int[][] {{5, USE, 2, 0, 9}});
        due.refusesNotes(x, NO, new int[] {5, USE, 2, 0, 2});
        due.comes(x, new int[][] {{5, USE, 2, 0, 1}});
        due.refusesNotes(x, NO, new int[] {5, USE, 2, 0, 1});
        due.comes(x, new int[][] {{5, USE, 1, 0, 1000}, {5, LOSE, 1, 0, 1000}});
        due.refusesNotes(x, NO, new int[] {5, USE, 1, 0, 1});
    }

    /** LOSE "NO: more than is there." All of it may go. */
    private static void losses() {
        SonsPurse x = house(due);
        due.refusesNotes(x, NO, new int[] {5, LOSE, 1, 0, 1});
        due.comes(x, new int[][] {{5, USE, 1, 0, 7}});
        due.refusesNotes(x, NO, new int[] {5, LOSE, 1, 0, 8});
        due.comes(x, new int[][] {{5, LOSE, 1, 0, 6}});
        due.refusesNotes(x, NO, new int[] {5, LOSE, 1, 0, 2});
        due.comes(x, new int[][] {{5, LOSE, 1, 0, 1}});
        due.refusesNotes(x, NO, new int[] {5, LOSE, 1, 0, 1});
        due.comes(x, new int[][] {{5, LOSE, 0, 0, 1000}});
    }

    /** SETTLE "NO: more than he owes." All of it may be paid; one's debt is not another's. */
    private static void settles() {
        SonsPurse x = house(due);
        due.refusesNotes(x, NO, new int[] {5, SETTLE, 2, 1, 1}, new int[] {5, SETTLE, 1, 0, 1}, new int[] {5, SETTLE, 0, 2, 1});
        due.comes(x, new int[][] {{5, OWE, 2, 0, 30}});
        due.refusesNotes(x, NO, new int[] {5, SETTLE, 2, 0, 31});
        due.comes(x, new int[][] {{5, SETTLE, 2, 0, 29}});
        due.refusesNotes(x, NO, new int[] {5, SETTLE, 2, 0, 2});
        due.comes(x, new int[][] {{5, SETTLE, 2, 0, 1}});
        due.refusesNotes(x, NO, new int[] {5, SETTLE, 2, 0, 1});
        due.comes(x, new int[][] {{5, SETTLE, 1, 2, 1000}});
    }

    /** PAY "NO: more than is OWED." All of it may be paid. */
    private static void pays() {
        SonsPurse x = house(due);
        due.refusesNotes(x, NO, new int[] {5, PAY, 2, 0, 11});
        due.comes(x, new int[][] {{5, PAY, 2, 0, 9}});
        due.refusesNotes(x, NO, new int[] {5, PAY, 2, 0, 2});
        due.comes(x, new int[][] {{5, PAY, 2, 0, 1}});
        due.refusesNotes(x, NO, new int[] {5, PAY, 2, 0, 1});
        due.is("owed", x.owed(2, 5), 0);
        due.comes(x, new int[][] {{5, PAY, 1, 0, 1000}});
    }

    /** END "a, who is in a hand (else NO)" ".. he is free then" */
    private static void ends() {
        SonsPurse x = house(due);
        for (int b = 0; b < 3; b++) {
            due.refusesNotes(x, NO, new int[] {5, END, 0, b, 0}, new int[] {5, END, 2, b, 0});
            due.comes(x, new int[][] {{5, END, 1, b, 0}});
            due.refusesNotes(x, NO, new int[] {5, END, 1, b, 0});
            due.comes(x, new int[][] {{5, HAND, 1, NONE, 0}});
            due.refusesNotes(x, NO, new int[] {5, END, 1, b, 0});
            due.comes(x, new int[][] {{5, HAND, 1, 2 * (b & 1), 0}});
        }
    }

    /** "Refused, changing nothing, the first of: BAD -2 a number is not as told; NO -3 as told; FULL -4." */
    private static void badFirst() {
        SonsPurse x = house(due);
        due.refusesNotes(x, NO, REFUSED);
        for (int[] n : REFUSED) due.refusesNotes(x, BAD, with(n, DAY_AT, 1000), with(n, DAY_AT, 4), with(n, A_AT, -1));
        for (int[] n : new int[][] {{5, TAKE, 2, 0, 1001}, {5, USE, 0, 0, 1001}, {5, PAY, 2, 0, 1001}, {5, END, 2, 3, 0}, {5, POST, 2, 4, 0}}) {
            due.refusesNotes(x, BAD, n);
        }
    }

    /** The same, where there are 60 NOTES. */
    private static void noAheadOfFull() {
        SonsPurse x = house(due);
        for (int n = 12; n < 60; n++) x.note(5, GIVE, 2, 2, 1);
        due.refusesNotes(x, FULL, COMES);
        due.refusesNotes(x, NO, REFUSED);
        for (int[] n : COMES) due.refusesNotes(x, BAD, with(n, DAY_AT, 4), with(n, A_AT, 10));
    }

    /** "A NOTE of KIND 1 to 3, 5 to 13 may be DOUBTED": "BAD: another KIND". */
    private static void kindsOfDoubt() {
        for (int kind = 0; kind < KINDS; kind++) {
            SonsPurse x = house(due);
            due.comes(x, COMES[kind]);
            if (kind == HAND || kind == DEAL || kind == END) {
                due.refuses("doubt of kind " + kind, x, BAD, () -> x.doubt(12, true), () -> x.doubt(12, false));
                continue;
            }
            due.is("doubt of kind " + kind, x.doubt(12, true), 1);
            due.is("told(12, 5)", x.told(12, 5), 1);
            due.is("count(3)", x.count(3), 1);
            due.is("no doubt", x.doubt(12, false), 1);
            due.is("told(12, 5)", x.told(12, 5), 0);
            due.is("count(3)", x.count(3), 0);
        }
    }

    /** Notes 0 to 6 may be doubted, 7 may not. */
    private static SonsPurse gifts() {
        SonsPurse x = Due.persons(2);
        for (int k = 0; k < 7; k++) due.comes(x, new int[] {0, GIVE, 1, 0, 1});
        due.comes(x, new int[] {0, HAND, 1, 0, 0});
        return x;
    }

    /** "5 of them at most" "FULL: 5." */
    private static void fiveDoubts() {
        SonsPurse x = gifts();
        for (int n = 0; n < 5; n++) due.is("doubt", x.doubt(n, true), 1);
        due.is("count(3)", x.count(3), 5);
        due.refuses("a sixth", x, FULL, () -> x.doubt(5, true), () -> x.doubt(6, true));
        due.is("one less", x.doubt(2, false), 1);
        due.is("another one", x.doubt(6, true), 1);
        due.refuses("a sixth", x, FULL, () -> x.doubt(2, true), () -> x.doubt(5, true));
        due.is("count(3)", x.count(3), 5);
    }

    /** "NO: it is so" */
    private static void doubtsThatAreSo() {
        SonsPurse x = gifts();
        due.refuses("no doubt", x, NO, () -> x.doubt(0, false), () -> x.doubt(6, false));
        x.doubt(6, true);
        due.refuses("doubt", x, NO, () -> x.doubt(6, true), () -> x.doubt(0, false));
        x.doubt(6, false);
        due.refuses("no doubt", x, NO, () -> x.doubt(6, false));
    }

    /** "doubt(int note, ..)": a NOTE that is not there is BAD. */
    private static void doubtsOfNoNote() {
        SonsPurse x = gifts();
        for (boolean is : new boolean[] {true, false}) {
            due.refuses("doubt of none", x, BAD, () -> x.doubt(-1, is), () -> x.doubt(8, is), () -> x.doubt(60, is), () -> x.doubt(MIN, is),
                () -> x.doubt(MAX, is));
        }
        SonsPurse none = new SonsPurse();
        due.refuses("doubt of none", none, BAD, () -> none.doubt(0, true), () -> none.doubt(0, false));
    }

    /** BAD ahead of NO ahead of FULL. */
    private static void doubtsInOrder() {
        SonsPurse x = gifts();
        for (int n = 0; n < 5; n++) x.doubt(n, true);
        due.refuses("BAD", x, BAD, () -> x.doubt(7, true), () -> x.doubt(7, false), () -> x.doubt(8, true));
        due.refuses("NO", x, NO, () -> x.doubt(4, true), () -> x.doubt(5, false));
        due.refuses("FULL", x, FULL, () -> x.doubt(5, true));
    }
}
