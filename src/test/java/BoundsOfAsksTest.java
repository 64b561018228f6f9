/** Promises 15 to 18 at their bounds: what is owed, who answers, each ask, the best. What the document says stands ahead of each test. */
public final class BoundsOfAsksTest extends Kinds {
    private static final Due due = new Due();
    private static final int[] NO_DEALS = {-1, 3, 60, MIN, MAX};
    private static final int[] NO_DAYS = {-1, 1000, MIN, MAX};

    public static void main(String[] args) {
        oweds();
        answersRefused();
        asksRefused();
        bestsRefused();
        noDeals();
        dealsOwnDay();
        owedDownToZero();
        answerers();
        neverHanded();
        handedSince();
        lastEnd();
        endOnOneDay();
        nobodyAnswers();
        wholeIfOrdered();
        wholeIfSetAhead();
        wholeOfThatTrade();
        turnedAtMost();
        turnedNothing();
        purseAtMost();
        hiddenBehindTheDeal();
        hiddenByHim();
        days360();
        freedWithPurse();
        closedAndHandedAgain();
        shareIfKnownAhead();
        shareOfThatTrade();
        shareAtMost();
        shareOverAll();
        shareOfNothing();
        shareOfOne();
        shareInLowestTerms();
        shareOfTheEnded();
        bests();
        bestOfLikeOnes();
        bestOfNone();
        bestOfShares();
        pursesInPurses();
        due.end();
    }

    private static void ask(SonsPurse x, int deal, int ask, int day, long above, long below) {
        String call = "ask(" + deal + ", " + ask + ", " + day + ")";
        due.is(call, x.ask(deal, ask, day), 1);
        due.fraction(call, x, above, below);
    }

    private static void ask(SonsPurse x, int deal, int ask, int day, long want) {
        ask(x, deal, ask, day, want, 1);
    }

    /** owed: "BAD; NO." */
    private static void oweds() {
        SonsPurse x = house(due);
        for (int d : NO_DEALS) due.refuses("owed", x, BAD, () -> x.owed(d, 5), () -> x.owed(d, 4));
        for (int day : NO_DAYS) due.refuses("owed", x, BAD, () -> x.owed(0, day));
        due.refuses("owed", x, NO, () -> x.owed(0, 4), () -> x.owed(2, 0));
        due.is("owed", x.owed(2, 5), 10);
        due.is("owed", x.owed(2, 999), 10);
    }

    /** answers: "BAD: -10; NO: -20." */
    private static void answersRefused() {
        SonsPurse x = house(due);
        for (int d : NO_DEALS) due.refuses("answers", x, -10, () -> x.answers(d, 5), () -> x.answers(d, 4));
        for (int day : NO_DAYS) due.refuses("answers", x, -10, () -> x.answers(0, day));
        due.refuses("answers", x, -20, () -> x.answers(0, 4), () -> x.answers(2, 0));
        due.is("answers", x.answers(2, 5), 0);
    }

    /** ask: "BAD; NO." THE FRACTION stays. */
    private static void asksRefused() {
        SonsPurse x = house(due);
        ask(x, 0, WHOLE, 5, 1000);
        for (int k = 0; k < 4; k++) {
            int ask = k;
            for (int d : NO_DEALS) due.refuses("ask", x, BAD, () -> x.ask(d, ask, 5), () -> x.ask(d, ask, 4));
            for (int day : NO_DAYS) due.refuses("ask", x, BAD, () -> x.ask(0, ask, day));
            due.refuses("ask", x, NO, () -> x.ask(0, ask, 4), () -> x.ask(2, ask, 0));
        }
        for (int ask : new int[] {-1, 4, MIN, MAX}) due.refuses("ask", x, BAD, () -> x.ask(0, ask, 5), () -> x.ask(0, ask, 4));
        due.fraction("as it was", x, 1000, 1);
    }

    /** best: "BAD: -10; NO: -20." THE FRACTION stays in all cases. */
    private static void bestsRefused() {
        SonsPurse x = house(due);
        ask(x, 2, PURSE, 5, 10);
        for (int d : NO_DEALS) due.refuses("best", x, -10, () -> x.best(d, 5), () -> x.best(d, 4));
        for (int day : NO_DAYS) due.refuses("best", x, -10, () -> x.best(0, day));
        due.refuses("best", x, -20, () -> x.best(0, 4), () -> x.best(2, 0));
        due.is("best", x.best(0, 5), WHOLE);
        due.fraction("as it was", x, 10, 1);
    }

    /** There is no DEAL yet. */
    private static void noDeals() {
        SonsPurse x = Due.persons(2);
        due.refuses("owed", x, BAD, () -> x.owed(0, 0), () -> x.ask(0, 0, 0));
        due.refuses("answers", x, -10, () -> x.answers(0, 0), () -> x.best(0, 0));
    }

    /** "It is asked on a DAY no earlier than its own (else NO)." */
    private static void dealsOwnDay() {
        SonsPurse x = Due.persons(2);
        due.comes(x, new int[][] {{0, DEAL, 1, 0, 1}, {1, DEAL, 1, 0, 2}, {500, DEAL, 1, 0, 3}, {999, DEAL, 1, 0, 4}});
        int[] days = {0, 1, 500, 999};
        for (int d = 0; d < 4; d++) {
            int deal = d;
            int day = days[d];
            due.is("owed on its day", x.owed(d, day), d + 1);
            due.is("answers on its day", x.answers(d, day), NONE);
            due.is("ask on its day", x.ask(d, 0, day), 1);
            due.is("best on its day", x.best(d, day), NONE);
            if (d == 0) continue;
            due.refuses("the day ahead", x, NO, () -> x.owed(deal, day - 1), () -> x.ask(deal, 0, day - 1));
            due.refuses("the day ahead", x, -20, () -> x.answers(deal, day - 1), () -> x.best(deal, day - 1));
        }
    }

    /** "OWED of a DEAL: v less what was paid of it." */
    private static void owedDownToZero() {
        SonsPurse x = Due.persons(2);
        due.comes(x, new int[][] {{0, DEAL, 1, 0, 1000}, {0, DEAL, 1, 0, 1}, {1, PAY, 0, 0, 1}, {2, PAY, 0, 0, 998}, {3, PAY, 0, 0, 1}, {4, PAY, 1, 0, 1}});
        int[][] owed = {{1000, 1}, {999, 1}, {1, 1}, {0, 1}, {0, 0}};
        for (int day = 0; day < 5; day++) {
            for (int d = 0; d < 2; d++) due.is("owed(" + d + ", " + day + ")", x.owed(d, day), owed[day][d]);
        }
    }

    private static void answerersAre(SonsPurse x, int... who) {
        for (int day = 0; day < who.length; day++) due.is("answers(0, " + day + ")", x.answers(0, day), who[day]);
    }

    /** "WHO ANSWERS: the HOLDER": he in whose hand he who made it is on that day. */
    private static void answerers() {
        SonsPurse x = Due.persons(4);
        due.comes(x, new int[][] {{0, DEAL, 1, 0, 5}, {1, HAND, 1, 0, 0}, {2, HAND, 1, 2, 0}, {3, HAND, 2, 3, 0}, {4, HAND, 1, 3, 0}});
        answerersAre(x, NONE, 0, 2, 2, 3);
    }

    /** "nobody else": who was never in a hand, or was handed to none. */
    private static void neverHanded() {
        SonsPurse x = Due.persons(3);
        due.comes(x, new int[][] {{0, HAND, 2, 1, 0}, {0, DEAL, 1, 0, 5}, {1, HAND, 1, NONE, 0}, {2, HAND, 1, 0, 0}, {3, HAND, 1, NONE, 0}});
        answerersAre(x, NONE, NONE, 0, NONE);
    }

    /** "if the last END of one who is free is not HANDED over since": to none, too. */
    private static void handedSince() {
        SonsPurse x = Due.persons(4);
        due.comes(x, new int[][] {{0, HAND, 1, 0, 0}, {0, DEAL, 1, 0, 5}, {1, END, 1, 0, 0}, {2, HAND, 2, 1, 0}, {3, HAND, 1, 3, 0}, {4, HAND, 1, NONE, 0}});
        answerersAre(x, 0, 0, 0, 3, NONE);
        SonsPurse y = Due.persons(4);
        due.comes(y, new int[][] {{0, HAND, 1, 0, 0}, {0, DEAL, 1, 0, 5}, {1, END, 1, 0, 0}, {2, HAND, 1, NONE, 0}});
        answerersAre(y, 0, 0, NONE, NONE);
    }

    /** "the last END .. : him who was HOLDER then": for each of the ways to end. */
    private static void lastEnd() {
        for (int b = 0; b < 3; b++) {
            SonsPurse x = Due.persons(4);
            due.comes(x, new int[][] {{0, HAND, 1, 0, 0}, {0, DEAL, 1, 0, 5}, {1, END, 1, b, 0}, {2, HAND, 1, 2, 0}, {3, END, 1, b, 0}, {4, HAND, 0, 3, 0}});
            answerersAre(x, 0, 0, 2, 2, 2);
            due.is("on the last of days", x.answers(0, 999), 2);
        }
    }

    /** A HAND behind an END on its day is since then; one ahead of it is not. */
    private static void endOnOneDay() {
        SonsPurse x = Due.persons(4);
        due.comes(x, new int[][] {{0, HAND, 1, 0, 0}, {0, DEAL, 1, 0, 5}, {0, HAND, 1, 2, 0}, {0, END, 1, 0, 0}});
        due.is("answers", x.answers(0, 0), 2);
        due.comes(x, new int[][] {{0, HAND, 1, NONE, 0}});
        due.is("answers", x.answers(0, 0), NONE);
    }

    /** "0, if nobody answers": each ASK, also where all else is so. */
    private static void nobodyAnswers() {
        SonsPurse x = Due.persons(2);
        due.comes(x, new int[][] {{0, HAND, 1, 0, 0}, {0, KNOW, 1, 0, 0}, {0, POST, 1, 0, 0}, {0, GIVE, 1, 0, 50}, {0, DEAL, 1, 0, 40},
            {0, ORDER, 0, 0, 0}, {0, USE, 0, 0, 40}, {1, HAND, 1, NONE, 0}, {2, HAND, 1, 0, 0}, {3, END, 1, 1, 0}, {4, HAND, 1, NONE, 0}});
        int[] asked = {40, 0, 40, 40, 0};
        for (int day = 0; day < 5; day++) {
            for (int k = 0; k < 4; k++) ask(x, 0, k, day, asked[day]);
            due.is("best on " + day, x.best(0, day), asked[day] == 0 ? NONE : WHOLE);
        }
    }

    /** WHOLE "if it was ordered": on that DAY or an earlier one, and that DEAL. */
    private static void wholeIfOrdered() {
        SonsPurse x = Due.persons(2);
        due.comes(x, new int[][] {{0, HAND, 1, 0, 0}, {0, DEAL, 1, 0, 40}, {0, DEAL, 1, 0, 60}, {2, ORDER, 0, 0, 0}, {3, PAY, 0, 0, 39}, {4, PAY, 0, 0, 1}});
        int[] asked = {0, 0, 40, 1, 0};
        for (int day = 0; day < 5; day++) {
            ask(x, 0, WHOLE, day, asked[day]);
            ask(x, 1, WHOLE, day, 0);
        }
    }

    /** "or he who made it was set over that TRADE by NOTES ahead of it": the note just ahead, not the one just behind. */
    private static void wholeIfSetAhead() {
        SonsPurse x = Due.persons(2);
        due.comes(x, new int[][] {{0, HAND, 1, 0, 0}, {0, DEAL, 1, 0, 1}, {0, POST, 1, 0, 0}, {0, DEAL, 1, 0, 2}, {0, UNPOST, 1, 0, 0}, {0, DEAL, 1, 0, 3},
            {0, POST, 1, 0, 0}, {1, DEAL, 1, 0, 4}, {1, UNPOST, 1, 0, 0}});
        int[] asked = {0, 2, 0, 4};
        for (int d = 0; d < 4; d++) ask(x, d, WHOLE, 1, asked[d]);
    }

    /** Set over another TRADE, and another set over it, are not so. */
    private static void wholeOfThatTrade() {
        SonsPurse x = Due.persons(3);
        due.comes(x, new int[][] {{0, HAND, 1, 0, 0}, {0, HAND, 2, 0, 0}, {0, POST, 1, 0, 0}, {0, POST, 1, 3, 0}, {0, POST, 2, 1, 0}, {0, DEAL, 1, 0, 10},
            {0, DEAL, 1, 1, 20}, {0, DEAL, 1, 2, 30}, {0, DEAL, 1, 3, 40}, {0, DEAL, 2, 0, 50}, {0, DEAL, 2, 1, 60}});
        int[] asked = {10, 0, 0, 40, 0, 60};
        for (int d = 0; d < 6; d++) ask(x, d, WHOLE, 0, asked[d]);
    }

    /** "TURNED: of what is OWED what came in and is there, at most": one less, as much, one more. */
    private static void turnedAtMost() {
        SonsPurse x = Due.persons(2);
        due.comes(x, new int[][] {{0, HAND, 1, 0, 0}, {0, DEAL, 1, 0, 40}, {1, USE, 0, 0, 39}, {2, USE, 0, 0, 1}, {3, LOSE, 0, 0, 20}, {4, PAY, 0, 0, 19},
            {5, PAY, 0, 0, 1}, {6, PAY, 0, 0, 1}, {7, PAY, 0, 0, 19}});
        int[] asked = {0, 39, 40, 20, 20, 20, 19, 0};
        for (int day = 0; day < 8; day++) ask(x, 0, TURNED, day, asked[day]);
    }

    /** What came in may be lost, all of it, or be of another DEAL. */
    private static void turnedNothing() {
        SonsPurse x = Due.persons(2);
        due.comes(x, new int[][] {{0, HAND, 1, 0, 0}, {0, DEAL, 1, 0, 40}, {0, DEAL, 1, 0, 40}, {0, USE, 0, 0, 7}, {1, LOSE, 0, 0, 7}});
        ask(x, 0, TURNED, 0, 7);
        ask(x, 1, TURNED, 0, 0);
        ask(x, 0, TURNED, 1, 0);
    }

    /** "PURSE: of what is OWED NET at most": one less, as much, one more; nothing. */
    private static void purseAtMost() {
        SonsPurse x = Due.persons(2);
        due.comes(x, new int[][] {{0, HAND, 1, 0, 0}, {0, DEAL, 1, 0, 40}, {1, GIVE, 1, 3, 39}, {2, GIVE, 1, 1, 1}, {3, GIVE, 1, 2, 1}, {4, OWE, 1, 0, 40},
            {5, OWE, 1, 0, 1}, {6, OWE, 1, 0, 1}});
        int[] asked = {0, 39, 40, 40, 1, 0, 0};
        for (int day = 0; day < 7; day++) ask(x, 0, PURSE, day, asked[day]);
    }

    /** "HIDDEN (for a DEAL of his): what was hidden by NOTES behind that DEAL": the note just behind, not the one just ahead. */
    private static void hiddenBehindTheDeal() {
        SonsPurse x = Due.persons(2);
        due.comes(x, new int[][] {{0, HAND, 1, 0, 0}, {0, GIVE, 1, 0, 100}, {0, HIDE, 1, 0, 10}, {0, DEAL, 1, 1, 1000}, {0, HIDE, 1, 0, 20}, {0, DEAL, 1, 0, 1000},
            {1, HIDE, 1, 0, 30}, {2, TAKE, 1, 0, 15}, {3, HIDE, 1, 0, 25}});
        int[][] asked = {{90, 70}, {90, 70}, {75, 55}, {75, 55}};
        for (int day = 0; day < 4; day++) {
            for (int d = 0; d < 2; d++) ask(x, d, PURSE, day, asked[day][d]);
        }
    }

    /** What another hid is not of it, though he is in one hand with him, or in his. */
    private static void hiddenByHim() {
        SonsPurse x = Due.persons(4);
        due.comes(x, new int[][] {{0, HAND, 1, 0, 0}, {0, HAND, 2, 0, 0}, {0, HAND, 3, 1, 0}, {0, GIVE, 1, 0, 50}, {0, GIVE, 2, 0, 50}, {0, GIVE, 3, 0, 50},
            {0, DEAL, 1, 0, 1000}, {1, HIDE, 2, 0, 50}, {2, HIDE, 3, 0, 50}, {3, HIDE, 1, 0, 50}});
        int[] asked = {100, 100, 50, 50};
        for (int day = 0; day < 4; day++) ask(x, 0, PURSE, day, asked[day]);
    }

    /** "not if he who answers was HOLDER once, and END is more than 360 DAYS ago": 360 are not more. */
    private static void days360() {
        for (int b = 0; b < 2; b++) {
            for (int end : new int[] {0, 3, 638, 639}) {
                SonsPurse x = Due.persons(2);
                due.comes(x, new int[][] {{0, HAND, 1, 0, 0}, {0, GIVE, 1, 0, 50}, {0, DEAL, 1, 0, 100}, {end, END, 1, b, 0}});
                ask(x, 0, PURSE, end, 50);
                ask(x, 0, PURSE, end + 359, 50);
                ask(x, 0, PURSE, end + 360, 50);
                if (end + 361 <= 999) ask(x, 0, PURSE, end + 361, 0);
                due.is("he answers on", x.answers(0, 999), 0);
            }
        }
    }

    /** "or he was freed with his PURSE": at once. */
    private static void freedWithPurse() {
        SonsPurse x = Due.persons(2);
        due.comes(x, new int[][] {{0, HAND, 1, 0, 0}, {0, GIVE, 1, 0, 50}, {0, DEAL, 1, 0, 100}, {0, ORDER, 0, 0, 0}, {1, END, 1, 2, 0}});
        ask(x, 0, PURSE, 0, 50);
        ask(x, 0, PURSE, 1, 0);
        ask(x, 0, WHOLE, 1, 100);
        due.is("answers", x.answers(0, 1), 0);
    }

    /** He who is HOLDER now was not HOLDER once: the PURSE is open in his hand, however long ago an END was. */
    private static void closedAndHandedAgain() {
        SonsPurse x = Due.persons(3);
        due.comes(x, new int[][] {{0, HAND, 1, 0, 0}, {0, GIVE, 1, 0, 50}, {0, DEAL, 1, 0, 100}, {1, END, 1, 2, 0}, {400, HAND, 1, 2, 0}, {401, END, 1, 0, 0}});
        int[][] asked = {{1, 0}, {399, 0}, {400, 50}, {401, 50}, {761, 50}, {762, 0}};
        for (int[] a : asked) ask(x, 0, PURSE, a[0], a[1]);
    }

    /** "SHARE: if that TRADE was known by NOTES ahead of the DEAL": the note just ahead, not the one just behind. */
    private static void shareIfKnownAhead() {
        SonsPurse x = Due.persons(2);
        due.comes(x, new int[][] {{0, HAND, 1, 0, 0}, {0, GIVE, 1, 0, 50}, {0, DEAL, 1, 0, 10}, {0, KNOW, 1, 0, 0}, {0, DEAL, 1, 0, 20}, {5, DEAL, 1, 0, 10}});
        ask(x, 0, SHARE, 0, 0);
        ask(x, 1, SHARE, 0, 20);
        ask(x, 0, SHARE, 5, 0);
        ask(x, 1, SHARE, 5, 20);
        ask(x, 2, SHARE, 5, 10);
    }

    /** Another TRADE that is known, and another's, are not so; the PART is of that TRADE alone. */
    private static void shareOfThatTrade() {
        SonsPurse x = Due.persons(3);
        due.comes(x, new int[][] {{0, HAND, 1, 0, 0}, {0, HAND, 2, 0, 0}, {0, KNOW, 1, 0, 0}, {0, KNOW, 1, 3, 0}, {0, KNOW, 2, 1, 0}, {0, GIVE, 1, 0, 5},
            {0, GIVE, 1, 1, 500}, {0, GIVE, 1, 3, 7}, {0, GIVE, 2, 0, 500}, {0, DEAL, 1, 0, 10}, {0, DEAL, 1, 1, 20}, {0, DEAL, 1, 2, 30}, {0, DEAL, 1, 3, 40},
            {0, DEAL, 2, 0, 50}, {0, DEAL, 2, 1, 60}});
        int[] asked = {5, 0, 0, 7, 0, 0};
        for (int d = 0; d < 6; d++) ask(x, d, SHARE, 0, asked[d]);
    }

    /** "what is OWED at most": the PART is one less than over all, as much, one more. */
    private static void shareAtMost() {
        SonsPurse x = Due.persons(2);
        due.comes(x, new int[][] {{0, HAND, 1, 0, 0}, {0, KNOW, 1, 0, 0}, {0, OWE, 1, 0, 20}, {0, DEAL, 1, 0, 10}, {0, DEAL, 1, 0, 30}, {0, GIVE, 1, 0, 59},
            {1, GIVE, 1, 0, 1}, {2, GIVE, 1, 0, 1}, {3, GIVE, 1, 0, 1000}});
        ask(x, 0, SHARE, 0, 59, 6);
        ask(x, 1, SHARE, 0, 59, 2);
        for (int day = 1; day < 4; day++) {
            ask(x, 0, SHARE, day, 10);
            ask(x, 1, SHARE, day, 30);
        }
    }

    /** "over all: what is OWED of all DEALS of his in that TRADE, and OWN (0)": nothing else counts, nor what is of later days. */
    private static void shareOverAll() {
        SonsPurse x = Due.persons(4);
        due.comes(x, new int[][] {{0, HAND, 1, 0, 0}, {0, HAND, 2, 0, 0}, {0, HAND, 3, 1, 0}, {0, DEAL, 1, 0, 30}, {0, KNOW, 1, 0, 0}, {0, KNOW, 1, 1, 0},
            {0, GIVE, 1, 0, 60}, {0, DEAL, 1, 0, 90}, {1, DEAL, 1, 1, 500}, {2, DEAL, 2, 0, 500}, {3, DEAL, 3, 0, 500}, {4, OWE, 1, 2, 500}, {5, OWE, 0, 1, 500},
            {6, DEAL, 1, 0, 60}, {7, OWE, 1, 0, 90}, {8, PAY, 0, 0, 30}, {9, END, 1, 0, 0}});
        int[][] asked = {{45, 1}, {45, 1}, {45, 1}, {45, 1}, {45, 1}, {45, 1}, {30, 1}, {20, 1}, {45, 2}, {36, 1}};
        for (int day = 0; day < 10; day++) ask(x, 1, SHARE, day, asked[day][0], asked[day][1]);
    }

    /** The PART is 0, or nothing is OWED: of that DEAL, of all. */
    private static void shareOfNothing() {
        SonsPurse x = Due.persons(2);
        due.comes(x, new int[][] {{0, HAND, 1, 0, 0}, {0, KNOW, 1, 0, 0}, {0, DEAL, 1, 0, 10}, {0, DEAL, 1, 0, 20}, {1, GIVE, 1, 0, 15}, {2, PAY, 0, 0, 10},
            {3, PAY, 1, 0, 20}, {4, OWE, 1, 0, 5}, {5, TAKE, 1, 0, 15}});
        int[][] asked = {{0, 0}, {5, 10}, {0, 15}, {0, 0}, {0, 0}, {0, 0}};
        for (int day = 0; day < 6; day++) {
            for (int d = 0; d < 2; d++) ask(x, d, SHARE, day, asked[day][d]);
        }
    }

    /** The least of DEALS: 1 by 1, by 2, by 3. */
    private static void shareOfOne() {
        SonsPurse x = Due.persons(2);
        due.comes(x, new int[][] {{0, HAND, 1, 0, 0}, {0, KNOW, 1, 0, 0}, {0, GIVE, 1, 0, 1}, {0, DEAL, 1, 0, 1}, {1, DEAL, 1, 0, 1}, {2, OWE, 1, 0, 1},
            {3, GIVE, 1, 0, 2}});
        ask(x, 0, SHARE, 0, 1);
        ask(x, 0, SHARE, 1, 1, 2);
        ask(x, 0, SHARE, 2, 1, 3);
        ask(x, 0, SHARE, 3, 1);
    }

    /** "lowest terms, below above 0" */
    private static void shareInLowestTerms() {
        SonsPurse x = Due.persons(2);
        due.comes(x, new int[][] {{0, HAND, 1, 0, 0}, {0, KNOW, 1, 0, 0}, {0, DEAL, 1, 0, 12}, {0, DEAL, 1, 0, 18}, {0, GIVE, 1, 0, 1}, {1, GIVE, 1, 0, 6},
            {2, GIVE, 1, 0, 8}, {3, OWE, 1, 0, 967}});
        ask(x, 0, SHARE, 0, 2, 5);
        ask(x, 1, SHARE, 0, 3, 5);
        ask(x, 0, SHARE, 1, 14, 5);
        ask(x, 0, SHARE, 2, 6);
        ask(x, 1, SHARE, 2, 9);
        ask(x, 1, SHARE, 3, 270, 997);
        SonsPurse y = Due.persons(2);
        due.comes(y, new int[][] {{0, HAND, 1, 0, 0}, {0, KNOW, 1, 0, 0}, {0, OWE, 1, 0, 997}});
        for (int k = 0; k < 28; k++) due.comes(y, new int[][] {{0, DEAL, 1, 0, 1000}, {0, GIVE, 1, 0, 991}});
        ask(y, 27, SHARE, 0, 27748000, 28997);
    }

    /** SHARE is of him who answers for one who ended, too, also where the PURSE can not be asked; OWN (0) is 0 then. */
    private static void shareOfTheEnded() {
        SonsPurse x = Due.persons(2);
        due.comes(x, new int[][] {{0, HAND, 1, 0, 0}, {0, KNOW, 1, 0, 0}, {0, DEAL, 1, 0, 30}, {0, GIVE, 1, 0, 20}, {0, OWE, 1, 0, 10}, {1, END, 1, 2, 0}});
        ask(x, 0, SHARE, 0, 15);
        ask(x, 0, SHARE, 1, 20);
        ask(x, 0, PURSE, 1, 0);
        ask(x, 0, SHARE, 999, 20);
    }

    /** "BEST: the ASK with the most": each of the four by one more than another. */
    private static void bests() {
        SonsPurse x = Due.persons(2);
        due.comes(x, new int[][] {{0, HAND, 1, 0, 0}, {0, DEAL, 1, 0, 100}, {1, GIVE, 1, 0, 10}, {2, USE, 0, 0, 11}, {3, GIVE, 1, 0, 2}, {4, ORDER, 0, 0, 0},
            {5, PAY, 0, 0, 100}});
        int[] best = {NONE, PURSE, TURNED, PURSE, WHOLE, NONE};
        for (int day = 0; day < 6; day++) due.is("best(0, " + day + ")", x.best(0, day), best[day]);
    }

    /** "of like ones the least": each pair of them. */
    private static void bestOfLikeOnes() {
        SonsPurse x = Due.persons(2);
        due.comes(x, new int[][] {{0, HAND, 1, 0, 0}, {0, KNOW, 1, 0, 0}, {0, DEAL, 1, 0, 40}, {0, GIVE, 1, 0, 20}, {1, USE, 0, 0, 20}, {2, USE, 0, 0, 20},
            {3, ORDER, 0, 0, 0}});
        int[] best = {PURSE, TURNED, TURNED, WHOLE};
        for (int day = 0; day < 4; day++) due.is("best(0, " + day + ")", x.best(0, day), best[day]);
        SonsPurse y = Due.persons(2);
        due.comes(y, new int[][] {{0, HAND, 1, 0, 0}, {0, KNOW, 1, 0, 0}, {0, DEAL, 1, 0, 40}, {0, GIVE, 1, 0, 40}, {0, END, 1, 2, 0}, {1, ORDER, 0, 0, 0}});
        due.is("SHARE alone", y.best(0, 0), SHARE);
        due.is("WHOLE and SHARE", y.best(0, 1), WHOLE);
        SonsPurse z = Due.persons(2);
        due.comes(z, new int[][] {{0, HAND, 1, 0, 0}, {0, KNOW, 1, 0, 0}, {0, DEAL, 1, 0, 40}, {0, GIVE, 1, 0, 20}, {0, END, 1, 2, 0}, {1, USE, 0, 0, 20}});
        due.is("SHARE alone", z.best(0, 0), SHARE);
        due.is("TURNED and SHARE", z.best(0, 1), TURNED);
    }

    /** "(none, if all are 0)" */
    private static void bestOfNone() {
        SonsPurse x = Due.persons(2);
        due.comes(x, new int[][] {{0, DEAL, 1, 0, 40}, {0, ORDER, 0, 0, 0}, {1, HAND, 1, 0, 0}, {2, PAY, 0, 0, 39}, {3, PAY, 0, 0, 1}});
        int[] best = {NONE, WHOLE, WHOLE, NONE};
        for (int day = 0; day < 4; day++) due.is("best(0, " + day + ")", x.best(0, day), best[day]);
    }

    /** A SHARE that is no whole number is more than what is less by a part of one. */
    private static void bestOfShares() {
        SonsPurse x = Due.persons(2);
        due.comes(x, new int[][] {{0, HAND, 1, 0, 0}, {0, KNOW, 1, 0, 0}, {0, DEAL, 1, 0, 2}, {0, DEAL, 1, 0, 3}, {0, GIVE, 1, 0, 4}, {0, OWE, 1, 0, 3},
            {1, USE, 0, 0, 1}, {2, PAY, 1, 0, 3}, {2, USE, 0, 0, 1}});
        ask(x, 0, SHARE, 0, 1);
        due.is("1 by PURSE, 1 by SHARE", x.best(0, 0), PURSE);
        due.is("1 by TURNED", x.best(0, 1), TURNED);
        ask(x, 0, SHARE, 2, 8, 5);
        due.is("2 by TURNED, 8 by 5 by SHARE", x.best(0, 2), TURNED);
        SonsPurse y = Due.persons(2);
        due.comes(y, new int[][] {{0, HAND, 1, 0, 0}, {0, KNOW, 1, 0, 0}, {0, DEAL, 1, 0, 2}, {0, GIVE, 1, 0, 4}, {0, OWE, 1, 0, 3}});
        ask(y, 0, SHARE, 0, 8, 5);
        due.is("1 by PURSE, 8 by 5 by SHARE", y.best(0, 0), SHARE);
    }

    /** PURSE is of NET, so of what is in the purses of those in his hand: the ASK, and BEST by one more than another. */
    private static void pursesInPurses() {
        SonsPurse x = Due.persons(3);
        due.comes(x, new int[][] {{0, HAND, 1, 0, 0}, {0, HAND, 2, 1, 0}, {0, DEAL, 1, 0, 100}, {0, USE, 0, 0, 30}, {0, GIVE, 2, 0, 30}, {1, GIVE, 2, 0, 1},
            {2, HAND, 2, 0, 0}});
        int[][] due1 = {{30, TURNED}, {31, PURSE}, {0, TURNED}};
        for (int day = 0; day < 3; day++) {
            ask(x, 0, PURSE, day, due1[day][0]);
            due.is("best(0, " + day + ")", x.best(0, day), due1[day][1]);
        }
    }
}
