/** Promises 11 to 14 at their bounds: holders, parts, what is owed within a house. What the document says stands ahead of each test. */
public final class BoundsOfPursesTest extends Kinds {
    private static final Due due = new Due();
    private static final int[] NO_PERSONS = {-1, 3, 10, MIN, MAX};
    private static final int[] NO_DAYS = {-1, 1000, MIN, MAX};

    public static void main(String[] args) {
        holdersRefused();
        insRefused();
        ownsRefused();
        netsRefused();
        tenthPerson();
        firstPerson();
        asOfADay();
        firstAndLastDay();
        oneDay();
        holders();
        partsAlone();
        emptyPurse();
        partsNotBelowZero();
        partsNotBelowZeroTogether();
        debtsNotBelowZero();
        secondOfNone();
        secondOfAllInHand();
        secondNotBelowZero();
        secondByStepsOfLaw();
        secondWithoutHidden();
        ownOfTheFree();
        ownToTheHolder();
        ownToFellows();
        ownIsSettled();
        netWithoutHidden();
        netNotBelowZero();
        due.end();
    }

    /** holder: "BAD: -10." */
    private static void holdersRefused() {
        SonsPurse x = house(due);
        for (int p : NO_PERSONS) due.refuses("holder", x, -10, () -> x.holder(p, 5));
        for (int day : NO_DAYS) due.refuses("holder", x, -10, () -> x.holder(1, day));
    }

    /** in: "a PART (0 .. 3), all (4). BAD." */
    private static void insRefused() {
        SonsPurse x = house(due);
        for (int p : NO_PERSONS) due.refuses("in", x, BAD, () -> x.in(p, 0, 5), () -> x.in(p, 4, 5));
        for (int part : new int[] {-1, 5, MIN, MAX}) due.refuses("in", x, BAD, () -> x.in(1, part, 5));
        for (int day : NO_DAYS) due.refuses("in", x, BAD, () -> x.in(1, 0, day), () -> x.in(1, 4, day));
    }

    /** own: "SECOND (0), OWN (0) (1), OWN (1) (2). BAD." */
    private static void ownsRefused() {
        SonsPurse x = house(due);
        for (int p : NO_PERSONS) due.refuses("own", x, BAD, () -> x.own(p, 0, 5), () -> x.own(p, 1, 5), () -> x.own(p, 2, 5));
        for (int what : new int[] {-1, 3, MIN, MAX}) due.refuses("own", x, BAD, () -> x.own(1, what, 5));
        for (int day : NO_DAYS) due.refuses("own", x, BAD, () -> x.own(1, 0, day), () -> x.own(1, 1, day), () -> x.own(1, 2, day));
    }

    /** net: "NET by a LAW, h 0. BAD." */
    private static void netsRefused() {
        SonsPurse x = house(due);
        for (int p : NO_PERSONS) due.refuses("net", x, BAD, () -> x.net(p, 0, 5), () -> x.net(p, 1, 5));
        for (int law : new int[] {-1, 2, MIN, MAX}) due.refuses("net", x, BAD, () -> x.net(1, law, 5));
        for (int day : NO_DAYS) due.refuses("net", x, BAD, () -> x.net(1, 0, day), () -> x.net(1, 1, day));
    }

    /** "PERSONS 0 .. 9": the last of ten is asked, and is a fellow, as any is. */
    private static void tenthPerson() {
        SonsPurse x = Due.persons(10);
        due.comes(x, new int[][] {{0, HAND, 9, 0, 0}, {0, HAND, 8, 0, 0}, {0, GIVE, 9, 3, 40}, {0, OWE, 9, 8, 3}, {0, OWE, 8, 9, 5},
            {0, GIVE, 8, 0, 10}});
        due.is("holder", x.holder(9, 0), 0);
        due.is("in", x.in(9, 3, 0), 40);
        due.is("own (2) of 9", x.own(9, 2, 0), 3);
        due.is("own (2) of 8", x.own(8, 2, 0), 5);
        due.is("net", x.net(9, 1, 0), 37);
        due.is("SECOND", x.own(0, 0, 0), 42);
    }

    /** The first of them is in a hand, is a fellow and has a purse, as any has. */
    private static void firstPerson() {
        SonsPurse x = Due.persons(3);
        due.comes(x, new int[][] {{0, HAND, 0, 2, 0}, {0, HAND, 1, 2, 0}, {0, GIVE, 0, 0, 30}, {0, OWE, 1, 0, 3}, {0, OWE, 0, 1, 5}, {0, OWE, 0, 2, 7},
            {0, GIVE, 1, 3, 10}});
        due.is("holder", x.holder(0, 0), 2);
        due.is("in", x.in(0, 0, 0), 30);
        due.is("own (1) of 0", x.own(0, 1, 0), 7);
        due.is("own (2) of 0", x.own(0, 2, 0), 5);
        due.is("own (2) of 1", x.own(1, 2, 0), 3);
        due.is("net", x.net(0, 0, 0), 18);
        due.is("SECOND", x.own(2, 0, 0), 25);
    }

    /** "AS OF a DAY: by all NOTES of that DAY and earlier ones": not on the day ahead; by all of one day; and on all days behind. */
    private static void asOfADay() {
        SonsPurse x = Due.persons(3);
        due.comes(x, new int[][] {{7, HAND, 1, 0, 0}, {7, HAND, 2, 0, 0}, {7, GIVE, 1, 0, 50}, {7, OWE, 1, 0, 4}, {7, OWE, 1, 2, 3},
            {9, GIVE, 1, 0, 1}, {9, TAKE, 1, 0, 11}, {9, END, 2, 0, 0}});
        int[][] due1 = {{6, NONE, 0, 0, 0, 0}, {7, 0, 50, 4, 3, 43}, {8, 0, 50, 4, 3, 43}, {9, 0, 40, 4, 0, 36}, {10, 0, 40, 4, 0, 36},
            {999, 0, 40, 4, 0, 36}, {0, NONE, 0, 0, 0, 0}};
        for (int[] d : due1) {
            due.is("holder on " + d[0], x.holder(1, d[0]), d[1]);
            due.is("in on " + d[0], x.in(1, 0, d[0]), d[2]);
            due.is("own (1) on " + d[0], x.own(1, 1, d[0]), d[3]);
            due.is("own (2) on " + d[0], x.own(1, 2, d[0]), d[4]);
            due.is("net on " + d[0], x.net(1, 0, d[0]), d[5]);
        }
    }

    /** DAYS 0 and 999 may be asked of. */
    private static void firstAndLastDay() {
        SonsPurse x = Due.persons(2);
        due.comes(x, new int[][] {{0, HAND, 1, 0, 0}, {0, GIVE, 1, 0, 5}, {999, END, 1, 0, 0}, {999, GIVE, 1, 0, 2}});
        int[][] due1 = {{0, 0, 5}, {998, 0, 5}, {999, NONE, 7}};
        for (int[] d : due1) {
            due.is("holder on " + d[0], x.holder(1, d[0]), d[1]);
            due.is("in on " + d[0], x.in(1, 4, d[0]), d[2]);
        }
    }

    /** The notes of one day are told as they come. */
    private static void oneDay() {
        SonsPurse x = Due.persons(4);
        due.comes(x, new int[][] {{3, HAND, 1, 0, 0}, {3, END, 1, 0, 0}, {3, HAND, 1, 2, 0}, {3, HAND, 1, 3, 0}});
        due.is("holder", x.holder(1, 3), 3);
        due.comes(x, new int[][] {{3, HAND, 1, 0, 0}});
        due.is("holder", x.holder(1, 3), 0);
    }

    /** "HOLDER: in whose hand one is." NONE: who never was, who ended, who was handed to none. */
    private static void holders() {
        SonsPurse x = Due.persons(3);
        due.comes(x, new int[][] {{0, HAND, 1, 0, 0}, {1, HAND, 1, 2, 0}, {2, END, 1, 1, 0}, {3, HAND, 1, 0, 0}, {4, HAND, 1, NONE, 0}});
        int[] who = {0, 2, NONE, 0, NONE};
        for (int day = 0; day < 5; day++) {
            due.is("holder on " + day, x.holder(1, day), who[day]);
            due.is("holder of a free one", x.holder(0, day), NONE);
        }
    }

    /** "PART by PART of a TRADE, all together" */
    private static void partsAlone() {
        SonsPurse x = Due.persons(2);
        due.comes(x, new int[][] {{0, GIVE, 1, 0, 1}, {0, GIVE, 1, 1, 20}, {0, GIVE, 1, 2, 300}, {0, GIVE, 1, 3, 1000}, {0, GIVE, 1, 3, 1000},
            {1, TAKE, 1, 1, 5}, {1, HIDE, 1, 2, 50}});
        int[] parts = {1, 15, 250, 2000, 2266};
        for (int k = 0; k < 5; k++) {
            due.is("in(1, " + k + ")", x.in(1, k, 1), parts[k]);
            due.is("in(0, " + k + ")", x.in(0, k, 1), 0);
        }
    }

    /** All may be taken and hidden: 0 is left. */
    private static void emptyPurse() {
        SonsPurse x = Due.persons(1);
        due.comes(x, new int[][] {{0, GIVE, 0, 2, 9}, {1, TAKE, 0, 2, 4}, {1, HIDE, 0, 2, 5}, {2, GIVE, 0, 2, 1}});
        int[] parts = {9, 0, 1};
        for (int day = 0; day < 3; day++) {
            due.is("in(0, 2, " + day + ")", x.in(0, 2, day), parts[day]);
            due.is("in(0, 4, " + day + ")", x.in(0, 4, day), parts[day]);
        }
    }

    private static void sure(SonsPurse x, int ask, int day, long least, long most, int bits) {
        due.is("sure", x.sure(0, ask, 0, day), 1);
        due.fraction("the least of " + ask + " on " + day, x, least, 1);
        due.is("sure", x.sure(0, ask, 1, day), 1);
        due.fraction("the greatest of " + ask + " on " + day, x, most, 1);
        due.is("hangs of " + ask + " on " + day, x.hangs(0, ask, day), bits);
    }

    /** "(none of them below 0)": where what came in is not so, what went from there leaves 0, not less. */
    private static void partsNotBelowZero() {
        for (int kind : new int[] {TAKE, HIDE}) {
            SonsPurse x = Due.persons(2);
            due.comes(x, new int[][] {{0, HAND, 1, 0, 0}, {0, KNOW, 1, 0, 0}, {0, GIVE, 1, 0, 60}, {0, kind, 1, 0, 45}, {0, DEAL, 1, 0, 100}});
            x.doubt(2, true);
            sure(x, PURSE, 0, 0, 15, 1);
            sure(x, SHARE, 0, 0, 15, 1);
            x.doubt(3, true);
            sure(x, SHARE, 0, 0, 60, 3);
        }
    }

    /** "all together (none of them below 0)": one PART below 0 takes nothing from the others. */
    private static void partsNotBelowZeroTogether() {
        SonsPurse x = Due.persons(2);
        due.comes(x, new int[][] {{0, HAND, 1, 0, 0}, {0, GIVE, 1, 3, 60}, {0, GIVE, 1, 0, 25}, {0, TAKE, 1, 3, 60}, {0, DEAL, 1, 0, 100}});
        x.doubt(1, true);
        sure(x, PURSE, 0, 25, 25, 0);
        x.doubt(3, true);
        sure(x, PURSE, 0, 25, 85, 3);
    }

    /** What is owed is not below 0 where the debt is not so, to the HOLDER and to others. */
    private static void debtsNotBelowZero() {
        SonsPurse x = Due.persons(3);
        due.comes(x, new int[][] {{0, HAND, 1, 0, 0}, {0, HAND, 2, 0, 0}, {0, GIVE, 1, 0, 50}, {0, OWE, 1, 0, 20}, {0, SETTLE, 1, 0, 20},
            {0, OWE, 1, 2, 9}, {0, SETTLE, 1, 2, 9}, {0, DEAL, 1, 0, 100}});
        x.doubt(3, true);
        x.doubt(5, true);
        sure(x, PURSE, 0, 50, 50, 0);
        x.doubt(4, true);
        x.doubt(6, true);
        sure(x, PURSE, 0, 21, 50, 15);
    }

    /** SECOND of one in whose hand nobody is. */
    private static void secondOfNone() {
        SonsPurse x = house(due);
        due.is("SECOND of 1", x.own(1, 0, 5), 0);
        due.is("SECOND of 2", x.own(2, 0, 5), 0);
        due.is("SECOND of 0 ahead of that day", x.own(0, 0, 4), 0);
    }

    /** "of all in a's hand what their PURSES come to": nine of them, and not himself. */
    private static void secondOfAllInHand() {
        SonsPurse x = Due.persons(10);
        due.comes(x, new int[] {0, GIVE, 0, 0, 1000});
        for (int p = 1; p < 10; p++) due.comes(x, new int[][] {{p, HAND, p, 0, 0}, {p, GIVE, p, 0, p}});
        int all = 0;
        for (int p = 1; p < 10; p++) {
            all += p;
            due.is("SECOND on " + p, x.own(0, 0, p), all);
            due.is("net on " + p, x.net(0, 0, p), 1000 + all);
        }
        due.comes(x, new int[] {10, END, 9, 0, 0});
        due.is("SECOND without one who is free", x.own(0, 0, 10), all - 9);
    }

    /** Each of them is NET, so 0 at least: one's debts take nothing from another's purse. */
    private static void secondNotBelowZero() {
        SonsPurse x = Due.persons(4);
        due.comes(x, new int[][] {{0, HAND, 1, 0, 0}, {0, HAND, 2, 0, 0}, {0, GIVE, 1, 0, 30}, {0, GIVE, 2, 0, 40}, {0, OWE, 2, 0, 39},
            {1, OWE, 2, 1, 1}, {2, OWE, 2, 1, 1}, {3, OWE, 2, 1, 500}});
        int[] due1 = {31, 30, 30, 30};
        for (int day = 0; day < 4; day++) due.is("SECOND on " + day, x.own(0, 0, day), due1[day]);
    }

    /** A purse in a purse in a purse: each comes to what THE LAW makes of it. */
    private static void secondByStepsOfLaw() {
        SonsPurse x = Due.persons(10);
        for (int p = 1; p < 10; p++) due.comes(x, new int[] {0, HAND, p, p - 1, 0});
        due.comes(x, new int[] {0, GIVE, 9, 0, 512});
        due.is("by no law all of it", x.own(0, 0, 0), 512);
        Due.write(x, 0, "g+s/2");
        for (int p = 8; p >= 0; p--) due.is("SECOND of " + p, x.own(p, 0, 0), 512 >> (8 - p));
        Due.write(x, 0, "g");
        due.is("SECOND of 8", x.own(8, 0, 0), 512);
        due.is("SECOND of 7", x.own(7, 0, 0), 0);
        SonsPurse y = Due.persons(10);
        for (int p = 8; p >= 0; p--) due.comes(y, new int[] {0, HAND, p, p + 1, 0});
        due.comes(y, new int[] {0, GIVE, 0, 0, 7});
        due.is("the first of all in the last of all's", y.own(9, 0, 0), 7);
    }

    /** "(NET, with h 0)" */
    private static void secondWithoutHidden() {
        SonsPurse x = Due.persons(2);
        due.comes(x, new int[][] {{0, HAND, 1, 0, 0}, {0, GIVE, 1, 0, 50}, {0, DEAL, 1, 0, 100}, {0, DEAL, 0, 0, 100}, {0, HIDE, 1, 0, 30}});
        due.is("SECOND", x.own(0, 0, 0), 20);
        Due.write(x, 0, "h+1");
        due.is("SECOND", x.own(0, 0, 0), 1);
    }

    /** "OWN: what a owes his HOLDER": a free one has none. */
    private static void ownOfTheFree() {
        SonsPurse x = Due.persons(3);
        due.comes(x, new int[][] {{0, OWE, 1, 0, 10}, {0, OWE, 1, 2, 20}, {1, HAND, 2, 0, 0}, {2, HAND, 1, 0, 0}, {3, END, 1, 1, 0}, {4, HAND, 1, 0, 0},
            {5, HAND, 1, NONE, 0}});
        int[][] due1 = {{0, 0}, {0, 0}, {10, 20}, {0, 0}, {10, 20}, {0, 0}};
        for (int day = 0; day < 6; day++) {
            for (int k = 0; k < 2; k++) due.is("own (" + (k + 1) + ") on " + day, x.own(1, k + 1, day), due1[day][k]);
        }
    }

    /** OWN (0) is of him whose hand it is on that day, and not of him who is over that one. */
    private static void ownToTheHolder() {
        SonsPurse x = Due.persons(4);
        due.comes(x, new int[][] {{0, HAND, 1, 0, 0}, {0, HAND, 2, 1, 0}, {0, OWE, 2, 1, 5}, {0, OWE, 2, 0, 70}, {0, OWE, 2, 3, 900},
            {0, OWE, 1, 2, 8}, {1, HAND, 2, 3, 0}, {2, HAND, 2, 0, 0}});
        int[] due1 = {5, 900, 70};
        for (int day = 0; day < 3; day++) due.is("own (1) on " + day, x.own(2, 1, day), due1[day]);
        due.is("what he is owed is not what he owes", x.own(1, 1, 0), 0);
    }

    /** "others in his HOLDER's hand (1)": not the HOLDER, not those in theirs, not those in his own, not free ones. */
    private static void ownToFellows() {
        SonsPurse x = Due.persons(6);
        due.comes(x, new int[][] {{0, HAND, 1, 0, 0}, {0, HAND, 2, 0, 0}, {0, HAND, 3, 2, 0}, {0, HAND, 4, 1, 0}, {0, OWE, 1, 0, 1},
            {0, OWE, 1, 2, 20}, {0, OWE, 1, 3, 300}, {0, OWE, 1, 4, 400}, {0, OWE, 1, 5, 500}, {0, OWE, 2, 1, 7}, {1, HAND, 3, 0, 0},
            {2, HAND, 2, 5, 0}});
        int[] due1 = {20, 320, 300};
        for (int day = 0; day < 3; day++) due.is("own (2) on " + day, x.own(1, 2, day), due1[day]);
        due.is("of the other", x.own(2, 2, 0), 7);
        due.is("who is alone in a hand", x.own(2, 2, 2), 0);
    }

    /** All of it may be settled: 0 is owed. */
    private static void ownIsSettled() {
        SonsPurse x = Due.persons(3);
        due.comes(x, new int[][] {{0, HAND, 1, 0, 0}, {0, HAND, 2, 0, 0}, {0, OWE, 1, 0, 10}, {0, OWE, 1, 2, 10}, {1, SETTLE, 1, 0, 9},
            {1, SETTLE, 1, 2, 8}, {2, SETTLE, 1, 0, 1}, {2, SETTLE, 1, 2, 2}});
        int[][] due1 = {{10, 10}, {1, 2}, {0, 0}};
        for (int day = 0; day < 3; day++) {
            for (int k = 0; k < 2; k++) due.is("own (" + (k + 1) + ") on " + day, x.own(1, k + 1, day), due1[day][k]);
        }
    }

    /** net: "h 0" by both laws, whatever was hidden. */
    private static void netWithoutHidden() {
        SonsPurse x = Due.persons(2);
        due.comes(x, new int[][] {{0, HAND, 1, 0, 0}, {0, DEAL, 1, 0, 100}, {0, GIVE, 1, 0, 50}, {0, HIDE, 1, 0, 30}});
        for (int law = 0; law < 2; law++) {
            due.is("by no law", x.net(1, law, 0), 20);
            Due.write(x, law, "h+3");
            due.is("by h + 3", x.net(1, law, 0), 3);
        }
    }

    /** "brought to 0 .. 1000000": what he owes may be more than what is IN. */
    private static void netNotBelowZero() {
        SonsPurse x = Due.persons(2);
        due.comes(x, new int[][] {{0, HAND, 1, 0, 0}, {0, GIVE, 1, 0, 50}, {1, OWE, 1, 0, 49}, {2, OWE, 1, 0, 1}, {3, OWE, 1, 0, 1}, {4, OWE, 1, 0, 1000}});
        int[] due1 = {50, 1, 0, 0, 0};
        for (int day = 0; day < 5; day++) {
            for (int law = 0; law < 2; law++) due.is("net on " + day, x.net(1, law, day), due1[day]);
        }
    }
}
