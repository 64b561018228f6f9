/** Promises 11 to 18, and 24 to 27: purses, asks, how much to let, what is not sure. */
public final class AsksTest {
    private static final Due due = new Due();

    public static void main(String[] args) {
        parts();
        owns();
        nets();
        oweds();
        answerers();
        wholes();
        turned();
        purseAsks();
        shares();
        bests();
        wise();
        sures();
        notSo();
        parteds();
        due.end();
    }

    private static void parts() {
        SonsPurse x = Due.persons(2);
        Due.notes(x, new int[][] {{1, 1, 0, 0, 100}, {2, 1, 0, 3, 50}, {3, 2, 0, 0, 30}, {4, 3, 0, 3, 20}, {5, 1, 1, 0, 7}});
        int[][] all = {{0, 0, 0, 0, 0}, {100, 0, 0, 0, 100}, {100, 0, 0, 50, 150}, {70, 0, 0, 50, 120}, {70, 0, 0, 30, 100}};
        for (int day = 0; day < 5; day++) {
            for (int k = 0; k < 5; k++) due.is("in(0, " + k + ", " + day + ")", x.in(0, k, day), all[day][k]);
        }
        int[][] bad = {{2, 0, 0}, {-1, 0, 0}, {0, -1, 0}, {0, 5, 0}, {0, 0, -1}, {0, 0, 1000}};
        for (int[] b : bad) due.is("in, bad", x.in(b[0], b[1], b[2]), -2);
    }

    private static SonsPurse family() {
        SonsPurse x = Due.persons(6);
        Due.notes(x, new int[][] {{0, 0, 1, 0, 0}, {0, 0, 2, 0, 0}, {0, 0, 3, 1, 0}, {0, 0, 4, 3, 0}, {0, 1, 1, 0, 100}, {0, 1, 3, 1, 40},
            {0, 1, 4, 2, 9}, {1, 11, 1, 0, 10}, {1, 11, 1, 2, 20}, {1, 11, 1, 3, 300}, {1, 11, 1, 5, 400}, {2, 11, 3, 1, 5},
            {2, 11, 5, 0, 3}, {3, 12, 1, 2, 15}, {4, 11, 4, 3, 10}});
        return x;
    }

    private static void owns() {
        SonsPurse x = family();
        due.is("SECOND of 1 on day 1: 40 and 9", x.own(1, 0, 1), 49);
        due.is("SECOND of 1 on day 2: 5 less", x.own(1, 0, 2), 44);
        due.is("SECOND of 1 on day 4: 9 less 10 is none", x.own(1, 0, 4), 35);
        due.is("SECOND of 0", x.own(0, 0, 0), 149);
        due.is("OWN (0) of 1", x.own(1, 1, 2), 10);
        due.is("OWN (1) of 1: not those below, nor free ones", x.own(1, 2, 2), 20);
        due.is("OWN (1) of 1, settled", x.own(1, 2, 3), 5);
        due.is("OWN (0) of a free one", x.own(5, 1, 2), 0);
        due.is("OWN (1) of a free one", x.own(5, 2, 2), 0);
        int[][] bad = {{6, 0, 0}, {-1, 0, 0}, {0, -1, 0}, {0, 3, 0}, {0, 0, -1}, {0, 0, 1000}};
        for (int[] b : bad) due.is("own, bad", x.own(b[0], b[1], b[2]), -2);
    }

    private static void nets() {
        SonsPurse x = family();
        due.is("net(1, 0, 3)", x.net(1, 0, 3), 100 + 44 - 10 - 5);
        due.is("below 0 is 0", x.net(4, 0, 4), 0);
        Due.write(x, 0, "g*2");
        due.is("by a law", x.net(1, 0, 3), 200);
        Due.write(x, 1, "s");
        due.is("SECOND is by THE LAW always", x.net(1, 1, 3), 80);
        due.is("law 1 of who has none below", x.net(4, 1, 3), 0);
        int[][] bad = {{6, 0, 0}, {-1, 0, 0}, {0, -1, 0}, {0, 2, 0}, {0, 0, -1}, {0, 0, 1000}};
        for (int[] b : bad) due.is("net, bad", x.net(b[0], b[1], b[2]), -2);
    }

    private static void oweds() {
        SonsPurse x = Due.persons(1);
        Due.notes(x, new int[][] {{3, 4, 0, 0, 100}, {4, 13, 0, 0, 30}, {4, 4, 0, 1, 8}});
        due.is("owed(0, 2)", x.owed(0, 2), -3);
        due.is("owed(0, 3)", x.owed(0, 3), 100);
        due.is("owed(0, 4)", x.owed(0, 4), 70);
        due.is("owed(1, 4)", x.owed(1, 4), 8);
        due.is("owed(2, 4)", x.owed(2, 4), -2);
        due.is("owed(-1, 4)", x.owed(-1, 4), -2);
        due.is("owed(0, -1): BAD ahead of NO", x.owed(0, -1), -2);
        due.is("owed(0, 1000)", x.owed(0, 1000), -2);
    }

    private static void answerers() {
        SonsPurse x = Due.persons(4);
        Due.notes(x, new int[][] {{0, 4, 1, 0, 100}, {1, 0, 1, 0, 0}, {2, 0, 1, 2, 0}, {3, 14, 1, 0, 0}, {4, 0, 1, -1, 0}, {5, 0, 1, 3, 0},
            {6, 14, 1, 1, 0}, {7, 0, 1, 0, 0}, {8, 0, 1, -1, 0}});
        int[] who = {-1, 0, 2, 2, -1, 3, 3, 0, -1};
        for (int day = 0; day < who.length; day++) due.is("answers(0, " + day + ")", x.answers(0, day), who[day]);
        x.note(9, 4, 2, 0, 1);
        due.is("answers(1, 8)", x.answers(1, 8), -20);
        due.is("answers(2, 8)", x.answers(2, 8), -10);
        due.is("answers(-1, 8)", x.answers(-1, 8), -10);
        due.is("answers(0, 1000)", x.answers(0, 1000), -10);
        due.is("answers(0, -1)", x.answers(0, -1), -10);
    }

    private static void ask(SonsPurse x, int deal, int ask, int day, long above, long below) {
        String call = "ask(" + deal + ", " + ask + ", " + day + ")";
        due.is(call, x.ask(deal, ask, day), 1);
        due.fraction(call, x, above, below);
    }

    private static void wholes() {
        SonsPurse x = Due.persons(2);
        Due.notes(x, new int[][] {{0, 0, 1, 0, 0}, {1, 4, 1, 0, 10}, {1, 6, 1, 0, 0}, {1, 4, 1, 0, 20}, {1, 4, 1, 1, 30}, {1, 7, 1, 0, 0},
            {1, 4, 1, 0, 40}, {2, 5, 0, 0, 0}, {3, 13, 0, 0, 4}, {4, 14, 1, 2, 0}, {5, 0, 1, -1, 0}});
        ask(x, 0, 0, 1, 0, 1);
        ask(x, 0, 0, 2, 10, 1);
        ask(x, 0, 0, 3, 6, 1);
        ask(x, 1, 0, 1, 20, 1);
        ask(x, 2, 0, 1, 0, 1);
        ask(x, 3, 0, 1, 0, 1);
        ask(x, 1, 0, 4, 20, 1);
        ask(x, 1, 0, 5, 0, 1);
        due.is("ask of no deal", x.ask(4, 0, 5), -2);
        due.is("ask(-1, ..)", x.ask(-1, 0, 5), -2);
        due.is("ask(0, -1, ..)", x.ask(0, -1, 5), -2);
        due.is("ask(0, 4, ..)", x.ask(0, 4, 5), -2);
        due.is("ask(0, 0, 0)", x.ask(0, 0, 0), -3);
        due.is("ask(0, 0, 1000)", x.ask(0, 0, 1000), -2);
        due.is("ask(0, 4, 0): BAD ahead of NO", x.ask(0, 4, 0), -2);
    }

    private static void turned() {
        SonsPurse x = Due.persons(2);
        Due.notes(x, new int[][] {{0, 0, 1, 0, 0}, {0, 4, 1, 0, 100}, {1, 9, 0, 0, 30}, {1, 9, 0, 0, 50}, {2, 10, 0, 0, 10}, {2, 10, 0, 0, 20}, {3, 13, 0, 0, 70}, {4, 0, 1, -1, 0}});
        ask(x, 0, 1, 0, 0, 1);
        ask(x, 0, 1, 1, 80, 1);
        ask(x, 0, 1, 2, 50, 1);
        ask(x, 0, 1, 3, 30, 1);
        ask(x, 0, 1, 4, 0, 1);
    }

    private static void purseAsks() {
        SonsPurse x = Due.persons(2);
        Due.notes(x, new int[][] {{0, 0, 1, 0, 0}, {0, 1, 1, 0, 50}, {0, 1, 1, 1, 60}, {1, 3, 1, 0, 20}, {1, 4, 1, 2, 100}, {1, 3, 1, 1, 15},
            {2, 4, 1, 2, 100}, {3, 11, 1, 0, 10}, {4, 13, 0, 0, 35}, {5, 14, 1, 1, 0}, {366, 0, 1, 0, 0}, {370, 14, 1, 2, 0}});
        ask(x, 0, 2, 2, 90, 1);
        ask(x, 1, 2, 2, 75, 1);
        ask(x, 0, 2, 3, 80, 1);
        ask(x, 0, 2, 4, 65, 1);
        ask(x, 1, 2, 4, 65, 1);
        ask(x, 1, 2, 5, 75, 1);
        ask(x, 1, 2, 365, 75, 1);
        ask(x, 1, 2, 366, 65, 1);
        ask(x, 1, 2, 370, 0, 1);
        Due.write(x, 0, "h");
        ask(x, 0, 2, 2, 15, 1);
        SonsPurse y = Due.persons(2);
        Due.notes(y, new int[][] {{0, 0, 1, 0, 0}, {0, 1, 1, 0, 50}, {0, 4, 1, 2, 100}, {5, 14, 1, 0, 0}});
        ask(y, 0, 2, 365, 50, 1);
        ask(y, 0, 2, 366, 0, 1);
        due.is("he answers on", y.answers(0, 999), 0);
    }

    private static void shares() {
        SonsPurse x = Due.persons(2);
        Due.notes(x, new int[][] {{0, 0, 1, 0, 0}, {0, 1, 1, 0, 50}, {0, 1, 1, 1, 999}, {1, 4, 1, 0, 100}, {1, 8, 1, 0, 0}, {1, 4, 1, 0, 60},
            {1, 4, 1, 1, 60}, {2, 11, 1, 0, 40}, {3, 13, 0, 0, 100}, {4, 13, 1, 0, 60}, {5, 14, 1, 2, 0}, {6, 0, 1, -1, 0}});
        ask(x, 0, 3, 1, 0, 1);
        ask(x, 1, 3, 1, 75, 4);
        ask(x, 2, 3, 1, 0, 1);
        ask(x, 1, 3, 2, 15, 1);
        ask(x, 1, 3, 3, 30, 1);
        ask(x, 1, 3, 4, 0, 1);
        SonsPurse y = Due.persons(2);
        Due.notes(y, new int[][] {{0, 0, 1, 0, 0}, {0, 8, 1, 2, 0}, {0, 1, 1, 2, 500}, {1, 4, 1, 2, 100}, {1, 4, 1, 2, 300}, {5, 14, 1, 2, 0},
            {6, 0, 1, -1, 0}});
        ask(y, 0, 3, 1, 100, 1);
        ask(y, 0, 3, 5, 100, 1);
        ask(y, 0, 3, 6, 0, 1);
    }

    private static void bests() {
        SonsPurse x = Due.persons(2);
        Due.notes(x, new int[][] {{0, 0, 1, 0, 0}, {1, 8, 1, 0, 0}, {1, 4, 1, 0, 100}, {2, 9, 0, 0, 30}, {3, 1, 1, 0, 30}, {4, 1, 1, 0, 1},
            {5, 11, 1, 0, 20}, {6, 2, 1, 0, 15}, {6, 10, 0, 0, 29}, {7, 5, 0, 0, 0}, {8, 13, 0, 0, 100}});
        int[] best = {-20, -1, 1, 1, 2, 1, 3, 0, -1};
        for (int day = 0; day < best.length; day++) due.is("best(0, " + day + ")", x.best(0, day), best[day]);
        due.is("best(1, 8)", x.best(1, 8), -10);
        due.is("best(-1, 8)", x.best(-1, 8), -10);
        due.is("best(0, 1000)", x.best(0, 1000), -10);
        due.is("best(0, -1)", x.best(0, -1), -10);
    }

    private static void wise() {
        SonsPurse x = Due.persons(2);
        Due.notes(x, new int[][] {{0, 0, 1, 0, 0}, {1, 1, 1, 0, 100}, {1, 11, 1, 0, 40}});
        due.is("there is enough", x.wise(1, 60, 1), 0);
        due.is("one more", x.wise(1, 61, 1), 1);
        due.is("2000 more", x.wise(1, 2060, 1), 2000);
        due.is("2001 more", x.wise(1, 2061, 1), -1);
        Due.write(x, 0, "g*(g<500)");
        due.is("least, though 2000 do not do", x.wise(1, 200, 1), 100);
        due.is("none does", x.wise(1, 500, 1), -1);
        Due.write(x, 0, "g*1000");
        due.is("1000000", x.wise(1, 1000000, 1), 900);
        due.is("1000001", x.wise(1, 1000001, 1), -10);
        int[][] bad = {{2, 1, 1}, {-1, 1, 1}, {1, 0, 1}, {1, -5, 1}, {1, 1, -1}, {1, 1, 1000}};
        for (int[] b : bad) due.is("wise, bad", x.wise(b[0], b[1], b[2]), -10);
    }

    private static void sure(SonsPurse x, int ask, int day, long least, long most, int bits) {
        String call = "sure(0, " + ask + ", .., " + day + ")";
        due.is(call, x.sure(0, ask, 0, day), 1);
        due.fraction(call + " least", x, least, 1);
        due.is(call, x.sure(0, ask, 1, day), 1);
        due.fraction(call + " most", x, most, 1);
        due.is("hangs(0, " + ask + ", " + day + ")", x.hangs(0, ask, day), bits);
    }

    private static void sures() {
        SonsPurse x = Due.persons(2);
        Due.notes(x, new int[][] {{0, 0, 1, 0, 0}, {0, 1, 1, 0, 50}, {0, 6, 1, 0, 0}, {1, 4, 1, 0, 100}, {2, 5, 0, 0, 0}, {3, 13, 0, 0, 30},
            {4, 1, 1, 1, 40}});
        sure(x, 0, 1, 100, 100, 0);
        x.doubt(5, true);
        x.doubt(2, true);
        x.doubt(4, true);
        x.doubt(6, true);
        x.doubt(1, true);
        sure(x, 0, 1, 0, 100, 2);
        sure(x, 0, 2, 0, 100, 6);
        sure(x, 0, 3, 0, 100, 14);
        sure(x, 2, 4, 0, 90, 25);
        sure(x, 1, 4, 0, 0, 0);
        int[][] bad = {{1, 0, 0, 4}, {-1, 0, 0, 4}, {0, -1, 0, 4}, {0, 4, 0, 4}, {0, 0, -1, 4}, {0, 0, 2, 4}, {0, 0, 0, -1}, {0, 0, 0, 1000}};
        for (int[] b : bad) due.is("sure, bad", x.sure(b[0], b[1], b[2], b[3]), -2);
        for (int[] b : bad) if (b[2] == 0) due.is("hangs, bad", x.hangs(b[0], b[1], b[3]), -2);
        due.is("sure too early", x.sure(0, 0, 0, 0), -3);
        due.is("hangs too early", x.hangs(0, 0, 0), -3);
    }

    /** Nothing falls below 0 where what it was taken from is not so. */
    private static void notSo() {
        SonsPurse x = Due.persons(2);
        Due.notes(x, new int[][] {{0, 0, 1, 0, 0}, {0, 1, 1, 0, 50}, {0, 1, 1, 1, 10}, {1, 2, 1, 0, 50}, {1, 4, 1, 2, 100}, {1, 9, 0, 0, 20},
            {1, 10, 0, 0, 20}, {1, 11, 1, 0, 9}, {1, 12, 1, 0, 9}});
        x.doubt(1, true);
        sure(x, 2, 1, 10, 10, 0);
        x.doubt(1, false);
        x.doubt(5, true);
        sure(x, 1, 1, 0, 0, 0);
        x.doubt(7, true);
        sure(x, 2, 1, 10, 10, 0);
        due.is("a doubted note is so elsewhere", x.in(1, 0, 0), 50);
    }

    private static void parteds() {
        SonsPurse x = Due.persons(3);
        Due.notes(x, new int[][] {{0, 0, 1, 0, 0}, {0, 0, 2, 1, 0}, {0, 1, 1, 0, 50}, {0, 1, 2, 0, 20}, {1, 4, 1, 0, 10}, {1, 4, 0, 0, 900},
            {2, 4, 1, 0, 60}, {3, 4, 2, 0, 900}});
        due.is("like laws", x.parted(3), -1);
        Due.write(x, 1, "g");
        due.is("parted(1)", x.parted(1), -1);
        due.is("parted(2)", x.parted(2), 2);
        Due.write(x, 1, "g+s*2");
        due.is("not seen where the deal is less", x.parted(2), -1);
        Due.write(x, 1, "g*2");
        due.is("of another", x.parted(3), 3);
        Due.write(x, 0, "9");
        due.is("the first of them", x.parted(3), 0);
        due.is("parted(0)", x.parted(0), -1);
        due.is("parted(-1)", x.parted(-1), -10);
        due.is("parted(1000)", x.parted(1000), -10);
    }
}
