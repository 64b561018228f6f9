/** Promises 5 to 10: THE TEXT and the laws. */
public final class TextsTest {
    private static final Due due = new Due();

    public static void main(String[] args) {
        types();
        everyVerb();
        flaws();
        refusals();
        writes();
        faults();
        values();
        due.end();
    }

    private static void types() {
        SonsPurse x = Due.persons(2);
        due.is("type(.., 0)", x.type(1, 0), -2);
        due.is("type(.., 9)", x.type(1, 9), -2);
        due.is("type(.., -1)", x.type(1, -1), -2);
        // "x y z;" behind a byte that is not typed: the lowest n, the highest first
        due.is("type, 7", x.type(0x2130206f72646572L, 7), 7);
        due.is("type, 3", x.type(-1L << 24 | 0x20303bL, 3), 10);
        due.is("read(): DEAL 0 is not there", x.read(), -1000);
        due.is("clear()", x.clear(), 10);
        due.is("clear() again", x.clear(), 0);
        due.is("a byte of -1 begins no token", x.type(-1, 1), 1);
        due.is("read()", x.read(), -10);
        x.clear();
        for (int k = 1; k <= 37; k++) due.is("type, 8", x.type(0x2020202020202020L, 8), 8 * k);
        due.is("type, 5: more than 300", x.type(0, 5), -4);
        due.is("BAD ahead of FULL", x.type(0, 9), -2);
        due.is("type, 4: 300", x.type(0x20202020, 4), 300);
        due.is("type, 1: 301", x.type(0, 1), -4);
        due.is("300 blanks", x.read(), 0);
        due.is("count(5)", x.count(5), 0);
    }

    private static void everyVerb() {
        SonsPurse x = Due.persons(3);
        Due.type(x, "1hand 1 0;1 hand 2 - ;  2 give 1 3 1000;2 take 1 3 1;2 hide 1 3 2;0002 deal 1 2 0050;2 order 0;");
        Due.type(x, "3 post 1 0;3 unpost 1 0;3 know 1 0;3 use 0 9;3 lose 0 8;4 owe 1 2 7;4 settle 1 2 6;4 pay 0 5;5 end 1 2;");
        due.is("read()", x.read(), 16);
        int[][] told = {{1, 0, 1, 0, 0}, {1, 0, 2, -1, 0}, {2, 1, 1, 3, 1000}, {2, 2, 1, 3, 1}, {2, 3, 1, 3, 2}, {2, 4, 1, 2, 50},
            {2, 5, 0, 0, 0}, {3, 6, 1, 0, 0}, {3, 7, 1, 0, 0}, {3, 8, 1, 0, 0}, {3, 9, 0, 0, 9}, {3, 10, 0, 0, 8}, {4, 11, 1, 2, 7},
            {4, 12, 1, 2, 6}, {4, 13, 0, 0, 5}, {5, 14, 1, 2, 0}};
        for (int n = 0; n < told.length; n++) {
            for (int k = 0; k < 5; k++) due.is("told(" + n + ", " + k + ")", x.told(n, k), told[n][k]);
        }
        due.is("the text is empty then", x.count(5), 0);
    }

    /** Where a text's first flaw is; its length, where it ends too early. */
    private static void flaws() {
        String[] texts = {"hand 1 0;", "1 1 0;", "1 hund 1 0;", "1 hands 1 0;", "1 hand - 0;", "1 hand 1 0 0;", "1 hand 1;", "1 give 1 - 5;",
            "1 order 0 0;", "1 hand 1 12345;", "12345 hand 1 0;", "1 hand 1 0;;", "1 hand 1 0; x", "1 Hand 1 0;", "1 hand 1 0,", "1 hand 1 --;",
            "1 hand 1 -0;", "1 hand 1", "1 hand 1 0", "1 hand 1 0 ", "1", "1 ", "1 hand", "1 han", "-", "1 hand 1\t0;", "1 hand hand 0;",
            "1 use 0 1;2 use 0;", "1 hand 1 0;2 end 1 0;9"};
        int[] places = {0, 2, 2, 2, 7, 11, 8, 9, 10, 9, 0, 11, 12, 2, 10, 10, 10, 8, 10, 11, 1, 2, 6, 2, 0, 8, 7, 17, 22};
        for (int k = 0; k < texts.length; k++) {
            SonsPurse x = Due.persons(2);
            Due.type(x, texts[k]);
            long before = x.digest();
            due.is("read() of \"" + texts[k] + "\"", x.read(), -10 - places[k]);
            due.is("nothing changes", x.digest(), before);
            due.is("the text stays", x.count(5), texts[k].length());
        }
    }

    private static void refusals() {
        String[] texts = {"0 hand 1 0;0 hand 0 1;", "1000 hand 1 0;", "1 hand 1 0;0 end 1 0;", "0 give 1 0 0;", "0 give 1 0 5;0 hide 1 0 6;",
            "0 owe 1 1 1;", "0 deal 1 0 9;0 order 0;0 order 1;", "0 hand 9999 0;"};
        int[] items = {1, 0, 1, 0, 1, 0, 2, 0};
        for (int k = 0; k < texts.length; k++) {
            SonsPurse x = Due.persons(2);
            Due.type(x, texts[k]);
            long before = x.digest();
            due.is("read() of \"" + texts[k] + "\"", x.read(), -1000 - items[k]);
            due.is("none of them comes", x.digest(), before);
            due.is("the text stays", x.count(5), texts[k].length());
        }
        SonsPurse x = Due.persons(1);
        for (int k = 0; k < 58; k++) x.note(0, 4, 0, 0, 1);
        Due.type(x, "0 give 0 0 1;0 deal 0 0 2;0 give 0 0 3;");
        due.is("the third is too many", x.read(), -1002);
        due.is("count(2): its deal is gone, too", x.count(2), 58);
        x.clear();
        Due.type(x, "0 give 0 0 1;0 deal 0 0 2;");
        due.is("two are not", x.read(), 2);
        due.is("count(1)", x.count(1), 60);
        Due.type(x, "0 deal 0 0 2;0 deel 0 0 3;");
        due.is("FAULT ahead of a refusal", x.read(), -10 - 15);
    }

    private static void writes() {
        SonsPurse x = new SonsPurse();
        for (int k = 1; k <= 50; k++) due.is("write(1, ..)", x.write(1, k), k);
        due.is("write too many", x.write(1, 1), -4);
        due.is("write(1, 128): BAD ahead of FULL", x.write(1, 128), -2);
        due.is("write(0, -1)", x.write(0, -1), -2);
        due.is("write(0, 127)", x.write(0, 127), 1);
        due.is("write(-1, 1)", x.write(-1, 1), -2);
        due.is("write(2, 1)", x.write(2, 1), -2);
        due.is("erase(1)", x.erase(1), 50);
        due.is("erase(1) again", x.erase(1), 0);
        due.is("the other is as it was", x.erase(0), 1);
        due.is("erase(-1)", x.erase(-1), -2);
        due.is("erase(2)", x.erase(2), -2);
        due.is("fault(-1)", x.fault(-1), -2);
        due.is("fault(2)", x.fault(2), -2);
    }

    private static void faults() {
        String[] texts = {"", "  ", "g", " g ", "g+", "g+ ", "+g", "g g", "1 2", "123456", "1234567", "g+1234567", "0000001", "123456 7", "()",
            "(g", "g)", "((((((((g))))))))", "(((((((((g)))))))))", "1(((((((((", "(((((((( (", "1<2<3", "(1<2)<3", "1<2&3=4|5>6", "1|", "|1",
            "1&&1", "!!--g", "!", "-", "g!s", "2*-3", "2--3", "2**3", "2/ /3", "G", "x", "g%", "g\t", "g=", "g==s", "g<=s", "(g+s", "(g s)", "1.5"};
        int[] due1 = {1, 21, -1, -1, 21, 31, 1, 21, 21, -1, 2, 22, 2, 71, 11, 21, 11, -1, 83, 11, 93, 31, -1, -1, 21, 1,
            21, -1, 11, 11, 11, -1, -1, 21, 31, 1, 1, 11, 11, 21, 21, 21, 41, 31, 11};
        SonsPurse x = new SonsPurse();
        int calls = 0;
        for (int k = 0; k < texts.length; k++) {
            if (calls > 400) {
                x = new SonsPurse();
                calls = 0;
            }
            Due.write(x, k % 2, texts[k]);
            due.is("fault of \"" + texts[k] + "\"", x.fault(k % 2), due1[k]);
            calls += texts[k].length() + 2;
        }
    }

    /** A person of 300 in his purse, 20 below him, who owes 7 and 5, by many laws. */
    private static void values() {
        String[] texts = {"g", "s", "o", "w", "h", "g-s*2", "g/7", "-g/7+100", "0-g", "g/h", "g/(o-7)+3", "1000001", "999999+1", "g*5000", "2+3*4",
            "(2+3)*4", "20-5-4", "100/5/2", "7|0", "0|0", "7&9", "7&0", "(7&0)|5", "g=300", "g<300", "g>299", "!g", "!0", "!!5", "--5", "-!0+3",
            "1+1=2&s", "(g)", " g + s ", "g+", "", "0&0|1", "1|0&0", "2+!o+5", "999999*999999*999999*999999*2", "g>0*5+295", "-7/2+10", "5-(0-7)/2", "1&1&0", "0|0|1", "9-3-2-1", "96/2/2/3"};
        int[] nets = {300, 20, 7, 5, 0, 260, 42, 58, 0, 0, 3, 308, 1000000, 1000000, 14, 20, 11, 10, 1, 0, 1, 0, 1, 1, 0, 1, 0, 1, 1, 5, 2, 1,
            300, 320, 308, 308, 1, 1, 7, 0, 1, 7, 8, 0, 1, 3, 8};
        for (int k = 0; k < texts.length; k++) {
            SonsPurse x = Due.persons(4);
            Due.notes(x, new int[][] {{0, 0, 1, 0, 0}, {0, 0, 2, 0, 0}, {0, 0, 3, 1, 0}, {0, 1, 1, 0, 300}, {0, 1, 3, 0, 20}, {0, 11, 1, 0, 7},
                {0, 11, 1, 2, 5}, {0, 11, 1, 3, 99}});
            Due.write(x, 1, texts[k]);
            long want = nets[k];
            if (texts[k].startsWith("999999*")) want = Math.max(0, Math.min(1000000, 999999L * 999999 * 999999 * 999999 * 2));
            due.is("net by \"" + texts[k] + "\"", x.net(1, 1, 0), want);
        }
    }
}
