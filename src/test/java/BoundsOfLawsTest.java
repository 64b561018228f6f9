/** Promises 8 to 10, and what a law tells (14), at their bounds. What the document says stands ahead of each test. */
public final class BoundsOfLawsTest extends Kinds {
    private static final Due due = new Due();

    public static void main(String[] args) {
        lawsAndCharacters();
        fiftyCharacters();
        erases();
        faultOfNoLaw();
        emptyLaws();
        firstCharacters();
        charactersBehindAUnit();
        charactersBehindASign();
        charactersBehindDigits();
        charactersInBrackets();
        oneComparisonAlone();
        tooEarly();
        seventhDigit();
        ninthBracket();
        firstFault();
        blanks();
        mended();
        whatWasThereIsGone();
        netIsBrought();
        faultyNet();
        secondMoreThanNet();
        longsWrap();
        cutTowardZero();
        byZero();
        truths();
        oneAlone();
        numbers();
        units();
        theLawIsLaw0();
        due.end();
    }

    private static SonsPurse written(String text) {
        SonsPurse x = new SonsPurse();
        Due.write(x, 1, text);
        return x;
    }

    private static void fault(String text, int want) {
        due.is("fault of \"" + text + "\"", written(text).fault(1), want);
    }

    /** What a law without letters tells. */
    private static void tells(String text, int want) {
        SonsPurse x = written(text);
        x.person();
        due.is("fault of \"" + text + "\"", x.fault(1), NONE);
        due.is("net by \"" + text + "\"", x.net(0, 1, 0), want);
    }

    /** "LAWS 0, 1"; "A character (0 .. 127) behind a LAW: how many." */
    private static void lawsAndCharacters() {
        SonsPurse x = new SonsPurse();
        due.refuses("write to no law", x, BAD, () -> x.write(-1, 'g'), () -> x.write(2, 'g'), () -> x.write(MIN, 'g'), () -> x.write(MAX, 'g'));
        due.refuses("write of no character", x, BAD, () -> x.write(0, -1), () -> x.write(1, 128), () -> x.write(0, MIN), () -> x.write(1, MAX));
        due.is("write(0, 0)", x.write(0, 0), 1);
        due.is("write(0, 127)", x.write(0, 127), 2);
        due.is("write(1, 127)", x.write(1, 127), 1);
        due.is("write(1, 0)", x.write(1, 0), 2);
    }

    /** "texts of 50 characters at most" "FULL: 50." BAD ahead of it. */
    private static void fiftyCharacters() {
        for (int law = 0; law < 2; law++) {
            SonsPurse x = new SonsPurse();
            int full = law;
            for (int k = 1; k <= 50; k++) due.is("write", x.write(law, k < 50 ? ' ' : 'g'), k);
            due.refuses("write of a 51st", x, FULL, () -> x.write(full, ' '), () -> x.write(full, '+'));
            due.refuses("BAD ahead of FULL", x, BAD, () -> x.write(full, 128), () -> x.write(full, -1), () -> x.write(2, ' '));
            due.is("fault", x.fault(law), NONE);
            due.is("the other one", x.write(1 - law, 'g'), 1);
            due.is("erase", x.erase(law), 50);
            due.is("write", x.write(law, 'g'), 1);
        }
    }

    /** "It is empty: how many. BAD." */
    private static void erases() {
        SonsPurse x = written("g+s");
        Due.write(x, 0, "g");
        due.refuses("erase of no law", x, BAD, () -> x.erase(-1), () -> x.erase(2), () -> x.erase(MIN), () -> x.erase(MAX));
        due.is("erase(1)", x.erase(1), 3);
        due.is("erase(1)", x.erase(1), 0);
        due.is("fault(1)", x.fault(1), 1);
        due.is("erase(0)", x.erase(0), 1);
    }

    /** "FAULT of a LAW (..). NONE. BAD." */
    private static void faultOfNoLaw() {
        SonsPurse x = written("g");
        due.refuses("fault of no law", x, BAD, () -> x.fault(-1), () -> x.fault(2), () -> x.fault(MIN), () -> x.fault(MAX));
        due.is("fault(0)", x.fault(0), 1);
        due.is("fault(1)", x.fault(1), NONE);
    }

    /** "(of an empty one 1)"; blanks alone end too early at their length. */
    private static void emptyLaws() {
        fault("", 1);
        fault(" ", 11);
        fault(" ".repeat(50), 501);
    }

    /** The first character: digits and letters stand; ( ! - stand, but end too early; nothing else. */
    private static void firstCharacters() {
        for (char c = 0; c < 128; c++) {
            int want = "0123456789gsowh".indexOf(c) >= 0 ? NONE : "(!- ".indexOf(c) >= 0 ? 11 : 1;
            fault("" + c, want);
        }
    }

    /** Behind a UNIT: signs stand, but end too early; a blank; nothing else. */
    private static void charactersBehindAUnit() {
        for (char c = 0; c < 128; c++) {
            int want = "|&<>=+-*/".indexOf(c) >= 0 ? 21 : c == ' ' ? NONE : 11;
            fault("g" + c, want);
            fault("5 " + c, want == NONE ? NONE : want + 10);
            fault("(s)" + c, want == NONE ? NONE : want + 20);
        }
    }

    /** Behind a sign: as at first. */
    private static void charactersBehindASign() {
        for (char sign : "|&<>=+-*/!(".toCharArray()) {
            String ahead = sign == '!' || sign == '(' ? "1+" + sign : "g" + sign;
            int place = 10 * ahead.length();
            for (char c = 0; c < 128; c++) {
                int want = "0123456789gsowh".indexOf(c) >= 0 ? sign == '(' ? place + 11 : NONE : "(!- ".indexOf(c) >= 0 ? place + 11 : place + 1;
                fault(ahead + c, want);
            }
        }
    }

    /** Behind a digit: one more digit stands, too. */
    private static void charactersBehindDigits() {
        for (char c = 0; c < 128; c++) {
            int want = "|&<>=+-*/".indexOf(c) >= 0 ? 21 : c == ' ' || c >= '0' && c <= '9' ? NONE : 11;
            fault("7" + c, want);
        }
    }

    /** "( VALUE )": ) stands behind a VALUE where one is open, once for each. */
    private static void charactersInBrackets() {
        for (char c = 0; c < 128; c++) {
            int want = "|&<>=+-*/ ".indexOf(c) >= 0 ? 31 : c == ')' ? NONE : 21;
            fault("(g" + c, want);
        }
        fault("(g))", 31);
        fault("((g)", 41);
        fault("((g))", NONE);
        fault("(g<s|o&w=h)", NONE);
        fault("()", 11);
        fault(")", 1);
    }

    /** "HELD: SUM, or SUM < SUM, SUM > SUM, SUM = SUM": one of them; more only in brackets or beyond & and |. */
    private static void oneComparisonAlone() {
        for (char one : "<>=".toCharArray()) {
            for (char two : "<>=".toCharArray()) {
                fault("g" + one + "s" + two + "1", 31);
                fault("g" + one + two, 21);
                fault("(g" + one + "s" + two + "1)", 41);
                fault("(g" + one + "s)" + two + "1", NONE);
                fault("g" + one + "(s" + two + "1)", NONE);
                fault("g" + one + "s&o" + two + "1", NONE);
                fault("g" + one + "s|o" + two + "1", NONE);
            }
        }
    }

    /** "(its length: too early) and 1" */
    private static void tooEarly() {
        for (char sign : "|&<>=+-*/".toCharArray()) {
            fault("g" + sign, 21);
            fault("g" + sign + "   ", 51);
            fault("g " + sign + " ", 41);
        }
        fault("!", 11);
        fault("-", 11);
        fault("(", 11);
        fault("(g", 21);
        fault("(g ", 31);
        fault(" ".repeat(49) + "-", 501);
        fault(" ".repeat(49) + "x", 491);
        fault(" ".repeat(49) + "g", NONE);
    }

    /** "digits (1 .. 6)"; "2: a seventh digit (at the first)". */
    private static void seventhDigit() {
        fault("1", NONE);
        fault("123456", NONE);
        fault("000000", NONE);
        fault("1234567", 2);
        fault("0000000", 2);
        fault("12345678", 2);
        fault("9".repeat(50), 2);
        fault("  1234567", 22);
        fault("g+1234567", 22);
        fault("g+(1234567", 32);
        fault("-!1234567", 22);
        fault("123456+1234567+1", 72);
        fault("1234567+", 2);
        fault("1234567x", 2);
        fault("123456 7", 71);
        fault("g 1234567", 21);
    }

    /** "3: the 9th ( open": eight may be open at once, and more of them one behind the other. */
    private static void ninthBracket() {
        fault("(".repeat(8) + "g" + ")".repeat(8), NONE);
        fault("(".repeat(9) + "g" + ")".repeat(9), 83);
        fault("(".repeat(9), 83);
        fault("(".repeat(8), 81);
        fault("(".repeat(50), 83);
        fault("!(".repeat(9), 173);
        fault("-(".repeat(8) + "g" + ")".repeat(8), NONE);
        fault("(".repeat(8) + " (g", 93);
        fault("1+(".repeat(9), 263);
        fault("(g)+(g)+(g)+(g)+(g)+(g)+(g)+(g)+(g)+(g)", NONE);
        fault("(".repeat(8) + "g)+(g" + ")".repeat(8), NONE);
        fault("(".repeat(8) + "g)+((g" + ")".repeat(8), 123);
        fault("(".repeat(8) + "g(", 91);
    }

    /** "the first character that can not stand there": of two faults the first. */
    private static void firstFault() {
        fault("x1234567", 1);
        fault("1234567(((((((((", 2);
        fault("(((((((((1234567", 83);
        fault("g++x", 21);
        fault("g<s<1234567", 31);
        fault("(g x)", 31);
        fault("g)1234567", 11);
    }

    /** "blanks anywhere but within digits" */
    private static void blanks() {
        fault(" g < s | ! ( - h ) & o = w * 7 / 9 ", NONE);
        fault("1 2", 21);
        fault("12 + 1 2", 71);
        fault("- - ! ! g", NONE);
        tells("  7  -  2  ", 5);
        tells("12  ", 12);
    }

    /** A law's FAULT is told anew with each character, and by its whole text. */
    private static void mended() {
        SonsPurse x = new SonsPurse();
        int[] faults = {NONE, 21, 31, 41, NONE, 61, 71};
        String text = "g+(s)-(";
        for (int k = 0; k < text.length(); k++) {
            x.write(0, text.charAt(k));
            due.is("fault of " + text.substring(0, k + 1), x.fault(0), faults[k]);
        }
        x.erase(0);
        due.is("of none", x.fault(0), 1);
        x.write(0, 'g');
        due.is("of g", x.fault(0), NONE);
    }

    /** "It is empty": nothing of what it had is seen behind a shorter one. */
    private static void whatWasThereIsGone() {
        String text = "(12 + !-3) * 456/(g<s)|o&w=h-1";
        for (int cut = 0; cut < text.length(); cut++) {
            String ahead = text.substring(0, cut);
            SonsPurse x = written(text);
            x.person();
            due.is("fault", x.fault(1), NONE);
            due.is("erase", x.erase(1), text.length());
            Due.write(x, 1, ahead);
            SonsPurse fresh = written(ahead);
            fresh.person();
            due.is("fault of \"" + ahead + "\"", x.fault(1), fresh.fault(1));
            due.is("net by \"" + ahead + "\"", x.net(0, 1, 0), fresh.net(0, 1, 0));
            due.is("digest", x.digest(), fresh.digest());
        }
        SonsPurse y = written("1+1");
        y.erase(1);
        y.person();
        Due.write(y, 1, "7");
        due.is("net by 7", y.net(0, 1, 0), 7);
    }

    /** "NET: what it tells, brought to 0 .. 1000000" */
    private static void netIsBrought() {
        tells("0", 0);
        tells("1", 1);
        tells("-1", 0);
        tells("0-999999", 0);
        tells("999999", 999999);
        tells("999999+1", 1000000);
        tells("999999+2", 1000000);
        tells("1000*1000", 1000000);
        tells("999999*999999", 1000000);
        tells("65536*65536", 1000000);
        tells("65536*65536+5", 1000000);
        tells("0-65536*65536", 0);
    }

    /** A man 0 with three sons; son 1 has 20, owes his father 7, his brother 5, and hid 100 of 120 behind DEAL 0. */
    private static SonsPurse sons() {
        SonsPurse x = Due.persons(5);
        due.comes(x, new int[][] {{0, HAND, 1, 0, 0}, {0, HAND, 2, 0, 0}, {0, HAND, 3, 0, 0}, {0, HAND, 4, 1, 0}, {0, GIVE, 1, 0, 120},
            {0, GIVE, 4, 1, 3}, {0, DEAL, 1, 0, 1000}, {0, HIDE, 1, 0, 100}, {0, OWE, 1, 0, 7}, {0, OWE, 1, 2, 5}});
        return x;
    }

    private static void asks(String text, int net, int asked) {
        SonsPurse x = sons();
        Due.write(x, 0, text);
        due.is("net by \"" + text + "\"", x.net(1, 0, 0), net);
        x.ask(0, PURSE, 0);
        due.fraction("ask by \"" + text + "\"", x, asked, 1);
    }

    /** "with a FAULT (empty: too) g and s less o and w, and h" */
    private static void faultyNet() {
        for (String text : new String[] {"", " ", "g+", "x", "1234567", "(((((((((1", "g<s<o"}) asks(text, 20 + 3 - 7 - 5, 111);
        SonsPurse x = sons();
        due.comes(x, new int[][] {{1, OWE, 1, 2, 11}});
        due.is("nothing is left", x.net(1, 0, 1), 0);
        due.comes(x, new int[][] {{2, OWE, 1, 2, 1}});
        due.is("less than nothing is 0", x.net(1, 0, 2), 0);
        due.comes(x, new int[][] {{3, SETTLE, 1, 2, 2}});
        due.is("one more is 1", x.net(1, 0, 3), 1);
    }

    /** NET is brought to 1000000 with a FAULT, too: SECOND may be more. */
    private static void secondMoreThanNet() {
        SonsPurse x = sons();
        Due.write(x, 0, "999999+2");
        due.is("SECOND of three", x.own(0, 0, 0), 3000000);
        due.is("by an empty law", x.net(0, 1, 0), 1000000);
        due.is("SECOND of one", x.own(1, 0, 0), 1000000);
        Due.write(x, 1, "s-999999");
        due.is("it is told to the law whole", x.net(0, 1, 0), 1000000);
        Due.write(x, 1, "s/3-999999");
        due.is("3000000 by 3", x.net(0, 1, 0), 1);
    }

    /** "longs wrap" */
    private static void longsWrap() {
        String least = "524288*524288*524288*64";
        tells(least, 0);
        tells(least + "-1", 1000000);
        tells(least + "*2", 0);
        tells(least + "*2+9", 9);
        tells("-(" + least + ")<0", 1);
        tells(least + "/-1<0", 1);
        tells(least + "-1>0", 1);
        tells(least + "-1+1<0", 1);
        tells("524288*524288*524288*32>0", 1);
        tells("999999*999999*999999*999999<0", 1);
        tells("999999*999999*999999*999999*999999>0", 1);
        tells("999999*999999*999999*999999/999999=999999", 0);
    }

    /** "/ cut toward 0" */
    private static void cutTowardZero() {
        tells("7/2", 3);
        tells("-7/2+10", 7);
        tells("7/-2+10", 7);
        tells("-7/-2", 3);
        tells("-1/2+10", 10);
        tells("1/2", 0);
        tells("6/7*7", 0);
    }

    /** "by 0 is 0" */
    private static void byZero() {
        tells("7/0", 0);
        tells("7/0+5", 5);
        tells("0/0+1", 1);
        tells("7/(3-3)+2", 2);
        tells("-7/0+1", 1);
        tells("7/-0+1", 1);
        tells("1/0=0", 1);
    }

    /** "truths 1, 0 (not 0 is a truth)" */
    private static void truths() {
        int[] rows = {0, 1, 2, -1, -7};
        for (int a : rows) {
            tells("!(" + a + ")+5", a == 0 ? 6 : 5);
            tells("!!(" + a + ")+5", a == 0 ? 5 : 6);
            for (int b : rows) {
                tells("((" + a + ")&(" + b + "))+5", a != 0 && b != 0 ? 6 : 5);
                tells("((" + a + ")|(" + b + "))+5", a != 0 || b != 0 ? 6 : 5);
                tells("((" + a + ")<(" + b + "))+5", a < b ? 6 : 5);
                tells("((" + a + ")>(" + b + "))+5", a > b ? 6 : 5);
                tells("((" + a + ")=(" + b + "))+5", a == b ? 6 : 5);
            }
        }
        tells("1000*1000*1000*1000*1000*1000*0|65536*65536", 1);
        tells("65536*65536&65536*65536", 1);
        tells("!(65536*65536)", 0);
    }

    /** "VALUE: BOTHS with | between; BOTH: HELDS with & between": one alone is what it is. */
    private static void oneAlone() {
        tells("7", 7);
        tells("(7)", 7);
        tells("((7))+((8))", 15);
        tells("7|0", 1);
        tells("7&9", 1);
        tells("0|0|7", 1);
        tells("7&7&0", 0);
        tells("1|1&0", 1);
        tells("0&1|1", 1);
        tells("1<2&3", 1);
        tells("2<1|0", 0);
    }

    /** "digits (1 .. 6)": what they tell. */
    private static void numbers() {
        tells("000001", 1);
        tells("9", 9);
        tells("999999", 999999);
        tells("100000", 100000);
        tells("123456", 123456);
    }

    /** "! UNIT, - UNIT" bind before all else, the last of them first. */
    private static void units() {
        tells("-2+5", 3);
        tells("5--2", 7);
        tells("2*-3+9", 3);
        tells("-!0+9", 8);
        tells("!-5+9", 9);
        tells("!-0+9", 10);
        tells("-".repeat(48) + "77", 77);
        tells("-".repeat(47) + "7", 0);
        tells("!".repeat(49) + "7", 0);
        tells("!".repeat(48) + "7", 1);
        tells("8-3-2", 3);
        tells("8/2/2", 2);
        tells("8/2*3", 12);
        tells("1+2*3", 7);
        tells("1+1=2", 1);
    }

    /** "SECOND: .. by THE LAW"; "THE LAW is LAW 0": LAW 1 tells only its own NET. */
    private static void theLawIsLaw0() {
        SonsPurse x = sons();
        Due.write(x, 1, "g+1000");
        due.is("net by law 1", x.net(1, 1, 0), 1020);
        due.is("net by THE LAW", x.net(1, 0, 0), 11);
        due.is("SECOND", x.own(0, 0, 0), 11);
        x.ask(0, PURSE, 0);
        due.fraction("the ask", x, 111, 1);
        Due.write(x, 0, "g+500");
        due.is("SECOND", x.own(0, 0, 0), 520 + 500 + 500);
        due.is("s in law 1 is by THE LAW", x.own(1, 0, 0), 503);
    }
}
