/** Counts the answers that are not as due, and makes states to ask of. */
final class Due {
    private int wrong = 0;

    void is(String call, long got, long want) {
        if (got == want) return;
        wrong++;
        System.out.println(call + " answered " + got + ", due is " + want);
    }

    void fraction(String call, SonsPurse x, long above, long below) {
        is(call + ", part(0)", x.part(0), above);
        is(call + ", part(1)", x.part(1), below);
    }

    void end() {
        System.out.println(wrong == 0 ? "all as due" : wrong + " not as due");
        if (wrong != 0) System.exit(1);
    }

    static SonsPurse persons(int many) {
        SonsPurse x = new SonsPurse();
        for (int k = 0; k < many; k++) x.person();
        return x;
    }

    static void write(SonsPurse x, int law, String text) {
        x.erase(law);
        for (char c : text.toCharArray()) x.write(law, c);
    }

    static void type(SonsPurse x, String text) {
        for (char c : text.toCharArray()) x.type(c, 1);
    }

    /** Notes of five numbers each. */
    static void notes(SonsPurse x, int[][] notes) {
        for (int[] n : notes) x.note(n[0], n[1], n[2], n[3], n[4]);
    }
}
