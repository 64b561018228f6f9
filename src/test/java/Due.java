import java.util.Arrays;
import java.util.function.LongSupplier;

/** Counts the answers that are not as due, and makes states to ask of. */
final class Due {
    private int wrong = 0;

    void is(String call, long got, long want) {
        if (got == want) return;
        wrong++;
        System.out.println(call + " answered " + got + ", due is " + want);
    }

    void fraction(String call, SonsPurse x, long above, long below) {
        is(call + ", part(0)", x.part(0), above);
        is(call + ", part(1)", x.part(1), below);
    }

    /** Each of the calls is refused, and nothing that can be seen is another after them. */
    void refuses(String call, SonsPurse x, long want, LongSupplier... calls) {
        long before = x.digest();
        int typed = x.count(5);
        for (int k = 0; k < calls.length; k++) is(call + ", call " + k, calls[k].getAsLong(), want);
        is(call + " changed nothing", x.digest(), before);
        is(call + " left THE TEXT", x.count(5), typed);
    }

    void refusesNotes(SonsPurse x, long want, int[]... notes) {
        long before = x.digest();
        for (int[] n : notes) is("note" + Arrays.toString(n), note(x, n), want);
        is("refused notes changed nothing", x.digest(), before);
    }

    /** Notes of five numbers each, each of which comes. */
    void comes(SonsPurse x, int[]... notes) {
        int first = x.count(1);
        for (int k = 0; k < notes.length; k++) is("note" + Arrays.toString(notes[k]), note(x, notes[k]), first + k);
    }

    static int note(SonsPurse x, int[] n) {
        return x.note(n[0], n[1], n[2], n[3], n[4]);
    }

    void end() {
        System.out.println(wrong == 0 ? "all as due" : wrong + " not as due");
        if (wrong != 0) System.exit(1);
    }

    static SonsPurse persons(int many) {
        SonsPurse x = new SonsPurse();
        for (int k = 0; k < many; k++) x.person();
        return x;
    }

    static void write(SonsPurse x, int law, String text) {
        x.erase(law);
        for (char c : text.toCharArray()) x.write(law, c);
    }

    static void type(SonsPurse x, String text) {
        for (char c : text.toCharArray()) x.type(c, 1);
    }

    /** Notes of five numbers each. */
    static void notes(SonsPurse x, int[][] notes) {
        for (int[] n : notes) note(x, n);
    }
}
