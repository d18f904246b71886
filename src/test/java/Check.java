import java.nio.charset.StandardCharsets;
import java.util.Arrays;
import java.util.NoSuchElementException;
import java.util.function.IntSupplier;

/**
 * What the tests share: wrong answers are counted here, and texts and rows are put on an office's tape.
 * The tests extend it, as nothing can be imported from a class without a package.
 */
abstract class Check {
    static final int NONE = ForeverOffice.NONE;
    private static final int MOST_TOLD = 40;
    private static int wrong = 0;

    static void due(String what, int got, int want) {
        if (got != want) {
            wrong++;
            if (wrong <= MOST_TOLD) {
                System.out.println(what + " answered " + got + ", due is " + want);
            }
        }
    }

    static void due(String what, boolean got, boolean want) {
        due(what, got ? 1 : 0, want ? 1 : 0);
    }

    static void dueThrow(String what, IntSupplier call) {
        boolean thrown = false;
        try {
            call.getAsInt();
        } catch (NoSuchElementException e) {
            thrown = true;
        }
        due(what + " throws", thrown, true);
    }

    /** Ends a test's main. */
    static void tell(String test) {
        System.out.println(test + (wrong == 0 ? ": all answers are as due" : ": " + wrong + " answers are not as due"));
        if (wrong != 0) {
            System.exit(1);
        }
    }

    /** Behind what the tape has; the last feed is filled up with zeros. */
    static void feed(ForeverOffice x, byte[] bytes) {
        byte[] all = Arrays.copyOf(bytes, (bytes.length + 19) / 20 * 20);
        for (int i = 0; i < all.length; i += 20) {
            int[] n = new int[5];
            for (int j = 0; j < 20; j++) {
                n[j / 4] = n[j / 4] << 8 | all[i + j] & 255;
            }
            x.feed(n[0], n[1], n[2], n[3], n[4]);
        }
    }

    /** The tape has these bytes alone. */
    static void put(ForeverOffice x, byte[] bytes) {
        x.end(0);
        feed(x, bytes);
        due("end " + bytes.length, x.end(bytes.length), true);
    }

    static void put(ForeverOffice x, String text) {
        put(x, text.getBytes(StandardCharsets.ISO_8859_1));
    }

    static void putPairs(ForeverOffice x, int... row) {
        byte[] bytes = new byte[2 * row.length];
        for (int i = 0; i < row.length; i++) {
            bytes[2 * i] = (byte) (row[i] >> 8);
            bytes[2 * i + 1] = (byte) row[i];
        }
        put(x, bytes);
    }

    static void putLooks(ForeverOffice x, long... sets) {
        byte[] bytes = new byte[6 * sets.length];
        for (int i = 0; i < bytes.length; i++) {
            bytes[i] = (byte) (sets[i / 6] >> 8 * (i % 6));
        }
        put(x, bytes);
    }

    static int hidden(ForeverOffice x, int t, int push, int... row) {
        putPairs(x, row);
        return x.hidden(t, push);
    }

    static int looks(ForeverOffice x, long... sets) {
        putLooks(x, sets);
        return x.looks();
    }

    /** A new office with a drawing that has no FAULT. */
    static ForeverOffice with(String drawing) {
        ForeverOffice x = new ForeverOffice();
        draw(x, drawing);
        return x;
    }

    static void draw(ForeverOffice x, String drawing) {
        put(x, drawing);
        due("a drawing without a fault: " + drawing, x.drawing() >= 0, true);
    }

    static void say(ForeverOffice x, String claim) {
        put(x, claim);
        due("a claim without a fault: " + claim, x.claim() >= 0, true);
    }

    static void invent(ForeverOffice x, String inventor) {
        put(x, inventor);
        due("an inventor without a fault: " + inventor, x.inventor() >= 0, true);
    }

    static void dueDrawing(String text, int answer, int fault) {
        ForeverOffice x = new ForeverOffice();
        put(x, text);
        due("drawing: " + text, x.drawing(), answer);
        dueFault("drawing: " + text, x, fault);
    }

    static void dueClaim(String text, int answer, int fault) {
        ForeverOffice x = new ForeverOffice();
        put(x, text);
        due("claim: " + text, x.claim(), answer);
        dueFault("claim: " + text, x, fault);
    }

    static void dueInventor(String text, int answer, int fault) {
        ForeverOffice x = new ForeverOffice();
        put(x, text);
        due("inventor: " + text, x.inventor(), answer);
        dueFault("inventor: " + text, x, fault);
    }

    private static void dueFault(String what, ForeverOffice x, int fault) {
        due("fault of " + what, x.fault(), fault);
        due("tape behind " + what, x.count(4), 0);
    }
}
