import java.util.ArrayList;
import java.util.List;
import java.util.NoSuchElementException;

/** The bounds of each call's numbers, the tape's, and what the next calls show behind a call that is refused (promises 1 to 32). */
public final class CallEdgeTests extends Check {
    private static final int MIN = Integer.MIN_VALUE;
    private static final int MAX = Integer.MAX_VALUE;
    private static final int THROWS = MIN;
    private static final int TAPE = 7;
    private static final int[] NO_PARTS = {MIN, -2, -1, 2, 3, 11, 12, MAX};
    private static final int[] NO_PLACES = {MIN, -2, -1, 8, 9, 23, 24, 47, 48, MAX};
    private static final int[] NO_LAWS = {MIN, -2, -1, 32, 33, 63, 64, MAX};
    private static final int[] NO_PUSHES = {MIN, -1, 100001, MAX};
    private static final int[] NO_LOADS = {MIN, -1, 10000, MAX};

    /** A call of an office; one that throws as told answers THROWS. */
    private interface Call {
        int on(ForeverOffice x) throws NoSuchElementException;
    }

    private static int answer(ForeverOffice x, Call call) {
        try {
            return call.on(x);
        } catch (NoSuchElementException e) {
            return THROWS;
        }
    }

    /** An office in which each call that tells of the latest one has something to tell. */
    private static ForeverOffice busy() {
        ForeverOffice x = with("turn 8;weight a 0 2 arm 3 out 5 from 4 to 6;rub 1;");
        x.keep(1);
        draw(x, "turn 8;weight a 6 2 arm 3 out 5 from 4 to 6;rub 1;fed b 7 3;");
        x.keep(5);
        say(x, "each high<4");
        invent(x, "in 0 hears turn goes 1;in 1 hears rub goes 9;");
        due("answer", x.answer(), 2);
        due("run", x.run(0, 50, 0) > 0, true);
        due("stands", x.stands(0) > 0, true);
        // STEP 0 gives 14 less rub: E is 22, and 30 to 39 was shown
        due("hidden", hidden(x, 0, 9, 3), 10);
        due("looks", looks(x, 0L, -1L), 1);
        feed(x, new byte[20]);
        x.end(TAPE);
        return x;
    }

    /** All that can be seen of an office by calls that change nothing; what = 4 of count and the fault come first. */
    private static List<Integer> seen(ForeverOffice x) {
        List<Integer> all = new ArrayList<>();
        all.add(x.count(4));
        all.add(x.fault());
        for (int i = -1; i < 4; i++) {
            int k = i;
            all.add(x.count(k));
            all.add(answer(x, o -> o.place(k, 5)));
            all.add(answer(x, o -> o.energy(k, 5)));
            all.add(answer(x, o -> o.gives(k, 7, 8)));
            all.add(answer(x, o -> o.sum(k, 8)));
            all.add(x.stand(k));
            all.add(x.hiddenAt(k, 0));
            all.add(x.hiddenAt(k, 1));
            all.add(x.answerAt(k));
            all.add(x.least(k));
        }
        for (int k = 0; k < 8; k++) {
            all.add(x.ran(k));
            all.add(x.value(k, NONE));
            all.add(x.value(k, 5));
            all.add(x.same(k));
            all.add(x.right(k));
        }
        for (int law : new int[] {1, 2, 4, 8}) {
            all.add(x.needs(law));
        }
        all.add(x.goes(NONE));
        all.add(x.holds());
        all.add(x.where());
        all.add(x.lookSet());
        all.add(x.feeding(7, 0, 900, 1));
        return all;
    }

    /** The call answers so and changes nothing. */
    private static void dueRefused(String what, Call call, int want) {
        ForeverOffice x = busy();
        List<Integer> before = seen(x);
        due(what, answer(x, call), want);
        dueSeen(what, x, before);
    }

    /** The call answers so and changes nothing but that the tape is empty and the fault is this one. */
    private static void dueRefusedTape(String what, ForeverOffice x, Call call, int want, int fault) {
        List<Integer> before = seen(x);
        before.set(0, 0);
        before.set(1, fault);
        due(what, answer(x, call), want);
        dueSeen(what, x, before);
    }

    private static void dueSeen(String what, ForeverOffice x, List<Integer> before) {
        List<Integer> after = seen(x);
        for (int i = 0; i < before.size(); i++) {
            due("what is seen at " + i + " behind " + what, after.get(i), before.get(i));
        }
    }

    /** Promise 1: "An empty DRAWING (N 24), no CLAIM, no old drawings, an INVENTOR without LINES; an empty tape." */
    private static void newObject() {
        ForeverOffice x = new ForeverOffice();
        int[] counts = {0, 24, 0, 0, 0};
        for (int what = 0; what < 5; what++) {
            due("count " + what, x.count(what), counts[what]);
            due("ran " + what + " ahead of any", x.ran(what), NONE);
        }
        due("fault ahead of any", x.fault(), 0);
        due("PART 0", answer(x, o -> o.place(0, 0)), THROWS);
        due("t 23", x.run(23, 0, 0), 20000);
        due("t 24", x.run(24, 0, 0), NONE);
        due("stand ahead of any", x.stand(0), NONE);
        due("no CLAIM holds", x.holds(), NONE);
        due("no CLAIM is not so", x.where(), NONE);
        due("hiddenAt ahead of any, x", x.hiddenAt(0, 0), NONE);
        due("hiddenAt ahead of any, g", x.hiddenAt(0, 1), NONE);
        due("looks ahead of any", looks(x, -1L), -2);
        due("lookSet ahead of any", x.lookSet(), 0);
        for (int k = 0; k < 6; k++) {
            due("no old drawing " + k, x.same(k), -2);
        }
        due("no answer", x.answer(), NONE);
        due("answerAt ahead of any", x.answerAt(0), NONE);
        due("the empty one can be kept", x.keep(0), true);
        due("and is the same", x.same(0), 0);
        ForeverOffice busy = busy();
        due("another office has nothing of it", new ForeverOffice().count(3), 0);
        due("it has its own", busy.count(3), 2);
    }

    /** Promise 2: "NONE, and none come, if it would have more than 640." */
    private static void feeding640() {
        int blank = 0x20202020;
        int other = 0x3f3f3f3f;
        for (int n = 0; n <= 640; n++) {
            ForeverOffice x = new ForeverOffice();
            feed(x, new byte[640]);
            due("full", x.count(4), 640);
            due("end " + n, x.end(n), true);
            due("feed behind " + n, x.feed(blank, blank, blank, blank, blank), n <= 620 ? n + 20 : NONE);
            due("tape behind it", x.count(4), n <= 620 ? n + 20 : n);
        }
        ForeverOffice y = new ForeverOffice();
        put(y, "fed a 0 1;" + " ".repeat(590));
        y.feed(blank, blank, blank, blank, blank);
        due("to 640", y.feed(blank, blank, blank, blank, blank), 640);
        due("refused", y.feed(other, other, other, other, other), NONE);
        due("end 600", y.end(600), true);
        due("none of it came", y.drawing(), 1);
        put(y, "fed a 0 1;" + " ".repeat(611));
        due("refused at 621", y.feed(other, other, other, other, other), NONE);
        due("still 621", y.count(4), 621);
        due("end 600", y.end(600), true);
        due("none of it came at 621", y.drawing(), 1);
    }

    /** Promise 2: "Twenty bytes come behind the tape, of each number the highest first". */
    private static void feedingBytes() {
        ForeverOffice x = new ForeverOffice();
        x.feed(0x72756220, 0x3132333b, 0x66656420, 0x61203020, 0x393b2020);
        due("rub 123;fed a 0 9;", x.drawing(), 1);
        due("rub", x.count(2), 123);
        due("W", x.sum(0, 0), 9);
        // bytes above 127, and numbers below 0: the pair 0xff80 is 65408
        x.feed(0xff80ff80, 0, 0, 0, 0);
        x.end(2);
        due("no E is so great", x.hidden(0, 0), 0);
        draw(x, "turn 48;");
        x.feed(-1, -1, -1, -1, -1);
        x.end(1);
        due("an odd byte", x.hidden(0, 0), NONE);
        x.feed(0x0080ffff, -1, -1, -1, -1);
        x.end(2);
        due("the pair 0x0080 is 128", x.hidden(0, 1280), -2);
        x.feed(0x80000000, 0, 0, 0, 0);
        x.end(2);
        due("the pair 0x8000 is above all that can be", x.hidden(0, 100000), 0);
    }

    /** Promise 3: "The tape has its first n bytes alone: true; false, if it has not so many, or n is below 0." */
    private static void ending() {
        ForeverOffice x = new ForeverOffice();
        due("end 0 of none", x.end(0), true);
        due("end 1 of none", x.end(1), false);
        put(x, "rub 12;rub 13;");
        for (int n : new int[] {MIN, -1, 15, 20, 640, 641, MAX}) {
            due("end " + n, x.end(n), false);
            due("the tape stays", x.count(4), 14);
        }
        due("end all", x.end(14), true);
        due("end 7", x.end(7), true);
        due("7 left", x.count(4), 7);
        due("8 are no more there", x.end(8), false);
        due("the first 7 alone are read", x.drawing(), 0);
        due("rub", x.count(2), 12);
        put(x, "rub 12;rub 13;");
        x.end(5);
        due("a NUMBER ends with the tape", x.drawing(), -6);
        put(x, "rub 12;rub 13;");
        x.end(5);
        x.feed(0x3b202020, 0x20202020, 0x20202020, 0x20202020, 0x20202020);
        due("what comes, comes behind what is left", x.drawing(), 0);
        due("rub 1;", x.count(2), 1);
        put(x, "each 1=12");
        x.end(8);
        due("a NUMBER that ends with the tape", x.claim(), 1);
        due("is 1", x.holds(), 1);
    }

    /** Promises 6 to 9 and 17: "NoSuchElementException: no such ones." and "A call that throws changes nothing." */
    private static void noSuchOnes() {
        for (int part : NO_PARTS) {
            dueRefused("place of part " + part, x -> x.place(part, 0), THROWS);
            dueRefused("energy of part " + part, x -> x.energy(part, 0), THROWS);
            dueRefused("gives of part " + part, x -> x.gives(part, 0, 0), THROWS);
            if (part != NONE) {
                dueRefused("sum of part " + part, x -> x.sum(part, 0), THROWS);
            }
        }
        for (int t : NO_PLACES) {
            dueRefused("place at t " + t, x -> x.place(0, t), THROWS);
            dueRefused("energy at " + t, x -> x.energy(0, t), THROWS);
            dueRefused("gives in STEP " + t, x -> x.gives(0, t, 0), THROWS);
            if (t != NONE) {
                dueRefused("value at t " + t, x -> x.value(0, t), THROWS);
            }
        }
        for (int laws : NO_LAWS) {
            dueRefused("gives with laws " + laws, x -> x.gives(0, 0, laws), THROWS);
            dueRefused("sum with laws " + laws, x -> x.sum(0, laws), THROWS);
            dueRefused("WHOLE with laws " + laws, x -> x.sum(NONE, laws), THROWS);
        }
        for (int v : new int[] {MIN, -2, -1, 8, 9, MAX}) {
            dueRefused("value " + v, x -> x.value(v, 0), THROWS);
            dueRefused("sum of value " + v, x -> x.value(v, NONE), THROWS);
        }
        dueRefused("nothing is such", x -> x.gives(MAX, MIN, MAX), THROWS);
    }

    /** The last ones that there are. */
    private static void lastOnes() {
        ForeverOffice x = busy();
        due("place of the last part at the last t", x.place(1, 7), 6);
        due("energy of the last part at the last place", x.energy(1, 7), 0);
        due("energy of the first at the last place", x.energy(0, 7), 6);
        due("gives of the last part in the last STEP", x.gives(1, 7, 31), 3);
        due("sum of the last part with the last set", x.sum(1, 31), 3);
        due("WHOLE with the last set", x.sum(NONE, 31) > 0, true);
        due("the last value at the last t", x.value(7, 7), 3);
        StringBuilder twelve = new StringBuilder("turn 48;");
        for (char c = 'a'; c <= 'l'; c++) {
            twelve.append("fed ").append(c).append(" 47 7;");
        }
        ForeverOffice y = with(twelve.toString());
        due("place of part 11", y.place(11, 47), 46);
        due("gives of part 11 in STEP 47", y.gives(11, 47, 31), 7);
        due("sum of part 11", y.sum(11, 0), 7);
        due("part 12", answer(y, o -> o.place(12, 0)), THROWS);
        due("STEP 48", answer(y, o -> o.gives(11, 48, 0)), THROWS);
        due("place 48", answer(y, o -> o.energy(11, 48)), THROWS);
        draw(y, "turn 8;fed a 7 7;");
        due("parts of the drawing ahead are no more", answer(y, o -> o.place(1, 0)), THROWS);
        due("places of the drawing ahead are no more", answer(y, o -> o.energy(0, 8)), THROWS);
    }

    /** Promises 10 to 13: "NONE: not as told", and the latest one that was not NONE stays. */
    private static void runsRefused() {
        for (int t : NO_PLACES) {
            dueRefused("run from " + t, x -> x.run(t, 0, 0), NONE);
        }
        for (int push : NO_PUSHES) {
            dueRefused("run with push " + push, x -> x.run(0, push, 0), NONE);
        }
        for (int laws : NO_LAWS) {
            dueRefused("run with laws " + laws, x -> x.run(0, 0, laws), NONE);
            dueRefused("stands with laws " + laws, x -> x.stands(laws), NONE);
        }
        for (int what : new int[] {MIN, -2, -1, 5, 6, MAX}) {
            dueRefused("ran " + what, x -> x.ran(what), NONE);
            dueRefused("count " + what, x -> x.count(what), NONE);
        }
        for (int k : new int[] {MIN, -1, 8, 48, MAX}) {
            dueRefused("stand " + k, x -> x.stand(k), NONE);
        }
        ForeverOffice x = busy();
        due("the last t, the greatest push, the last set", x.run(7, 100000, 31), 20000);
        due("the first t, no push, the first set", x.run(0, 0, 0) >= 0, true);
        due("its greatest E", x.ran(3) >= 0, true);
        due("the last set", x.stands(31) >= 0, true);
        due("the tape stays", x.count(4), TAPE);
    }

    /** Promises 18 to 20. */
    private static void lawsRefused() {
        for (int laws : NO_LAWS) {
            if (laws != NONE) {
                dueRefused("goes " + laws, x -> x.goes(laws), -2);
            }
        }
        for (int k : new int[] {MIN, -2, -1, 10, 31, 32, MAX}) {
            dueRefused("least " + k, x -> x.least(k), NONE);
        }
        for (int law = -3; law <= 70; law++) {
            boolean told = law == 1 || law == 2 || law == 4 || law == 8;
            due("needs " + law, busy().needs(law) != NONE, told);
        }
        dueRefused("needs of the least number", x -> x.needs(MIN), NONE);
        dueRefused("needs of the greatest number", x -> x.needs(MAX), NONE);
        due("goes 31", busy().goes(31), 1);
        due("goes 0", busy().goes(0), 0);
    }

    /** Promise 21: "NONE: not as told" (1 to 60 STEPS, in pairs); -2 and NONE leave what was told earlier. */
    private static void hiddenRefused() {
        for (int bytes : new int[] {0, 1, 3, 119, 121, 122, 640}) {
            ForeverOffice x = busy();
            put(x, new byte[bytes]);
            dueRefusedTape("hidden with bytes " + bytes, x, o -> o.hidden(0, 9), NONE, 0);
        }
        for (int t : NO_PLACES) {
            ForeverOffice x = busy();
            putPairs(x, 1);
            dueRefusedTape("hidden from " + t, x, o -> o.hidden(t, 9), NONE, 0);
        }
        for (int push : NO_PUSHES) {
            ForeverOffice x = busy();
            putPairs(x, 1);
            dueRefusedTape("hidden with push " + push, x, o -> o.hidden(0, push), NONE, 0);
        }
        ForeverOffice none = busy();
        putPairs(none, 2);
        dueRefusedTape("hidden without need", none, o -> o.hidden(0, 9), -2, 0);
        ForeverOffice x = with("turn 8;");
        due("one pair", hidden(x, 7, 0, 1), 10);
        due("60 pairs", hidden(x, 7, 100000, new int[60]), 0);
        due("none told then", x.hiddenAt(0, 0), NONE);
        due("the greatest push and the last t", hidden(x, 7, 100000, 10001), 10);
        due("told then", x.hiddenAt(9, 1), 19);
        draw(x, "turn 8;rub 9;");
        due("another drawing leaves it", x.hiddenAt(0, 0), 7);
    }

    /** Promise 22: "NONE: there is none such, another what, or ahead of any." */
    private static void hiddenAtRefused() {
        for (int k : new int[] {MIN, -1, 10, 199, 200, MAX}) {
            dueRefused("hiddenAt " + k, x -> x.hiddenAt(k, 0), NONE);
            dueRefused("hiddenAt " + k, x -> x.hiddenAt(k, 1), NONE);
        }
        for (int what : new int[] {MIN, -1, 2, MAX}) {
            dueRefused("hiddenAt what " + what, x -> x.hiddenAt(0, what), NONE);
        }
        due("the tenth", busy().hiddenAt(9, 1), 17);
    }

    /** Promises 23 and 24: "-2: not as told (1 to 10), or ahead of any"; "the latest looks() that was 0 or above". */
    private static void looksRefused() {
        for (int bytes : new int[] {0, 1, 5, 7, 59, 61, 66, 640}) {
            ForeverOffice x = busy();
            put(x, new byte[bytes]);
            dueRefusedTape("looks with bytes " + bytes, x, ForeverOffice::looks, -2, 0);
        }
        for (int n : new int[] {1, 10}) {
            ForeverOffice x = busy();
            putLooks(x, new long[n]);
            dueRefusedTape("looks that bar nothing " + n, x, ForeverOffice::looks, NONE, 0);
        }
        ForeverOffice x = with("turn 8;");
        due("-2 is no hidden() that tells", hidden(x, 0, 0, 0), -2);
        due("looks behind -2 alone", looks(x, -1L), -2);
        put(x, "");
        due("NONE is none either", x.hidden(0, 0), NONE);
        due("looks behind NONE alone", looks(x, -1L), -2);
        due("lookSet still", x.lookSet(), 0);
        due("nothing can be hidden so", hidden(x, 0, 0, 9999), 0);
        due("no look is needed, of one that bars nothing", looks(x, 0L), 0);
        due("hidden at 0", hidden(x, 0, 0, 1), 10);
        due("the second", looks(x, 0L, 1L), 1);
        due("its set", x.lookSet(), 2);
        due("nothing hidden again", hidden(x, 0, 0, 9999), 0);
        due("no look again", looks(x, 1L, 1L), 0);
        due("the empty set", x.lookSet(), 0);
    }

    /** Promises 25, 26 and 32: "kept in place k (0 to 5)". */
    private static void keeping() {
        for (int k : new int[] {MIN, -2, -1, 6, 7, MAX}) {
            dueRefused("keep " + k, x -> x.keep(k) ? 1 : 0, 0);
            dueRefused("same " + k, x -> x.same(k), -2);
        }
        for (int k : new int[] {0, 2, 3, 4}) {
            dueRefused("same of none kept " + k, x -> x.same(k), -2);
        }
        ForeverOffice x = new ForeverOffice();
        for (int k = 5; k >= 0; k--) {
            draw(x, "turn 8;rub " + k + ";");
            due("keep " + k, x.keep(k), true);
            due("kept", x.count(3), 6 - k);
        }
        due("keep the full", x.keep(3), true);
        due("still six", x.count(3), 6);
        for (int k = 0; k < 6; k++) {
            draw(x, "turn 8;rub " + k + ";");
            due("each is what it was " + k, x.same(k), k == 3 ? NONE : 0);
        }
        draw(x, "turn 8;rub 0;");
        due("the one kept again is the newer", x.same(3), 0);
        draw(x, "turn 8;weight a 1 2 arm 3 out 4 from 5 to 6;magnet b 7 6 at 5 shut 4 to 3;");
        x.keep(2);
        due("all of a PART is kept", x.same(2), 0);
        draw(x, "turn 8;weight a 1 2 arm 3;magnet b 7 6 at 4;");
        due("another", x.same(2), NONE);
        x.keep(2);
        due("nothing of the one kept ahead is left", x.same(2), 0);
        put(x, "turn 8;rub 5;?");
        due("a drawing with a fault", x.drawing(), -14);
        due("is not the one now", x.same(5), NONE);
    }

    /** Promise 27: "-2: not as told". */
    private static void feedingsRefused() {
        for (int t : NO_PLACES) {
            dueRefused("feeding at pin " + t, x -> x.feeding(t, 0, 0, 0), -2);
            dueRefused("feeding from " + t, x -> x.feeding(0, t, 0, 0), -2);
        }
        for (int push : NO_PUSHES) {
            dueRefused("feeding with push " + push, x -> x.feeding(0, 0, push, 0), -2);
        }
        for (int load : NO_LOADS) {
            dueRefused("feeding with load " + load, x -> x.feeding(0, 0, 0, load), -2);
        }
        dueRefused("feeding that 999 do not", x -> x.feeding(7, 7, 0, 9999), NONE);
        dueRefused("feeding as told", x -> x.feeding(7, 7, 100000, 0), 1);
    }

    /** Promises 29 to 31. */
    private static void sayingsRefused() {
        for (int s : new int[] {MIN, -2, -1, 7, 8, MAX}) {
            dueRefused("right " + s, x -> x.right(s), NONE);
        }
        for (int k : new int[] {MIN, -1, 2, 9, 10, MAX}) {
            dueRefused("answerAt " + k, x -> x.answerAt(k), NONE);
        }
        ForeverOffice x = busy();
        invent(x, "in 0 hears door goes 9;");
        List<Integer> before = seen(x);
        due("no answer", x.answer(), NONE);
        dueSeen("an answer that was NONE", x, before);
        due("the first of the earlier", x.answerAt(0), 1);
        invent(x, "in 0 hears fed goes 9;");
        due("a shorter one", x.answer(), 1);
        due("its first", x.answerAt(0), 5);
        due("no second of the longer one", x.answerAt(1), NONE);
    }

    /** Promises 4, 5, 14 and 28: "-1 less the place of a FAULT: it stays", of each kind there is. */
    private static void textsRefused() {
        dueTextRefused("turn 48;rub 7;?", ForeverOffice::drawing, -15, 1);
        dueTextRefused("turn 48;rub 7;fed z 48", ForeverOffice::drawing, -21, 2);
        dueTextRefused("fed a 0 1;fed a 0 1;", ForeverOffice::drawing, -15, 3);
        StringBuilder thirteen = new StringBuilder();
        for (char c = 'a'; c <= 'm'; c++) {
            thirteen.append("fed ").append(c).append(" 0 1;");
        }
        dueTextRefused(thirteen.toString(), ForeverOffice::drawing, -121, 4);
        dueTextRefused(" ".repeat(601), ForeverOffice::drawing, -601, 1);
        dueTextRefused("", ForeverOffice::claim, -1, 1);
        dueTextRefused("some 1=1 or", ForeverOffice::claim, -12, 1);
        dueTextRefused("all not not not not not not not not 1=1", ForeverOffice::claim, -37, 4);
        dueTextRefused("all" + " 1=1 or".repeat(20) + " 1=1", ForeverOffice::claim, -145, 4);
        dueTextRefused("in 0 hears law goes 9;in", ForeverOffice::inventor, -25, 1);
        dueTextRefused("in 0 hears law goes 9;in 10", ForeverOffice::inventor, -26, 2);
        dueTextRefused("in 0 hears law goes 9;".repeat(21), ForeverOffice::inventor, -441, 4);
    }

    private static void dueTextRefused(String text, Call call, int want, int fault) {
        ForeverOffice x = busy();
        put(x, text);
        dueRefusedTape(text, x, call, want, fault);
        due("the answer that stays", x.answer(), 2);
        due("the run that stays", x.run(0, 50, 0), busy().run(0, 50, 0));
        due("the drawing that stays is the one kept", x.same(5), 0);
        put(x, "each 1=1");
        due("a claim without a fault", x.claim(), 1);
        due("fault() of the latest", x.fault(), 0);
    }

    /** Nothing of a refused text, nor of the one ahead of it, is in the next one. */
    private static void nothingIsLeftOver() {
        ForeverOffice x = new ForeverOffice();
        for (int i = 0; i < 3; i++) {
            draw(x, "turn 48;rub 9;weight a 1 9 arm 5 out 7 from 0 to 40;magnet b 0 9 at 1 shut 2 to 4;spring c 0 1 from 1 to 1;");
            put(x, "turn 46;rub 8;weight a 1 9 arm 4 out 8 from 0 to 40;magnet b 0 9 at 3 shut 2 to 4;?");
            due("refused", x.drawing() < 0, true);
            draw(x, "magnet a 0 1 at 0;weight b 0 1 arm 5;");
            due("PARTS", x.count(0), 2);
            due("N", x.count(1), 24);
            due("rub", x.count(2), 0);
            due("no shut", x.energy(0, 0), -6);
            due("no out", x.energy(1, 12), 60);
            due("no range", x.needs(2), 0);
            x.keep(0);
            draw(x, "weight z 0 1 arm 5;magnet y 0 1 at 0;");
            due("same", x.same(0), 0);
            say(x, "each (1=1 or 1=0) and 1=1 and 1=1 and 1=1");
            put(x, "some (1=0 and 1=0");
            due("refused", x.claim() < 0, true);
            put(x, "each 1=1");
            due("ONES", x.claim(), 1);
            due("holds", x.holds(), 1);
            invent(x, "in 0 hears turn goes 9;in 0 hears count goes 9;");
            put(x, "in 0 hears turn goes 9;in 0 hears law goes 9;?");
            due("refused", x.inventor() < 0, true);
            invent(x, "in 0 hears law goes 1;");
            due("no answer", x.answer(), NONE);
        }
    }

    /** Three texts one behind the other on one office: the third has nothing of the first. */
    private static void thirdText() {
        ForeverOffice x = with("turn 8;weight a 0 1 arm 1;");
        for (int lines : new int[] {20, 19, 20, 1, 20, 20, 0, 0, 1}) {
            put(x, "in 0 hears count goes 9;".repeat(lines));
            due("LINES", x.inventor(), lines);
            due("answer", x.answer(), lines > 0 ? 1 : NONE);
        }
        for (int ones : new int[] {20, 20, 1, 20, 3, 2}) {
            put(x, "each 1=1" + " and 1=1".repeat(ones - 1));
            due("ONES", x.claim(), ones);
            due("holds", x.holds(), 1);
        }
    }

    /** All that is found out of a drawing by numbers: VALUES, WHOLES, RUNS, STANDS, SAYINGS. */
    private static List<Integer> found(ForeverOffice x) {
        List<Integer> all = new ArrayList<>();
        for (int v = 0; v < 8; v++) {
            all.add(x.value(v, NONE));
            all.add(x.value(v, 0));
            all.add(x.value(v, 7));
        }
        for (int laws = 0; laws < 32; laws++) {
            all.add(x.sum(NONE, laws));
            all.add(x.stands(laws));
        }
        for (int t = 0; t < 8; t++) {
            all.add(x.run(t, 40 * t, t));
            for (int what = 0; what < 5; what++) {
                all.add(x.ran(what));
            }
        }
        for (int s = 0; s < 7; s++) {
            all.add(x.right(s));
        }
        all.add(x.feeding(1, 0, 500, 3));
        return all;
    }

    /** A drawing behind another one on the same office is what it is on a new one. */
    private static void drawingBehindAnother() {
        StringBuilder floats = new StringBuilder("turn 8;rub 2;");
        StringBuilder feds = new StringBuilder("turn 48;");
        for (char c = 'a'; c <= 'l'; c++) {
            floats.append("float ").append(c).append(" 0 99 from 7 to 0;");
            feds.append("fed ").append(c).append(" 1 99;");
        }
        String[] drawings = {"", "turn 8;rub 3;weight a 5 9 arm 9;magnet b 0 9 at 4 shut 5 to 7;spring c 0 1 from 2 to 3;fed d 2 30;"
            + "float e 0 5 from 1 to 1;",
            floats.toString(), feds.toString(), "turn 8;rub 9;weight a 3 2 arm 1;fed b 5 11;"};
        for (String first : drawings) {
            for (String second : drawings) {
                ForeverOffice x = with(first);
                draw(x, second);
                due("found of " + second + " behind " + first, found(x).equals(found(with(second))), true);
                due("found again", found(x).equals(found(with(second))), true);
            }
        }
    }

    /** "The tape (empty then, here and below)": empty behind what reads it, and as it was behind all else. */
    private static void tapeBehindCalls() {
        Call[] readers = {ForeverOffice::drawing, ForeverOffice::claim, ForeverOffice::inventor, x -> x.hidden(0, 9),
            x -> x.hidden(8, 9), ForeverOffice::looks};
        for (Call reader : readers) {
            for (int bytes : new int[] {0, 1, 2, 6, 12, 120, 600, 640}) {
                ForeverOffice x = busy();
                put(x, new byte[bytes]);
                reader.on(x);
                due("the tape behind a reader of " + bytes, x.count(4), 0);
                due("and so nothing can be left", x.end(1), false);
            }
        }
        Call[] others = {ForeverOffice::fault, x -> x.run(0, 9, 0), x -> x.stands(0), ForeverOffice::holds, ForeverOffice::where,
            ForeverOffice::answer, x -> x.keep(0) ? 1 : 0, x -> x.same(5), x -> x.feeding(0, 0, 0, 0), ForeverOffice::lookSet};
        for (Call other : others) {
            ForeverOffice x = busy();
            other.on(x);
            due("the tape behind another call", x.count(4), TAPE);
        }
    }

    /** What tells of the latest run, stands, hidden, looks or answer is not changed by another drawing, claim or inventor. */
    private static void latestOnes() {
        ForeverOffice x = busy();
        int[] ran = {x.ran(0), x.ran(1), x.ran(2), x.ran(3), x.ran(4)};
        int stand = x.stand(0);
        draw(x, "turn 48;rub 3;");
        say(x, "some 1=1");
        invent(x, "");
        x.right(3);
        x.feeding(0, 0, 0, 0);
        for (int what = 0; what < 5; what++) {
            due("ran " + what, x.ran(what), ran[what]);
        }
        due("stand", x.stand(0), stand);
        due("answerAt", x.answerAt(1), 4);
        due("hiddenAt", x.hiddenAt(9, 1) - x.hiddenAt(0, 1), 9);
        due("lookSet", x.lookSet(), 2);
        due("kept", x.count(3), 2);
        due("looks of the hidden ones ahead", looks(x, 1L << x.hiddenAt(0, 0)), 1);
        x.stands(16);
        due("stands without rub", x.stand(0), NONE);
        due("stands leaves the run", x.ran(3), ran[3]);
    }

    public static void main(String[] args) {
        newObject();
        feeding640();
        feedingBytes();
        ending();
        noSuchOnes();
        lastOnes();
        runsRefused();
        lawsRefused();
        hiddenRefused();
        hiddenAtRefused();
        looksRefused();
        keeping();
        feedingsRefused();
        sayingsRefused();
        textsRefused();
        nothingIsLeftOver();
        thirdText();
        drawingBehindAnother();
        tapeBehindCalls();
        latestOnes();
        tell("CallEdgeTests");
    }
}
