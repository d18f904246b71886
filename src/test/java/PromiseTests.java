/** One method for each promise: ordinary inputs, the edges that the document names, and wrong inputs. */
public final class PromiseTests extends Check {
    private static final String SWING = "turn 8;weight a 0 2 arm 3 out 5 from 4 to 6;rub 1;";
    private static final String ALL_KINDS =
        "turn 8;float f 0 1 from 0 to 3;magnet m 0 2 at 4 shut 5 to 7;spring s 0 1 from 2 to 2;fed x 6 9;";

    private static void newObject() {
        ForeverOffice x = new ForeverOffice();
        int[] counts = {0, 24, 0, 0, 0, NONE};
        for (int what = 0; what < counts.length; what++) {
            due("count of a new one " + what, x.count(what), counts[what]);
        }
        due("no fault", x.fault(), 0);
        due("no claim", x.holds(), NONE);
        due("no answer", x.answer(), NONE);
        due("none kept", x.same(0), -2);
        due("goes for ever", x.run(23, 0, 0), 20000);
        due("and stands nowhere", x.stands(0), 0);
        due("WHOLE", x.sum(NONE, 0), 0);
    }

    private static void feedAndEnd() {
        ForeverOffice x = new ForeverOffice();
        for (int i = 1; i <= 32; i++) {
            due("feed " + i, x.feed(0x20202020, 0x20202020, 0x20202020, 0x20202020, 0x20202020), 20 * i);
        }
        due("feed behind 640", x.feed(0, 0, 0, 0, 0), NONE);
        due("count stays", x.count(4), 640);
        due("end 641", x.end(641), false);
        due("end -1", x.end(-1), false);
        due("count still stays", x.count(4), 640);
        due("end 621", x.end(621), true);
        due("feed to 641", x.feed(0, 0, 0, 0, 0), NONE);
        due("end 620", x.end(620), true);
        due("feed to 640", x.feed(0, 0, 0, 0, 0), 640);
        due("end 640", x.end(640), true);
        due("end 0", x.end(0), true);
        due("end 1", x.end(1), false);
        // the highest byte of a number comes first, those above 127 too
        x.feed(0xfffe8001, 0, 0, 0, 0);
        x.end(4);
        due("hidden reads bytes", x.hidden(0, 0), 0);
        x.feed(0x66656420, 0x61203020, 0x313b2020, 0, 0);
        x.end(10);
        due("drawing of bytes", x.drawing(), 1);
    }

    private static void drawingForm() {
        dueDrawing("", 0, 0);
        dueDrawing(" \n ", 0, 0);
        dueDrawing("turn 8;", 0, 0);
        dueDrawing("turn 48;", 0, 0);
        dueDrawing("turn 008 ; rub 999;", 0, 0);
        dueDrawing("turn 6;", -6, 2);
        dueDrawing("turn 9;", -6, 2);
        dueDrawing("turn 50;", -6, 2);
        dueDrawing("turn;", -5, 1);
        dueDrawing("turn 8", -7, 1);
        dueDrawing("turn 8 turn 8;", -8, 1);
        dueDrawing("turn8;", -1, 1);
        dueDrawing("rub 1;turn 8;", -7, 1);
        dueDrawing("rub 1;rub 1;", -7, 3);
        dueDrawing("rub 1000;", -5, 1);
        dueDrawing("rub;", -4, 1);
        dueDrawing("; ", -1, 1);
        dueDrawing("fed a 0 1;;", -11, 1);
        dueDrawing("Fed a 0 1;", -1, 1);
        dueDrawing("fed\ta 0 1;", -4, 1);
        dueDrawing("wheel a 0 1;", -1, 1);
        dueDrawing("fed a 0 1.", -10, 1);
        dueDrawing("fed a 0 1  ", -12, 1);
        dueDrawing("fed a 0 1;fed", -14, 1);
        dueDrawing("\u00e9", -1, 1);
    }

    private static void drawingNamesAndNumbers() {
        dueDrawing("fed abcdef 0 1;", 1, 0);
        dueDrawing("fed abcdefg 0 1;", -5, 1);
        dueDrawing("fed a1 0 1;", -5, 1);
        dueDrawing("fed 1 0 1;", -5, 1);
        for (String word : ("each some all or and not right left rights lefts wet gives takes high in hears goes "
            + "count door model law").split(" ")) {
            dueDrawing("fed " + word + " 0 1;", 1, 0);
        }
        dueDrawing("rub 0;magnet a 0 1 at 0;", 1, 0);
        dueDrawing("rub 0;rub 0;", -7, 3);
        for (String word : "turn rub weight float magnet spring fed arm out from to at shut".split(" ")) {
            dueDrawing("fed " + word + " 0 1;", -5, 1);
        }
        dueDrawing("fed a 0 1;spring a 0 1 from 0 to 0;", -18, 3);
        dueDrawing("fed a 0 1;fed aa 0 1;fed b 0 1;fed aa 0 1;", -36, 3);
        dueDrawing("fed a 23 99;", 1, 0);
        dueDrawing("fed a 24 99;", -7, 2);
        dueDrawing("turn 8;fed a 8 99;", -14, 2);
        dueDrawing("fed a 0 0;", -9, 2);
        dueDrawing("fed a 0 100;", -9, 2);
        dueDrawing("fed a 0 1x;", -9, 1);
        dueDrawing("fed a 01 01;", 1, 0);
        dueDrawing("weight a 0 1 arm 20 out 20 from 23 to 0;", 1, 0);
        dueDrawing("weight a 0 1 arm 0;", 1, 0);
        dueDrawing("weight a 0 1;", -13, 1);
        dueDrawing("weight a 0 1 arm 21;", -18, 2);
        dueDrawing("weight a 0 1 arm 2 out 21 from 0 to 0;", -24, 2);
        dueDrawing("weight a 0 1 arm 2 from 0 to 0;", -20, 1);
        dueDrawing("weight a 0 1 arm 2 out 2 from 24 to 0;", -31, 2);
        dueDrawing("weight a 0 1 arm 2 out 2 from 2 to 24;", -36, 2);
        dueDrawing("float a 0 1 from 0 to 23;", 1, 0);
        dueDrawing("float a 0 1 from 0;", -19, 1);
        dueDrawing("float a 0 1;", -12, 1);
        dueDrawing("magnet a 0 1 at 23;", 1, 0);
        dueDrawing("magnet a 0 1 at 24;", -17, 2);
        dueDrawing("magnet a 0 1 at 1 shut from 0 to 2;", -24, 1);
        dueDrawing("magnet a 0 1 at 1 shut 0 to 2;", 1, 0);
        dueDrawing("magnet a 0 1;", -13, 1);
        dueDrawing("spring a 0 1 from 0 to 23 ;", 1, 0);
        dueDrawing("spring a 0 1 at 0;", -14, 1);
    }

    private static void drawingTooMuch() {
        StringBuilder twelve = new StringBuilder();
        for (char c = 'a'; c <= 'l'; c++) {
            twelve.append("fed ").append(c).append(" 0 1;");
        }
        dueDrawing(twelve.toString(), 12, 0);
        dueDrawing(twelve + "rub 3;", 12, 0);
        dueDrawing(twelve + "magnet a", -121, 4);
        dueDrawing(twelve + "wheel", -121, 1);
        String blanks = " ".repeat(590);
        dueDrawing("fed a 0 1;" + blanks, 1, 0);
        dueDrawing("fed a 0 1;" + blanks + " ", -601, 1);
        dueDrawing(blanks + "fed a 0 1;;", -601, 1);
        dueDrawing(blanks + "    fed abcdefghijk", -599, 1);
        dueDrawing(blanks + "    fed abcdef 0 1;", -601, 1);
        dueDrawing(blanks + "  fed a 100;", -599, 2);
        dueDrawing(blanks + "   fed a 100;", -600, 2);
        dueDrawing(blanks + "    fed a 100;", -601, 1);
        dueDrawing(blanks + "? fed a 100;", -591, 1);
        dueDrawing(blanks + " ".repeat(10) + "?", -601, 1);
    }

    private static void drawingStays() {
        ForeverOffice x = with(SWING);
        put(x, "turn 10;fed z 0 5;rub 7;fed z 0 1;");
        due("drawing with a fault", x.drawing(), -29);
        due("fault", x.fault(), 3);
        due("parts stay", x.count(0), 1);
        due("N stays", x.count(1), 8);
        due("rub stays", x.count(2), 1);
        due("energy stays", x.energy(0, 4), 40);
        put(x, "each 1=1");
        x.claim();
        due("fault of the latest", x.fault(), 0);
    }

    private static void places() {
        ForeverOffice x = with("turn 8;fed a 6 1;weight b 0 1 arm 1;");
        due("place", x.place(0, 1), 7);
        due("place round", x.place(0, 2), 0);
        due("place at N less 1", x.place(1, 7), 7);
        dueThrow("place(2, 0)", () -> x.place(2, 0));
        dueThrow("place(-1, 0)", () -> x.place(-1, 0));
        dueThrow("place(0, 8)", () -> x.place(0, 8));
        dueThrow("place(0, -1)", () -> x.place(0, -1));
    }

    private static void energies() {
        ForeverOffice x = with(SWING);
        int[] weight = {0, 6, 12, 18, 40, 30, 20, 6};
        for (int place = 0; place < 8; place++) {
            due("energy of a weight at " + place, x.energy(0, place), weight[place]);
        }
        ForeverOffice y = with(ALL_KINDS);
        int[][] rows = {{40, 30, 20, 10, 0, 0, 0, 0}, {-4, -6, -8, -10, -12, 0, 0, 0}, {0, 0, 40, 0, 0, 0, 0, 0}, new int[8]};
        for (int part = 0; part < 4; part++) {
            for (int place = 0; place < 8; place++) {
                due("energy of part " + part + " at " + place, y.energy(part, place), rows[part][place]);
            }
        }
        ForeverOffice z = with("turn 20;magnet m 3 5 at 18;spring s 0 3 from 18 to 1;float f 0 2 from 19 to 1;");
        due("magnet 5 away, round", z.energy(0, 3), -5);
        due("magnet 6 away", z.energy(0, 4), 0);
        due("magnet 5 away, back", z.energy(0, 13), -5);
        due("spring over 0", z.energy(1, 0), 120);
        due("spring behind", z.energy(1, 2), 0);
        due("spring ahead", z.energy(1, 17), 0);
        due("float over 0", z.energy(2, 19), 180);
        dueThrow("energy(3, 0)", () -> z.energy(3, 0));
        dueThrow("energy(0, 20)", () -> z.energy(0, 20));
        dueThrow("energy(0, -1)", () -> z.energy(0, -1));
        dueThrow("energy(-1, 0)", () -> z.energy(-1, 0));
    }

    private static void givesByLaws() {
        ForeverOffice x = with(ALL_KINDS);
        int[][] plain = {{10, 10, 10, 10, 0, 0, 0, -40}, {2, 2, 2, 2, -12, 0, 0, 4}, {0, -40, 40, 0, 0, 0, 0, 0}, {0, 0, 0, 0, 0, 0, 9, 0}};
        int[][] other = {{10, 10, 10, 10, 0, 0, 0, 0}, {2, 2, 2, 2, 0, 0, 0, 0}, {0, 0, 40, 0, 0, 0, 0, 0}, {0, 0, 0, 0, 0, 0, 9, 0}};
        for (int part = 0; part < 4; part++) {
            for (int t = 0; t < 8; t++) {
                due("gives " + part + " " + t, x.gives(part, t, 0), plain[part][t]);
                due("gives with laws " + part + " " + t, x.gives(part, t, 31), other[part][t]);
                due("gives with other laws " + part + " " + t, x.gives(part, t, 31 & ~(1 << part)), plain[part][t]);
            }
        }
        ForeverOffice y = with("turn 8;weight a 7 1 arm 3 out 0 from 2 to 3;");
        due("half, cut towards 0", y.gives(0, 1, 8), -1);
        due("half of what is given", y.gives(0, 2, 8), 1);
        due("as much falling", y.gives(0, 5, 8), 3);
        due("fed by t, not by place", with("turn 8;fed a 3 7;").gives(0, 3, 0), 7);
        dueThrow("gives(1, 0, 0)", () -> y.gives(1, 0, 0));
        dueThrow("gives(-1, 0, 0)", () -> y.gives(-1, 0, 0));
        dueThrow("gives(0, 8, 0)", () -> y.gives(0, 8, 0));
        dueThrow("gives(0, -1, 0)", () -> y.gives(0, -1, 0));
        dueThrow("gives(0, 0, 32)", () -> y.gives(0, 0, 32));
        dueThrow("gives(0, 0, -1)", () -> y.gives(0, 0, -1));
    }

    private static void sums() {
        ForeverOffice x = with(ALL_KINDS + "rub 3;");
        int[] with31 = {40, 8, 40, 9};
        int[] with0 = {0, 0, 0, 9};
        for (int part = 0; part < 4; part++) {
            due("sum " + part, x.sum(part, 0), with0[part]);
            due("sum with laws " + part, x.sum(part, 31), with31[part]);
        }
        due("WHOLE", x.sum(NONE, 0), 9 - 24);
        due("WHOLE without rub", x.sum(NONE, 16), 9);
        due("WHOLE with 7", x.sum(NONE, 7), 97 - 24);
        due("WHOLE with 31", x.sum(NONE, 31), 97);
        dueThrow("sum(4, 0)", () -> x.sum(4, 0));
        dueThrow("sum(-2, 0)", () -> x.sum(-2, 0));
        dueThrow("sum(-1, 32)", () -> x.sum(-1, 32));
        dueThrow("sum(-1, -1)", () -> x.sum(-1, -1));
        dueThrow("sum(0, 32)", () -> x.sum(0, 32));
    }

    private static void dueRan(String what, ForeverOffice x, int... want) {
        for (int i = 0; i < want.length; i++) {
            due(what + " ran " + i, x.ran(i), want[i]);
        }
    }

    private static void runs() {
        ForeverOffice x = with(SWING);
        due("ran ahead of any", x.ran(0), NONE);
        due("run", x.run(0, 50, 0), 44);
        dueRan("run", x, 0, 6, 11, 50, 1);
        due("run(8, 0, 0)", x.run(8, 0, 0), NONE);
        due("run(-1, 0, 0)", x.run(-1, 0, 0), NONE);
        due("run(0, -1, 0)", x.run(0, -1, 0), NONE);
        due("run(0, 100001, 0)", x.run(0, 100001, 0), NONE);
        due("run(0, 0, 32)", x.run(0, 0, 32), NONE);
        due("run(0, 0, -1)", x.run(0, 0, -1), NONE);
        due("ran(5)", x.ran(5), NONE);
        due("ran(-1)", x.ran(-1), NONE);
        put(x, "turn 10;");
        x.drawing();
        dueRan("behind another drawing", x, 0, 6, 11, 50, 1);
        due("run with the greatest push", x.run(9, 100000, 0), 20000);
        dueRan("goes", x, 9, 100000, 0, 100000, 0);
        // rub 5 of 100000: each STEP takes 5, so just 20000 STEPS can be done, and then it GOES
        ForeverOffice y = with("turn 8;rub 5;");
        due("just 20000", y.run(0, 100000, 0), 20000);
        dueRan("just 20000", y, 0, 0, 0, 100000, 0);
        due("19999", y.run(0, 99999, 0), 19999);
        dueRan("19999", y, 7, 4, 2, 99999, 1);
        // fed forward alone: one STEP on gives 9, the way back gives nothing
        ForeverOffice z = with("turn 8;fed a 2 9;rub 2;");
        due("fed", z.run(2, 0, 0), 4);
        dueRan("fed", z, 6, 1, 2, 7, 1);
        // the wall ahead of place 4 turns it back, the one behind place 2 turns it forward
        ForeverOffice w = with("turn 8;spring a 0 1 from 5 to 1;rub 1;");
        due("between two walls", w.run(3, 9, 0), 9);
        dueRan("between two walls", w, 4, 0, 6, 9, 1);
    }

    private static void standing() {
        ForeverOffice x = with(SWING);
        due("stand ahead of any", x.stand(0), NONE);
        due("stands", x.stands(0), 1);
        due("stand 0", x.stand(0), 0);
        due("stand 1", x.stand(1), NONE);
        due("stand -1", x.stand(-1), NONE);
        due("stands(32)", x.stands(32), NONE);
        due("stands(-1)", x.stands(-1), NONE);
        due("stand stays", x.stand(0), 0);
        put(x, "turn 8;rub 1;fed a 3 2;");
        x.drawing();
        due("stand of the earlier one", x.stand(0), 0);
        due("all but where it is fed", x.stands(0), 7);
        due("stand 3", x.stand(3), 4);
        due("stands without rub", x.stands(16), 0);
        due("stand of none", x.stand(0), NONE);
        // E of just 0 is not below 0: from 1 and 6 it can go forward so, from 3 and 4 backward
        put(x, "turn 8;rub 3;fed a 6 3;magnet m 0 3 at 2 shut 5 to 0;");
        x.drawing();
        due("stands but where E would be 0", x.stands(0), 2);
        due("at the magnet", x.stand(0), 2);
        due("behind the feeding", x.stand(1), 7);
        put(x, "turn 48;rub 1;");
        x.drawing();
        due("all 48", x.stands(0), 48);
        due("the last", x.stand(47), 47);
        put(x, "turn 8;rub 1;");
        x.drawing();
        due("all 8 behind 48", x.stands(0), 8);
        due("none behind", x.stand(8), NONE);
    }

    private static void claimForm() {
        dueClaim("each 1=1", 1, 0);
        dueClaim("all(((wet<1)))", 4, 0);
        dueClaim("some not(1=1 or 2>high)and not 3<4", 6, 0);
        dueClaim("some not(1=1or 2>high)and not 3<4", -12, 1);
        dueClaim("", -1, 1);
        dueClaim("  ", -3, 1);
        dueClaim("each", -5, 1);
        dueClaim("right>left", -1, 1);
        dueClaim("each each 1=1", -6, 1);
        dueClaim("each 1", -7, 1);
        dueClaim("each 1=", -8, 1);
        dueClaim("each 1==1", -8, 1);
        dueClaim("each 1=1 1=1", -10, 1);
        dueClaim("each 1=1 or", -12, 1);
        dueClaim("each 1=1 or and", -13, 1);
        dueClaim("each 1=1;", -9, 1);
        dueClaim("each (1=1", -10, 1);
        dueClaim("each 1=1)", -9, 1);
        dueClaim("each ()", -7, 1);
        dueClaim("each 1=1000", -8, 1);
        dueClaim("each rightx>1", -6, 1);
        dueClaim("each count>1", -6, 1);
        dueClaim("each 1=1 ?", -10, 1);
        dueClaim("each not", -9, 1);
    }

    private static void claimTooMuch() {
        String ones = "each 1=1" + " or 1=1".repeat(19);
        dueClaim(ones, 20, 0);
        dueClaim(ones + " or 1=1", -146, 4);
        dueClaim(ones + " or not 1=1", -146, 4);
        dueClaim(ones + " or (1=1)", -146, 4);
        dueClaim(ones + " or or", -146, 1);
        dueClaim(ones + " or", -145, 1);
        dueClaim("each " + "(".repeat(7) + "1=1" + ")".repeat(7), 8, 0);
        dueClaim("each " + "(".repeat(8) + "1=1" + ")".repeat(8), -14, 4);
        dueClaim("each " + "(".repeat(9), -14, 4);
        dueClaim("each " + "(".repeat(8) + ")", -14, 1);
        dueClaim("each " + "not(".repeat(4) + "wet=1", -22, 4);
        dueClaim("each " + "(".repeat(7) + "1=1 and not 1=1", -25, 4);
        dueClaim("each 1=1" + " ".repeat(192), 1, 0);
        dueClaim("each 1=1" + " ".repeat(193), -201, 1);
        dueClaim("each " + " ".repeat(192) + "wet=10", -201, 1);
        dueClaim("each " + " ".repeat(192) + "abcdefgh", -198, 1);
    }

    private static void claimsHold() {
        ForeverOffice x = with(SWING);
        dueHolds(x, "each right>left", 0, 0);
        dueHolds(x, "each right>left or right<left or right=left", 1, NONE);
        dueHolds(x, "some left>right", 1, NONE);
        dueHolds(x, "some left>99", 0, NONE);
        dueHolds(x, "all right>left", 1, NONE);
        dueHolds(x, "all right=26 and left=18 and rights=3 and lefts=3", 1, NONE);
        dueHolds(x, "all gives=40 and takes=40 and high=16 and wet=0", 1, NONE);
        dueHolds(x, "all not gives=40", 0, NONE);
        dueHolds(x, "each high<4", 0, 4);
        dueHolds(x, "each takes>0 or gives>0", 1, NONE);
        dueHolds(x, "each 1=2 and 1=2 or 1=1", 1, NONE);
        dueHolds(x, "each 1=1 or 1=2 and 1=2", 1, NONE);
        dueHolds(x, "each (1=1 or 1=2) and 1=2", 0, 0);
        dueHolds(x, "each not 1=2 and 1=1", 1, NONE);
        dueHolds(x, "each not (1=1 and 1=2)", 1, NONE);
        dueHolds(x, "each not 1=1 or 1=1", 1, NONE);
        dueHolds(x, "each not not not 1=2", 1, NONE);
        dueHolds(x, "each 5>high and not high=3 or lefts=1", 0, 5);
        put(x, "each");
        x.claim();
        due("claim stays", x.where(), 5);
        put(x, "turn 8;");
        x.drawing();
        due("holds of the drawing now", x.holds(), 1);
        due("where of the drawing now", x.where(), NONE);
    }

    private static void dueHolds(ForeverOffice x, String claim, int holds, int where) {
        say(x, claim);
        due("holds: " + claim, x.holds(), holds);
        due("where: " + claim, x.where(), where);
    }

    private static void values() {
        ForeverOffice x = with("turn 8;weight a 0 2 arm 3 out 5 from 4 to 6;weight b 4 1 arm 7;float f 0 3 from 7 to 0;fed c 1 8;");
        int[][] rows = {
            {0, 7, 7, 7, 0, 10, 10, 6},
            {0, 6, 6, 6, 0, 7, 7, 7},
            {0, 1, 1, 1, 0, 1, 1, 1},
            {0, 1, 1, 1, 0, 1, 1, 1},
            {1, 0, 0, 0, 0, 0, 0, 1},
            {127, 15, 7, 7, 10, 10, 14, 6},
            {6, 6, 6, 22, 7, 7, 97, 37},
            {4, 4, 4, 4, 4, 4, 4, 4}};
        for (int v = 0; v < 8; v++) {
            int all = 0;
            for (int t = 0; t < 8; t++) {
                all += rows[v][t];
                due("value " + v + " at " + t, x.value(v, t), rows[v][t]);
            }
            due("value " + v + " of all", x.value(v, NONE), all);
        }
        dueThrow("value(8, 0)", () -> x.value(8, 0));
        dueThrow("value(-1, 0)", () -> x.value(-1, 0));
        dueThrow("value(0, 8)", () -> x.value(0, 8));
        dueThrow("value(0, -2)", () -> x.value(0, -2));
    }

    private static void goersAndNeeds() {
        ForeverOffice x = with(ALL_KINDS + "rub 8;weight w 0 1 arm 4;");
        // WHOLE is 9 - 64; law 1 is 40 more, 2 is 8 more, 4 is 40 more, 8 is 8 more, 16 is 64 more
        int[] wholes = {-55, -15, -47, -7, -15, 25};
        for (int laws = 0; laws < wholes.length; laws++) {
            due("WHOLE with " + laws, x.sum(NONE, laws), wholes[laws]);
            due("goes " + laws, x.goes(laws), wholes[laws] > 0 ? 1 : 0);
        }
        due("goes 11", x.goes(11), 1);
        due("goes 16", x.goes(16), 1);
        due("goes 32", x.goes(32), -2);
        due("goes -2", x.goes(-2), -2);
        due("GOERS", x.goes(NONE), 16 + 6);
        int[] least = {5, 11, 14, 16};
        for (int k = 0; k < least.length; k++) {
            due("least " + k, x.least(k), least[k]);
        }
        due("least 4", x.least(4), NONE);
        due("least -1", x.least(-1), NONE);
        due("needs 1", x.needs(1), 1);
        due("needs 2", x.needs(2), 2);
        due("needs 4", x.needs(4), 4);
        due("needs 8", x.needs(8), 16);
        for (int law : new int[] {0, 3, 16, -1, 5}) {
            due("needs " + law, x.needs(law), NONE);
        }
        ForeverOffice y = with("float a 0 1 from 0 to 23;float b 0 1 from 12 to 12;float c 0 1 from 11 to 12;");
        due("needs but of those that give nothing going in", y.needs(1), 4);
        ForeverOffice z = with("fed a 0 1;");
        due("the empty set alone is least", z.least(0), 0);
        due("and no other", z.least(1), NONE);
    }

    private static void hiding() {
        ForeverOffice x = with("turn 8;rub 10;");
        due("hiddenAt ahead of any", x.hiddenAt(0, 0), NONE);
        due("hidden without a row", x.hidden(0, 100), NONE);
        putPairs(x, 9, 8, 7);
        due("none is needed", x.hidden(0, 100), -2);
        due("tape behind hidden", x.count(4), 0);
        due("hiddenAt behind -2", x.hiddenAt(0, 0), NONE);
        putPairs(x, 9, 10, 9);
        due("20 to 29 at 1", x.hidden(0, 100), 10);
        for (int k = 0; k < 10; k++) {
            due("x", x.hiddenAt(k, 0), 1);
            due("g", x.hiddenAt(k, 1), 20 + k);
        }
        due("hiddenAt(10, 0)", x.hiddenAt(10, 0), NONE);
        due("hiddenAt(-1, 0)", x.hiddenAt(-1, 0), NONE);
        due("hiddenAt(0, 2)", x.hiddenAt(0, 2), NONE);
        due("hiddenAt(0, -1)", x.hiddenAt(0, -1), NONE);
        putPairs(x, 9, 8, 7);
        due("none is needed again", x.hidden(0, 100), -2);
        due("the earlier stays", x.hiddenAt(0, 1), 20);
        hidingNotAsTold(x);
        due("the earlier still stays", x.hiddenAt(9, 1), 29);
        // E is 5 behind the first STEP, then below 0 without something hidden; by 10, cut, -5 would be 0 too
        ForeverOffice y = with("turn 8;rub 10;");
        putPairs(y, 0, 0);
        due("E not below 0", y.hidden(0, 15), 10);
        due("x", y.hiddenAt(0, 0), 1);
        due("g from 5", y.hiddenAt(0, 1), 5);
        due("g to 14", y.hiddenAt(9, 1), 14);
        ForeverOffice z = with("turn 8;float f 0 1 from 1 to 1;");
        putPairs(z, 0);
        due("LAWS as told: going in takes 30", z.hidden(0, 39), -2);
        putPairs(z, 3);
        due("LAWS as told: going in takes 30 of 39", z.hidden(0, 39), 10);
        hidingOften();
    }

    private static void hidingNotAsTold(ForeverOffice x) {
        int[][] calls = {{8, 0}, {-1, 0}, {0, -1}, {0, 100001}};
        for (int[] call : calls) {
            putPairs(x, 9);
            due("hidden not as told", x.hidden(call[0], call[1]), NONE);
            due("tape behind it", x.count(4), 0);
        }
        put(x, "abc");
        due("an odd row", x.hidden(0, 0), NONE);
        put(x, new byte[122]);
        due("61 pairs", x.hidden(0, 0), NONE);
    }

    private static void hidingOften() {
        ForeverOffice x = with("turn 48;");
        putPairs(x, new int[48]);
        due("none is needed", x.hidden(0, 0), -2);
        // the PUSH is 5 too small for 1 at the first STEP: only what leaves 0 there can be it
        putPairs(x, 1);
        due("at 0 alone", x.hidden(0, 5), 10);
        due("g", x.hiddenAt(0, 1), 5);
        // the row tells x by where it rises, and g, over many turns, to the last digits
        ForeverOffice y = with("turn 8;");
        int[] twice = new int[60];
        for (int i = 0; i < 60; i++) {
            twice[i] = (i + 5) / 8 * 7;
        }
        putPairs(y, twice);
        due("70 in each turn", y.hidden(0, 0), 2);
        due("x", y.hiddenAt(0, 0), 3);
        due("g", y.hiddenAt(0, 1), 70);
        due("g", y.hiddenAt(1, 1), 71);
        ForeverOffice z = with("turn 8;");
        putPairs(z, 10009);
        due("the greatest g", z.hidden(7, 99095), 5);
        due("x", z.hiddenAt(4, 0), 7);
        due("g", z.hiddenAt(4, 1), 999);
        putPairs(z, 65535);
        due("so much can't be hidden", z.hidden(7, 100000), 0);
    }

    private static void looking() {
        ForeverOffice x = with("turn 48;rub 10;");
        putLooks(x, -1L);
        due("looks ahead of any", x.looks(), -2);
        due("tape behind looks", x.count(4), 0);
        due("lookSet ahead of any", x.lookSet(), 0);
        putPairs(x, 9, 10, 9);
        due("hidden at 1", x.hidden(0, 100), 10);
        putLooks(x, 1L, 2L, 3L, 2L);
        due("one look", x.looks(), 1);
        due("the least one", x.lookSet(), 2);
        putLooks(x, 1L, 4L);
        due("do not bar", x.looks(), NONE);
        due("the set stays", x.lookSet(), 2);
        put(x, new byte[0]);
        due("no look", x.looks(), -2);
        put(x, new byte[7]);
        due("seven bytes", x.looks(), -2);
        put(x, new byte[66]);
        due("eleven looks", x.looks(), -2);
        put(x, new byte[60]);
        due("ten looks", x.looks(), NONE);
        putPairs(x, 9, 8);
        due("none is needed", x.hidden(0, 100), -2);
        putLooks(x, 4L, 0L, 2L);
        due("of the earlier one", x.looks(), 1);
        due("its set", x.lookSet(), 4);
        putPairs(x, 200, 0);
        due("nothing can be hidden", x.hidden(0, 100), 0);
        putLooks(x, 7L);
        due("no look is needed", x.looks(), 0);
        due("the empty set", x.lookSet(), 0);
        lookingForMany();
    }

    private static void lookingForMany() {
        ForeverOffice x = with("turn 48;");
        int[] row = new int[48];
        for (int i = 40; i < 48; i++) {
            row[i] = 1;
        }
        putPairs(x, row);
        // E is 9; what is hidden at 40 lifts it by 1 to 10
        due("at 40 alone", x.hidden(0, 9), 10);
        putLooks(x, 1L << 39, 1L << 40, 1L << 47);
        due("bit 40", x.looks(), 1);
        due("its set", x.lookSet(), 2);
        ForeverOffice y = with("turn 8;fed a 2 1;");
        putPairs(y, 0, 0, 0, 1);
        due("what is hidden at 0, 1 or 2 would be seen too early", y.hidden(0, 8), 10);
        due("so it is at 3", y.hiddenAt(0, 0), 3);
        putPairs(y, 0, 0, 1);
        due("at 0 and 1 by 1, at 2 by 1 to 10", y.hidden(0, 8), 12);
        int[][] finds = {{0, 1}, {1, 1}, {2, 1}, {2, 2}};
        for (int k = 0; k < finds.length; k++) {
            due("x of " + k, y.hiddenAt(k, 0), finds[k][0]);
            due("g of " + k, y.hiddenAt(k, 1), finds[k][1]);
        }
        due("g of the last", y.hiddenAt(11, 1), 10);
        putLooks(y, 1L, 2L, 4L, 3L, 6L);
        due("two of five", y.looks(), 2);
        due("the least set", y.lookSet(), 12);
        putLooks(y, 1L, 2L, 4L, 0L);
        due("three", y.looks(), 3);
        due("their set", y.lookSet(), 7);
    }

    private static void keeping() {
        ForeverOffice x = with(ALL_KINDS);
        due("same of none", x.same(5), -2);
        due("keep", x.keep(5), true);
        due("keep again", x.keep(5), true);
        due("kept", x.count(3), 1);
        due("keep 0", x.keep(0), true);
        due("kept", x.count(3), 2);
        due("keep 6", x.keep(6), false);
        due("keep -1", x.keep(-1), false);
        due("same of 6", x.same(6), -2);
        due("same of -1", x.same(-1), -2);
        due("same of 1", x.same(1), -2);
        due("same of itself", x.same(5), 0);
        String turned = "turn 8;fed y 5 9;spring s 1 1 from 2 to 2;magnet m 1 2 at 4 shut 5 to 7;float f 1 1 from 0 to 3;";
        dueSame(x, turned, 7);
        dueSame(x, turned + "rub 0;", 7);
        dueSame(x, turned + "rub 1;", NONE);
        dueSame(x, turned.replace("turn 8", "turn 10"), NONE);
        dueSame(x, turned.replace("f 1 1", "f 2 1"), NONE);
        dueSame(x, turned.replace("f 1 1", "f 1 2"), NONE);
        dueSame(x, turned.replace("at 4", "at 3"), NONE);
        dueSame(x, turned.replace(" shut 5 to 7", ""), NONE);
        dueSame(x, turned.replace("from 0 to 3", "from 0 to 4"), NONE);
        dueSame(x, turned.replace("y 5 9", "y 7 9"), NONE);
        dueSame(x, turned + "fed z 0 1;", NONE);
        dueSame(x, turned.replace("y 5 9", "y 5 8"), NONE);
        put(x, "turn 8;weight a 0 1 arm 2;weight b 4 1 arm 2;");
        x.drawing();
        x.keep(0);
        dueSame(x, "turn 8;weight a 7 1 arm 2;weight b 3 1 arm 2;", 1);
        dueSame(x, "turn 8;weight a 3 1 arm 2;weight b 3 1 arm 2;", NONE, 0);
        dueSame(x, "turn 8;weight a 7 1 arm 2 out 2 from 0 to 1;weight b 3 1 arm 2;", NONE, 0);
    }

    private static void dueSame(ForeverOffice x, String drawing, int want) {
        dueSame(x, drawing, want, drawing.contains("fed") ? 5 : 0);
    }

    private static void dueSame(ForeverOffice x, String drawing, int want, int k) {
        put(x, drawing);
        x.drawing();
        due("same: " + drawing, x.same(k), want);
    }

    private static void feedings() {
        ForeverOffice x = with("turn 8;rub 3;");
        due("24 a turn", x.feeding(0, 0, 0, 0), 24);
        due("load is taken too", x.feeding(0, 0, 0, 6), 30);
        due("a push helps, over 20 turns", x.feeding(0, 0, 40, 0), 22);
        due("and is enough", x.feeding(0, 0, 480, 0), 1);
        due("20 W is 1 more than W is", x.feeding(0, 0, 459, 0), 2);
        due("nothing ahead of the pin", x.feeding(1, 0, 2, 0), NONE);
        due("just enough ahead of the pin", x.feeding(1, 0, 3, 0), 24);
        due("999", x.feeding(0, 0, 0, 975), 999);
        due("999 do not", x.feeding(0, 0, 0, 976), NONE);
        due("the load is taken at 0, ahead of the pin", x.feeding(1, 0, 8, 6), NONE);
        due("just enough for it", x.feeding(1, 0, 9, 6), 30);
        due("and not at 1", x.feeding(0, 1, 20, 6), NONE);
        ForeverOffice y = with("turn 8;float f 0 1 from 1 to 1;");
        due("LAWS as told: going in takes 30", y.feeding(7, 0, 29, 0), NONE);
        due("going in takes 30", y.feeding(7, 0, 30, 0), 1);
        int[][] calls = {{8, 0, 0, 0}, {-1, 0, 0, 0}, {0, 8, 0, 0}, {0, -1, 0, 0}, {0, 0, -1, 0}, {0, 0, 100001, 0}, {0, 0, 0, -1}, {0, 0, 0, 10000}};
        for (int[] call : calls) {
            due("feeding not as told", x.feeding(call[0], call[1], call[2], call[3]), -2);
        }
        due("feeding with the greatest push and load", x.feeding(7, 7, 100000, 9999), NONE);
        due("feeding with the greatest push", x.feeding(7, 7, 100000, 5900), 924);
    }

    private static void inventing() {
        dueInventor("", 0, 0);
        dueInventor("in 0 hears fed goes 9;", 1, 0);
        dueInventor("in 9 hears count goes 0;in 00 hears door goes 009;in 3 hears model goes 3;", 3, 0);
        dueInventor("in 0 hears turn goes 1;in 0 hears rub goes 1;in 0 hears law goes 1;", 3, 0);
        dueInventor("in 10 hears fed goes 9;", -4, 2);
        dueInventor("in 1 hears fed goes 10;", -21, 2);
        dueInventor("in 1 hears weight goes 1;", -12, 1);
        dueInventor("in 1 hears wheel goes 1;", -12, 1);
        dueInventor("in 1 hears 1 goes 1;", -12, 1);
        dueInventor("on 1 hears fed goes 1;", -1, 1);
        dueInventor("in x hears fed goes 1;", -4, 1);
        dueInventor("in 1 goes 1;", -6, 1);
        dueInventor("in 1 hears fed", -15, 1);
        dueInventor("in 1 hears fed goes 1", -22, 1);
        dueInventor("in 1 hears fed goes 1;;", -23, 1);
        String line = "in 0 hears fed goes 1;";
        dueInventor(line.repeat(20), 20, 0);
        dueInventor(line.repeat(21), -441, 4);
        dueInventor(line.repeat(20) + "in", -441, 4);
        dueInventor(line.repeat(20) + "on", -441, 1);
        dueInventor(line + " ".repeat(578), 1, 0);
        dueInventor(line + " ".repeat(579), -601, 1);
    }

    private static void rightSayings() {
        dueRight("turn 8;", 0, 1, 0, 0, 0, 0, 0);
        dueRight(SWING, 1, 1, 0, 1, 1, 0, 1);
        dueRight(ALL_KINDS, 0, 1, 1, 0, 0, 1, 0);
        dueRight("turn 8;fed a 0 1;rub 1;", 0, 1, 0, 1, 1, 1, 1);
        dueRight("turn 8;float a 0 1 from 4 to 4;", 0, 1, 0, 0, 0, 0, 0);
        dueRight("turn 8;float a 0 1 from 3 to 4;", 0, 1, 1, 0, 0, 0, 1);
        dueRight("turn 8;float a 0 1 from 3 to 2;", 0, 1, 0, 0, 0, 0, 0);
        dueRight("turn 48;magnet a 0 1 at 4;", 0, 1, 0, 0, 0, 0, 0);
        dueRight("turn 48;magnet a 0 1 at 4 shut 20 to 30;", 0, 1, 0, 0, 0, 0, 0);
        dueRight("turn 48;magnet a 0 1 at 4 shut 5 to 30;", 0, 1, 1, 0, 0, 0, 1);
        dueRight("turn 48;magnet a 0 1 at 4 shut 20 to 2;", 0, 1, 0, 0, 0, 0, 0);
        dueRight("turn 8;spring a 4 99 from 0 to 0;", 0, 1, 0, 0, 0, 0, 1);
        dueRight("turn 8;weight a 0 1 arm 1;weight b 4 1 arm 1;", 0, 1, 0, 0, 0, 0, 1);
        // walls of 1000 on both sides of t = 0, then of 1001
        dueRight("turn 8;spring a 0 25 from 1 to 7;", 0, 1, 0, 0, 0, 0, 1);
        dueRight("turn 8;spring a 0 25 from 1 to 7;weight b 0 1 arm 1;", 1, 1, 0, 1, 0, 0, 1);
        // walls that are there with LAWS as told alone, and from t = 0 alone
        dueRight("turn 8;float f 0 99 from 1 to 7;", 0, 1, 1, 1, 0, 0, 1);
        dueRight("turn 8;rub 999;fed a 0 99;", 0, 1, 0, 1, 1, 1, 1);
        dueRight("turn 8;rub 1;fed a 0 8;", 0, 1, 0, 0, 1, 1, 1);
        due("right 7", new ForeverOffice().right(7), NONE);
        due("right -1", new ForeverOffice().right(-1), NONE);
        ForeverOffice x = with(SWING);
        x.run(0, 50, 0);
        x.right(3);
        dueRan("right() is no run()", x, 0, 6, 11, 50, 1);
    }

    private static void dueRight(String drawing, int... want) {
        ForeverOffice x = with(drawing);
        for (int s = 0; s < 7; s++) {
            due("right " + s + " of " + drawing, x.right(s), want[s]);
        }
    }

    private static void dueAnswer(ForeverOffice x, String inventor, int... want) {
        invent(x, inventor);
        due("answer: " + inventor, x.answer(), want.length == 0 ? NONE : want.length);
        for (int k = 0; k < want.length; k++) {
            due("answerAt " + k + ": " + inventor, x.answerAt(k), want[k]);
        }
        due("answerAt behind: " + inventor, want.length == 0 ? NONE : x.answerAt(want.length), NONE);
    }

    private static void answers() {
        ForeverOffice x = with(SWING);
        due("answerAt ahead of any", x.answerAt(0), NONE);
        // right are count, turn, model, rub and law
        dueAnswer(x, "in 0 hears law goes 9;", 6);
        dueAnswer(x, "in 0 hears law goes 9;in 0 hears model goes 9;", 3);
        dueAnswer(x, "in 0 hears law goes 1;in 1 hears turn goes 9;in 0 hears count goes 2;in 2 hears rub goes 9;", 0, 4);
        dueAnswer(x, "in 0 hears count goes 1;in 0 hears turn goes 1;in 1 hears law goes 9;in 1 hears rub goes 9;", 0, 4);
        dueAnswer(x, "in 0 hears count goes 1;in 1 hears count goes 2;in 2 hears count goes 9;in 0 hears law goes 2;", 6, 0);
        dueAnswer(x, "in 0 hears count goes 5;in 0 hears count goes 9;in 5 hears turn goes 9;", 0, 1);
        due("answerAt -1", x.answerAt(-1), NONE);
        dueAnswer(x, "in 0 hears fed goes 9;in 0 hears door goes 9;");
        due("the earlier answer stays", x.answerAt(1), 1);
        dueAnswer(x, "in 0 hears count goes 1;in 1 hears count goes 0;");
        put(x, "in");
        x.inventor();
        due("the inventor stays", x.answer(), NONE);
        StringBuilder chain = new StringBuilder();
        for (int s = 0; s < 9; s++) {
            chain.append("in ").append(s).append(" hears turn goes ").append(s + 1).append(';');
        }
        dueAnswer(x, chain.toString(), 1, 1, 1, 1, 1, 1, 1, 1, 1);
        put(x, "turn 8;fed a 0 1;");
        x.drawing();
        dueAnswer(x, "in 0 hears law goes 9;");
        dueAnswer(x, "in 0 hears fed goes 9;", 5);
    }

    private static void counts() {
        ForeverOffice x = with("turn 10;rub 45;fed a 0 1;fed b 0 2;");
        int[] want = {2, 10, 45, 0, 0};
        for (int what = 0; what < want.length; what++) {
            due("count " + what, x.count(what), want[what]);
        }
        due("count 5", x.count(5), NONE);
        due("count -1", x.count(-1), NONE);
        for (int k = 0; k < 6; k++) {
            x.keep(k);
            due("kept", x.count(3), k + 1);
        }
    }

    public static void main(String[] args) {
        newObject();
        feedAndEnd();
        drawingForm();
        drawingNamesAndNumbers();
        drawingTooMuch();
        drawingStays();
        places();
        energies();
        givesByLaws();
        sums();
        runs();
        standing();
        claimForm();
        claimTooMuch();
        claimsHold();
        values();
        goersAndNeeds();
        hiding();
        looking();
        keeping();
        feedings();
        inventing();
        rightSayings();
        answers();
        counts();
        tell("PromiseTests");
    }
}
