/** The bounds of what is found out of texts that are as told (Terms, parts 2 to 5, promises 6 to 31). */
public final class WheelEdgeTests extends Check {
    private static int high(int place, int n) {
        return Math.min(place, n - place);
    }

    private static boolean within(int place, int from, int to, int n) {
        return (place - from + n) % n <= (to - from + n) % n;
    }

    private static void dueRow(String what, int[] got, int... want) {
        due(what + ", how many", got.length, want.length);
        for (int i = 0; i < Math.min(got.length, want.length); i++) {
            due(what + " at " + i, got[i], want[i]);
        }
    }

    private static int[] energies(ForeverOffice x, int part) {
        int[] row = new int[x.count(1)];
        for (int place = 0; place < row.length; place++) {
            row[place] = x.energy(part, place);
        }
        return row;
    }

    private static int[] givings(ForeverOffice x, int part, int laws) {
        int[] row = new int[x.count(1)];
        for (int t = 0; t < row.length; t++) {
            row[t] = x.gives(part, t, laws);
        }
        return row;
    }

    /** "place j is as HIGH as j up to N by 2, from there N less j", "at place p + t (round)". */
    private static void placesGoRound() {
        for (int n = 8; n <= 48; n += 2) {
            ForeverOffice x = with("turn " + n + ";weight a 0 1 arm 1;weight b " + (n - 1) + " 1 arm 1;");
            for (int j : new int[] {0, 1, n / 2 - 1, n / 2, n / 2 + 1, n - 1}) {
                due("HIGH of " + j + " of " + n, x.energy(0, j), high(j, n));
            }
            due("PIN 0 at t = N less 1", x.place(0, n - 1), n - 1);
            due("PIN N less 1 at t = 0", x.place(1, 0), n - 1);
            due("PIN N less 1 at t = 1", x.place(1, 1), 0);
            due("PIN N less 1 at t = N less 1", x.place(1, n - 1), n - 2);
            due("STEP N less 1 leads to 0", x.gives(0, n - 1, 0), 1);
            due("STEP N by 2 less 1 leads up", x.gives(0, n / 2 - 1, 0), -1);
            due("STEP N by 2 leads down", x.gives(0, n / 2, 0), 1);
            due("STEP 0 of the last PIN leads to place 0", x.gives(1, 0, 0), 1);
            due("STEP N less 1 of the last PIN", x.gives(1, n - 1, 0), 1);
        }
    }

    /** "X to Y: X, the next one, .. up to Y, round over 0, if Y is less.": all X and Y there are. */
    private static void ranges() {
        for (int from = 0; from < 8; from++) {
            for (int to = 0; to < 8; to++) {
                String range = from + " to " + to + ";";
                ForeverOffice x = with("turn 8;weight a 0 1 arm 0 out 1 from " + range + "float b 0 1 from " + range
                    + "magnet c 0 1 at 0 shut " + range + "spring d 0 1 from " + range);
                for (int place = 0; place < 8; place++) {
                    boolean in = within(place, from, to, 8);
                    String what = "energy at " + place + " within " + range;
                    due(what, x.energy(0, place), in ? high(place, 8) : 0);
                    due(what, x.energy(1, place), in ? 10 * (4 - high(place, 8)) : 0);
                    due(what, x.energy(2, place), in ? 0 : high(place, 8) - 6);
                    due(what, x.energy(3, place), in ? 40 : 0);
                }
            }
        }
    }

    /** ENERGY, the greatest and the least that each kind can have. */
    private static void energyBounds() {
        ForeverOffice x = with("turn 48;weight a 0 99 arm 20;float b 0 99 from 0 to 24;magnet c 0 99 at 24;spring d 0 99 from 1 to 1;"
            + "weight e 0 99 arm 0;weight f 0 99 arm 20 out 0 from 24 to 24;fed g 0 99;");
        due("weight at the top", x.energy(0, 24), 47520);
        due("weight at 0", x.energy(0, 0), 0);
        due("float at 0", x.energy(1, 0), 23760);
        due("float at the top", x.energy(1, 24), 0);
        due("float outside", x.energy(1, 25), 0);
        due("magnet", x.energy(2, 24), -594);
        due("spring", x.energy(3, 1), 3960);
        due("arm 0", x.energy(4, 24), 0);
        due("out 0", x.energy(5, 24), 0);
        due("not yet out", x.energy(5, 23), 45540);
        due("fed", x.energy(6, 0), 0);
    }

    /** "its distance round from PLACE is less than 6 (0 at 6 and more)", "0 in the places where it is shut". */
    private static void magnets() {
        dueRow("12 places", energies(with("turn 12;magnet a 0 1 at 0;"), 0), -6, -5, -4, -3, -2, -1, 0, -1, -2, -3, -4, -5);
        dueRow("8 places", energies(with("turn 8;magnet a 0 2 at 7;"), 0), -10, -8, -6, -4, -6, -8, -10, -12);
        dueRow("14 places", energies(with("turn 14;magnet a 0 1 at 3;"), 0), -3, -4, -5, -6, -5, -4, -3, -2, -1, 0, 0, 0, -1, -2);
        dueRow("shut at its PLACE", energies(with("turn 8;magnet a 0 1 at 7 shut 7 to 7;"), 0), -5, -4, -3, -2, -3, -4, -5, 0);
        dueRow("shut all round", energies(with("turn 8;magnet a 0 1 at 7 shut 3 to 2;"), 0), 0, 0, 0, 0, 0, 0, 0, 0);
        ForeverOffice x = with("turn 48;magnet a 0 1 at 2;magnet b 0 1 at 47;");
        due("5 away over 0", x.energy(0, 45), -1);
        due("6 away over 0", x.energy(0, 44), 0);
        due("5 away", x.energy(0, 7), -1);
        due("6 away", x.energy(0, 8), 0);
        due("5 away over N", x.energy(1, 4), -1);
        due("6 away over N", x.energy(1, 5), 0);
        due("24 away", x.energy(1, 23), 0);
    }

    /** LAW 1: "a float that goes in (from outside X to Y) gives 0 in that STEP". LAW 4: a spring likewise. */
    private static void lawsOfGoingIn() {
        ForeverOffice x = with("turn 8;float a 0 1 from 2 to 3;float b 0 1 from 0 to 7;float c 0 1 from 1 to 0;float d 0 1 from 7 to 0;"
            + "spring e 0 1 from 7 to 0;spring f 0 1 from 5 to 4;spring g 0 1 from 3 to 3;");
        dueRow("in and out", givings(x, 0, 0), 0, -20, 10, 10, 0, 0, 0, 0);
        dueRow("goes in for 0", givings(x, 0, 1), 0, 0, 10, 10, 0, 0, 0, 0);
        dueRow("all the other LAWS", givings(x, 0, 30), 0, -20, 10, 10, 0, 0, 0, 0);
        dueRow("never outside", givings(x, 1, 1), 10, 10, 10, 10, -10, -10, -10, -10);
        dueRow("never outside, told round", givings(x, 2, 1), 10, 10, 10, 10, -10, -10, -10, -10);
        dueRow("in over 0", givings(x, 3, 0), 40, 0, 0, 0, 0, 0, -30, -10);
        dueRow("in over 0 for 0", givings(x, 3, 1), 40, 0, 0, 0, 0, 0, 0, -10);
        dueRow("spring over 0", givings(x, 4, 0), 40, 0, 0, 0, 0, 0, -40, 0);
        dueRow("spring over 0 for 0", givings(x, 4, 4), 40, 0, 0, 0, 0, 0, 0, 0);
        dueRow("spring, all the other LAWS", givings(x, 4, 27), 40, 0, 0, 0, 0, 0, -40, 0);
        dueRow("spring never outside", givings(x, 5, 4), 0, 0, 0, 0, 0, 0, 0, 0);
        dueRow("spring of one place", givings(x, 6, 4), 0, 0, 0, 40, 0, 0, 0, 0);
    }

    /** LAW 2: "a magnet gives 0 in a STEP from shut to not shut, or back". LAW 8: a weight "gives half (cut towards 0)". */
    private static void lawsOfMagnetAndWeight() {
        ForeverOffice x = with("turn 8;magnet a 0 1 at 4 shut 3 to 4;magnet b 0 1 at 4;magnet c 0 1 at 4 shut 0 to 7;"
            + "weight d 0 1 arm 3;weight e 0 1 arm 3 out 0 from 2 to 3;weight f 0 1 arm 1;weight g 7 2 arm 1;fed h 7 9;");
        dueRow("shut", givings(x, 0, 0), 1, 1, -4, 0, 5, -1, -1, -1);
        dueRow("shut, and back, for 0", givings(x, 0, 2), 1, 1, 0, 0, 0, -1, -1, -1);
        dueRow("shut, all the other LAWS", givings(x, 0, 29), 1, 1, -4, 0, 5, -1, -1, -1);
        dueRow("never shut", givings(x, 1, 2), 1, 1, 1, 1, -1, -1, -1, -1);
        dueRow("always shut", givings(x, 2, 2), 0, 0, 0, 0, 0, 0, 0, 0);
        dueRow("half of 3 is 1", givings(x, 3, 8), -1, -1, -1, -1, 3, 3, 3, 3);
        dueRow("all the other LAWS", givings(x, 3, 23), -3, -3, -3, -3, 3, 3, 3, 3);
        dueRow("half of what it gives, too", givings(x, 4, 8), -1, 1, 0, -6, 3, 3, 3, 3);
        dueRow("half of 1 is 0", givings(x, 5, 8), 0, 0, 0, 0, 1, 1, 1, 1);
        dueRow("half, PIN N less 1", givings(x, 6, 8), 2, -1, -1, -1, -1, 2, 2, 2);
        dueRow("fed leaves t = its PIN", givings(x, 7, 31), 0, 0, 0, 0, 0, 0, 0, 9);
    }

    /** "WHOLE: of all PARTS, less N times rub." */
    private static void wholes() {
        due("the greatest rub", with("turn 48;rub 999;").sum(NONE, 15), -47952);
        due("LAW 16", with("turn 48;rub 999;").sum(NONE, 16), 0);
        due("no PART", new ForeverOffice().sum(NONE, 0), 0);
        ForeverOffice x = with("turn 8;rub 1;fed a 0 99;fed b 7 99;fed c 0 1;spring d 0 99 from 1 to 1;");
        due("WHOLE", x.sum(NONE, 0), 191);
        due("WHOLE with LAW 4", x.sum(NONE, 4), 4151);
        due("SUM of one", x.sum(1, 31), 99);
        due("SUM of the last", x.sum(3, 4), 3960);
    }

    private static void dueRun(String drawing, int[] call, int steps, int... ran) {
        ForeverOffice x = with(drawing);
        due("run of " + drawing, x.run(call[0], call[1], call[2]), steps);
        for (int what = 0; what < ran.length; what++) {
            due("ran " + what + " of " + drawing, x.ran(what), ran[what]);
        }
    }

    private static int[] from(int t, int push, int laws) {
        return new int[] {t, push, laws};
    }

    /** "if that is not below 0, it is done, else the wheel turns back (E as it was)", "Two turnings one behind the other: it RESTS." */
    private static void runs() {
        String rub = "turn 8;rub 1;";
        dueRun(rub, from(0, 0, 0), 0, 0, 0, 2, 0, 1);
        dueRun(rub, from(0, 1, 0), 1, 1, 0, 2, 1, 1);
        dueRun(rub, from(7, 1, 0), 1, 0, 0, 2, 1, 1);
        dueRun(rub, from(0, 0, 16), 20000, 0, 0, 0, 0, 0);
        String wall = rub + "spring a 0 1 from 1 to 1;";
        dueRun(wall, from(0, 40, 0), 40, 4, 0, 9, 40, 1);
        dueRun(wall, from(0, 41, 0), 41, 5, 0, 8, 41, 1);
        dueRun(wall, from(0, 5, 0), 5, 3, 0, 3, 5, 1);
        // backward fed gives 0, forward it gives
        String fed = wall + "fed b 7 9;";
        dueRun(fed, from(0, 5, 0), 5, 3, 0, 3, 5, 1);
        dueRun(fed, from(7, 0, 0), 9, 4, 0, 4, 8, 1);
        // between a turning back and a turning forward a STEP was done: it does not REST
        dueRun("turn 8;weight a 0 1 arm 1;", from(5, 0, 0), 20000, 1, 2, 3333, 3, 0);
        dueRun("turn 8;weight a 0 1 arm 1;", from(0, 0, 0), 0, 0, 0, 2, 0, 1);
        dueRun("turn 8;spring a 0 1 from 2 to 7;", from(0, 39, 0), 20000, 0, 39, 19999, 39, 0);
        dueRun("turn 8;spring a 0 1 from 2 to 7;", from(1, 39, 0), 20000, 1, 39, 20000, 39, 0);
        dueRun("turn 8;weight a 0 1 arm 1;", from(0, 4, 0), 20000, 0, 4, 0, 4, 0);
        dueRun("turn 8;weight a 0 1 arm 1;", from(0, 3, 0), 20000, 6, 1, 3333, 3, 0);
    }

    /** "20000 STEPS done at most: it GOES." and "PUSH (0 to 100000)". */
    private static void longRuns() {
        dueRun("turn 8;rub 5;", from(0, 100000, 0), 20000, 0, 0, 0, 100000, 0);
        dueRun("turn 8;rub 5;", from(0, 99999, 0), 19999, 7, 4, 2, 99999, 1);
        dueRun("turn 8;rub 4;", from(1, 79999, 0), 19999, 0, 3, 2, 79999, 1);
        dueRun("turn 8;rub 4;", from(1, 80000, 0), 20000, 1, 0, 0, 80000, 0);
        dueRun("turn 48;", from(47, 100000, 0), 20000, 31, 100000, 0, 100000, 0);
        // each turn gives 3960: the greatest E there is of one spring
        dueRun("turn 8;spring a 0 99 from 1 to 1;", from(0, 0, 4), 20000, 0, 9900000, 0, 9900000, 0);
    }

    private static void dueStands(String drawing, int laws, int... want) {
        ForeverOffice x = with(drawing);
        due("stands of " + drawing, x.stands(laws), want.length);
        for (int k = 0; k < want.length; k++) {
            due("stand " + k + " of " + drawing, x.stand(k), want[k]);
        }
        due("stand behind the last of " + drawing, x.stand(want.length), NONE);
    }

    /** "STANDS: all t at which, with a PUSH of 0, it RESTS without a STEP.": E of just 0 is a STEP done. */
    private static void stands() {
        dueStands("turn 8;", 0);
        dueStands("turn 8;rub 1;", 0, 0, 1, 2, 3, 4, 5, 6, 7);
        dueStands("turn 8;rub 1;", 16);
        dueStands("turn 8;weight a 0 1 arm 1;", 0, 0);
        dueStands("turn 8;weight a 7 1 arm 1;", 0, 1);
        dueStands("turn 8;rub 1;weight a 0 1 arm 1;", 0, 0);
        dueStands("turn 8;rub 2;weight a 0 1 arm 1;", 0, 0, 1, 2, 3, 4, 5, 6, 7);
        dueStands("turn 8;rub 5;fed a 2 5;", 0, 0, 1, 3, 4, 5, 6, 7);
        dueStands("turn 8;rub 5;fed a 2 4;", 0, 0, 1, 2, 3, 4, 5, 6, 7);
        dueStands("turn 8;rub 5;fed a 7 5;", 0, 0, 1, 2, 3, 4, 5, 6);
        ForeverOffice x = with("turn 48;rub 1;");
        due("all 48", x.stands(0), 48);
        due("the 48th", x.stand(47), 47);
        due("no 49th", x.stand(48), NONE);
    }

    /** "weights at places above N by 2; from 1 to N by 2 less 1": none at 0 and at N by 2. */
    private static void sides() {
        for (int n : new int[] {8, 24, 48}) {
            ForeverOffice x = with("turn " + n + ";weight a 0 2 arm 3;weight b 0 5 arm 0;");
            for (int t : new int[] {0, 1, n / 2 - 1, n / 2, n / 2 + 1, n - 1}) {
                boolean left = t == 1 || t == n / 2 - 1;
                boolean right = t == n / 2 + 1 || t == n - 1;
                due("right at " + t, x.value(0, t), right ? 6 : 0);
                due("left at " + t, x.value(1, t), left ? 6 : 0);
                due("rights at " + t, x.value(2, t), right ? 2 : 0);
                due("lefts at " + t, x.value(3, t), left ? 2 : 0);
                due("high at " + t, x.value(7, t), 2 * high(t, n));
            }
            due("right of all", x.value(0, NONE), 6 * (n / 2 - 1));
            due("left of all", x.value(1, NONE), 6 * (n / 2 - 1));
            due("rights of all", x.value(2, NONE), n - 2);
            due("lefts of all", x.value(3, NONE), n - 2);
        }
    }

    /** VALUES of nothing, of one and of all 12 PARTS. */
    private static void values() {
        ForeverOffice none = new ForeverOffice();
        for (int v = 0; v < 8; v++) {
            due("VALUE " + v + " of nothing", none.value(v, 23), 0);
            due("sum of VALUE " + v + " of nothing", none.value(v, NONE), 0);
        }
        StringBuilder weights = new StringBuilder("turn 48;");
        StringBuilder floats = new StringBuilder("turn 48;");
        for (char c = 'a'; c <= 'l'; c++) {
            weights.append("weight ").append(c).append(" 24 99 arm 0 out 20 from 25 to 25;");
            floats.append("float ").append(c).append(" 0 99 from 0 to 0;");
        }
        ForeverOffice x = with(weights.toString());
        due("right of 12", x.value(0, 1), 23760);
        due("rights of 12", x.value(2, 1), 12);
        due("high of 12", x.value(7, 0), 288);
        due("takes of 12", x.value(6, 0), 546480);
        due("gives of 12", x.value(5, 1), 546480);
        due("rights of all", x.value(2, NONE), 276);
        ForeverOffice y = with(floats.toString());
        due("wet at 0", y.value(4, 0), 12);
        due("wet at 1", y.value(4, 1), 0);
        due("wet at 47", y.value(4, 47), 0);
        due("gives at 0", y.value(5, 0), 285120);
        due("takes at 0", y.value(6, 0), 0);
        due("gives at 47", y.value(5, 47), 0);
        due("takes at 47", y.value(6, 47), 285120);
        ForeverOffice z = with("turn 8;fed a 7 3;fed b 7 4;spring c 0 1 from 0 to 0;spring d 1 1 from 0 to 0;");
        due("one gives, the other takes: gives", z.value(5, 7), 47);
        due("one gives, the other takes: takes", z.value(6, 7), 40);
        due("takes at 6", z.value(6, 6), 40);
    }

    private static void dueHolds(String drawing, String claim, int holds, int where) {
        ForeverOffice x = with(drawing);
        say(x, claim);
        due("holds of " + claim, x.holds(), holds);
        due("where of " + claim, x.where(), where);
    }

    /** "NOT SO: the least t at which an 'each' is not so", "NONE: it is so for each, or it is no 'each'". */
    private static void claimsAtTheEnds() {
        String last = "turn 48;fed a 47 3;";
        dueHolds(last, "each gives=0", 0, 47);
        dueHolds(last, "each gives<3", 0, 47);
        dueHolds(last, "each gives<4", 1, NONE);
        dueHolds(last, "each gives>0", 0, 0);
        dueHolds(last, "some gives=3", 1, NONE);
        dueHolds(last, "some gives>3", 0, NONE);
        dueHolds(last, "all gives=3", 1, NONE);
        dueHolds(last, "all gives<3", 0, NONE);
        dueHolds("turn 8;fed a 0 3;", "each not gives=3", 0, 0);
        dueHolds("turn 8;fed a 0 3;", "some gives=3", 1, NONE);
        dueHolds("turn 8;fed a 3 1;fed b 5 1;", "each gives=0", 0, 3);
        String two = "turn 8;weight a 0 1 arm 1;weight b 4 1 arm 1;";
        dueHolds(two, "each high=4", 1, NONE);
        dueHolds(two, "some high<4", 0, NONE);
        // 'all' sums what WORDS tell, and NUMBERS stay
        dueHolds("turn 8;weight a 0 1 arm 1;", "all rights=3 and 3=lefts and 3=3", 1, NONE);
        dueHolds("turn 8;weight a 0 1 arm 1;", "all rights=24", 0, NONE);
        dueHolds("turn 48;spring a 0 99 from 0 to 0;", "all gives>999", 1, NONE);
        // a turn of 8 has no t of 8 or more, whatever the drawing ahead of it had
        ForeverOffice x = with(last);
        draw(x, "turn 8;");
        say(x, "some gives=3");
        due("some of 8", x.holds(), 0);
    }

    /** Each VALUE's WORD tells what value() tells. */
    private static void valueWords() {
        String[] words = "right left rights lefts wet gives takes high".split(" ");
        ForeverOffice x = with("turn 8;weight a 0 2 arm 3 out 5 from 4 to 6;weight b 1 1 arm 7;float f 0 3 from 7 to 1;fed c 1 8;");
        for (int v = 0; v < words.length; v++) {
            for (int t = 0; t < 8; t++) {
                int first = 0;
                while (x.value(v, first) != x.value(v, t)) {
                    first++;
                }
                say(x, "each not " + words[v] + "=" + x.value(v, t));
                due("the first t with " + words[v] + " as at " + t, x.where(), first);
            }
            say(x, "all " + words[v] + "=" + x.value(v, NONE));
            due("all " + words[v], x.holds(), 1);
        }
    }

    private static void signsAndJoints() {
        String[] so = {"0=0", "0<1", "1>0", "999=999", "998<999", "not 0<0", "not 0>0", "not 1=0", "not 1<0", "not 0>1",
            "1=0 and 1=0 or 0=0", "0=0 or 0=0 and 1=0", "not 1=0 or 0=0", "not (1=0 and 0=0)", "not not 0=0", "0=0 and not 1=0"};
        for (String one : so) {
            dueHolds("turn 8;", "each " + one, 1, NONE);
            dueHolds("turn 8;", "some not(" + one + ")", 0, NONE);
            dueHolds("turn 8;", "each not(" + one + ")", 0, 0);
            dueHolds("turn 8;", "all " + one, 1, NONE);
        }
        dueHolds("turn 8;", "each (0=0 or 0=0) and 1=0", 0, 0);
        dueHolds("turn 8;", "each 1=0 or (1=0 or (1=0 or (1=0 or 0=0)))", 1, NONE);
        dueHolds("turn 8;", "each 0=0 and (0=0 and (0=0 and (0=0 and 1=0)))", 0, 0);
        dueHolds("turn 8;", "each 0=0 and 1=0 or (0=0 or 1=0) and (1=0 or 0=0)", 1, NONE);
        dueHolds("turn 8;", "each not 0=0 or 1=0", 0, 0);
        dueHolds("turn 8;", "each not not not not not not not 0=0", 0, 0);
        dueHolds("turn 8;", "each 1=0" + " or 1=0".repeat(18) + " or 0=0", 1, NONE);
        dueHolds("turn 8;", "each 0=0" + " and 0=0".repeat(18) + " and 1=0", 0, 0);
    }

    private static void dueLeast(String drawing, int goers, int... least) {
        ForeverOffice x = with(drawing);
        due("GOERS of " + drawing, x.goes(NONE), goers);
        for (int k = 0; k < least.length; k++) {
            due("least " + k + " of " + drawing, x.least(k), least[k]);
        }
        due("least behind the last of " + drawing, x.least(least.length), NONE);
    }

    /** "GOERS: those with a WHOLE above 0; LEAST: those of them that have no other one as a part." */
    private static void goers() {
        dueLeast("turn 8;", 0);
        dueLeast("turn 8;rub 999;fed a 0 99;", 16, 16);
        dueLeast("turn 8;rub 1;fed a 0 7;", 16, 16);
        dueLeast("turn 8;rub 1;fed a 0 8;", 16, 16);
        dueLeast("turn 8;rub 1;fed a 0 9;", 32, 0);
        due("WHOLE 0 is no GOER", with("turn 8;rub 1;fed a 0 8;").goes(0), 0);
        due("WHOLE 1 is one", with("turn 8;rub 1;fed a 0 9;").goes(0), 1);
        String five = "turn 8;rub 1;fed z 0 1;float f 0 1 from 0 to 3;magnet m 0 2 at 4 shut 5 to 7;spring s 0 1 from 2 to 2;"
            + "weight w 0 1 arm 4;";
        dueLeast(five, 31, 1, 2, 4, 8, 16);
        // WHOLE is -87; the LAWS 1 and 4 are 40 more each, 2 and 8 are 8 more each, 16 is 88 more
        dueLeast(five.replace("rub 1;", "rub 11;"), 19, 7, 13, 16);
        // WHOLE is -96: without LAW 16 all the others together come to just 0
        dueLeast(five.replace("rub 1;", "rub 12;").replace("fed z 0 1;", ""), 15, 17, 18, 20, 24);
    }

    /** "NEEDS of a LAW: PARTS the SUM of which is another one with that LAW alone.", "PARTS as bits". */
    private static void needs() {
        StringBuilder twelve = new StringBuilder("turn 8;");
        for (char c = 'a'; c <= 'l'; c++) {
            twelve.append("spring ").append(c).append(" 0 1 from 0 to 0;");
        }
        ForeverOffice x = with(twelve.toString());
        due("all 12", x.needs(4), 4095);
        due("none", x.needs(1), 0);
        ForeverOffice y = with("turn 8;magnet a 0 1 at 4 shut 3 to 5;magnet b 0 1 at 4 shut 3 to 4;magnet c 0 1 at 4;"
            + "float d 0 1 from 4 to 4;float e 0 1 from 3 to 4;float f 0 1 from 5 to 4;weight g 0 9 arm 0;weight h 0 1 arm 1;fed i 0 1;");
        due("what is taken and given is alike", y.needs(2), 2);
        due("goes in at the top for 0, or never", y.needs(1), 16);
        due("without an arm nothing is half", y.needs(8), 128);
        due("no spring", y.needs(4), 0);
        due("no NEEDS of rub", y.needs(16), NONE);
    }

    private static void dueFinds(String what, ForeverOffice x, int got, int[]... finds) {
        due(what, got, finds.length);
        for (int k = 0; k < finds.length; k++) {
            due("x " + k + " of " + what, x.hiddenAt(k, 0), finds[k][0]);
            due("g " + k + " of " + what, x.hiddenAt(k, 1), finds[k][1]);
        }
        due("x behind the last of " + what, x.hiddenAt(finds.length, 0), NONE);
        due("g behind the last of " + what, x.hiddenAt(finds.length, 1), NONE);
    }

    private static int[][] ofOne(int x, int lowest, int highest) {
        int[][] finds = new int[highest - lowest + 1][];
        for (int g = lowest; g <= highest; g++) {
            finds[g - lowest] = new int[] {x, g};
        }
        return finds;
    }

    /** "what E by 10, cut, was", "a g (1 to 999)", "(E not below 0)". */
    private static void hiddenNumbers() {
        ForeverOffice x = with("turn 8;");
        due("9 by 10 is 0", hidden(x, 0, 9, 0), -2);
        dueFinds("10 to 19 by 10 are 1", x, hidden(x, 0, 9, 1), ofOne(0, 1, 10));
        due("19 by 10 is 1", hidden(x, 0, 19, 1), -2);
        dueFinds("less than there is", x, hidden(x, 0, 10, 0));
        dueFinds("g of 1 is too much already", x, hidden(x, 0, 20, 1));
        dueFinds("g up to 999", x, hidden(x, 0, 0, 99), ofOne(0, 990, 999));
        dueFinds("g of 1000 is none", x, hidden(x, 0, 0, 100));
        dueFinds("g of 999 alone", x, hidden(x, 0, 1, 100), ofOne(0, 999, 999));
        dueFinds("g of 1 alone", x, hidden(x, 0, 8, 0, 0, 0, 0, 0, 0, 0, 0, 1), ofOne(0, 1, 1));
        ForeverOffice y = with("turn 8;rub 10;");
        dueFinds("E of just 0", y, hidden(y, 0, 5, 0), ofOne(0, 5, 14));
        dueFinds("E below 0 ahead of x", y, hidden(y, 0, 5, 0, 0));
        dueFinds("E below 0 behind x", y, hidden(y, 0, 15, 0, 0), ofOne(1, 5, 14));
        due("E of 0 all along", hidden(y, 0, 20, 1, 0), -2);
        dueFinds("E of 9 ahead of x", x, hidden(x, 0, 9, 0, 1), ofOne(1, 1, 10));
        dueFinds("E of 10 ahead of x", x, hidden(x, 0, 10, 1, 2), ofOne(1, 10, 19));
        ForeverOffice z = with("turn 8;fed a 1 10;float f 0 1 from 3 to 3;");
        due("each STEP gives its own, LAWS as told", hidden(z, 0, 10, 1, 2, 1, 2, 2), -2);
        dueFinds("the float takes, LAWS as told", z, hidden(z, 0, 10, 1, 2, 2, 3), ofOne(2, 10, 19));
    }

    /** "g more in each STEP that leaves x", "1 to 60 STEPS", "x" 0 to N less 1. */
    private static void hiddenRows() {
        ForeverOffice x = with("turn 8;");
        int[] row = new int[60];
        for (int i = 0; i < 60; i++) {
            row[i] = (i + 8) / 8;
        }
        dueFinds("60 STEPS, 8 times left", x, hidden(x, 3, 0, row), ofOne(3, 10, 11));
        row[59] = 9;
        dueFinds("the 60th is other", x, hidden(x, 3, 0, row));
        ForeverOffice y = with("turn 48;");
        int[] rise = new int[48];
        rise[47] = 1;
        dueFinds("hidden at 47", y, hidden(y, 0, 0, rise), ofOne(47, 10, 19));
        dueFinds("hidden at 46, from 47", y, hidden(y, 47, 0, rise), ofOne(46, 10, 19));
        dueFinds("hidden at 0, from 1", y, hidden(y, 1, 0, rise), ofOne(0, 10, 19));
        dueFinds("one STEP alone, at 47", y, hidden(y, 47, 99999, 10000), ofOne(47, 1, 10));
    }

    /** "pairs of bytes being E by 10 (the higher one first)": up to 65535. */
    private static void hiddenPairs() {
        ForeverOffice x = with("turn 8;");
        due("255", hidden(x, 0, 2559, 255), -2);
        due("256", hidden(x, 0, 2560, 256), -2);
        dueFinds("from 255 to 256", x, hidden(x, 0, 2559, 256), ofOne(0, 1, 10));
        dueFinds("1 is no 256", x, hidden(x, 0, 2560, 1));
        due("the greatest PUSH", hidden(x, 0, 100000, 10000), -2);
        StringBuilder heavy = new StringBuilder("turn 48;");
        for (char c = 'a'; c <= 'l'; c++) {
            heavy.append("weight ").append(c).append(" 23 99 arm 0 out 20 from 24 to 24;");
        }
        ForeverOffice y = with(heavy.toString());
        due("65535", hidden(y, 1, 85110, 65535), -2);
        dueFinds("from 65534", y, hidden(y, 1, 85109, 65535), ofOne(1, 1, 10));
        dueFinds("65536 is no 0", y, hidden(y, 1, 85120, 0));
    }

    /** "(by x, then g; below 200)", and LOOKS that bar all x, those behind the 200th too. */
    private static void manyHidden() {
        ForeverOffice x = with("turn 48;fed a 47 9;");
        int[] row = new int[48];
        row[47] = 1;
        due("9 at each of 47, 10 at the last", hidden(x, 0, 0, row), 433);
        for (int k : new int[] {0, 8, 9, 198, 199}) {
            due("x of " + k, x.hiddenAt(k, 0), k / 9);
            due("g of " + k, x.hiddenAt(k, 1), k % 9 + 1);
        }
        for (int k : new int[] {200, 201, 432, 433}) {
            due("no x of " + k, x.hiddenAt(k, 0), NONE);
            due("no g of " + k, x.hiddenAt(k, 1), NONE);
        }
        long all = (1L << 48) - 1;
        due("all places", looks(x, all), 1);
        due("all but the last", looks(x, all >> 1), NONE);
        due("all but the first", looks(x, all - 1), NONE);
        due("both", looks(x, all >> 1, all - 1), 2);
        due("the first alone and all but it", looks(x, all - 1, 1L, 2L), 2);
        due("its set", x.lookSet(), 3);
        due("the last alone and all but it", looks(x, all >> 1, 1L << 46, 1L << 47), 2);
        due("its set", x.lookSet(), 5);
        long[] ten = new long[10];
        for (int i = 0; i < 48; i++) {
            ten[i / 5] |= 1L << i;
        }
        due("all ten", looks(x, ten), 10);
        due("the full set", x.lookSet(), 1023);
        ten[0] = all;
        due("one of ten", looks(x, ten), 1);
        due("its set", x.lookSet(), 1);
        ten[0] = 0L;
        ten[9] = all;
        due("the last of ten", looks(x, ten), 1);
        due("its set", x.lookSet(), 512);
    }

    /** "the fewest that bar all x ..; of like ones the least set as bits". */
    private static void lookTies() {
        ForeverOffice x = with("turn 8;fed a 2 1;");
        due("at 0 and 1 by 1, at 2 by 1 to 10", hidden(x, 0, 8, 0, 0, 1), 12);
        due("two ways with two", looks(x, 4L, 6L, 1L, 3L), 2);
        due("the least of 6, 9, 10", x.lookSet(), 6);
        due("fewer, though the set is greater", looks(x, 1L, 2L, 4L, 7L), 1);
        due("its set", x.lookSet(), 8);
        due("like ones", looks(x, 0L, 7L, 7L), 1);
        due("the least of like ones", x.lookSet(), 2);
        due("places that are none", looks(x, -1L << 8, 7L), 1);
        due("its set", x.lookSet(), 2);
    }

    private static void dueSame(String what, String kept, String drawing, int want) {
        ForeverOffice x = with(kept);
        x.keep(0);
        draw(x, drawing);
        due("same: " + what, x.same(0), want);
    }

    /** "for some r (0 to N less 1) all PARTS of one, their PINS r more (round; of 'fed' r less)": each r, then the least. */
    private static void sameTurned() {
        for (int n : new int[] {8, 48}) {
            for (int r = 0; r < n; r++) {
                String drawing = "turn " + n + ";fed b " + (2 + r) % n + " 3;weight a " + (n + 5 - r) % n + " 1 arm 2;";
                dueSame("by " + r, "turn " + n + ";weight a 5 1 arm 2;fed b 2 3;", drawing, r);
            }
        }
        String two = "turn 8;weight a 0 1 arm 2;weight b 4 1 arm 2;";
        dueSame("as it is, and by 4", two, two, 0);
        dueSame("by 3 and by 7", two, "turn 8;weight a 1 1 arm 2;weight b 5 1 arm 2;", 3);
        dueSame("fed by 1 and by 5", "turn 8;fed a 0 1;fed b 4 1;", "turn 8;fed a 1 1;fed b 5 1;", 1);
        dueSame("fed by 7", "turn 8;fed a 0 1;", "turn 8;fed a 7 1;", 7);
        dueSame("fed and others go against one another", "turn 8;fed a 0 1;spring b 0 1 from 0 to 0;",
            "turn 8;fed a 1 1;spring b 1 1 from 0 to 0;", NONE);
        dueSame("half round both ways", "turn 8;fed a 0 1;spring b 0 1 from 0 to 0;",
            "turn 8;fed a 4 1;spring b 4 1 from 0 to 0;", 4);
    }

    /** "two drawings of one N and rub", "in any order (NAMES are of no matter)". */
    private static void sameOrNot() {
        dueSame("two empty ones", "", "turn 24;rub 0;", 0);
        dueSame("another N", "", "turn 22;", NONE);
        dueSame("another rub", "rub 1;", "rub 2;", NONE);
        dueSame("one PART more", "fed a 0 1;", "fed a 0 1;fed b 0 1;", NONE);
        dueSame("one PART less", "fed a 0 1;fed b 0 1;", "fed a 0 1;", NONE);
        dueSame("no PART", "fed a 0 1;", "", NONE);
        dueSame("one twice, the other twice", "fed a 0 1;fed b 0 1;fed c 0 2;", "fed a 0 1;fed b 0 2;fed c 0 2;", NONE);
        dueSame("another W", "fed a 0 1;", "fed a 0 2;", NONE);
        dueSame("another kind", "float a 0 1 from 0 to 1;", "spring a 0 1 from 0 to 1;", NONE);
        dueSame("another arm", "weight a 0 1 arm 0;", "weight a 0 1 arm 1;", NONE);
        dueSame("another out", "weight a 0 1 arm 0 out 1 from 0 to 0;", "weight a 0 1 arm 0 out 2 from 0 to 0;", NONE);
        dueSame("an out more", "weight a 0 1 arm 0;", "weight a 0 1 arm 0 out 0 from 0 to 0;", NONE);
        dueSame("another X", "spring a 0 1 from 0 to 1;", "spring a 0 1 from 1 to 1;", NONE);
        dueSame("another Y", "spring a 0 1 from 0 to 1;", "spring a 0 1 from 0 to 0;", NONE);
        dueSame("another PLACE", "magnet a 0 1 at 0;", "magnet a 0 1 at 1;", NONE);
        dueSame("a shut more", "magnet a 0 1 at 0;", "magnet a 0 1 at 0 shut 0 to 0;", NONE);
        StringBuilder there = new StringBuilder("turn 8;");
        StringBuilder back = new StringBuilder("turn 8;");
        for (int i = 0; i < 12; i++) {
            there.append("fed ").append((char) ('a' + i)).append(" 0 ").append(i + 1).append(';');
            back.append("fed ").append((char) ('a' + i)).append(" 3 ").append(12 - i).append(';');
        }
        dueSame("all 12 in another order", there.toString(), back.toString(), 3);
    }

    /** "the least W (1 to 999)", "does 20 turns from t with a PUSH, without turning back". */
    private static void feedings() {
        ForeverOffice x = with("turn 8;rub 3;");
        due("just 20 turns", x.feeding(0, 0, 460, 0), 1);
        due("one less is not enough for the 20th", x.feeding(0, 0, 459, 0), 2);
        due("no push", x.feeding(0, 0, 0, 0), 24);
        due("999", x.feeding(0, 0, 0, 975), 999);
        due("1000", x.feeding(0, 0, 0, 976), NONE);
        due("the last PIN, just so far", x.feeding(7, 0, 21, 0), 24);
        due("the last PIN, not so far", x.feeding(7, 0, 20, 0), NONE);
        due("from the last t", x.feeding(7, 7, 0, 0), 24);
        due("from the last t with a LOAD at 0", x.feeding(7, 7, 0, 6), 30);
        due("from 1 the LOAD comes last", x.feeding(1, 1, 0, 6), 30);
        due("just so far to the LOAD", x.feeding(0, 1, 21, 6), 30);
        due("not so far to the LOAD", x.feeding(0, 1, 20, 6), NONE);
        due("the LOAD ahead of the PIN", x.feeding(1, 0, 9, 6), 30);
        due("the LOAD ahead of the PIN is too much", x.feeding(1, 0, 8, 6), NONE);
        due("999 for the first STEP, more for the turn", x.feeding(0, 0, 0, 996), NONE);
        due("the greatest LOAD", x.feeding(0, 0, 100000, 9999), NONE);
        ForeverOffice y = with("turn 8;");
        due("W is 1 at least", y.feeding(0, 0, 0, 0), 1);
        due("LOAD of 1", y.feeding(0, 0, 0, 1), 1);
        due("LOAD of 2", y.feeding(0, 0, 0, 2), 2);
        due("a LOAD is lifted 20 times", y.feeding(7, 0, 20000, 1000), 1);
        due("of the 20th a PIN behind it gives nothing more", y.feeding(7, 0, 19980, 1000), 2);
        due("20 feedings at the PIN", y.feeding(0, 0, 19980, 1000), 1);
        due("one less", y.feeding(0, 0, 19979, 1000), 2);
        ForeverOffice z = with("turn 8;float f 0 1 from 1 to 1;");
        due("going in takes 30, LAWS as told", z.feeding(7, 0, 30, 0), 1);
        due("going in takes more than there is", z.feeding(7, 0, 29, 0), NONE);
        StringBuilder twelve = new StringBuilder("turn 8;");
        for (char c = 'a'; c <= 'l'; c++) {
            twelve.append("fed ").append(c).append(" 0 99;");
        }
        due("a 13th fed PART", with(twelve.toString()).feeding(0, 0, 0, 2187), 999);
        due("a 13th is not enough", with(twelve.toString()).feeding(0, 0, 0, 2188), NONE);
    }

    private static void dueRight(int s, String drawing, int want) {
        due("SAYING " + s + " of " + drawing, with(drawing).right(s), want);
    }

    /** Each SAYING where it has just become right. */
    private static void sayings() {
        dueRight(0, "turn 8;", 0);
        dueRight(0, "turn 8;weight a 0 1 arm 0;", 1);
        dueRight(0, "turn 8;weight a 0 1 arm 1;weight b 4 1 arm 1;", 0);
        dueRight(0, "turn 8;weight a 0 1 arm 1;weight b 3 1 arm 1;", 1);
        // more lefts than rights at t = 0 alone, then at t = 7 alone
        dueRight(0, "turn 8;weight a 3 1 arm 1;weight b 6 1 arm 1;weight c 1 1 arm 1;", 1);
        dueRight(0, "turn 8;weight a 4 1 arm 1;weight b 7 1 arm 1;weight c 2 1 arm 1;", 1);
        dueRight(1, "turn 8;fed a 0 9;", 1);
        dueRight(1, "turn 8;float a 0 1 from 0 to 0;", 1);
        dueRight(1, "turn 8;rub 5;weight a 0 1 arm 1 out 9 from 3 to 6;magnet b 0 1 at 4 shut 3 to 4;", 1);
        dueRight(2, "turn 8;float a 0 1 from 4 to 4;", 0);
        dueRight(2, "turn 8;float a 0 1 from 5 to 5;", 1);
        dueRight(2, "turn 8;float a 0 1 from 0 to 0;", 1);
        dueRight(2, "turn 8;float a 0 1 from 1 to 1;", 1);
        dueRight(2, "turn 8;float a 0 1 from 7 to 7;", 1);
        dueRight(2, "turn 8;float a 0 1 from 1 to 0;", 0);
        dueRight(2, "turn 8;spring a 0 1 from 1 to 1;", 0);
        // from 15, 5 away, to 16 it takes 1; from 14 to 15 nothing, and to 16 it gives
        dueRight(2, "turn 48;magnet a 0 1 at 20 shut 16 to 16;", 1);
        dueRight(2, "turn 48;magnet a 0 1 at 20 shut 15 to 15;", 0);
        dueRight(2, "turn 48;magnet a 0 1 at 20 shut 26 to 30;", 1);
        dueRight(2, "turn 48;magnet a 0 1 at 20 shut 27 to 30;", 0);
        dueRight(2, "turn 48;magnet a 0 1 at 20 shut 0 to 47;", 0);
        dueRight(2, "turn 48;magnet a 0 1 at 20;", 0);
        dueRight(3, "turn 8;spring a 0 25 from 1 to 7;", 0);
        dueRight(3, "turn 8;spring a 0 25 from 1 to 7;rub 1;", 1);
        // walls of 1001 on both sides of t = 0, then of 1040, and of 3960 that are there with LAWS as told alone
        dueRight(3, "turn 8;spring a 0 25 from 1 to 7;weight b 0 1 arm 1;", 1);
        dueRight(3, "turn 8;spring a 0 26 from 1 to 7;", 1);
        dueRight(3, "turn 8;spring a 7 26 from 1 to 7;", 0);
        dueRight(3, "turn 8;float a 0 99 from 1 to 7;", 1);
        dueRight(3, "turn 8;", 0);
        dueRight(3, "turn 8;rub 1;", 1);
        dueRight(4, "turn 8;rub 0;", 0);
        dueRight(4, "turn 8;rub 1;", 1);
        dueRight(5, "turn 8;spring a 0 1 from 1 to 1;", 0);
        dueRight(5, "turn 8;spring a 0 1 from 1 to 1;fed b 0 1;", 1);
        dueRight(6, "turn 8;rub 1;", 0);
        dueRight(6, "turn 8;rub 1;fed a 0 8;", 1);
        dueRight(6, "turn 8;rub 1;fed a 0 9;", 0);
        dueRight(6, "turn 8;float a 0 1 from 0 to 0;", 1);
        dueRight(6, "turn 8;rub 5;float a 0 1 from 0 to 0;", 1);
        dueRight(6, "turn 8;rub 5;float a 0 1 from 4 to 4;", 0);
    }

    private static void dueAnswer(String inventor, int... want) {
        // right are turn, model, rub, fed and law
        ForeverOffice x = with("turn 8;rub 1;fed a 0 8;");
        invent(x, inventor);
        due("answer: " + inventor, x.answer(), want.length == 0 ? NONE : want.length);
        for (int k = 0; k < want.length; k++) {
            due("answerAt " + k + ": " + inventor, x.answerAt(k), want[k]);
        }
        due("answerAt behind the last: " + inventor, x.answerAt(want.length), NONE);
    }

    /** "of one S and WORD the first counts; without a LINE one stays in S", "the shortest row ..; of like ones the first". */
    private static void answers() {
        dueAnswer("");
        dueAnswer("in 0 hears turn goes 9;", 1);
        dueAnswer("in 0 hears count goes 9;");
        dueAnswer("in 0 hears count goes 9;in 0 hears law goes 9;", 6);
        dueAnswer("in 0 hears turn goes 0;in 0 hears turn goes 9;");
        dueAnswer("in 0 hears turn goes 9;in 0 hears turn goes 0;", 1);
        dueAnswer("in 0 hears law goes 9;in 0 hears fed goes 9;in 0 hears rub goes 9;in 0 hears turn goes 9;", 1);
        dueAnswer("in 1 hears turn goes 9;");
        dueAnswer("in 0 hears law goes 1;in 1 hears rub goes 9;in 0 hears turn goes 2;in 2 hears law goes 9;", 1, 6);
        dueAnswer("in 0 hears turn goes 1;in 1 hears law goes 9;in 1 hears fed goes 9;", 1, 5);
        dueAnswer("in 0 hears turn goes 8;in 8 hears turn goes 7;in 7 hears turn goes 9;in 0 hears law goes 7;", 6, 1);
        dueAnswer("in 9 hears turn goes 0;in 0 hears turn goes 9;", 1);
        StringBuilder chain = new StringBuilder();
        for (int s = 8; s >= 0; s--) {
            chain.append("in ").append(s).append(" hears law goes ").append(s + 1).append(';');
        }
        dueAnswer(chain.toString(), 6, 6, 6, 6, 6, 6, 6, 6, 6);
        dueAnswer("in 1 hears turn goes 1;".repeat(19) + "in 0 hears turn goes 9;", 1);
        String[] words = "count turn door model rub fed law".split(" ");
        for (int s = 0; s < words.length; s++) {
            ForeverOffice x = with("turn 8;rub 1;weight a 0 1 arm 1;float b 0 1 from 0 to 3;fed c 0 1;");
            invent(x, "in 0 hears " + words[s] + " goes 9;");
            due("answer by " + words[s], x.answer(), 1);
            due("it is " + words[s], x.answerAt(0), s);
        }
    }

    public static void main(String[] args) {
        placesGoRound();
        ranges();
        energyBounds();
        magnets();
        lawsOfGoingIn();
        lawsOfMagnetAndWeight();
        wholes();
        runs();
        longRuns();
        stands();
        sides();
        values();
        claimsAtTheEnds();
        valueWords();
        signsAndJoints();
        goers();
        needs();
        hiddenNumbers();
        hiddenRows();
        hiddenPairs();
        manyHidden();
        lookTies();
        sameTurned();
        sameOrNot();
        feedings();
        sayings();
        answers();
        tell("WheelEdgeTests");
    }
}
