import java.util.Arrays;
import java.util.function.Function;

/** The bounds of the three texts (Terms, parts 3 and 5, promises 4, 5, 14 and 28): the last that is allowed, the first that is not. */
public final class TextEdgeTests extends Check {
    private static final String[] RESERVED = "turn rub weight float magnet spring fed arm out from to at shut".split(" ");
    private static final String[] FREE = ("each some all or and not right left rights lefts wet gives takes high in hears goes "
        + "count door model law").split(" ");
    private static final String[] SAYINGS = "count turn door model rub fed law".split(" ");
    private static final String[] VALUES = "right left rights lefts wet gives takes high".split(" ");
    private static final String LINE = "in 0 hears fed goes 1;";

    private interface Due {
        void text(String text, int answer, int fault);
    }

    private static String blanks(int n) {
        return " ".repeat(n);
    }

    /** A text whose part "what" begins at a byte. */
    private static String at(int place, String ahead, String what) {
        return ahead + blanks(place - ahead.length()) + what;
    }

    private static String feds(int n) {
        StringBuilder text = new StringBuilder();
        for (int i = 0; i < n; i++) {
            text.append("fed ").append((char) ('a' + i)).append(" 0 1;");
        }
        return text.toString();
    }

    /** "A DRAWING is a text of at most 600 bytes." and "600, if there are more and no FAULT is ahead". */
    private static void drawingOf600() {
        dueDrawing("", 0, 0);
        dueDrawing(blanks(600), 0, 0);
        dueDrawing(blanks(601), -601, 1);
        dueDrawing(blanks(640), -601, 1);
        dueDrawing(at(590, "", "fed a 0 1;"), 1, 0);
        dueDrawing(at(590, "", "fed a 0 1;") + " ", -601, 1);
        dueDrawing(at(590, "", "fed a 0 1;") + ";", -601, 1);
        dueDrawing(at(590, "", "fed a 0 1;") + "rub 1;", -601, 1);
        dueDrawing(at(591, "", "fed a 0 1;"), -601, 1);
        dueDrawing(at(599, "fed a 0 1", ";"), 1, 0);
        dueDrawing(at(600, "fed a 0 1", ";"), -601, 1);
        // a FAULT ahead counts, whatever its kind
        dueDrawing("?" + blanks(639), -1, 1);
        dueDrawing(at(599, "", "?") + blanks(20), -600, 1);
        dueDrawing("turn 9;" + blanks(620), -6, 2);
        dueDrawing("rub 1;rub" + blanks(620), -7, 3);
        dueDrawing(feds(12) + "fed" + blanks(500), -121, 4);
    }

    /** "TOKENS that begin ahead of it are read whole": from 599 on, and none from 600 on. */
    private static void drawingTokenOver600() {
        dueDrawing(at(599, "fed", "abcdef 0 1;"), -601, 1);
        dueDrawing(at(599, "fed", "abcdefg 0 1;"), -600, 1);
        dueDrawing(at(600, "fed", "abcdefg 0 1;"), -601, 1);
        dueDrawing(at(599, "fed a", "23 1;"), -601, 1);
        dueDrawing(at(599, "fed a", "24 1;"), -600, 2);
        dueDrawing(at(600, "fed a", "24 1;"), -601, 1);
        dueDrawing(at(599, "fed a", "0023 1;"), -600, 1);
        dueDrawing(at(599, "fed a", "2x"), -600, 1);
        dueDrawing(at(599, "rub 1;", "rub 1;"), -600, 3);
        dueDrawing(at(600, "rub 1;", "rub 1;"), -601, 1);
        dueDrawing(at(599, "fed bee 0 1;fed", "bee 0 1;"), -600, 3);
        dueDrawing(at(600, "fed bee 0 1;fed", "bee 0 1;"), -601, 1);
        dueDrawing(at(599, feds(12), "spring z"), -600, 4);
        dueDrawing(at(600, feds(12), "spring z"), -601, 1);
        dueDrawing(at(599, feds(12), "springs"), -600, 1);
        // the tape's own end ends a TOKEN too
        dueDrawing(at(634, "fed", "abcdef"), -601, 1);
        dueDrawing(at(599, "fed a 0", "1" + "1".repeat(40)), -600, 1);
    }

    /** "blanks (32, 10)", "small letters", "digits": every byte there is, behind a NUMBER. */
    private static void everyByte() {
        for (int b = 0; b < 256; b++) {
            boolean blank = b == 32 || b == 10;
            boolean letter = b >= 'a' && b <= 'z';
            boolean digit = b >= '0' && b <= '9';
            String drawing = "fed a 0 1" + (char) b + ";";
            String claim = "each 1" + (char) b + "1";
            String inventor = "in 0 hears fed goes 0" + (char) b + ";";
            if (blank) {
                dueDrawing(drawing, 1, 0);
                dueClaim(claim, -8, 1);
                dueInventor(inventor, 1, 0);
            } else if (digit) {
                dueDrawing(drawing, 1, 0);
                dueClaim(claim, -9, 1);
                dueInventor(inventor, 1, 0);
            } else if (letter) {
                dueDrawing(drawing, -9, 1);
                dueClaim(claim, -6, 1);
                dueInventor(inventor, -21, 1);
            } else {
                dueDrawing(drawing, b == ';' ? -11 : -10, 1);
                boolean sign = b == '<' || b == '=' || b == '>';
                dueClaim(claim, sign ? 1 : -7, sign ? 0 : 1);
                dueInventor(inventor, b == ';' ? -23 : -22, 1);
            }
        }
        dueDrawing("\n\n fed\na\n0 1\n;\n", 1, 0);
        dueDrawing("fed a 0 1;fed b 0 1;rub 1;", 2, 0);
    }

    /** "WORDS: small letters, 1 to 6; NUMBERS: 1 to 3 digits", "goes on as long as small letters and digits do". */
    private static void tokens() {
        dueDrawing("fed a 0 1;fed zzzzzz 0 1;", 2, 0);
        dueDrawing("fed zzzzzzz 0 1;", -5, 1);
        dueDrawing("fed a0 0 1;", -5, 1);
        dueDrawing("fed 0a 0 1;", -5, 1);
        dueDrawing("fe d 0 1;", -1, 1);
        dueDrawing("feds a 0 1;", -1, 1);
        dueDrawing("fed a0 1;", -5, 1);
        dueDrawing("fed a 000 001;", 1, 0);
        dueDrawing("fed a 0000 1;", -7, 1);
        dueDrawing("fed a 0 0001;", -9, 1);
        dueDrawing("rub 0999;", -5, 1);
        dueDrawing("fed a 0 99999999999;", -9, 1);
        dueDrawing("fed a 0 4294967297;", -9, 1);
        dueDrawing("fed " + "a".repeat(500) + " 0 1;", -5, 1);
        dueDrawing("turn8;", -1, 1);
        dueDrawing("8turn;", -1, 1);
        dueDrawing("turn 8rub 1;", -6, 1);
        dueClaim("each 000=0", 1, 0);
        dueClaim("each 0000=0", -6, 1);
        dueClaim("each 999>998", 1, 0);
        dueClaim("each 1000>998", -6, 1);
        dueClaim("each rights>0", 1, 0);
        dueClaim("each rightss>0", -6, 1);
        dueClaim("each1=1", -1, 1);
        dueClaim("each 1=1and 1=1", -8, 1);
        dueInventor("in 000 hears fed goes 009;", 1, 0);
        dueInventor("in 0000 hears fed goes 9;", -4, 1);
        dueInventor("in 0hears fed goes 9;", -4, 1);
    }

    /** "N: 8 to 48, even (24 without)." and "rub NUMBER (0 to 999, once; 0 without)". */
    private static void turnAndRub() {
        for (int n = 0; n <= 999; n++) {
            ForeverOffice x = new ForeverOffice();
            put(x, "turn " + n + ";");
            boolean told = n >= 8 && n <= 48 && n % 2 == 0;
            due("turn " + n, x.drawing(), told ? 0 : -6);
            due("fault of turn " + n, x.fault(), told ? 0 : 2);
            due("N behind turn " + n, x.count(1), told ? n : 24);
            put(x, "rub " + n + ";");
            due("rub " + n, x.drawing(), 0);
            due("rub is " + n, x.count(2), n);
            due("N without turn", x.count(1), 24);
        }
        ForeverOffice y = with("turn 8;rub 5;");
        draw(y, "");
        due("N without", y.count(1), 24);
        due("rub without", y.count(2), 0);
        dueDrawing("rub 1000;", -5, 1);
        dueDrawing("rub 0;rub 0;", -7, 3);
        dueDrawing("rub 1;fed a 0 1;rub", -17, 3);
        dueDrawing("turn 8;turn 8;", -8, 1);
        dueDrawing("rub 1;turn 8;", -7, 1);
        dueDrawing(";turn 8;", -1, 1);
    }

    /** "PIN, PLACE: 0 to N less 1. W: 1 to 99. A: 0 to 20.": each NUMBER of each PART, all NUMBERS. */
    private static void everyNumber() {
        String[] forms = {
            "fed a P W;", "weight a P W arm A;", "weight a 0 1 arm 1 out A from P to P;", "float a P W from P to P;",
            "magnet a P W at P;", "magnet a 0 1 at 1 shut P to P;", "spring a P W from P to P;"};
        for (String form : forms) {
            for (int i = 0; i < form.length(); i++) {
                if ("PWA".indexOf(form.charAt(i)) >= 0) {
                    String ahead = filled(form.substring(0, i));
                    String behind = filled(form.substring(i + 1));
                    everyNumberAt(form.charAt(i), ahead, behind);
                }
            }
        }
    }

    private static String filled(String form) {
        return form.replaceAll("[PWA]", "1");
    }

    private static void everyNumberAt(char what, String ahead, String behind) {
        for (int n : new int[] {8, 24, 48}) {
            String head = (n == 24 ? "" : "turn " + n + ";") + ahead;
            int lowest = what == 'W' ? 1 : 0;
            int highest = what == 'W' ? 99 : what == 'A' ? 20 : n - 1;
            for (int number = 0; number <= 999; number++) {
                boolean told = number >= lowest && number <= highest;
                dueDrawing(head + number + behind, told ? 1 : -1 - head.length(), told ? 0 : 2);
            }
            dueDrawing(head + "x" + behind, -1 - head.length(), 1);
            dueDrawing(head + "1000" + behind, -1 - head.length(), 1);
        }
    }

    /** "NAME: a WORD, none of turn, rub, ..; told once." */
    private static void names() {
        String[] forms = {"fed ? 0 1;", "weight ? 0 1 arm 1;", "float ? 0 1 from 0 to 0;", "magnet ? 0 1 at 0;", "spring ? 0 1 from 0 to 0;"};
        for (String form : forms) {
            int place = form.indexOf('?');
            for (String word : RESERVED) {
                dueDrawing(form.replace("?", word), -1 - place, 1);
            }
            for (String word : FREE) {
                dueDrawing(form.replace("?", word), 1, 0);
            }
            dueDrawing(form.replace("? ", ""), -1 - place, 1);
            for (String other : forms) {
                String two = form.replace("?", "abcdef") + other.replace("?", "abcdef");
                dueDrawing(two, -1 - form.length() - 5 - other.indexOf('?'), 3);
                dueDrawing(form.replace("?", "abcdef") + other.replace("?", "abcdeg"), 2, 0);
            }
        }
        dueDrawing("fed a 0 1;fed aa 0 1;fed aaa 0 1;fed aaaa 0 1;fed aaaaa 0 1;fed aaaaaa 0 1;", 6, 0);
        dueDrawing(feds(11) + "fed k 0 1;", -115, 3);
        dueDrawing(feds(11) + "fed a 0 1;", -115, 3);
        ForeverOffice x = with("fed a 0 1;");
        put(x, "fed a 0 1;");
        due("a NAME of the drawing ahead is free", x.drawing(), 1);
        put(x, "fed b 0 1;?");
        due("a drawing with a fault", x.drawing(), -11);
        put(x, "fed b 0 1;");
        due("a NAME of the refused one is free", x.drawing(), 1);
    }

    /** "12 PARTS at most, numbered from 0 as told." and "4 a 13th PART (at its first WORD)". */
    private static void parts() {
        dueDrawing(feds(11), 11, 0);
        dueDrawing(feds(12), 12, 0);
        for (String kind : new String[] {"fed", "weight", "float", "magnet", "spring"}) {
            dueDrawing(feds(12) + kind, -121, 4);
            dueDrawing(feds(12) + kind + " a 99 0;", -121, 4);
        }
        dueDrawing(feds(12) + "rub 1;", 12, 0);
        dueDrawing("rub 1;" + feds(12), 12, 0);
        dueDrawing(feds(12) + "rub 1;fed", -127, 4);
        dueDrawing(feds(12) + "rub 1;rub", -127, 3);
        dueDrawing(feds(12) + "turn", -121, 1);
        dueDrawing(feds(12) + "wheel", -121, 1);
        dueDrawing(feds(12) + "1", -121, 1);
        ForeverOffice x = with("weight b 7 1 arm 1;fed a 3 9;");
        due("part 0 is the first told", x.place(0, 0), 7);
        due("part 1 is the next", x.place(1, 0), 3);
    }

    /** "FAULTS, the first along the text, of one TOKEN the least". */
    private static void firstFault() {
        dueDrawing("turn 7;rub 1000;?", -6, 2);
        dueDrawing("rub 1;fed a 99 0;rub 2;", -13, 2);
        dueDrawing("fed a 0 1;fed a 99 1;", -15, 3);
        dueDrawing("fed a 99 1;fed a 0 1;", -7, 2);
        dueDrawing("fed a 0 1;rub 1;rub ?;", -17, 3);
        dueDrawing("rub 1;? rub 1;", -7, 1);
        dueDrawing("fed turn 99 0;", -5, 1);
        dueDrawing("fed 99 99 0;", -5, 1);
        dueDrawing("fed a 99", -7, 2);
        dueDrawing("turn turn;", -6, 1);
        dueDrawing("turn 7", -6, 2);
        dueDrawing("999;", -1, 1);
    }

    /** Each row of whole TOKENS that breaks off ahead of a ';' has its FAULT at "the end: how many bytes there are". */
    private static void brokenOff() {
        dueBrokenOff("turn 8 ; weight a 0 2 arm 3 out 5 from 4 to 6 ; rub 1 ; float b 1 1 from 1 to 2 ; "
            + "magnet c 1 1 at 2 shut 3 to 4 ; spring d 0 1 from 6 to 7 ; fed e 7 99 ;", ";", TextEdgeTests::partsIn, Check::dueDrawing);
        dueBrokenOff("in 0 hears count goes 9 ; in 9 hears law goes 0 ;", ";", t -> t.split(";", -1).length - 1, Check::dueInventor);
        String claim = "all not ( right < left and not 1 = wet ) or gives > takes";
        String[] words = claim.split(" ");
        String text = "";
        for (int i = 0; i < words.length; i++) {
            text = text + words[i] + " ";
            boolean whole = i == words.length - 1 || words[i].equals(")");
            dueClaim(text, whole ? words[i].equals(")") ? 5 : 6 : -1 - text.length(), whole ? 0 : 1);
        }
    }

    /** A LINE that ends too early has its FAULT at the ';'. */
    private static void endedTooEarly() {
        dueEndedTooEarly("weight a 0 2 arm 3 out 5 from 4 to 6", 1, Check::dueDrawing, 6, 12);
        dueEndedTooEarly("float a 0 1 from 1 to 2", 1, Check::dueDrawing, 8);
        dueEndedTooEarly("magnet a 0 1 at 2 shut 3 to 4", 1, Check::dueDrawing, 6, 10);
        dueEndedTooEarly("spring a 0 1 from 6 to 7", 1, Check::dueDrawing, 8);
        dueEndedTooEarly("fed a 7 99", 1, Check::dueDrawing, 4);
        dueEndedTooEarly("rub 7", 0, Check::dueDrawing, 2);
        dueEndedTooEarly("turn 8", 0, Check::dueDrawing, 2);
        dueEndedTooEarly("in 0 hears fed goes 1", 1, Check::dueInventor, 6);
    }

    /** Of the first words of a LINE only these many are a whole one. */
    private static void dueEndedTooEarly(String line, int answer, Due due, int... whole) {
        String text = "";
        int words = 0;
        for (String word : line.split(" ")) {
            text = text + word + " ";
            words++;
            int count = words;
            boolean enough = Arrays.stream(whole).anyMatch(n -> n == count);
            due.text(text + ";", enough ? answer : -1 - text.length(), enough ? 0 : 1);
        }
    }

    private static int partsIn(String text) {
        return text.replaceAll("turn [^;]*;|rub [^;]*;|[^;]", "").length();
    }

    private static void dueBrokenOff(String all, String last, Function<String, Integer> answer, Due due) {
        String text = "";
        for (String word : all.split(" ")) {
            text = text + word + " ";
            boolean whole = word.equals(last);
            due.text(text, whole ? answer.apply(text) : -1 - text.length(), whole ? 0 : 1);
            due.text(text + "?", -1 - text.length(), 1);
        }
    }

    /** "A CLAIM is a text of at most 200 bytes, TOKENS as above". */
    private static void claimOf200() {
        dueClaim("", -1, 1);
        dueClaim(blanks(200), -201, 1);
        dueClaim(blanks(201), -201, 1);
        dueClaim(blanks(640), -201, 1);
        dueClaim("each 1=1" + blanks(192), 1, 0);
        dueClaim("each 1=1" + blanks(193), -201, 1);
        dueClaim("each 1=1" + blanks(632), -201, 1);
        dueClaim(at(192, "", "each 1=1"), 1, 0);
        dueClaim(at(192, "", "each 1=1)"), -201, 1);
        dueClaim(at(193, "", "each 1=1"), -201, 1);
        dueClaim(at(199, "each 1=", "1"), 1, 0);
        dueClaim(at(200, "each 1=", "1"), -201, 1);
        dueClaim(at(199, "each 1=", "100"), -201, 1);
        dueClaim(at(199, "each 1=", "1000"), -200, 1);
        dueClaim(at(199, "each 1=", "rights"), -201, 1);
        dueClaim(at(199, "each 1=", "rightss"), -200, 1);
        dueClaim(at(199, "each 1=1", ")") + ")", -200, 1);
        dueClaim("?" + blanks(300), -1, 1);
        dueClaim(at(199, "each" + " 1=1 or".repeat(20), "not"), -200, 4);
        dueClaim(at(200, "each" + " 1=1 or".repeat(20), "not"), -201, 1);
    }

    /** "No more than 20 ONES", "4 a 21st ONE (at its first TOKEN)", of one TOKEN the least. */
    private static void ones() {
        String pairs = "each (1=1)" + "or(1=1)".repeat(9);
        dueClaim(pairs, 20, 0);
        String nots = "each not 1=1" + " or not 1=1".repeat(9);
        dueClaim(nots, 20, 0);
        for (String first : new String[] {"1=1", "not 1=1", "(1=1)", "wet", "999", "not not", "(("}) {
            dueClaim(pairs + "and " + first, -1 - pairs.length() - 4, 4);
            dueClaim(nots + " or " + first, -1 - nots.length() - 4, 4);
        }
        for (String first : new String[] {"?", "or", ")", "<", "in", "1000", "rightss"}) {
            dueClaim(pairs + "and " + first, -1 - pairs.length() - 4, 1);
        }
        dueClaim(pairs + "and", -1 - pairs.length() - 3, 1);
        // the 20th may not hold another one
        String nineteen = "each (1=1)" + "or(1=1)".repeat(8);
        dueClaim(nineteen + " or 1=1", 19, 0);
        dueClaim(nineteen + " or 1=1 or 1=1", 20, 0);
        dueClaim(nineteen + " or 1=1 or not 1=1", -1 - nineteen.length() - 15, 4);
        dueClaim(nineteen + " or 1=1 or (1=1)", -1 - nineteen.length() - 12, 4);
    }

    /** "no more than 8 within one another", "4 .. a ninth within (at its first TOKEN)". */
    private static void within() {
        for (int nots = 0; nots <= 7; nots++) {
            String seven = "not ".repeat(nots) + "(".repeat(7 - nots);
            String closed = ")".repeat(7 - nots);
            dueClaim("each " + seven + "1=1" + closed, 8, 0);
            for (String ninth : new String[] {"1=1", "wet=1", "not 1=1", "(1=1)"}) {
                dueClaim("each " + seven + "(" + ninth + ")" + closed, -1 - 5 - seven.length() - 1, 4);
                dueClaim("each " + seven + "not " + ninth + closed, -1 - 5 - seven.length() - 4, 4);
            }
            dueClaim("each " + seven + "not ?", -1 - 5 - seven.length() - 4, 1);
            dueClaim("each " + seven + "()", -1 - 5 - seven.length() - 1, 1);
        }
        // side by side none is within the other
        dueClaim("each (((((((1=1)))))))or(((((((1=1)))))))", 16, 0);
        dueClaim("each (((((((1=1 and 1=1 or 1=1)))))))", 10, 0);
        dueClaim("each (((((((1=1)))))))or((((((((1=1))))))))", -33, 4);
    }

    /** A CLAIM has no FAULTS 2 and 3: its NUMBERS are all that a TOKEN tells. */
    private static void claimNumbers() {
        for (int number = 0; number <= 999; number++) {
            dueClaim("each " + number + "=" + number, 1, 0);
        }
        for (String value : VALUES) {
            dueClaim("some " + value + "<" + value, 1, 0);
        }
        for (String word : RESERVED) {
            dueClaim("each " + word + "=1", -6, 1);
            dueClaim("each 1=" + word, -8, 1);
        }
        dueClaim("each 1=1 and 1=1 and 1=1", 3, 0);
    }

    /** "An INVENTOR is a text of at most 600 bytes", "20 LINES", "4 (a 21st LINE, at its first WORD)". */
    private static void inventorOf600() {
        dueInventor("", 0, 0);
        dueInventor(blanks(600), 0, 0);
        dueInventor(blanks(601), -601, 1);
        dueInventor(at(578, "", LINE), 1, 0);
        dueInventor(at(578, "", LINE) + " ", -601, 1);
        dueInventor(at(579, "", LINE), -601, 1);
        dueInventor(at(599, "in", "9 hears fed goes 9;"), -601, 1);
        dueInventor(at(599, "in", "10 hears fed goes 9;"), -600, 2);
        dueInventor(at(599, "in", "0010"), -600, 1);
        dueInventor(at(600, "in", "10 hears fed goes 9;"), -601, 1);
        dueInventor(LINE.repeat(19), 19, 0);
        dueInventor(LINE.repeat(20), 20, 0);
        dueInventor(LINE.repeat(20) + "in", -441, 4);
        dueInventor(LINE.repeat(20) + "  in 99 ?", -443, 4);
        dueInventor(LINE.repeat(20) + "hears", -441, 1);
        dueInventor(LINE.repeat(20) + "1", -441, 1);
        dueInventor(LINE.repeat(20) + ";", -441, 1);
        dueInventor(at(599, LINE.repeat(20), "in 1"), -600, 4);
        dueInventor(at(600, LINE.repeat(20), "in 1"), -601, 1);
    }

    /** "S 0 to 9", and the WORD that one hears is a SAYING. */
    private static void inventorLines() {
        for (int s = 0; s <= 999; s++) {
            dueInventor("in " + s + " hears fed goes 0;", s <= 9 ? 1 : -4, s <= 9 ? 0 : 2);
            dueInventor("in 0 hears fed goes " + s + ";", s <= 9 ? 1 : -21, s <= 9 ? 0 : 2);
        }
        for (String word : SAYINGS) {
            dueInventor("in 0 hears " + word + " goes 1;", 1, 0);
        }
        for (String word : "weight float magnet spring arm each right in hears goes counts a".split(" ")) {
            dueInventor("in 0 hears " + word + " goes 1;", -12, 1);
        }
        dueInventor("in 10 hears all goes 10;", -4, 2);
        dueInventor("in 0 hears all goes 10;", -12, 1);
        dueInventor("in 0 hears fed goes 10", -21, 2);
    }

    public static void main(String[] args) {
        drawingOf600();
        drawingTokenOver600();
        everyByte();
        tokens();
        turnAndRub();
        everyNumber();
        names();
        parts();
        firstFault();
        brokenOff();
        endedTooEarly();
        claimOf200();
        ones();
        within();
        claimNumbers();
        inventorOf600();
        inventorLines();
        tell("TextEdgeTests");
    }
}
