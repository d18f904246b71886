import java.util.NoSuchElementException;

/** An office for wheels that are to turn for ever. The document's promises stand at the methods by number. */
public final class ForeverOffice {
    public static final int NONE = -1;

    private static final int NOT_AS_TOLD = -2;
    private static final int MOST_TAPE = 640;
    private static final int LONG_TEXT = 600;
    private static final int CLAIM_TEXT = 200;
    private static final int MOST_PLACES = 48;
    private static final int MOST_PARTS = 12;
    private static final int MOST_KEPT = 6;
    private static final int LAW_SETS = 32;
    private static final int PART_LAWS = 4;
    private static final int NO_RUB_LAW = 16;
    private static final int MOST_PUSH = 100000;
    private static final int MOST_LOAD = 9999;
    private static final int MOST_FED = 999;
    private static final int MODEL_PUSH = 1000;
    private static final int VALUES = 8;
    private static final int RIGHTS = 2;
    private static final int LEFTS = 3;
    private static final int SAYINGS = 7;

    private final Tape tape = new Tape();
    private final Tokens tokens = new Tokens();
    private final Totals totals = new Totals();
    private final World world = new World();
    private final Run latestRun = new Run();
    private final Run trialRun = new Run();
    private final Finds finds = new Finds();
    private final Drawing[] kept = new Drawing[MOST_KEPT];
    private final int[] standing = new int[MOST_PLACES];
    private final int[] sayings = new int[Inventor.STATES];
    private Drawing now = new Drawing();
    private Drawing spareDrawing = new Drawing();
    private Claim told = new Claim();
    private Claim spareClaim = new Claim();
    private Inventor hearer = new Inventor();
    private Inventor spareInventor = new Inventor();
    private int standingCount = 0;
    private int sayingCount = 0;

    /** Promise 1. */
    public ForeverOffice() {
    }

    /** Promise 2. */
    public int feed(int a, int b, int c, int d, int e) {
        if (tape.length + Tape.FED_BYTES > MOST_TAPE) {
            return NONE;
        }
        tape.append(a);
        tape.append(b);
        tape.append(c);
        tape.append(d);
        tape.append(e);
        return tape.length;
    }

    /** Promise 3. */
    public boolean end(int n) {
        if (n < 0 || n > tape.length) {
            return false;
        }
        tape.length = n;
        return true;
    }

    /** Promise 4. */
    public int drawing() {
        cutTape(LONG_TEXT);
        if (!spareDrawing.readFrom(tokens)) {
            return tokens.faultAnswer();
        }
        Drawing read = spareDrawing;
        spareDrawing = now;
        now = read;
        totals.tell(now);
        return now.size;
    }

    /** Promise 5. */
    public int fault() {
        return tokens.faultKind;
    }

    /** Promise 6. */
    public int place(int part, int t) throws NoSuchElementException {
        if (!isPart(part) || !isPlace(t)) {
            throw new NoSuchElementException("no such part or t");
        }
        return now.parts[part].placeAt(t, now.places);
    }

    /** Promise 7. */
    public int energy(int part, int place) throws NoSuchElementException {
        if (!isPart(part) || !isPlace(place)) {
            throw new NoSuchElementException("no such part or place");
        }
        return now.parts[part].energyAt(place, now.places);
    }

    /** Promise 8. */
    public int gives(int part, int t, int laws) throws NoSuchElementException {
        if (!isPart(part) || !isPlace(t) || !isLawSet(laws)) {
            throw new NoSuchElementException("no such part, t or laws");
        }
        return now.parts[part].givesIn(t, laws, now.places);
    }

    /** Promise 9. */
    public int sum(int part, int laws) throws NoSuchElementException {
        if (!isLawSet(laws) || (part != NONE && !isPart(part))) {
            throw new NoSuchElementException("no such part or laws");
        }
        return part == NONE ? totals.wholeWith(laws) : now.parts[part].sumWith(laws, now.places);
    }

    /** Promise 10. */
    public int run(int t, int push, int laws) {
        if (!isPlace(t) || !isPush(push) || !isLawSet(laws)) {
            return NONE;
        }
        world.prepare(totals, laws);
        latestRun.start(t, push);
        latestRun.turn(world);
        return latestRun.steps;
    }

    /** Promise 11. */
    public int ran(int what) {
        if (!latestRun.started) {
            return NONE;
        }
        switch (what) {
            case 0:
                return latestRun.t;
            case 1:
                return latestRun.left;
            case 2:
                return latestRun.turnings;
            case 3:
                return latestRun.greatest;
            case 4:
                return latestRun.rests ? 1 : 0;
            default:
                return NONE;
        }
    }

    /** Promise 12. */
    public int stands(int laws) {
        if (!isLawSet(laws)) {
            return NONE;
        }
        world.prepare(totals, laws);
        standingCount = 0;
        for (int t = 0; t < now.places; t++) {
            if (world.ahead[t] < 0 && world.back[t] < 0) {
                standing[standingCount] = t;
                standingCount++;
            }
        }
        return standingCount;
    }

    /** Promise 13. */
    public int stand(int k) {
        return k >= 0 && k < standingCount ? standing[k] : NONE;
    }

    /** Promise 14. */
    public int claim() {
        cutTape(CLAIM_TEXT);
        if (!spareClaim.readFrom(tokens)) {
            return tokens.faultAnswer();
        }
        Claim read = spareClaim;
        spareClaim = told;
        told = read;
        return told.ones;
    }

    /** Promise 15. */
    public int holds() {
        switch (told.kind) {
            case Claim.EACH:
                return firstAtWhichClaimIs(false) == NONE ? 1 : 0;
            case Claim.SOME:
                return firstAtWhichClaimIs(true) == NONE ? 0 : 1;
            case Claim.ALL:
                return told.isSoAt(NONE, totals) ? 1 : 0;
            default:
                return NONE;
        }
    }

    /** Promise 16. */
    public int where() {
        return told.kind == Claim.EACH ? firstAtWhichClaimIs(false) : NONE;
    }

    /** Promise 17. */
    public int value(int v, int t) throws NoSuchElementException {
        if (v < 0 || v >= VALUES || (t != NONE && !isPlace(t))) {
            throw new NoSuchElementException("no such value or t");
        }
        return totals.valueAt(v, t);
    }

    /** Promise 18. */
    public int goes(int laws) {
        if (laws == NONE) {
            return Integer.bitCount(goers());
        }
        if (!isLawSet(laws)) {
            return NOT_AS_TOLD;
        }
        return totals.wholeWith(laws) > 0 ? 1 : 0;
    }

    /** Promise 19. */
    public int least(int k) {
        int goers = goers();
        int found = 0;
        for (int laws = 0; laws < LAW_SETS; laws++) {
            if (isLeastOf(goers, laws)) {
                if (found == k) {
                    return laws;
                }
                found++;
            }
        }
        return NONE;
    }

    /** Promise 20. */
    public int needs(int law) {
        if (law != 1 && law != 2 && law != 4 && law != 8) {
            return NONE;
        }
        int bits = 0;
        for (int i = 0; i < now.size; i++) {
            Part part = now.parts[i];
            if (part.sumWith(law, now.places) != part.sumWith(0, now.places)) {
                bits |= 1 << i;
            }
        }
        return bits;
    }

    /** Promise 21. */
    public int hidden(int t, int push) {
        int bytes = tape.length;
        tape.length = 0;
        boolean rowAsTold = bytes >= 2 && bytes <= 2 * Finds.MOST_SHOWN && bytes % 2 == 0;
        if (!rowAsTold || !isPlace(t) || !isPush(push)) {
            return NONE;
        }
        world.prepare(totals, 0);
        finds.show(tape, bytes / 2);
        if (finds.comesWithout(world, t, push)) {
            return NOT_AS_TOLD;
        }
        finds.search(world, t, push);
        return finds.total;
    }

    /** Promise 22. */
    public int hiddenAt(int k, int what) {
        if (k < 0 || k >= Math.min(finds.total, Finds.MOST_KEPT_FINDS)) {
            return NONE;
        }
        switch (what) {
            case 0:
                return finds.steps[k];
            case 1:
                return finds.extras[k];
            default:
                return NONE;
        }
    }

    /** Promise 23. */
    public int looks() {
        int bytes = tape.length;
        tape.length = 0;
        int size = bytes / Finds.LOOK_BYTES;
        if (!finds.searched || bytes % Finds.LOOK_BYTES != 0 || size < 1 || size > Finds.MOST_LOOKS) {
            return NOT_AS_TOLD;
        }
        finds.readLooks(tape, size);
        return finds.fewestLooks();
    }

    /** Promise 24. */
    public int lookSet() {
        return finds.lookBits;
    }

    /** Promise 25. */
    public boolean keep(int k) {
        if (k < 0 || k >= MOST_KEPT) {
            return false;
        }
        if (kept[k] == null) {
            kept[k] = new Drawing();
        }
        kept[k].copyFrom(now);
        return true;
    }

    /** Promise 26. */
    public int same(int k) {
        if (k < 0 || k >= MOST_KEPT || kept[k] == null) {
            return NOT_AS_TOLD;
        }
        return now.turnTo(kept[k]);
    }

    /** Promise 27. */
    public int feeding(int pin, int t, int push, int load) {
        if (!isPlace(pin) || !isPlace(t) || !isPush(push) || load < 0 || load > MOST_LOAD) {
            return NOT_AS_TOLD;
        }
        world.prepare(totals, 0);
        int w = world.leastFeeding(pin, t, push, load);
        return w > MOST_FED ? NONE : w;
    }

    /** Promise 28. */
    public int inventor() {
        cutTape(LONG_TEXT);
        if (!spareInventor.readFrom(tokens)) {
            return tokens.faultAnswer();
        }
        Inventor read = spareInventor;
        spareInventor = hearer;
        hearer = read;
        return hearer.lines;
    }

    /** Promise 29. */
    public int right(int s) {
        if (s < 0 || s >= SAYINGS) {
            return NONE;
        }
        return isRight(s) ? 1 : 0;
    }

    /** Promise 30. */
    public int answer() {
        int rightOnes = 0;
        for (int s = 0; s < SAYINGS; s++) {
            if (isRight(s)) {
                rightOnes |= 1 << s;
            }
        }
        hearer.measure(rightOnes);
        int length = hearer.far[0];
        if (length > hearer.far.length) {
            return NONE;
        }
        hearer.tellShortest(rightOnes, sayings);
        sayingCount = length;
        return length;
    }

    /** Promise 31. */
    public int answerAt(int k) {
        return k >= 0 && k < sayingCount ? sayings[k] : NONE;
    }

    /** Promise 32. */
    public int count(int what) {
        switch (what) {
            case 0:
                return now.size;
            case 1:
                return now.places;
            case 2:
                return now.rub;
            case 3:
                return keptDrawings();
            case 4:
                return tape.length;
            default:
                return NONE;
        }
    }

    private boolean isPart(int part) {
        return part >= 0 && part < now.size;
    }

    private boolean isPlace(int place) {
        return place >= 0 && place < now.places;
    }

    private static boolean isLawSet(int laws) {
        return laws >= 0 && laws < LAW_SETS;
    }

    private static boolean isPush(int push) {
        return push >= 0 && push <= MOST_PUSH;
    }

    private void cutTape(int most) {
        tokens.cut(tape, most);
        tape.length = 0;
    }

    private int keptDrawings() {
        int found = 0;
        for (int k = 0; k < kept.length; k++) {
            if (kept[k] != null) {
                found++;
            }
        }
        return found;
    }

    private int firstAtWhichClaimIs(boolean so) {
        for (int t = 0; t < now.places; t++) {
            if (told.isSoAt(t, totals) == so) {
                return t;
            }
        }
        return NONE;
    }

    /** The GOERS, one bit for each set of LAWS. */
    private int goers() {
        int bits = 0;
        for (int laws = 0; laws < LAW_SETS; laws++) {
            if (totals.wholeWith(laws) > 0) {
                bits |= 1 << laws;
            }
        }
        return bits;
    }

    private static boolean isLeastOf(int goers, int laws) {
        if ((goers >>> laws & 1) == 0) {
            return false;
        }
        for (int other = 0; other < laws; other++) {
            if ((other & laws) == other && (goers >>> other & 1) != 0) {
                return false;
            }
        }
        return true;
    }

    private boolean isRight(int s) {
        switch (s) {
            case 0:
                return isLeftFullerSomewhere();
            case 1:
                return areUnfedSumsZero();
            case 2:
                return takesAtSomeDoor();
            case 3:
                return modelRests();
            case 4:
                return now.rub > 0;
            case 5:
                return hasFedPart();
            case 6:
                int goers = goers();
                return goers != 0 && (goers & 1) == 0;
            default:
                return false;
        }
    }

    private boolean isLeftFullerSomewhere() {
        for (int t = 0; t < now.places; t++) {
            if (totals.valueAt(LEFTS, t) > totals.valueAt(RIGHTS, t)) {
                return true;
            }
        }
        return false;
    }

    private boolean areUnfedSumsZero() {
        for (int i = 0; i < now.size; i++) {
            Part part = now.parts[i];
            if (part.kind != Part.FED && part.sumWith(0, now.places) != 0) {
                return false;
            }
        }
        return true;
    }

    private boolean takesAtSomeDoor() {
        for (int i = 0; i < now.size; i++) {
            Part part = now.parts[i];
            if ((part.kind == Part.FLOAT || part.kind == Part.MAGNET) && part.takesWhereLawCounts(now.places)) {
                return true;
            }
        }
        return false;
    }

    private boolean modelRests() {
        world.prepare(totals, 0);
        trialRun.start(0, MODEL_PUSH);
        trialRun.turn(world);
        return trialRun.rests;
    }

    private boolean hasFedPart() {
        for (int i = 0; i < now.size; i++) {
            if (now.parts[i].kind == Part.FED) {
                return true;
            }
        }
        return false;
    }

    /** The bytes that have come and were not yet used. */
    private static final class Tape {
        static final int FED_BYTES = 20;

        private final byte[] bytes = new byte[MOST_TAPE];
        private int length = 0;

        void append(int number) {
            for (int shift = 24; shift >= 0; shift -= 8) {
                if (length >= 0 && length < bytes.length) {
                    bytes[length] = (byte) (number >>> shift);
                    length++;
                }
            }
        }

        /** Bytes behind the length are there too: who reads a text empties the tape first. */
        int byteAt(int i) {
            return i >= 0 && i < bytes.length ? bytes[i] & 255 : 0;
        }
    }

    /** All words that some text knows; other words can only be NAMES. */
    private enum Word {
        TURN("turn", true, NONE, 1),
        RUB("rub", true, NONE, 4),
        WEIGHT("weight", true, NONE, NONE),
        FLOAT("float", true, NONE, NONE),
        MAGNET("magnet", true, NONE, NONE),
        SPRING("spring", true, NONE, NONE),
        FED("fed", true, NONE, 5),
        ARM("arm", true, NONE, NONE),
        OUT("out", true, NONE, NONE),
        FROM("from", true, NONE, NONE),
        TO("to", true, NONE, NONE),
        AT("at", true, NONE, NONE),
        SHUT("shut", true, NONE, NONE),
        EACH("each", false, NONE, NONE),
        SOME("some", false, NONE, NONE),
        ALL("all", false, NONE, NONE),
        OR("or", false, NONE, NONE),
        AND("and", false, NONE, NONE),
        NOT("not", false, NONE, NONE),
        RIGHT("right", false, 0, NONE),
        LEFT("left", false, 1, NONE),
        RIGHTS("rights", false, 2, NONE),
        LEFTS("lefts", false, 3, NONE),
        WET("wet", false, 4, NONE),
        GIVES("gives", false, 5, NONE),
        TAKES("takes", false, 6, NONE),
        HIGH("high", false, 7, NONE),
        IN("in", false, NONE, NONE),
        HEARS("hears", false, NONE, NONE),
        GOES("goes", false, NONE, NONE),
        COUNT("count", false, NONE, 0),
        DOOR("door", false, NONE, 2),
        MODEL("model", false, NONE, 3),
        LAW("law", false, NONE, 6);

        static final int MOST_LETTERS = 6;

        private static final Word[] KNOWN = values();

        private final int code;
        private final boolean reserved;
        private final int valueIndex;
        private final int sayingIndex;

        Word(String text, boolean reserved, int valueIndex, int sayingIndex) {
            this.code = codeOf(text);
            this.reserved = reserved;
            this.valueIndex = valueIndex;
            this.sayingIndex = sayingIndex;
        }

        private static int codeOf(String text) {
            int code = 0;
            for (int i = 0; i < text.length(); i++) {
                code = withLetter(code, text.charAt(i));
            }
            return code;
        }

        /** Six letters fit an int, and no two words share a code, as no letter counts 0. */
        static int withLetter(int code, int letter) {
            return code * 27 + letter - 'a' + 1;
        }
    }

    /** A text cut into TOKENS that are then taken one by one; taking stops at the first FAULT. */
    private static final class Tokens {
        static final int CANT_COME = 1;
        static final int WRONG_NUMBER = 2;
        static final int TOLD_TWICE = 3;
        static final int TOO_MANY = 4;

        private static final int END = 0;
        private static final int WORD = 1;
        private static final int NUMBER = 2;
        private static final int SIGN = 3;
        private static final int NO_TOKEN = 4;
        private static final int MOST_DIGITS = 3;

        private final int[] kinds = new int[MOST_TAPE + 1];
        private final int[] contents = new int[MOST_TAPE + 1];
        private final int[] starts = new int[MOST_TAPE + 1];
        private int size = 0;
        private int at = 0;
        private boolean tooLong = false;
        private int faultKind = 0;

        void cut(Tape tape, int most) {
            int limit = Math.min(tape.length, most);
            tooLong = tape.length > most;
            faultKind = 0;
            size = 0;
            at = 0;
            int next = 0;
            while (next < limit) {
                int sign = tape.byteAt(next);
                if (sign == ' ' || sign == '\n') {
                    next++;
                } else if (isLetter(sign) || isDigit(sign)) {
                    next = Math.max(next + 1, cutWordOrNumber(tape, next));
                } else {
                    add(isSingle(sign) ? SIGN : NO_TOKEN, sign, next);
                    next++;
                }
            }
            add(END, 0, limit);
        }

        /** Goes on behind the text's most bytes, as a TOKEN that begins ahead of them is read whole. */
        private int cutWordOrNumber(Tape tape, int start) {
            int letters = 0;
            int digits = 0;
            int code = 0;
            int number = 0;
            int next = start;
            while (next < tape.length && (isLetter(tape.byteAt(next)) || isDigit(tape.byteAt(next)))) {
                int sign = tape.byteAt(next);
                if (isLetter(sign)) {
                    letters++;
                    code = Word.withLetter(code, sign);
                } else {
                    digits++;
                    number = number * 10 + sign - '0';
                }
                next++;
            }
            if (digits == 0 && letters <= Word.MOST_LETTERS) {
                add(WORD, code, start);
            } else if (letters == 0 && digits <= MOST_DIGITS) {
                add(NUMBER, number, start);
            } else {
                add(NO_TOKEN, 0, start);
            }
            return next;
        }

        private void add(int kind, int content, int start) {
            if (size >= 0 && size < kinds.length) {
                kinds[size] = kind;
                contents[size] = content;
                starts[size] = start;
                size++;
            }
        }

        private static boolean isLetter(int sign) {
            return sign >= 'a' && sign <= 'z';
        }

        private static boolean isDigit(int sign) {
            return sign >= '0' && sign <= '9';
        }

        private static boolean isSingle(int sign) {
            return sign == ';' || sign == '<' || sign == '=' || sign == '>' || sign == '(' || sign == ')';
        }

        boolean isEnd() {
            return kinds[at] == END;
        }

        boolean isAnyWord() {
            return kinds[at] == WORD;
        }

        boolean isNumber() {
            return kinds[at] == NUMBER;
        }

        boolean isWord(Word word) {
            return kinds[at] == WORD && contents[at] == word.code;
        }

        boolean isSign(int sign) {
            return kinds[at] == SIGN && contents[at] == sign;
        }

        /** The word that comes, or null for what is none or is unknown. */
        Word knownWord() {
            if (kinds[at] != WORD) {
                return null;
            }
            for (int i = 0; i < Word.KNOWN.length; i++) {
                if (Word.KNOWN[i].code == contents[at]) {
                    return Word.KNOWN[i];
                }
            }
            return null;
        }

        /** A NUMBER's value, a WORD's code or a sign. */
        int content() {
            return contents[at];
        }

        /** The end is never passed, so that a text that breaks off has its FAULT there. */
        void pass() {
            if (at < size - 1) {
                at++;
            }
        }

        boolean fail(int kind) {
            faultKind = kind;
            return false;
        }

        boolean takeWord(Word word) {
            if (!isWord(word)) {
                return fail(CANT_COME);
            }
            pass();
            return true;
        }

        boolean takeSign(int sign) {
            if (!isSign(sign)) {
                return fail(CANT_COME);
            }
            pass();
            return true;
        }

        /** The NUMBER that comes, or NONE behind a FAULT. */
        int takeNumber(int lowest, int highest) {
            if (!isNumber()) {
                fail(CANT_COME);
                return NONE;
            }
            int number = contents[at];
            if (number < lowest || number > highest) {
                fail(WRONG_NUMBER);
                return NONE;
            }
            pass();
            return number;
        }

        boolean takeEnd() {
            return isEnd() && !tooLong || fail(CANT_COME);
        }

        int faultAnswer() {
            return -1 - starts[at];
        }
    }

    /** One PART as told; what its kind does not tell is 0. */
    private static final class Part {
        static final int WEIGHT = 0;
        static final int FLOAT = 1;
        static final int MAGNET = 2;
        static final int SPRING = 3;
        static final int FED = 4;

        private static final int FLOAT_LAW = 1;
        private static final int MAGNET_LAW = 2;
        private static final int SPRING_LAW = 4;
        private static final int WEIGHT_LAW = 8;
        private static final int MAGNET_REACH = 6;

        private int kind = FED;
        private int name = 0;
        private int pin = 0;
        private int w = 0;
        private int arm = 0;
        private int outArm = 0;
        private int at = 0;
        private boolean ranged = false;
        private int from = 0;
        private int to = 0;

        static int kindOf(Word word) {
            if (word == Word.WEIGHT) {
                return WEIGHT;
            }
            if (word == Word.FLOAT) {
                return FLOAT;
            }
            if (word == Word.MAGNET) {
                return MAGNET;
            }
            if (word == Word.SPRING) {
                return SPRING;
            }
            return word == Word.FED ? FED : NONE;
        }

        static int highOf(int place, int places) {
            return place <= places / 2 ? place : places - place;
        }

        void begin(int newKind) {
            kind = newKind;
            arm = 0;
            outArm = 0;
            at = 0;
            ranged = false;
            from = 0;
            to = 0;
        }

        void copyFrom(Part other) {
            kind = other.kind;
            name = other.name;
            pin = other.pin;
            w = other.w;
            arm = other.arm;
            outArm = other.outArm;
            at = other.at;
            ranged = other.ranged;
            from = other.from;
            to = other.to;
        }

        /** The one LAW that can change what this PART gives; 0 for a fed one. */
        int law() {
            switch (kind) {
                case WEIGHT:
                    return WEIGHT_LAW;
                case FLOAT:
                    return FLOAT_LAW;
                case MAGNET:
                    return MAGNET_LAW;
                case SPRING:
                    return SPRING_LAW;
                default:
                    return 0;
            }
        }

        boolean isWithin(int place) {
            if (!ranged) {
                return false;
            }
            return from <= to ? from <= place && place <= to : from <= place || place <= to;
        }

        int placeAt(int t, int places) {
            int place = pin + t;
            return place >= places ? place - places : place;
        }

        private static int placeBehind(int place, int places) {
            return place + 1 < places ? place + 1 : 0;
        }

        int armAt(int place) {
            return isWithin(place) ? outArm : arm;
        }

        int energyAt(int place, int places) {
            switch (kind) {
                case WEIGHT:
                    return w * armAt(place) * highOf(place, places);
                case FLOAT:
                    return isWithin(place) ? 10 * w * (places / 2 - highOf(place, places)) : 0;
                case MAGNET:
                    return isWithin(place) ? 0 : -w * Math.max(0, MAGNET_REACH - distanceTo(place, places));
                case SPRING:
                    return isWithin(place) ? 40 * w : 0;
                default:
                    return 0;
            }
        }

        private int distanceTo(int place, int places) {
            int apart = Math.abs(place - at);
            return Math.min(apart, places - apart);
        }

        int givesIn(int t, int laws, int places) {
            if (kind == FED) {
                return t == pin ? w : 0;
            }
            int before = placeAt(t, places);
            int after = placeBehind(before, places);
            int given = energyAt(before, places) - energyAt(after, places);
            if ((laws & law()) == 0 || !lawCounts(before, after, places)) {
                return given;
            }
            return kind == WEIGHT ? given / 2 : 0;
        }

        /** Whether the step from one place to the next is one of which this PART's LAW speaks. */
        private boolean lawCounts(int before, int after, int places) {
            switch (kind) {
                case WEIGHT:
                    return highOf(after, places) > highOf(before, places);
                case MAGNET:
                    return isWithin(before) != isWithin(after);
                default:
                    return !isWithin(before) && isWithin(after);
            }
        }

        boolean takesWhereLawCounts(int places) {
            for (int t = 0; t < places; t++) {
                int before = placeAt(t, places);
                int after = placeBehind(before, places);
                if (lawCounts(before, after, places) && givesIn(t, 0, places) < 0) {
                    return true;
                }
            }
            return false;
        }

        int sumWith(int laws, int places) {
            int added = 0;
            for (int t = 0; t < places; t++) {
                added += givesIn(t, laws, places);
            }
            return added;
        }

        boolean isTurned(Part other, int r, int places) {
            int turned = kind == FED ? pin - r : pin + r;
            return kind == other.kind && w == other.w && arm == other.arm && outArm == other.outArm
                && at == other.at && ranged == other.ranged && from == other.from && to == other.to
                && Math.floorMod(turned, Math.max(1, places)) == other.pin;
        }
    }

    /** A DRAWING as told. */
    private static final class Drawing {
        static final int PLACES_WITHOUT_TURN = 24;

        private static final int FEWEST_PLACES = 8;
        private static final int MOST_RUB = 999;
        private static final int MOST_WEIGHT = 99;
        private static final int MOST_ARM = 20;

        private final Part[] parts = new Part[MOST_PARTS];
        private int size = 0;
        private int places = PLACES_WITHOUT_TURN;
        private int rub = 0;

        Drawing() {
            for (int i = 0; i < parts.length; i++) {
                parts[i] = new Part();
            }
        }

        boolean readFrom(Tokens tokens) {
            size = 0;
            places = PLACES_WITHOUT_TURN;
            rub = 0;
            if (tokens.isWord(Word.TURN) && !readTurn(tokens)) {
                return false;
            }
            boolean rubTold = false;
            for (int line = 0; line < MOST_TAPE && !tokens.isEnd(); line++) {
                boolean isRub = tokens.isWord(Word.RUB);
                if (isRub && rubTold) {
                    return tokens.fail(Tokens.TOLD_TWICE);
                }
                rubTold |= isRub;
                boolean read = isRub ? readRub(tokens) : readPart(tokens);
                if (!read || !tokens.takeSign(';')) {
                    return false;
                }
            }
            return tokens.takeEnd();
        }

        private boolean readTurn(Tokens tokens) {
            tokens.pass();
            if (tokens.isNumber() && tokens.content() % 2 != 0) {
                return tokens.fail(Tokens.WRONG_NUMBER);
            }
            int number = tokens.takeNumber(FEWEST_PLACES, MOST_PLACES);
            if (number == NONE) {
                return false;
            }
            places = number;
            return tokens.takeSign(';');
        }

        private boolean readRub(Tokens tokens) {
            tokens.pass();
            int number = tokens.takeNumber(0, MOST_RUB);
            if (number == NONE) {
                return false;
            }
            rub = number;
            return true;
        }

        private boolean readPart(Tokens tokens) {
            int kind = Part.kindOf(tokens.knownWord());
            if (kind == NONE) {
                return tokens.fail(Tokens.CANT_COME);
            }
            if (size >= parts.length) {
                return tokens.fail(Tokens.TOO_MANY);
            }
            tokens.pass();
            Part part = parts[size];
            part.begin(kind);
            if (!readName(tokens, part) || !readPinAndWeight(tokens, part) || !readRest(tokens, part)) {
                return false;
            }
            size++;
            return true;
        }

        private boolean readName(Tokens tokens, Part part) {
            Word word = tokens.knownWord();
            if (!tokens.isAnyWord() || (word != null && word.reserved)) {
                return tokens.fail(Tokens.CANT_COME);
            }
            for (int i = 0; i < size; i++) {
                if (parts[i].name == tokens.content()) {
                    return tokens.fail(Tokens.TOLD_TWICE);
                }
            }
            part.name = tokens.content();
            tokens.pass();
            return true;
        }

        private boolean readPinAndWeight(Tokens tokens, Part part) {
            part.pin = tokens.takeNumber(0, places - 1);
            if (part.pin == NONE) {
                return false;
            }
            part.w = tokens.takeNumber(1, MOST_WEIGHT);
            return part.w != NONE;
        }

        private boolean readRest(Tokens tokens, Part part) {
            switch (part.kind) {
                case Part.WEIGHT:
                    return readArms(tokens, part);
                case Part.MAGNET:
                    return readDoor(tokens, part);
                case Part.FED:
                    return true;
                default:
                    return readRange(tokens, part, Word.FROM);
            }
        }

        private boolean readArms(Tokens tokens, Part part) {
            if (!tokens.takeWord(Word.ARM)) {
                return false;
            }
            part.arm = tokens.takeNumber(0, MOST_ARM);
            if (part.arm == NONE) {
                return false;
            }
            if (!tokens.isWord(Word.OUT)) {
                return true;
            }
            tokens.pass();
            part.outArm = tokens.takeNumber(0, MOST_ARM);
            return part.outArm != NONE && readRange(tokens, part, Word.FROM);
        }

        private boolean readDoor(Tokens tokens, Part part) {
            if (!tokens.takeWord(Word.AT)) {
                return false;
            }
            part.at = tokens.takeNumber(0, places - 1);
            if (part.at == NONE) {
                return false;
            }
            return !tokens.isWord(Word.SHUT) || readRange(tokens, part, Word.SHUT);
        }

        private boolean readRange(Tokens tokens, Part part, Word opening) {
            if (!tokens.takeWord(opening)) {
                return false;
            }
            part.from = tokens.takeNumber(0, places - 1);
            if (part.from == NONE || !tokens.takeWord(Word.TO)) {
                return false;
            }
            part.to = tokens.takeNumber(0, places - 1);
            part.ranged = true;
            return part.to != NONE;
        }

        void copyFrom(Drawing other) {
            size = other.size;
            places = other.places;
            rub = other.rub;
            for (int i = 0; i < size; i++) {
                parts[i].copyFrom(other.parts[i]);
            }
        }

        /** The least r by which this one is the other one, or NONE. */
        int turnTo(Drawing other) {
            if (size != other.size || places != other.places || rub != other.rub) {
                return NONE;
            }
            for (int r = 0; r < places; r++) {
                if (isTurned(other, r)) {
                    return r;
                }
            }
            return NONE;
        }

        /** Like PARTS are like one another too, so any free partner will do. */
        private boolean isTurned(Drawing other, int r) {
            int used = 0;
            for (int i = 0; i < size; i++) {
                int partner = freePartner(parts[i], other, r, used);
                if (partner == NONE) {
                    return false;
                }
                used |= 1 << partner;
            }
            return true;
        }

        private int freePartner(Part part, Drawing other, int r, int used) {
            for (int j = 0; j < size; j++) {
                if ((used >>> j & 1) == 0 && part.isTurned(other.parts[j], r, places)) {
                    return j;
                }
            }
            return NONE;
        }
    }

    /** What all PARTS of the DRAWING come to at each t, told once for each DRAWING; at first of the empty one. */
    private static final class Totals {
        private static final int RIGHT = 0;
        private static final int LEFT = 1;
        private static final int WET = 4;
        private static final int GIVES = 5;
        private static final int TAKES = 6;
        private static final int HIGH = 7;

        /** All GIVES of a STEP, no LAW being another. */
        private final int[] given = new int[MOST_PLACES];
        private final int[] fed = new int[MOST_PLACES];
        /** What is given more in a STEP by a LAW that is another; a PART hangs on one LAW, so these add up. */
        private final int[] more = new int[PART_LAWS * MOST_PLACES];
        private final int[] values = new int[VALUES * MOST_PLACES];
        private final int[] valueSums = new int[VALUES];
        private int places = Drawing.PLACES_WITHOUT_TURN;
        private int rub = 0;

        void tell(Drawing drawing) {
            places = drawing.places;
            rub = drawing.rub;
            clear();
            for (int i = 0; i < drawing.size; i++) {
                Part part = drawing.parts[i];
                for (int t = 0; t < places; t++) {
                    addStep(part, t);
                    addPlace(part, t);
                }
            }
            for (int v = 0; v < VALUES; v++) {
                for (int t = 0; t < places; t++) {
                    valueSums[v] += values[v * MOST_PLACES + t];
                }
            }
        }

        private void clear() {
            for (int i = 0; i < given.length; i++) {
                given[i] = 0;
                fed[i] = 0;
            }
            for (int i = 0; i < more.length; i++) {
                more[i] = 0;
            }
            for (int i = 0; i < values.length; i++) {
                values[i] = 0;
            }
            for (int i = 0; i < valueSums.length; i++) {
                valueSums[i] = 0;
            }
        }

        private void addStep(Part part, int t) {
            int plain = part.givesIn(t, 0, places);
            given[t] += plain;
            addValue(plain > 0 ? GIVES : TAKES, t, Math.abs(plain));
            if (part.kind == Part.FED) {
                fed[t] += plain;
            }
            for (int law = 0; law < PART_LAWS; law++) {
                if (part.law() == 1 << law) {
                    more[law * MOST_PLACES + t] += part.givesIn(t, part.law(), places) - plain;
                }
            }
        }

        private void addPlace(Part part, int t) {
            int place = part.placeAt(t, places);
            if (part.kind == Part.FLOAT && part.isWithin(place)) {
                addValue(WET, t, 1);
            }
            if (part.kind != Part.WEIGHT) {
                return;
            }
            addValue(HIGH, t, Part.highOf(place, places));
            if (place > places / 2) {
                addValue(RIGHT, t, part.w * part.armAt(place));
                addValue(RIGHTS, t, 1);
            } else if (place > 0 && place < places / 2) {
                addValue(LEFT, t, part.w * part.armAt(place));
                addValue(LEFTS, t, 1);
            }
        }

        private void addValue(int v, int t, int added) {
            values[v * MOST_PLACES + t] += added;
        }

        /** VALUE v at t, or its sum over all t for NONE. */
        int valueAt(int v, int t) {
            if (v < 0 || v >= VALUES || t >= places) {
                return 0;
            }
            return t < 0 ? valueSums[v] : values[v * MOST_PLACES + t];
        }

        int givenWith(int t, int laws) {
            int all = given[t];
            for (int law = 0; law < PART_LAWS; law++) {
                if ((laws >>> law & 1) != 0) {
                    all += more[law * MOST_PLACES + t];
                }
            }
            return all;
        }

        int rubWith(int laws) {
            return (laws & NO_RUB_LAW) != 0 ? 0 : rub;
        }

        int wholeWith(int laws) {
            int all = -places * rubWith(laws);
            for (int t = 0; t < places; t++) {
                all += givenWith(t, laws);
            }
            return all;
        }
    }

    /** The WORLD with a set of LAWS: what E is more by, rub counted, going forward or backward from each t. */
    private static final class World {
        private static final int FED_TURNS = 20;

        private final int[] ahead = new int[MOST_PLACES];
        private final int[] back = new int[MOST_PLACES];
        private int places = 0;

        void prepare(Totals totals, int laws) {
            places = totals.places;
            int rub = totals.rubWith(laws);
            for (int t = 0; t < places; t++) {
                int given = totals.givenWith(t, laws);
                ahead[t] = given - rub;
                back[after(t)] = totals.fed[t] - given - rub;
            }
        }

        int after(int t) {
            return t + 1 < places ? t + 1 : 0;
        }

        int before(int t) {
            return t > 0 ? t - 1 : places - 1;
        }

        /**
         * Behind each STEP E is some number and W as often as the PIN was left, and both
         * must not come below 0: so each STEP tells a least W.
         */
        int leastFeeding(int pin, int start, int push, int load) {
            int without = push;
            int feedings = 0;
            int w = 1;
            int t = start;
            for (int step = 0; step < FED_TURNS * places; step++) {
                without += ahead[t] - (t == 0 ? load : 0);
                feedings += t == pin ? 1 : 0;
                if (without < 0) {
                    w = feedings == 0 ? MOST_FED + 1 : Math.max(w, ceilingOf(-without, feedings));
                }
                if (w > MOST_FED) {
                    return w;
                }
                t = after(t);
            }
            return w;
        }

        private static int ceilingOf(int number, int by) {
            return by > 0 ? -Math.floorDiv(-number, by) : 0;
        }
    }

    /** A RUN, where it stands and what it has met. */
    private static final class Run {
        private static final int MOST_STEPS = 20000;
        /** A turning is followed by a STEP or by the one turning more with which it RESTS. */
        private static final int MOST_ATTEMPTS = 2 * MOST_STEPS + 2;

        private boolean started = false;
        private int t = 0;
        private int left = 0;
        private int steps = 0;
        private int turnings = 0;
        private int greatest = 0;
        private boolean rests = false;

        void start(int from, int push) {
            started = true;
            t = from;
            left = push;
            steps = 0;
            turnings = 0;
            greatest = push;
            rests = false;
        }

        void turn(World world) {
            boolean forward = true;
            boolean justTurned = false;
            for (int attempt = 0; attempt < MOST_ATTEMPTS && steps < MOST_STEPS && !rests; attempt++) {
                int then = left + (forward ? world.ahead[t] : world.back[t]);
                if (then >= 0) {
                    left = then;
                    t = forward ? world.after(t) : world.before(t);
                    greatest = Math.max(greatest, then);
                    steps++;
                    justTurned = false;
                } else {
                    rests = justTurned;
                    justTurned = true;
                    forward = !forward;
                    turnings++;
                }
            }
        }
    }

    /** A CLAIM, its ONES put in the order in which they are found out, what joins them behind them. */
    private static final class Claim {
        static final int UNTOLD = 0;
        static final int EACH = 1;
        static final int SOME = 2;
        static final int ALL = 3;

        private static final int MOST_ONES = 20;
        private static final int MOST_WITHIN = 8;
        private static final int MOST_DEEDS = 2 * MOST_ONES;
        private static final int NOT = 0;
        private static final int AND = 1;
        private static final int OR = 2;

        /** NOT, AND, OR or a comparison's sign. */
        private final int[] deeds = new int[MOST_DEEDS];
        private final int[] firsts = new int[MOST_DEEDS];
        private final int[] seconds = new int[MOST_DEEDS];
        private final boolean[] found = new boolean[MOST_DEEDS];
        private int kind = UNTOLD;
        private int size = 0;
        private int ones = 0;

        boolean readFrom(Tokens tokens) {
            size = 0;
            ones = 0;
            kind = kindOf(tokens.knownWord());
            if (kind == UNTOLD) {
                return tokens.fail(Tokens.CANT_COME);
            }
            tokens.pass();
            return readCondition(tokens, 1) && tokens.takeEnd();
        }

        private static int kindOf(Word word) {
            if (word == Word.EACH) {
                return EACH;
            }
            if (word == Word.SOME) {
                return SOME;
            }
            return word == Word.ALL ? ALL : UNTOLD;
        }

        private boolean readCondition(Tokens tokens, int within) {
            if (!readAll(tokens, within)) {
                return false;
            }
            for (int i = 0; i < MOST_TAPE && tokens.isWord(Word.OR); i++) {
                tokens.pass();
                if (!readAll(tokens, within)) {
                    return false;
                }
                add(OR, 0, 0);
            }
            return true;
        }

        private boolean readAll(Tokens tokens, int within) {
            if (!readOne(tokens, within)) {
                return false;
            }
            for (int i = 0; i < MOST_TAPE && tokens.isWord(Word.AND); i++) {
                tokens.pass();
                if (!readOne(tokens, within)) {
                    return false;
                }
                add(AND, 0, 0);
            }
            return true;
        }

        private boolean readOne(Tokens tokens, int within) {
            boolean isNot = tokens.isWord(Word.NOT);
            boolean isBracket = tokens.isSign('(');
            if (!isNot && !isBracket && !isValue(tokens)) {
                return tokens.fail(Tokens.CANT_COME);
            }
            if (ones >= MOST_ONES || within > MOST_WITHIN) {
                return tokens.fail(Tokens.TOO_MANY);
            }
            ones++;
            if (isBracket) {
                tokens.pass();
                return readCondition(tokens, within + 1) && tokens.takeSign(')');
            }
            if (isNot) {
                tokens.pass();
                boolean read = readOne(tokens, within + 1);
                add(NOT, 0, 0);
                return read;
            }
            return readComparison(tokens);
        }

        private boolean readComparison(Tokens tokens) {
            int first = takeOperand(tokens);
            if (!tokens.isSign('<') && !tokens.isSign('=') && !tokens.isSign('>')) {
                return tokens.fail(Tokens.CANT_COME);
            }
            int sign = tokens.content();
            tokens.pass();
            if (!isValue(tokens)) {
                return tokens.fail(Tokens.CANT_COME);
            }
            add(sign, first, takeOperand(tokens));
            return true;
        }

        private static boolean isValue(Tokens tokens) {
            Word word = tokens.knownWord();
            return tokens.isNumber() || (word != null && word.valueIndex != NONE);
        }

        /** A NUMBER stands for itself; a VALUE told by a WORD lies below 0, so that the two can't be mixed up. */
        private static int takeOperand(Tokens tokens) {
            Word word = tokens.knownWord();
            int operand = word == null ? tokens.content() : -1 - word.valueIndex;
            tokens.pass();
            return operand;
        }

        private void add(int deed, int first, int second) {
            if (size >= 0 && size < deeds.length) {
                deeds[size] = deed;
                firsts[size] = first;
                seconds[size] = second;
                size++;
            }
        }

        /** Whether it is so at t, or, for NONE, with the sums over all t. */
        boolean isSoAt(int t, Totals totals) {
            int waiting = 0;
            for (int i = 0; i < size; i++) {
                int deed = deeds[i];
                if (deed == NOT && waiting >= 1) {
                    found[waiting - 1] = !found[waiting - 1];
                } else if (deed == AND && waiting >= 2) {
                    waiting--;
                    found[waiting - 1] &= found[waiting];
                } else if (deed == OR && waiting >= 2) {
                    waiting--;
                    found[waiting - 1] |= found[waiting];
                } else if (waiting < found.length) {
                    found[waiting] = compare(deed, operandAt(firsts[i], t, totals), operandAt(seconds[i], t, totals));
                    waiting++;
                }
            }
            return waiting > 0 && found[0];
        }

        private static int operandAt(int operand, int t, Totals totals) {
            return operand >= 0 ? operand : totals.valueAt(-1 - operand, t);
        }

        private static boolean compare(int sign, int first, int second) {
            if (sign == '<') {
                return first < second;
            }
            return sign == '>' ? first > second : first == second;
        }
    }

    /** What was SHOWN of a model, what may be HIDDEN in it, and the LOOKS that bar it. */
    private static final class Finds {
        static final int MOST_SHOWN = 60;
        static final int MOST_KEPT_FINDS = 200;
        static final int MOST_LOOKS = 10;
        static final int LOOK_BYTES = 6;

        private static final int MOST_EXTRA = 999;

        private final int[] shown = new int[MOST_SHOWN];
        private final int[] steps = new int[MOST_KEPT_FINDS];
        private final int[] extras = new int[MOST_KEPT_FINDS];
        private int rows = 0;
        private boolean searched = false;
        private int total = 0;
        private long places = 0L;
        private final long[] looked = new long[MOST_LOOKS];
        private int lookCount = 0;
        private int lookBits = 0;

        void show(Tape tape, int pairs) {
            rows = Math.min(pairs, MOST_SHOWN);
            for (int i = 0; i < rows; i++) {
                shown[i] = tape.byteAt(2 * i) * 256 + tape.byteAt(2 * i + 1);
            }
        }

        boolean comesWithout(World world, int start, int push) {
            int left = push;
            int t = start;
            for (int i = 0; i < rows; i++) {
                left += world.ahead[t];
                if (left < 0 || left / 10 != shown[i]) {
                    return false;
                }
                t = world.after(t);
            }
            return true;
        }

        void search(World world, int start, int push) {
            searched = true;
            total = 0;
            places = 0L;
            for (int x = 0; x < world.places; x++) {
                searchAt(x, world, start, push);
            }
        }

        /**
         * Behind each STEP E, which is some number and g as often as x was left, must lie
         * within ten numbers: so each STEP narrows the g that may be.
         */
        private void searchAt(int x, World world, int start, int push) {
            int lowest = 1;
            int highest = MOST_EXTRA;
            int without = push;
            int times = 0;
            int t = start;
            for (int i = 0; i < rows && lowest <= highest; i++) {
                without += world.ahead[t];
                times += t == x ? 1 : 0;
                int missing = 10 * shown[i] - without;
                if (times > 0) {
                    lowest = Math.max(lowest, -Math.floorDiv(-missing, times));
                    highest = Math.min(highest, Math.floorDiv(missing + 9, times));
                } else if (missing > 0 || missing + 9 < 0) {
                    highest = 0;
                }
                t = world.after(t);
            }
            for (int g = lowest; g <= highest; g++) {
                add(x, g);
            }
        }

        private void add(int x, int g) {
            if (total >= 0 && total < MOST_KEPT_FINDS) {
                steps[total] = x;
                extras[total] = g;
            }
            total++;
            places |= 1L << x;
        }

        void readLooks(Tape tape, int size) {
            lookCount = Math.min(size, MOST_LOOKS);
            for (int i = 0; i < lookCount; i++) {
                looked[i] = 0L;
                for (int j = 0; j < LOOK_BYTES; j++) {
                    looked[i] |= (long) tape.byteAt(LOOK_BYTES * i + j) << 8 * j;
                }
            }
        }

        /** How many LOOKS bar all the found places; NONE, and the set told earlier stays, if all together do not. */
        int fewestLooks() {
            int best = NONE;
            for (int chosen = 0; chosen < 1 << lookCount; chosen++) {
                boolean fewer = best == NONE || Integer.bitCount(chosen) < Integer.bitCount(best);
                if (fewer && (places & ~lookedAt(chosen)) == 0L) {
                    best = chosen;
                }
            }
            if (best == NONE) {
                return NONE;
            }
            lookBits = best;
            return Integer.bitCount(best);
        }

        private long lookedAt(int chosen) {
            long all = 0L;
            for (int i = 0; i < lookCount; i++) {
                if ((chosen >>> i & 1) != 0) {
                    all |= looked[i];
                }
            }
            return all;
        }
    }

    /** An INVENTOR: where each SAYING leads from each state. */
    private static final class Inventor {
        static final int STATES = 10;

        private static final int SEES = 9;
        private static final int MOST_LINES = 20;
        private static final int NEVER = 1000;

        private final int[] leads = new int[STATES * SAYINGS];
        /** How many right SAYINGS it takes at least to SEE from each state. */
        private final int[] far = new int[STATES];
        private int lines = 0;

        Inventor() {
            for (int i = 0; i < leads.length; i++) {
                leads[i] = NONE;
            }
        }

        boolean readFrom(Tokens tokens) {
            lines = 0;
            for (int i = 0; i < leads.length; i++) {
                leads[i] = NONE;
            }
            for (int i = 0; i < MOST_TAPE && !tokens.isEnd(); i++) {
                if (!readLine(tokens)) {
                    return false;
                }
            }
            return tokens.takeEnd();
        }

        private boolean readLine(Tokens tokens) {
            if (tokens.isWord(Word.IN) && lines >= MOST_LINES) {
                return tokens.fail(Tokens.TOO_MANY);
            }
            if (!tokens.takeWord(Word.IN)) {
                return false;
            }
            int state = tokens.takeNumber(0, STATES - 1);
            if (state == NONE || !tokens.takeWord(Word.HEARS)) {
                return false;
            }
            Word word = tokens.knownWord();
            if (word == null || word.sayingIndex == NONE) {
                return tokens.fail(Tokens.CANT_COME);
            }
            tokens.pass();
            int next = tokens.takeWord(Word.GOES) ? tokens.takeNumber(0, STATES - 1) : NONE;
            if (next == NONE || !tokens.takeSign(';')) {
                return false;
            }
            int index = state * SAYINGS + word.sayingIndex;
            if (leads[index] == NONE) {
                leads[index] = next;
            }
            lines++;
            return true;
        }

        private int stateAfter(int state, int saying) {
            int next = leads[state * SAYINGS + saying];
            return next == NONE ? state : next;
        }

        void measure(int rightOnes) {
            for (int state = 0; state < STATES; state++) {
                far[state] = state == SEES ? 0 : NEVER;
            }
            for (int round = 0; round < STATES; round++) {
                for (int state = 0; state < SEES; state++) {
                    far[state] = Math.min(far[state], farBySaying(state, rightOnes));
                }
            }
        }

        private int farBySaying(int state, int rightOnes) {
            int least = NEVER;
            for (int saying = 0; saying < SAYINGS; saying++) {
                if ((rightOnes >>> saying & 1) != 0) {
                    least = Math.min(least, far[stateAfter(state, saying)] + 1);
                }
            }
            return least;
        }

        /** Behind measure(), and only if one can come to SEE. */
        void tellShortest(int rightOnes, int[] row) {
            int state = 0;
            for (int k = 0; k < row.length && state != SEES; k++) {
                row[k] = nearingSaying(state, rightOnes);
                state = stateAfter(state, row[k]);
            }
        }

        private int nearingSaying(int state, int rightOnes) {
            for (int saying = 0; saying < SAYINGS; saying++) {
                boolean isRight = (rightOnes >>> saying & 1) != 0;
                if (isRight && far[stateAfter(state, saying)] < far[state]) {
                    return saying;
                }
            }
            return 0;
        }
    }
}
