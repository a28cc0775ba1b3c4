/** Faces of a town, pictures mixed of two, and who is let in by them: ../shared/DOC.md tells the promises. */
public final class TwoFaces {
    public static final int NONE = -1;

    private static final int MOST_TAPE = 1600;
    private static final int MOST_RULES = 800;
    private static final int MOST_FACES = 16;
    private static final int MOST_MEASURES = 8;
    private static final int MOST_KNOWS = 20;
    private static final int MOST_SIGNS = 6;
    private static final int MOST_UNITS = 40;
    private static final int MOST_WITHIN = 6;
    private static final int MOST_PAPERS = 40;
    private static final int MOST_TIME = 100000;
    private static final int BOXES = 3;
    private static final int KINDS = 4;
    private static final int PRINTERS = 4;
    private static final int LAST_YEAR = 60;
    private static final int WHOLE = 10;
    private static final int WIDEST_BAR = 800;
    private static final int BAR_UNTOLD = 40;

    private static final int NO_TOKEN = 1;
    private static final int CANT_STAND = 2;
    private static final int TOLD_ALREADY = 3;
    private static final int CANT_BE = 4;
    private static final int NO_FACE = 5;

    private final byte[] tape = new byte[MOST_TAPE];
    private int taped = 0;
    private int fault = 0;
    private int faultPlace = NONE;
    private final Tokens tokens = new Tokens(tape);
    private final Town townHere = new Town();
    private final Town townDraft = new Town();
    private final Rules rulesHere = new Rules();
    private final Rules rulesDraft = new Rules();
    private final Papers papers = new Papers();
    private final Papers[] boxes = new Papers[BOXES];
    private final Darkroom darkroom = new Darkroom(townHere, rulesHere);
    private final Gate gateHere = new Gate(townHere, rulesHere);
    private final PlainBars plainBars = new PlainBars(townHere, gateHere);
    private final Search search = new Search(townHere, papers, darkroom);
    private final Rings ringsHere = new Rings(townHere, papers);

    public TwoFaces() {
        for (int i = 0; i < BOXES; i++) {
            boxes[i] = new Papers();
        }
    }

    public int feed(int a, int b, int c, int d, int e) {
        if (taped + 20 > MOST_TAPE) {
            return NONE;
        }
        putOnTape(a);
        putOnTape(b);
        putOnTape(c);
        putOnTape(d);
        putOnTape(e);
        return taped;
    }

    private void putOnTape(int four) {
        for (int shift = 24; shift >= 0; shift -= 8) {
            if (taped < MOST_TAPE) {
                tape[taped] = (byte) (four >>> shift);
                taped++;
            }
        }
    }

    public int end(int n) {
        if (n < 0 || n > taped) {
            return NONE;
        }
        taped = n;
        return n;
    }

    public int town() {
        tokens.open(taped, false);
        boolean stands = new TownText(tokens, townDraft).read();
        keepFault();
        taped = 0;
        if (!stands) {
            return NONE;
        }
        townHere.copyFrom(townDraft);
        rulesHere.clear();
        papers.empty();
        emptyBoxes();
        return townHere.faces;
    }

    public int rules() {
        if (taped > MOST_RULES) {
            return -2;
        }
        tokens.open(taped, true);
        boolean stands = new RulesText(tokens, rulesDraft, townHere.points).read();
        keepFault();
        taped = 0;
        if (!stands) {
            return NONE;
        }
        rulesHere.copyFrom(rulesDraft);
        return rulesHere.lines();
    }

    private void keepFault() {
        fault = tokens.fault;
        faultPlace = tokens.faultPlace;
    }

    public int fault(int what) {
        switch (what) {
            case 0: return fault;
            case 1: return faultPlace;
            default: return NONE;
        }
    }

    public int face(int face, int measure, int year) {
        if (!townHere.has(face) || measure < 0 || measure >= townHere.points || !isYear(year)) {
            return NONE;
        }
        return townHere.measureIn(face, measure, year);
    }

    public int far(int a, int yearA, int b, int yearB) {
        if (!townHere.has(a) || !townHere.has(b) || !isYear(yearA) || !isYear(yearB)) {
            return NONE;
        }
        int all = 0;
        for (int i = 0; i < townHere.points; i++) {
            all += Math.abs(townHere.measureIn(a, i, yearA) - townHere.measureIn(b, i, yearB));
        }
        return all;
    }

    public int passes(int face, int picture, int year, int light) {
        if (!townHere.has(face) || !townHere.has(picture) || !isWhen(year, light)) {
            return NONE;
        }
        gateHere.open(year, light);
        return gateHere.letsInWith(face, picture) ? 1 : 0;
    }

    public int mix(int a, int b, int share, int printer, int measure) {
        if (!isMix(a, b, share) || !isPrinterOrNot(printer) || measure < 0 || measure >= townHere.points) {
            return NONE;
        }
        return darkroom.develop(a, b, share, printer)[measure];
    }

    public int both(int a, int b, int share, int year, int light) {
        if (!isMix(a, b, share) || !isWhen(year, light)) {
            return NONE;
        }
        gateHere.open(year, light);
        return gateHere.whoPasses(a, b, share);
    }

    public int able(int a, int b, int year, int light) {
        if (!townHere.has(a) || !townHere.has(b) || a >= b || !isWhen(year, light)) {
            return NONE;
        }
        gateHere.open(year, light);
        return gateHere.bestShare(a, b);
    }

    public int pairs(int year, int light) {
        if (!isWhen(year, light)) {
            return NONE;
        }
        gateHere.open(year, light);
        return gateHere.countAble();
    }

    public int pair(int i, int year, int light) {
        if (i < 0 || !isWhen(year, light)) {
            return NONE;
        }
        gateHere.open(year, light);
        return gateHere.ableAt(i);
    }

    public int gate(int what, int kind, int year, int light) {
        if (what < 0 || what > 1 || kind < NONE || kind >= KINDS || !isWhen(year, light)) {
            return NONE;
        }
        gateHere.open(year, light);
        return what == 0 ? gateHere.countFalse(kind) : gateHere.countHeld(kind);
    }

    public int twins(int year, int light) {
        if (!isWhen(year, light)) {
            return NONE;
        }
        gateHere.open(year, light);
        return gateHere.countTwins();
    }

    public int until(int face, int light) {
        if (!townHere.has(face) || !isLight(light)) {
            return NONE;
        }
        for (int year = 0; year <= LAST_YEAR; year++) {
            gateHere.open(year, light);
            if (!gateHere.letsInWith(face, face)) {
                return year;
            }
        }
        return NONE;
    }

    public int signs(int a, int b, int share, int printer) {
        if (!isMix(a, b, share) || !isPrinterOrNot(printer)) {
            return NONE;
        }
        return darkroom.shown(a, b, share, printer);
    }

    public int caught(int printer, int part) {
        if (!isPrinterOrNot(printer) || part < 0 || part > 1) {
            return NONE;
        }
        return darkroom.caughtPart(printer, part);
    }

    public int paper(int face, int other, int share, int place) {
        if (!townHere.has(face) || !townHere.has(other) || !isShare(share) || !isPlace(place)) {
            return NONE;
        }
        return papers.tell(face, other, share, place);
    }

    public boolean untell(int paper) {
        return papers.takeBack(paper);
    }

    public int later(int by) {
        if (by < 0 || by > 1000 || papers.time + by > MOST_TIME) {
            return NONE;
        }
        papers.time += by;
        return papers.time;
    }

    public int behind(int paper, int what, int k) {
        if (what < 0 || what > 3 || !papers.counts(paper, k) || townHere.faces < 2) {
            return NONE;
        }
        search.seek(paper);
        switch (what) {
            case 0: return search.found;
            case 1: return search.foundShare();
            case 2: return search.foundFar();
            default: return search.isSure() ? 1 : 0;
        }
    }

    public int rings(int what, int k) {
        if (what < 0 || what > 2) {
            return NONE;
        }
        ringsHere.part(k);
        switch (what) {
            case 0: return ringsHere.parts;
            case 1: return ringsHere.greatestSize();
            default: return ringsHere.greatest;
        }
    }

    public int ring(int paper, int k) {
        if (!papers.counts(paper, k)) {
            return NONE;
        }
        ringsHere.part(k);
        return ringsHere.sizeOfPartOf(paper);
    }

    public int between(int a, int b) {
        if (!townHere.has(a) || !townHere.has(b)) {
            return NONE;
        }
        return townHere.steps(a, b);
    }

    public int looks(int sum, int what, int k) {
        if (sum < 0 || sum > 999 || what < 0 || what > 1) {
            return NONE;
        }
        search.look(sum, k);
        return what == 0 ? search.lookedAt : search.lookedUp;
    }

    public int cost(int bar, int f, int h, int year, int light) {
        if (bar < 0 || bar > WIDEST_BAR || !isPrice(f) || !isPrice(h) || !isWhen(year, light)) {
            return NONE;
        }
        gateHere.open(year, light);
        return plainBars.costOf(bar, f, h);
    }

    public int bestBar(int f, int h, int year, int light) {
        if (!isPrice(f) || !isPrice(h) || !isWhen(year, light)) {
            return NONE;
        }
        gateHere.open(year, light);
        return plainBars.cheapest(f, h);
    }

    public int fair(int d, int year, int light, int what) {
        if (d < 0 || d > 100 || !isWhen(year, light) || what < 0 || what > KINDS) {
            return NONE;
        }
        gateHere.open(year, light);
        return what < KINDS ? plainBars.ownBar(what, d) : plainBars.falseByOwnBars(d);
    }

    public int measure(int kind, int other) {
        if (kind < 0 || kind >= KINDS || other < 0 || other >= KINDS) {
            return NONE;
        }
        return townHere.leastBetween(kind, other);
    }

    public int image(int box) {
        Papers kept = boxAt(box);
        if (kept == null) {
            return NONE;
        }
        kept.copyFrom(papers);
        kept.isKept = true;
        return papers.count;
    }

    public int back(int box) {
        Papers kept = boxAt(box);
        if (kept == null || !kept.isKept) {
            return NONE;
        }
        papers.copyFrom(kept);
        return papers.count;
    }

    public int about(int what) {
        switch (what) {
            case 0: return townHere.faces;
            case 1: return townHere.points;
            case 2: return rulesHere.signs;
            case 3: return papers.count;
            case 4: return papers.time;
            case 5: return taped;
            case 6: return rulesHere.units;
            case 7: return townHere.knowsLines;
            case 8: return townHere.near;
            default: return NONE;
        }
    }

    private Papers boxAt(int box) {
        return box >= 0 && box < BOXES ? boxes[box] : null;
    }

    private void emptyBoxes() {
        for (int i = 0; i < BOXES; i++) {
            Papers kept = boxAt(i);
            if (kept != null) {
                kept.isKept = false;
            }
        }
    }

    private boolean isMix(int a, int b, int share) {
        return townHere.has(a) && townHere.has(b) && a != b && isShare(share);
    }

    private static boolean isShare(int share) {
        return share >= 0 && share <= WHOLE;
    }

    private static boolean isPrinterOrNot(int printer) {
        return printer >= NONE && printer < PRINTERS;
    }

    private static boolean isYear(int year) {
        return year >= 0 && year <= LAST_YEAR;
    }

    private static boolean isLight(int light) {
        return light >= 0 && light <= 9;
    }

    private static boolean isWhen(int year, int light) {
        return isYear(year) && isLight(light);
    }

    private static boolean isPlace(int place) {
        return place >= 0 && isYear(place / 100) && place / 10 % 10 < PRINTERS;
    }

    private static boolean isPrice(int price) {
        return price >= 0 && price <= 99;
    }

    /** The tape read TOKEN by TOKEN, and the first FAULT that its reader met. */
    private static final class Tokens {
        // The reserved words are tokens 0 .. 23, by their place in WORDS; a sign is a token by its own byte (40 and above).
        static final int POINTS = 0;
        static final int FACE = 1;
        static final int KIND = 2;
        static final int DRIFT = 3;
        static final int ROW = 4;
        static final int KNOWS = 5;
        static final int PRINTER = 6;
        static final int BLURS = 7;
        static final int COSTS = 8;
        static final int NEAR = 9;
        static final int BAR = 10;
        static final int SIGN = 11;
        static final int WHEN = 12;
        static final int FAR = 13;
        static final int YEARS = 14;
        static final int LIGHT = 15;
        static final int SUM = 16;
        static final int EDGE = 17;
        static final int MOST = 18;
        static final int LEAST = 19;
        static final int AT = 20;
        static final int AND = 21;
        static final int OR = 22;
        static final int NOT = 23;
        static final int NAME = 24;
        static final int NUMBER = 25;
        static final int END = 26;
        static final int BAD = 27;
        static final int LINE_END = ';';

        private static final int WORD_LENGTH = 8;
        private static final int NUMBER_LENGTH = 4;
        private static final String WORDS = "points  face    kind    drift   row     knows   printer blurs   costs   near    bar     sign    when    far     years   light   sum     edge    most    least   at      and     or      not     ";

        // A TOKEN takes a byte at least, and the end is one, too.
        private static final int MOST_TOKENS = MOST_TAPE + 1;

        private final byte[] text;
        private final long[] reserved = new long[NAME];
        private final int[] tokens = new int[MOST_TOKENS];
        private final int[] starts = new int[MOST_TOKENS];
        private final long[] values = new long[MOST_TOKENS];
        private int length = 0;
        private boolean withRuleSigns = false;
        private int readTo = 0;
        private int count = 0;
        private int at = NONE;
        int token = END;
        int number = 0;
        long name = 0;
        int fault = 0;
        int faultPlace = NONE;

        Tokens(byte[] text) {
            this.text = text;
            for (int i = 0; i < WORDS.length() && i / WORD_LENGTH < NAME; i++) {
                if (WORDS.charAt(i) != ' ') {
                    reserved[i / WORD_LENGTH] = withLetter(reserved[i / WORD_LENGTH], WORDS.charAt(i));
                }
            }
        }

        /** Reads all TOKENS up to the first that is none, or to the end; the first of them is at hand then. */
        void open(int bytes, boolean ofRules) {
            length = Math.min(bytes, text.length);
            withRuleSigns = ofRules;
            fault = 0;
            faultPlace = NONE;
            readTo = 0;
            count = 0;
            boolean more = true;
            for (int i = 0; i < MOST_TOKENS && more; i++) {
                more = readToken();
            }
            at = NONE;
            step();
        }

        /** Goes to the next TOKEN, but stays at the end, and at what is no TOKEN. */
        void step() {
            if (at + 1 < count) {
                at++;
            }
            if (at >= 0 && at < MOST_TOKENS) {
                token = tokens[at];
                name = values[at];
                number = (int) values[at];
            }
        }

        private boolean readToken() {
            for (int i = readTo; i < length && isBlank(byteAt(i)); i++) {
                readTo = i + 1;
            }
            if (count >= MOST_TOKENS) {
                return false;
            }
            starts[count] = readTo;
            values[count] = 0;
            int read = readKind(byteAt(readTo));
            tokens[count] = read;
            count++;
            return read != END && read != BAD;
        }

        private int readKind(int first) {
            if (readTo >= length) {
                return END;
            }
            if (isLetter(first)) {
                return readWord();
            }
            if (isDigit(first)) {
                return readNumber();
            }
            readTo++;
            return isSign(first) ? first : BAD;
        }

        private int readWord() {
            int from = readTo;
            long word = 0;
            for (int i = from; i < length && isLetter(byteAt(i)); i++) {
                word = withLetter(word, byteAt(i));
                readTo = i + 1;
            }
            if (readTo - from > WORD_LENGTH) {
                return BAD;
            }
            values[count] = word;
            for (int i = 0; i < NAME; i++) {
                if (reserved[i] == word) {
                    return i;
                }
            }
            return NAME;
        }

        private int readNumber() {
            int from = readTo;
            int all = 0;
            for (int i = from; i < length && isDigit(byteAt(i)); i++) {
                all = all * 10 + (byteAt(i) - '0');
                readTo = i + 1;
            }
            values[count] = all;
            return readTo - from > NUMBER_LENGTH || isLetter(byteAt(readTo)) ? BAD : NUMBER;
        }

        private int byteAt(int i) {
            return i >= 0 && i < length && i < text.length ? text[i] & 255 : 0;
        }

        private static long withLetter(long word, int letter) {
            return word * 32 + (letter - 'a' + 1);
        }

        private static boolean isBlank(int sign) {
            return sign == 32 || sign == 10;
        }

        private static boolean isLetter(int sign) {
            return sign >= 'a' && sign <= 'z';
        }

        private static boolean isDigit(int sign) {
            return sign >= '0' && sign <= '9';
        }

        private boolean isSign(int sign) {
            switch (sign) {
                case ';':
                    return true;
                case '(': case ')': case '<': case '>': case '=': case '+': case '-': case '*':
                    return withRuleSigns;
                default:
                    return false;
            }
        }

        /** Always false, so that a reader can answer with it. */
        boolean refuse(int why) {
            fault = token == BAD ? NO_TOKEN : why;
            faultPlace = at >= 0 && at < MOST_TOKENS ? starts[at] : NONE;
            return false;
        }

        boolean take(int wanted) {
            if (token != wanted) {
                return refuse(CANT_STAND);
            }
            step();
            return true;
        }

        boolean isNumber(int least, int most) {
            if (token != NUMBER) {
                return refuse(CANT_STAND);
            }
            return number >= least && number <= most || refuse(CANT_BE);
        }
    }

    /** What a text told of a town. */
    private static final class Town {
        int points = 5;
        int near = 20;
        int faces = 0;
        int knowsLines = 0;
        private final long[] names = new long[MOST_FACES];
        private final int[] kinds = new int[MOST_FACES];
        private final int[] drifts = new int[MOST_FACES];
        private final int[][] told = new int[MOST_FACES][MOST_MEASURES];
        private final int[] friends = new int[MOST_FACES];
        private final int[] blurs = new int[PRINTERS];
        private final int[] costs = new int[PRINTERS];

        void clear() {
            points = 5;
            near = 20;
            faces = 0;
            knowsLines = 0;
            for (int i = 0; i < MOST_FACES; i++) {
                friends[i] = 0;
            }
            for (int i = 0; i < PRINTERS; i++) {
                setPrinter(i, 0, 0);
            }
        }

        void copyFrom(Town other) {
            points = other.points;
            near = other.near;
            faces = other.faces;
            knowsLines = other.knowsLines;
            for (int i = 0; i < MOST_FACES; i++) {
                names[i] = other.names[i];
                kinds[i] = other.kinds[i];
                drifts[i] = other.drifts[i];
                friends[i] = other.friends[i];
                System.arraycopy(other.told[i], 0, told[i], 0, MOST_MEASURES);
            }
            for (int i = 0; i < PRINTERS; i++) {
                setPrinter(i, other.blurs[i], other.costs[i]);
            }
        }

        boolean has(int face) {
            return face >= 0 && face < faces && face < MOST_FACES;
        }

        int named(long name) {
            for (int i = 0; i < faces && i < MOST_FACES; i++) {
                if (names[i] == name) {
                    return i;
                }
            }
            return NONE;
        }

        /** The row of the FACE that is told next: it becomes one by add. */
        void setNextMeasure(int measure, int value) {
            if (faces < MOST_FACES && measure >= 0 && measure < MOST_MEASURES) {
                told[faces][measure] = value;
            }
        }

        void add(long name, int kind, int drift) {
            if (faces < MOST_FACES) {
                names[faces] = name;
                kinds[faces] = kind;
                drifts[faces] = drift;
                faces++;
            }
        }

        void addKnows(int a, int b) {
            if (has(a) && has(b)) {
                friends[a] |= 1 << b;
                friends[b] |= 1 << a;
                knowsLines++;
            }
        }

        void setPrinter(int printer, int blur, int price) {
            if (printer >= 0 && printer < PRINTERS) {
                blurs[printer] = blur;
                costs[printer] = price;
            }
        }

        int kindOf(int face) {
            return has(face) ? kinds[face] : NONE;
        }

        int blurOf(int printer) {
            return printer >= 0 && printer < PRINTERS ? blurs[printer] : 0;
        }

        int costOf(int printer) {
            return printer >= 0 && printer < PRINTERS ? costs[printer] : 0;
        }

        int countOfKind(int kind) {
            int count = 0;
            for (int i = 0; i < faces; i++) {
                if (kindOf(i) == kind) {
                    count++;
                }
            }
            return count;
        }

        int measureIn(int face, int measure, int year) {
            if (!has(face) || measure < 0 || measure >= MOST_MEASURES) {
                return 0;
            }
            int drifted = drifts[face] * year / 10;
            int value = told[face][measure] + (measure % 2 == 0 ? drifted : -drifted);
            return Math.max(0, Math.min(99, value));
        }

        int mixed(int first, int second, int share, int measure) {
            if (!has(first) || !has(second) || measure < 0 || measure >= MOST_MEASURES) {
                return 0;
            }
            return (told[first][measure] * share + told[second][measure] * (WHOLE - share)) / WHOLE;
        }

        int apart(int[] row, int[] other) {
            int all = 0;
            for (int i = 0; i < points && i < row.length && i < other.length; i++) {
                all += Math.abs(row[i] - other[i]);
            }
            return all;
        }

        boolean knowEachOther(int a, int b) {
            return has(a) && has(b) && (friends[a] >> b & 1) == 1;
        }

        int steps(int from, int to) {
            int reached = 1 << from;
            for (int step = 0; step < MOST_FACES; step++) {
                if ((reached >> to & 1) == 1) {
                    return step;
                }
                reached = withFriends(reached);
            }
            return NONE;
        }

        private int withFriends(int some) {
            int more = some;
            for (int i = 0; i < MOST_FACES; i++) {
                if ((some >> i & 1) == 1) {
                    more |= friends[i];
                }
            }
            return more;
        }

        int leastBetween(int kind, int other) {
            int least = NONE;
            for (int a = 0; a < faces && a < MOST_FACES; a++) {
                for (int b = 0; b < faces && b < MOST_FACES; b++) {
                    if (a != b && kinds[a] == kind && kinds[b] == other) {
                        int far = apart(told[a], told[b]);
                        least = least == NONE ? far : Math.min(least, far);
                    }
                }
            }
            return least;
        }
    }

    /** Reads a TOWN from its text. */
    private static final class TownText {
        private final Tokens tokens;
        private final Town town;
        private boolean pointsTold = false;
        private boolean nearTold = false;
        private int printersTold = 0;

        TownText(Tokens tokens, Town town) {
            this.tokens = tokens;
            this.town = town;
        }

        boolean read() {
            town.clear();
            // Each line takes a byte at least, so there are no more lines than bytes.
            for (int line = 0; line < MOST_TAPE && tokens.token != Tokens.END; line++) {
                if (!readLine()) {
                    return false;
                }
            }
            return true;
        }

        private boolean readLine() {
            switch (tokens.token) {
                case Tokens.POINTS: return readPoints();
                case Tokens.FACE: return readFace();
                case Tokens.KNOWS: return readKnows();
                case Tokens.PRINTER: return readPrinter();
                case Tokens.NEAR: return readNear();
                default: return tokens.refuse(CANT_STAND);
            }
        }

        private boolean readPoints() {
            if (pointsTold || town.faces > 0) {
                return tokens.refuse(CANT_STAND);
            }
            tokens.step();
            if (!tokens.isNumber(3, MOST_MEASURES)) {
                return false;
            }
            town.points = tokens.number;
            pointsTold = true;
            tokens.step();
            return tokens.take(Tokens.LINE_END);
        }

        private boolean readNear() {
            if (nearTold) {
                return tokens.refuse(CANT_STAND);
            }
            tokens.step();
            if (!tokens.isNumber(0, WIDEST_BAR)) {
                return false;
            }
            town.near = tokens.number;
            nearTold = true;
            tokens.step();
            return tokens.take(Tokens.LINE_END);
        }

        private boolean readFace() {
            if (town.faces >= MOST_FACES) {
                return tokens.refuse(CANT_STAND);
            }
            tokens.step();
            if (tokens.token != Tokens.NAME) {
                return tokens.refuse(CANT_STAND);
            }
            long name = tokens.name;
            if (town.named(name) != NONE) {
                return tokens.refuse(TOLD_ALREADY);
            }
            tokens.step();
            if (!tokens.take(Tokens.KIND) || !tokens.isNumber(0, KINDS - 1)) {
                return false;
            }
            int kind = tokens.number;
            tokens.step();
            if (!tokens.take(Tokens.DRIFT) || !tokens.isNumber(0, 9)) {
                return false;
            }
            int drift = tokens.number;
            tokens.step();
            if (!readRow() || !tokens.take(Tokens.LINE_END)) {
                return false;
            }
            town.add(name, kind, drift);
            return true;
        }

        private boolean readRow() {
            if (!tokens.take(Tokens.ROW)) {
                return false;
            }
            for (int i = 0; i < town.points; i++) {
                if (!tokens.isNumber(0, 99)) {
                    return false;
                }
                town.setNextMeasure(i, tokens.number);
                tokens.step();
            }
            return true;
        }

        private boolean readKnows() {
            if (town.knowsLines >= MOST_KNOWS) {
                return tokens.refuse(CANT_STAND);
            }
            tokens.step();
            int first = faceHere();
            if (first == NONE) {
                return false;
            }
            tokens.step();
            int second = faceHere();
            if (second == NONE) {
                return false;
            }
            if (first == second || town.knowEachOther(first, second)) {
                return tokens.refuse(TOLD_ALREADY);
            }
            tokens.step();
            if (!tokens.take(Tokens.LINE_END)) {
                return false;
            }
            town.addKnows(first, second);
            return true;
        }

        /** The FACE that the TOKEN names, or NONE behind a FAULT. */
        private int faceHere() {
            int face = tokens.token == Tokens.NAME ? town.named(tokens.name) : NONE;
            if (face == NONE) {
                tokens.refuse(tokens.token == Tokens.NAME ? NO_FACE : CANT_STAND);
            }
            return face;
        }

        private boolean readPrinter() {
            tokens.step();
            if (!tokens.isNumber(0, PRINTERS - 1)) {
                return false;
            }
            int printer = tokens.number;
            if ((printersTold >> printer & 1) == 1) {
                return tokens.refuse(TOLD_ALREADY);
            }
            tokens.step();
            if (!tokens.take(Tokens.BLURS) || !tokens.isNumber(0, 9)) {
                return false;
            }
            int blur = tokens.number;
            tokens.step();
            if (!tokens.take(Tokens.COSTS) || !tokens.isNumber(0, 99)) {
                return false;
            }
            town.setPrinter(printer, blur, tokens.number);
            printersTold |= 1 << printer;
            tokens.step();
            return tokens.take(Tokens.LINE_END);
        }
    }

    /** The bar and the SIGNS: each e as steps for a stack, the operands ahead of what joins them. */
    private static final class Rules {
        static final int PUT_NUMBER = 0;
        static final int PUT_VALUE = 1;
        static final int NOT = 2;
        static final int TIMES = 3;
        static final int PLUS = 4;
        static final int MINUS = 5;
        static final int LESS = 6;
        static final int MORE = 7;
        static final int LIKE = 8;
        static final int AND = 9;
        static final int OR = 10;

        // Values that a bar looks at.
        static final int FAR = 0;
        static final int KIND = 1;
        static final int YEARS = 2;
        static final int LIGHT = 3;
        // Values that a SIGN looks at; behind them stand the measures.
        static final int SUM = 0;
        static final int EDGE = 1;
        static final int MOST = 2;
        static final int LEAST = 3;
        static final int MEASURES = 4;

        int signs = 0;
        int units = 0;
        boolean barTold = false;
        private int barFrom = 0;
        private int barTo = 0;
        private int used = 0;
        private final long[] signNames = new long[MOST_SIGNS];
        private final int[] signFrom = new int[MOST_SIGNS];
        private final int[] signTo = new int[MOST_SIGNS];
        // A step comes of a TOKEN, and a TOKEN of a byte at least, so there are no more steps than bytes.
        private final int[] acts = new int[MOST_RULES];
        private final int[] operands = new int[MOST_RULES];
        private final int[] values = new int[MEASURES + MOST_MEASURES];
        private final int[] stack = new int[MOST_UNITS];

        void clear() {
            signs = 0;
            units = 0;
            used = 0;
            barTold = false;
        }

        void copyFrom(Rules other) {
            signs = other.signs;
            units = other.units;
            used = other.used;
            barTold = other.barTold;
            barFrom = other.barFrom;
            barTo = other.barTo;
            for (int i = 0; i < MOST_SIGNS; i++) {
                signNames[i] = other.signNames[i];
                signFrom[i] = other.signFrom[i];
                signTo[i] = other.signTo[i];
            }
            for (int i = 0; i < used && i < MOST_RULES; i++) {
                acts[i] = other.acts[i];
                operands[i] = other.operands[i];
            }
        }

        int lines() {
            return signs + (barTold ? 1 : 0);
        }

        void put(int act, int operand) {
            if (used < MOST_RULES) {
                acts[used] = act;
                operands[used] = operand;
                used++;
            }
        }

        int stepsSoFar() {
            return used;
        }

        boolean hasSign(long name) {
            for (int i = 0; i < signs && i < MOST_SIGNS; i++) {
                if (signNames[i] == name) {
                    return true;
                }
            }
            return false;
        }

        /** The bar is what was put since the step told. */
        void addBar(int from) {
            barTold = true;
            barFrom = from;
            barTo = used;
        }

        void addSign(long name, int from) {
            if (signs < MOST_SIGNS) {
                signNames[signs] = name;
                signFrom[signs] = from;
                signTo[signs] = used;
                signs++;
            }
        }

        boolean lets(int far, int kind, int year, int light) {
            if (!barTold) {
                return far < BAR_UNTOLD;
            }
            values[FAR] = far;
            values[KIND] = kind;
            values[YEARS] = year;
            values[LIGHT] = light;
            return result(barFrom, barTo) != 0;
        }

        int shownBy(int[] picture, int points) {
            lookAt(picture, points);
            int bits = 0;
            for (int i = 0; i < signs && i < MOST_SIGNS; i++) {
                if (result(signFrom[i], signTo[i]) != 0) {
                    bits |= 1 << i;
                }
            }
            return bits;
        }

        private void lookAt(int[] picture, int points) {
            values[SUM] = 0;
            values[EDGE] = 0;
            values[MOST] = 0;
            values[LEAST] = 99;
            for (int i = 0; i < points && i < picture.length && i < MOST_MEASURES; i++) {
                int measure = picture[i];
                values[SUM] += measure;
                values[EDGE] += i == 0 ? 0 : Math.abs(measure - picture[i - 1]);
                values[MOST] = Math.max(values[MOST], measure);
                values[LEAST] = Math.min(values[LEAST], measure);
                values[MEASURES + i] = measure;
            }
        }

        private int result(int from, int to) {
            int high = 0;
            for (int i = Math.max(0, from); i < to && i < MOST_RULES; i++) {
                int act = acts[i];
                if (act == PUT_NUMBER || act == PUT_VALUE) {
                    if (high < MOST_UNITS) {
                        stack[high] = act == PUT_NUMBER ? operands[i] : valueAt(operands[i]);
                        high++;
                    }
                } else if (act == NOT) {
                    if (high >= 1) {
                        stack[high - 1] = stack[high - 1] == 0 ? 1 : 0;
                    }
                } else if (high >= 2) {
                    high--;
                    stack[high - 1] = joined(act, stack[high - 1], stack[high]);
                }
            }
            return high >= 1 ? stack[high - 1] : 0;
        }

        private int valueAt(int i) {
            return i >= 0 && i < values.length ? values[i] : 0;
        }

        private static int joined(int act, int a, int b) {
            switch (act) {
                case TIMES: return a * b;
                case PLUS: return a + b;
                case MINUS: return a - b;
                case LESS: return a < b ? 1 : 0;
                case MORE: return a > b ? 1 : 0;
                case LIKE: return a == b ? 1 : 0;
                case AND: return a != 0 && b != 0 ? 1 : 0;
                default: return a != 0 || b != 0 ? 1 : 0;
            }
        }
    }

    /** Reads RULES from their text. */
    private static final class RulesText {
        private final Tokens tokens;
        private final Rules rules;
        private final int points;
        private boolean inBar = false;

        RulesText(Tokens tokens, Rules rules, int points) {
            this.tokens = tokens;
            this.rules = rules;
            this.points = points;
        }

        boolean read() {
            rules.clear();
            // Each line takes a byte at least, so there are no more lines than bytes.
            for (int line = 0; line < MOST_RULES && tokens.token != Tokens.END; line++) {
                if (!readLine()) {
                    return false;
                }
            }
            return true;
        }

        private boolean readLine() {
            switch (tokens.token) {
                case Tokens.BAR: return readBar();
                case Tokens.SIGN: return readSign();
                default: return tokens.refuse(CANT_STAND);
            }
        }

        private boolean readBar() {
            if (rules.barTold) {
                return tokens.refuse(CANT_STAND);
            }
            tokens.step();
            inBar = true;
            int from = rules.stepsSoFar();
            if (!readE(0) || !tokens.take(Tokens.LINE_END)) {
                return false;
            }
            rules.addBar(from);
            return true;
        }

        private boolean readSign() {
            if (rules.signs >= MOST_SIGNS) {
                return tokens.refuse(CANT_STAND);
            }
            tokens.step();
            if (tokens.token != Tokens.NAME) {
                return tokens.refuse(CANT_STAND);
            }
            long name = tokens.name;
            if (rules.hasSign(name)) {
                return tokens.refuse(TOLD_ALREADY);
            }
            tokens.step();
            inBar = false;
            int from = rules.stepsSoFar();
            if (!tokens.take(Tokens.WHEN) || !readE(0) || !tokens.take(Tokens.LINE_END)) {
                return false;
            }
            rules.addSign(name, from);
            return true;
        }

        // within: how many units ( e ) and ones behind not stand around what is read.
        private boolean readE(int within) {
            if (!readBoth(within)) {
                return false;
            }
            for (int i = 0; i < MOST_UNITS && tokens.token == Tokens.OR; i++) {
                tokens.step();
                if (!readBoth(within)) {
                    return false;
                }
                rules.put(Rules.OR, 0);
            }
            return true;
        }

        private boolean readBoth(int within) {
            if (!readOne(within)) {
                return false;
            }
            for (int i = 0; i < MOST_UNITS && tokens.token == Tokens.AND; i++) {
                tokens.step();
                if (!readOne(within)) {
                    return false;
                }
                rules.put(Rules.AND, 0);
            }
            return true;
        }

        private boolean readOne(int within) {
            if (tokens.token != Tokens.NOT) {
                return readRelation(within);
            }
            if (within > MOST_WITHIN) {
                return tokens.refuse(CANT_STAND);
            }
            tokens.step();
            if (!readOne(within + 1)) {
                return false;
            }
            rules.put(Rules.NOT, 0);
            return true;
        }

        private boolean readRelation(int within) {
            if (!readSum(within)) {
                return false;
            }
            int relation = relationHere();
            if (relation == NONE) {
                return true;
            }
            tokens.step();
            if (!readSum(within)) {
                return false;
            }
            rules.put(relation, 0);
            return true;
        }

        private int relationHere() {
            switch (tokens.token) {
                case '<': return Rules.LESS;
                case '>': return Rules.MORE;
                case '=': return Rules.LIKE;
                default: return NONE;
            }
        }

        private boolean readSum(int within) {
            if (!readTerm(within)) {
                return false;
            }
            for (int i = 0; i < MOST_UNITS && (tokens.token == '+' || tokens.token == '-'); i++) {
                int act = tokens.token == '+' ? Rules.PLUS : Rules.MINUS;
                tokens.step();
                if (!readTerm(within)) {
                    return false;
                }
                rules.put(act, 0);
            }
            return true;
        }

        private boolean readTerm(int within) {
            if (!readUnit(within)) {
                return false;
            }
            for (int i = 0; i < MOST_UNITS && tokens.token == '*'; i++) {
                tokens.step();
                if (!readUnit(within)) {
                    return false;
                }
                rules.put(Rules.TIMES, 0);
            }
            return true;
        }

        private boolean readUnit(int within) {
            if (rules.units >= MOST_UNITS) {
                return tokens.refuse(CANT_STAND);
            }
            rules.units++;
            switch (tokens.token) {
                case '(':
                    return readInner(within);
                case Tokens.AT:
                    return readAt();
                case Tokens.NUMBER:
                    rules.put(Rules.PUT_NUMBER, tokens.number);
                    tokens.step();
                    return true;
                default:
                    return readValue(inBar ? barValueHere() : signValueHere());
            }
        }

        private boolean readInner(int within) {
            if (within > MOST_WITHIN) {
                return tokens.refuse(CANT_STAND);
            }
            tokens.step();
            return readE(within + 1) && tokens.take(')');
        }

        private boolean readAt() {
            if (inBar) {
                return tokens.refuse(CANT_STAND);
            }
            tokens.step();
            return tokens.isNumber(0, points - 1) && readValue(Rules.MEASURES + tokens.number);
        }

        private boolean readValue(int value) {
            if (value == NONE) {
                return tokens.refuse(CANT_STAND);
            }
            rules.put(Rules.PUT_VALUE, value);
            tokens.step();
            return true;
        }

        private int barValueHere() {
            switch (tokens.token) {
                case Tokens.FAR: return Rules.FAR;
                case Tokens.KIND: return Rules.KIND;
                case Tokens.YEARS: return Rules.YEARS;
                case Tokens.LIGHT: return Rules.LIGHT;
                default: return NONE;
            }
        }

        private int signValueHere() {
            switch (tokens.token) {
                case Tokens.SUM: return Rules.SUM;
                case Tokens.EDGE: return Rules.EDGE;
                case Tokens.MOST: return Rules.MOST;
                case Tokens.LEAST: return Rules.LEAST;
                default: return NONE;
            }
        }
    }

    /** The PAPERS of all times and the TIME: those that go on, or those in a BOX (isKept: something was kept in it). */
    private static final class Papers {
        int count = 0;
        int time = 0;
        boolean isKept = false;
        private final int[] faces = new int[MOST_PAPERS];
        private final int[] others = new int[MOST_PAPERS];
        private final int[] shares = new int[MOST_PAPERS];
        private final int[] places = new int[MOST_PAPERS];
        private final int[] toldAt = new int[MOST_PAPERS];
        private final int[] untoldAt = new int[MOST_PAPERS];

        void empty() {
            count = 0;
        }

        void copyFrom(Papers other) {
            count = other.count;
            time = other.time;
            for (int i = 0; i < count && i < MOST_PAPERS; i++) {
                faces[i] = other.faces[i];
                others[i] = other.others[i];
                shares[i] = other.shares[i];
                places[i] = other.places[i];
                toldAt[i] = other.toldAt[i];
                untoldAt[i] = other.untoldAt[i];
            }
        }

        int tell(int face, int other, int share, int place) {
            if (count >= MOST_PAPERS) {
                return NONE;
            }
            faces[count] = face;
            others[count] = other;
            shares[count] = share;
            places[count] = place;
            toldAt[count] = time;
            untoldAt[count] = NONE;
            count++;
            return count - 1;
        }

        boolean takeBack(int paper) {
            if (!has(paper) || untoldAt[paper] != NONE) {
                return false;
            }
            untoldAt[paper] = time;
            return true;
        }

        private boolean has(int paper) {
            return paper >= 0 && paper < count && paper < MOST_PAPERS;
        }

        boolean counts(int paper, int k) {
            return has(paper) && toldAt[paper] <= k && (untoldAt[paper] == NONE || untoldAt[paper] > k);
        }

        int faceOf(int paper) {
            return has(paper) ? faces[paper] : NONE;
        }

        int otherOf(int paper) {
            return has(paper) ? others[paper] : NONE;
        }

        int shareOf(int paper) {
            return has(paper) ? shares[paper] : 0;
        }

        int yearOf(int paper) {
            return has(paper) ? places[paper] / 100 : 0;
        }

        int printerOf(int paper) {
            return has(paper) ? places[paper] / 10 % 10 : NONE;
        }

        int streetOf(int paper) {
            return has(paper) ? places[paper] % 10 : NONE;
        }

        boolean isMixed(int paper) {
            int share = shareOf(paper);
            return faceOf(paper) != otherOf(paper) && share >= 1 && share < WHOLE;
        }
    }

    /** Makes MIXES, prints them, and looks for SIGNS on them. */
    private static final class Darkroom {
        private final Town town;
        private final Rules rules;
        private final int[] picture = new int[MOST_MEASURES];

        Darkroom(Town town, Rules rules) {
            this.town = town;
            this.rules = rules;
        }

        /** The row stands until the next one is made. */
        int[] develop(int first, int second, int share, int printer) {
            developInto(picture, first, second, share, printer);
            return picture;
        }

        void developInto(int[] row, int first, int second, int share, int printer) {
            int grain = Math.max(0, town.blurOf(printer)) + 1;
            for (int i = 0; i < MOST_MEASURES && i < row.length; i++) {
                int measure = i < town.points ? town.mixed(first, second, share, i) : 0;
                row[i] = measure - measure % grain;
            }
        }

        int shown(int first, int second, int share, int printer) {
            developInto(picture, first, second, share, printer);
            return rules.shownBy(picture, town.points);
        }

        int caughtPart(int printer, int part) {
            int mixes = town.faces * (town.faces - 1) / 2 * (WHOLE - 1);
            int caughtOnes = 0;
            for (int a = 0; a < town.faces; a++) {
                for (int b = a + 1; b < town.faces; b++) {
                    caughtOnes += caughtOf(a, b, printer);
                }
            }
            int common = commonDivisor(mixes, caughtOnes);
            if (common == 0) {
                return NONE;
            }
            return (part == 0 ? caughtOnes : mixes) / common;
        }

        private int caughtOf(int a, int b, int printer) {
            int count = 0;
            for (int share = 1; share < WHOLE; share++) {
                if (shown(a, b, share, printer) != 0) {
                    count++;
                }
            }
            return count;
        }

        private static int commonDivisor(int a, int b) {
            int greater = a;
            int rest = b;
            // The rest becomes less each time.
            for (int i = 0; i < 10000 && rest != 0; i++) {
                int next = greater % rest;
                greater = rest;
                rest = next;
            }
            return greater;
        }
    }

    /** Who is let in with which picture, in one YEAR by one LIGHT. */
    private static final class Gate {
        private final Town town;
        private final Rules rules;
        private final int[][] live = new int[MOST_FACES][MOST_MEASURES];
        private final int[][] own = new int[MOST_FACES][MOST_MEASURES];
        private final int[] mixRow = new int[MOST_MEASURES];
        private int year = 0;
        private int light = 0;

        Gate(Town town, Rules rules) {
            this.town = town;
            this.rules = rules;
        }

        void open(int inYear, int byLight) {
            year = inYear;
            light = byLight;
            for (int face = 0; face < town.faces && face < MOST_FACES; face++) {
                for (int i = 0; i < town.points && i < MOST_MEASURES; i++) {
                    live[face][i] = Math.min(99, town.measureIn(face, i, year) + light);
                    own[face][i] = town.measureIn(face, i, 0);
                }
            }
        }

        int apartFromPicture(int face, int picture) {
            if (!town.has(face) || !town.has(picture)) {
                return 0;
            }
            return town.apart(live[face], own[picture]);
        }

        boolean letsInWith(int face, int picture) {
            return lets(face, apartFromPicture(face, picture));
        }

        private boolean lets(int face, int far) {
            return rules.lets(far, town.kindOf(face), year, light);
        }

        private void makeMix(int a, int b, int share) {
            for (int i = 0; i < town.points && i < MOST_MEASURES; i++) {
                mixRow[i] = town.mixed(a, b, share, i);
            }
        }

        private int apartFromMix(int face) {
            return town.has(face) ? town.apart(live[face], mixRow) : 0;
        }

        int whoPasses(int a, int b, int share) {
            makeMix(a, b, share);
            int first = lets(a, apartFromMix(a)) ? 1 : 0;
            int second = lets(b, apartFromMix(b)) ? 2 : 0;
            return first + second;
        }

        int bestShare(int a, int b) {
            int best = NONE;
            int leastFar = 0;
            for (int share = 0; share <= WHOLE; share++) {
                makeMix(a, b, share);
                int farA = apartFromMix(a);
                int farB = apartFromMix(b);
                int far = Math.max(farA, farB);
                if ((best == NONE || far < leastFar) && lets(a, farA) && lets(b, farB)) {
                    best = share;
                    leastFar = far;
                }
            }
            return best;
        }

        private boolean isAble(int a, int b) {
            for (int share = 0; share <= WHOLE; share++) {
                makeMix(a, b, share);
                if (lets(a, apartFromMix(a)) && lets(b, apartFromMix(b))) {
                    return true;
                }
            }
            return false;
        }

        int countAble() {
            int count = 0;
            for (int a = 0; a < town.faces; a++) {
                for (int b = a + 1; b < town.faces; b++) {
                    if (isAble(a, b)) {
                        count++;
                    }
                }
            }
            return count;
        }

        int ableAt(int place) {
            int left = place;
            for (int a = 0; a < town.faces; a++) {
                for (int b = a + 1; b < town.faces; b++) {
                    if (isAble(a, b)) {
                        if (left == 0) {
                            return 100 * a + b;
                        }
                        left--;
                    }
                }
            }
            return NONE;
        }

        /** Of all kinds for NONE. */
        int countFalse(int kind) {
            int count = 0;
            for (int a = 0; a < town.faces; a++) {
                for (int b = 0; b < town.faces; b++) {
                    if (a != b && isOf(a, kind) && letsInWith(a, b)) {
                        count++;
                    }
                }
            }
            return count;
        }

        int countHeld(int kind) {
            int count = 0;
            for (int a = 0; a < town.faces; a++) {
                if (isOf(a, kind) && !letsInWith(a, a)) {
                    count++;
                }
            }
            return count;
        }

        private boolean isOf(int face, int kind) {
            return kind == NONE || town.kindOf(face) == kind;
        }

        int countTwins() {
            int count = 0;
            for (int a = 0; a < town.faces; a++) {
                for (int b = a + 1; b < town.faces; b++) {
                    if (letsInWith(a, b) && letsInWith(b, a)) {
                        count++;
                    }
                }
            }
            return count;
        }
    }

    /** PLAIN bars, in the YEAR and by the LIGHT that the gate was opened in. */
    private static final class PlainBars {
        private final Town town;
        private final Gate gate;
        private final int[] bars = new int[KINDS];
        private final int[] falseAt = new int[WIDEST_BAR + 1];
        private final int[] heldTill = new int[WIDEST_BAR + 1];

        PlainBars(Town town, Gate gate) {
            this.town = town;
            this.gate = gate;
        }

        int costOf(int bar, int f, int h) {
            for (int kind = 0; kind < KINDS; kind++) {
                bars[kind] = bar;
            }
            return f * falseByBars() + h * heldBy(bar, NONE);
        }

        // Each FAR is counted once, and the bars go up over the counts: 801 bars by all pairs would be much to look at.
        int cheapest(int f, int h) {
            countByFar();
            int best = 0;
            int least = 0;
            int falseOnes = 0;
            int held = town.faces;
            for (int bar = 0; bar <= WIDEST_BAR; bar++) {
                falseOnes += falseAt[bar];
                held -= heldTill[bar];
                int price = f * falseOnes + h * held;
                if (bar == 0 || price < least) {
                    best = bar;
                    least = price;
                }
            }
            return best;
        }

        private void countByFar() {
            for (int i = 0; i <= WIDEST_BAR; i++) {
                falseAt[i] = 0;
                heldTill[i] = 0;
            }
            for (int a = 0; a < town.faces; a++) {
                for (int b = 0; b < town.faces; b++) {
                    int far = gate.apartFromPicture(a, b);
                    if (far >= 0 && far <= WIDEST_BAR) {
                        falseAt[far] += a == b ? 0 : 1;
                        heldTill[far] += a == b ? 1 : 0;
                    }
                }
            }
        }

        private int falseByBars() {
            int count = 0;
            for (int a = 0; a < town.faces; a++) {
                int kind = town.kindOf(a);
                if (kind >= 0 && kind < KINDS) {
                    count += falseOf(a, bars[kind]);
                }
            }
            return count;
        }

        private int falseOf(int face, int bar) {
            int count = 0;
            for (int b = 0; b < town.faces; b++) {
                if (b != face && gate.apartFromPicture(face, b) <= bar) {
                    count++;
                }
            }
            return count;
        }

        /** Of all kinds for NONE. */
        private int heldBy(int bar, int kind) {
            int count = 0;
            for (int a = 0; a < town.faces; a++) {
                if ((kind == NONE || town.kindOf(a) == kind) && gate.apartFromPicture(a, a) > bar) {
                    count++;
                }
            }
            return count;
        }

        // A bar between two of its kind's own FARS lets in no more than the lower of them: so only those and 0 are looked at.
        int ownBar(int kind, int d) {
            int ofKind = town.countOfKind(kind);
            if (ofKind == 0) {
                return NONE;
            }
            if (heldBy(0, kind) * 100 <= d * ofKind) {
                return 0;
            }
            int least = WIDEST_BAR;
            for (int a = 0; a < town.faces; a++) {
                int bar = gate.apartFromPicture(a, a);
                if (town.kindOf(a) == kind && bar < least && heldBy(bar, kind) * 100 <= d * ofKind) {
                    least = bar;
                }
            }
            return least;
        }

        int falseByOwnBars(int d) {
            for (int kind = 0; kind < KINDS; kind++) {
                bars[kind] = ownBar(kind, d);
            }
            return falseByBars();
        }
    }

    /** Who is behind a PAPER, and what is found by looking at PAPERS. */
    private static final class Search {
        private final Town town;
        private final Papers papers;
        private final Darkroom darkroom;
        private final int[] picture = new int[MOST_MEASURES];
        private final int[] leastFar = new int[MOST_FACES];
        private final int[] leastShare = new int[MOST_FACES];
        private final int[] showing = new int[PRINTERS];
        private int ownFar = 0;
        private int hander = NONE;
        int found = NONE;
        int lookedAt = 0;
        int lookedUp = 0;

        Search(Town town, Papers papers, Darkroom darkroom) {
            this.town = town;
            this.papers = papers;
            this.darkroom = darkroom;
        }

        void seek(int paper) {
            int printer = papers.printerOf(paper);
            hander = papers.faceOf(paper);
            darkroom.developInto(picture, hander, papers.otherOf(paper), papers.shareOf(paper), printer);
            ownFar = town.apart(picture, darkroom.develop(hander, hander, WHOLE, printer));
            found = NONE;
            for (int face = 0; face < town.faces && face < MOST_FACES; face++) {
                if (face != hander) {
                    compareMixes(face, printer);
                    if (found == NONE || leastFar[face] < foundFar()) {
                        found = face;
                    }
                }
            }
        }

        private void compareMixes(int face, int printer) {
            for (int share = 1; share < WHOLE; share++) {
                int far = town.apart(picture, darkroom.develop(hander, face, share, printer));
                if (share == 1 || far < leastFar[face]) {
                    leastFar[face] = far;
                    leastShare[face] = share;
                }
            }
        }

        int foundShare() {
            return town.has(found) ? leastShare[found] : NONE;
        }

        int foundFar() {
            return town.has(found) ? leastFar[found] : NONE;
        }

        boolean isSure() {
            int reach = foundFar() + town.near;
            for (int face = 0; face < town.faces && face < MOST_FACES; face++) {
                if (face != hander && face != found && reach >= leastFar[face]) {
                    return false;
                }
            }
            return reach < ownFar;
        }

        void look(int sum, int k) {
            countShowing(k);
            lookedAt = 0;
            lookedUp = 0;
            for (int some = 0; some < 1 << PRINTERS; some++) {
                int ofThem = showingOf(some);
                if (ofThem > lookedUp && costOf(some) <= sum) {
                    lookedAt = some;
                    lookedUp = ofThem;
                }
            }
        }

        private void countShowing(int k) {
            for (int printer = 0; printer < PRINTERS; printer++) {
                showing[printer] = 0;
            }
            for (int i = 0; i < papers.count; i++) {
                int printer = papers.printerOf(i);
                if (printer >= 0 && printer < PRINTERS && papers.counts(i, k) && papers.isMixed(i)) {
                    int shown = darkroom.shown(papers.faceOf(i), papers.otherOf(i), papers.shareOf(i), printer);
                    showing[printer] += shown == 0 ? 0 : 1;
                }
            }
        }

        private int showingOf(int some) {
            int all = 0;
            for (int printer = 0; printer < PRINTERS; printer++) {
                if ((some >> printer & 1) == 1) {
                    all += showing[printer];
                }
            }
            return all;
        }

        private int costOf(int some) {
            int all = 0;
            for (int printer = 0; printer < PRINTERS; printer++) {
                if ((some >> printer & 1) == 1) {
                    all += town.costOf(printer);
                }
            }
            return all;
        }
    }

    /** The parts in which the PAPERS that count hang together; a part is known by its least PAPER. */
    private static final class Rings {
        private final Town town;
        private final Papers papers;
        private final int[] partOf = new int[MOST_PAPERS];
        private final int[] sizes = new int[MOST_PAPERS];
        private final int[] row = new int[MOST_PAPERS];
        int parts = 0;
        int greatest = NONE;

        Rings(Town town, Papers papers) {
            this.town = town;
            this.papers = papers;
        }

        void part(int k) {
            parts = 0;
            greatest = NONE;
            for (int i = 0; i < MOST_PAPERS; i++) {
                partOf[i] = NONE;
                sizes[i] = 0;
            }
            for (int i = 0; i < papers.count && i < MOST_PAPERS; i++) {
                if (partOf[i] == NONE && papers.counts(i, k)) {
                    gather(i, k);
                    parts++;
                    if (sizes[i] > greatestSize()) {
                        greatest = i;
                    }
                }
            }
        }

        private void gather(int least, int k) {
            row[0] = least;
            partOf[least] = least;
            int waiting = 1;
            for (int next = 0; next < waiting && next < MOST_PAPERS; next++) {
                for (int i = 0; i < papers.count && i < MOST_PAPERS; i++) {
                    if (partOf[i] == NONE && papers.counts(i, k) && hang(row[next], i) && waiting < MOST_PAPERS) {
                        partOf[i] = least;
                        row[waiting] = i;
                        waiting++;
                    }
                }
            }
            sizes[least] = waiting;
        }

        private boolean hang(int paper, int other) {
            int face = papers.faceOf(paper);
            int otherFace = papers.faceOf(other);
            return face == otherFace || town.knowEachOther(face, otherFace) || isSameCorner(paper, other);
        }

        private boolean isSameCorner(int paper, int other) {
            return papers.printerOf(paper) == papers.printerOf(other)
                && papers.streetOf(paper) == papers.streetOf(other)
                && Math.abs(papers.yearOf(paper) - papers.yearOf(other)) <= 2;
        }

        int greatestSize() {
            return greatest >= 0 && greatest < MOST_PAPERS ? sizes[greatest] : 0;
        }

        int sizeOfPartOf(int paper) {
            int least = paper >= 0 && paper < MOST_PAPERS ? partOf[paper] : NONE;
            return least >= 0 && least < MOST_PAPERS ? sizes[least] : NONE;
        }
    }
}
