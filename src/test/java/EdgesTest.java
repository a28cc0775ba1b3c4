/** The bounds that ../shared/DOC.md names behind its two texts, each on both sides; the sentence stands above its test. */
public final class EdgesTest extends Checks {
    private static final int LEAST = Integer.MIN_VALUE;
    private static final int GREATEST = Integer.MAX_VALUE;

    public static void main(String[] args) {
        newObject();
        tapeIsFull();
        tapeEnds();
        driftsAreCut();
        measuresStayFrom0To99();
        lightIs99AtMost();
        lightComesBehindTheYear();
        picturesAreOfYear0();
        withoutABar();
        whatIsNot0();
        intsWrap();
        relationsAre1Or0();
        sharesOfAMix();
        bestShare();
        firstBelowTheSecond();
        pairsToTheLast();
        noPairOfOneFace();
        heldAndFalse();
        untilTheLastYear();
        blursPrinted();
        signsOfPictures();
        caughtByShares1To9();
        caughtInLowestTerms();
        fortyPapers();
        placesOfPapers();
        toldAndUntold();
        toldAndUntoldAtOnce();
        mixedBy1To9();
        behindByShares1To9();
        behindLikeOnes();
        toldIfNoOtherIsNear();
        toldIfItsOwnIsFar();
        ringsOfYears();
        ringsOfPrintersAndStreets();
        ringsOfAll();
        firstOfTheGreatestRings();
        stepsBetween();
        looksForASum();
        looksOfLikeOnes();
        plainBarsToTheLast();
        bestBarOfLikeOnes();
        fairByHundredths();
        fairFalseOnes();
        measureToTheFarthest();
        timeToTheLast();
        boxesKeep();
        boxesKeepNothingElse();
        tellAndExit();
    }

    private static TwoFaces three(String... faces) {
        return with("points 3;" + String.join("", faces));
    }

    /** Sixteen faces alike, of kind 0. */
    private static String alike(String row) {
        StringBuilder text = new StringBuilder();
        for (char name = 'a'; name <= 'p'; name++) {
            text.append(face("" + name, row));
        }
        return text.toString();
    }

    // A new object: An empty TOWN. (what a TOWN leaves untold is as told of an empty one)
    private static void newObject() {
        for (int box = 0; box <= 2; box++) {
            TwoFaces x = new TwoFaces();
            nones("nothing was kept in box " + box, x.back(box));
            due("nothing can be", x.image(box), 0);
            due("nothing is back", x.back(box), 0);
        }
        int[] abouts = {0, 5, 0, 0, 0, 0, 0, 0, 20};
        TwoFaces empty = new TwoFaces();
        due("an empty town", empty.town(), 0);
        TwoFaces x = new TwoFaces();
        for (int what = 0; what < abouts.length; what++) {
            due("about " + what, x.about(what), abouts[what]);
            due("about " + what + " of an empty town", empty.about(what), abouts[what]);
        }
        nones("another about", x.about(-1), x.about(9));
        due("without a fault", x.fault(0), 0);
        nones("ahead of any", x.fault(1));
        due("nothing to untell", x.untell(0), false);
        nones("no paper", x.paper(0, 0, 0, 0), x.ring(0, 0), x.behind(0, 0, 0), x.rings(2, 0));
        due("no rings", x.rings(0, 0) + x.rings(1, 0), 0);
        due("no looks", x.looks(999, 0, 0) + x.looks(999, 1, 0), 0);
        due("time goes on", x.later(1000), 1000);
        due("five measures", rules(x, "sign s when at 4;"), 1);
        due("one sign", x.about(2), 1);
        due("not six", rules(x, "sign s when at 5;"), NONE);
        due("which fault", x.fault(0), 4);
        due("the sign stays", x.about(2), 1);
    }

    // feed: how many there are; NONE, and nothing comes, if there would be more than 1,600
    private static void tapeIsFull() {
        TwoFaces x = new TwoFaces();
        put(x, " ".repeat(1573) + "near 7;");
        due("1580", x.about(5), 1580);
        due("the last twenty", x.feed(0x0a0a0a0a, 0x0a0a0a0a, 0x0a0a0a0a, 0x0a0a0a0a, 0x0a0a0a0a), 1600);
        nones("twenty more", x.feed(0, 0, 0, 0, 0), x.feed(-1, LEAST, GREATEST, 1, 2));
        due("nothing has come", x.about(5), 1600);
        due("what was there stays", x.town(), 0);
        due("all of it", x.about(8), 7);
        for (int left = 1580; left <= 1600; left++) {
            TwoFaces y = new TwoFaces();
            put(y, " ".repeat(1600));
            y.end(left);
            due("twenty at " + left, y.feed(0, 0, 0, 0, 0), left == 1580 ? 1600 : NONE);
            due("then there are", y.about(5), left == 1580 ? 1600 : left);
        }
        // Of each number the highest byte comes first: "near", " 123", ";nea", "r 3;", "    ".
        TwoFaces z = new TwoFaces();
        due("twenty", z.feed(0x6e656172, 0x20313233, 0x3b666163, 0x65206120, 0x6b696e64), 20);
        due("twenty more behind", z.feed(0x20302064, 0x72696674, 0x20302072, 0x6f772031, 0x20322033), 40);
        put(z, " 4 5;");
        due("in order", z.town(), 1);
        due("its near", z.about(8), 123);
        due("its row", z.face(0, 2, 0) * 100 + z.face(0, 4, 0), 305);
    }

    // end: The TAPE has its first n bytes: n; NONE, doing nothing, if it has not so many, or n is below 0.
    private static void tapeEnds() {
        TwoFaces x = new TwoFaces();
        due("0 of none", x.end(0), 0);
        nones("1 of none", x.end(1));
        put(x, "near 7;near 8;");
        due("14", x.about(5), 14);
        nones("not so many", x.end(15), x.end(GREATEST), x.end(1600));
        nones("below 0", x.end(-1), x.end(LEAST));
        due("all are there", x.about(5), 14);
        due("all of them", x.end(14), 14);
        due("its first 7", x.end(7), 7);
        nones("the others are gone", x.end(14), x.end(8));
        due("what they are", x.town(), 0);
        due("near", x.about(8), 7);
        put(x, "near 9;");
        due("none of them", x.end(0), 0);
        due("an empty text", x.town(), 0);
        due("near untold", x.about(8), 20);
    }

    // A FACE in a YEAR (0 .. 60): measure i is what is told and drift * YEAR / 10 (cut) for even i, less that for odd i
    private static void driftsAreCut() {
        TwoFaces x = with("points 4;" + face("a", 0, 9, "0 99 45 54") + face("b", 0, 1, "50 50 0 99") + face("c", 0, 0, "7 8 9 10"));
        int[][] yearsOfA = {{0, 0}, {1, 0}, {2, 1}, {3, 2}, {9, 8}, {10, 9}, {11, 9}, {12, 10}, {59, 53}, {60, 54}};
        for (int[] year : yearsOfA) {
            due("drift 9, year " + year[0], x.face(0, 0, year[0]), year[1]);
            due("drift 9, odd, year " + year[0], x.face(0, 1, year[0]), 99 - year[1]);
            due("drift 9, measure 2, year " + year[0], x.face(0, 2, year[0]), 45 + year[1]);
            due("drift 9, measure 3, year " + year[0], x.face(0, 3, year[0]), 54 - year[1]);
        }
        int[][] yearsOfB = {{0, 0}, {9, 0}, {10, 1}, {19, 1}, {20, 2}, {59, 5}, {60, 6}};
        for (int[] year : yearsOfB) {
            due("drift 1, year " + year[0], x.face(1, 0, year[0]), 50 + year[1]);
            due("drift 1, odd, year " + year[0], x.face(1, 1, year[0]), 50 - year[1]);
        }
        due("drift 0", x.face(2, 0, 60) * 1000 + x.face(2, 3, 60), 7010);
        nones("years that can't be", x.face(0, 0, -1), x.face(0, 0, 61), x.face(0, 0, LEAST), x.face(0, 0, GREATEST));
        nones("measures that can't be", x.face(0, -1, 0), x.face(0, 4, 0), x.face(0, LEAST, 0), x.face(0, GREATEST, 0));
        nones("faces that can't be", x.face(-1, 0, 0), x.face(3, 0, 0), x.face(LEAST, 0, 0), x.face(GREATEST, 0, 0));
        due("far in one year", x.far(0, 60, 0, 59), 4);
        due("far of two", x.far(0, 0, 2, 60), 7 + 91 + 36 + 44);
        nones("far that can't be", x.far(0, -1, 0, 0), x.far(0, 61, 0, 0), x.far(0, 0, 0, -1), x.far(0, 0, 0, 61), x.far(3, 0, 0, 0), x.far(0, 0, 3, 0));
    }

    // made 0 .. 99
    private static void measuresStayFrom0To99() {
        TwoFaces x = three(face("a", 0, 9, "98 1 99"), face("b", 0, 9, "97 2 0"), face("c", 0, 9, "99 0 99"));
        due("98 and 0", x.face(0, 0, 1), 98);
        due("98 and 1", x.face(0, 0, 2), 99);
        due("98 and 2", x.face(0, 0, 3), 99);
        due("98 and 54", x.face(0, 0, 60), 99);
        due("1 less 0", x.face(0, 1, 1), 1);
        due("1 less 1", x.face(0, 1, 2), 0);
        due("1 less 2", x.face(0, 1, 3), 0);
        due("1 less 54", x.face(0, 1, 60), 0);
        due("97 and 1", x.face(1, 0, 2), 98);
        due("2 less 1", x.face(1, 1, 2), 1);
        due("far of what is made", x.far(0, 60, 2, 0), 0);
        due("far of what is made in both", x.far(0, 60, 2, 60), 0);
    }

    /** How far the only face is from its own picture. */
    private static void ownFar(TwoFaces x, int year, int light, int far) {
        String when = "in year " + year + " by light " + light;
        due("not held by a bar at " + far + " " + when, x.cost(far, 0, 1, year, light), 0);
        if (far > 0) {
            due("held by a bar below " + far + " " + when, x.cost(far - 1, 0, 1, year, light), 1);
        }
        rules(x, "bar far = " + far + ";");
        due("far " + when, x.passes(0, 0, year, light), 1);
    }

    // A LIGHT (0 .. 9) makes a live FACE .. lighter: each is more by LIGHT, 99 at most.
    private static void lightIs99AtMost() {
        TwoFaces x = three(face("a", "90 91 0"));
        ownFar(x, 0, 0, 0);
        ownFar(x, 0, 1, 3);
        ownFar(x, 0, 8, 24);
        ownFar(x, 0, 9, 26);
        ownFar(x, 60, 9, 26);
        ownFar(three(face("a", "99 99 99")), 0, 9, 0);
        ownFar(three(face("a", "98 99 97")), 0, 9, 3);
        nones("lights that can't be", x.passes(0, 0, 0, -1), x.passes(0, 0, 0, 10), x.passes(0, 0, 0, LEAST), x.passes(0, 0, 0, GREATEST));
        nones("years that can't be", x.passes(0, 0, -1, 0), x.passes(0, 0, 61, 0), x.passes(0, 0, LEAST, 0), x.passes(0, 0, GREATEST, 0));
    }

    private static void lightComesBehindTheYear() {
        TwoFaces x = three(face("a", 0, 9, "0 3 99"));
        ownFar(x, 60, 0, 54 + 3);
        ownFar(x, 60, 9, 63 + 6);
        ownFar(x, 1, 9, 9 + 9);
        ownFar(three(face("a", 0, 9, "50 99 95")), 60, 9, 49 + 45 + 4);
    }

    // A FACE PASSES with a picture .. another one's picture (or its own; YEAR 0)
    private static void picturesAreOfYear0() {
        TwoFaces x = with("points 3;" + face("a", 0, 9, "0 99 0") + face("b", 1, 0, "0 99 0"), "bar far = 0;");
        due("the picture of b", x.passes(0, 1, 0, 0), 1);
        due("in year 60", x.passes(0, 1, 60, 0), 0);
        due("the picture of a", x.passes(1, 0, 60, 0), 1);
        due("its own", x.passes(0, 0, 60, 0), 0);
        rules(x, "bar far = 162;");
        due("how far", x.passes(0, 0, 60, 0) * 10 + x.passes(0, 1, 60, 0), 11);
        rules(x, "bar kind = 1;");
        due("the kind of the face, not of the picture", x.passes(0, 1, 0, 0) * 10 + x.passes(1, 0, 0, 0), 1);
    }

    // without a bar: if far is below 40
    private static void withoutABar() {
        TwoFaces x = three(face("a", "0 0 0"), face("b", "20 10 9"), face("c", "20 10 10"), face("d", "20 10 11"), face("e", "0 0 12"));
        due("39", x.passes(0, 1, 0, 0), 1);
        due("40", x.passes(0, 2, 0, 0), 0);
        due("41", x.passes(0, 3, 0, 0), 0);
        due("0", x.passes(0, 0, 60, 0), 1);
        // By light 9 a is 9 9 9, and 11 + 1 + 0 from b; e is 9 9 21, and 27 from its own.
        due("by light 9", x.passes(0, 1, 0, 9) * 10 + x.passes(4, 4, 0, 9), 11);
        rules(x, "bar 0;");
        due("with one", x.passes(0, 0, 0, 0), 0);
        rules(x, "sign s when 1;");
        due("without one again", x.passes(0, 1, 0, 0) * 10 + x.passes(0, 2, 0, 0), 10);
    }

    /** What an e is, as a bar's and as a sign's. */
    private static void isNot0(String e, boolean want) {
        TwoFaces x = with(far(3), "bar " + e + ";sign s when 0;sign t when " + e + ";");
        due("bar " + e, x.passes(0, 0, 0, 0), want ? 1 : 0);
        due("sign " + e, x.signs(0, 1, 5, -1), want ? 2 : 0);
    }

    // if the bar's e is not 0
    private static void whatIsNot0() {
        isNot0("0", false);
        isNot0("1", true);
        isNot0("2", true);
        isNot0("9999", true);
        isNot0("0 - 1", true);
        isNot0("0 - 9999", true);
        isNot0("7 - 7", false);
        isNot0("0 * 9999", false);
    }

    // (ints, wrapping)
    private static void intsWrap() {
        String least = "8192 * 8192 * 32";
        isNot0(least, true);
        isNot0(least + " < 0", true);
        isNot0(least + " - 1 > 0", true);
        isNot0("8192 * 8192 * 64", false);
        isNot0(least + " + " + least, false);
        isNot0("0 - " + least + " = " + least, true);
        isNot0("0 - " + least + " - 1 > 0", true);
        isNot0(least + " < " + least + " - 1", true);
        isNot0(least + " - 1 > " + least, true);
        isNot0(least + " - 1 < " + least, false);
        isNot0(least + " > " + least + " - 1", false);
        isNot0(least + " = " + least + " - 1", false);
        isNot0("0 > " + least, true);
        isNot0("not " + least, false);
        isNot0("not 8192 * 8192 * 64", true);
        isNot0(least + " and " + least, true);
        isNot0("8192 * 8192 * 64 or 8192 * 8192 * 64", false);
        isNot0("(" + least + ") * 2", false);
        isNot0("(" + least + ") * 3 = " + least, true);
        isNot0("(" + least + " - 1) * (" + least + " - 1) = 1", true);
        // 9999 * 9999 * 9999 is 999700029999, and so 233 * 4294967296 less 1027349969.
        isNot0("9999 * 9999 * 9999 < 0", true);
        isNot0("9999 * 9999 * 9999 + 1027 * 1000 * 1000 + 349 * 1000 + 969 = 0", true);
    }

    // (relations, and, or, not are 1 or 0, of what is not 0)
    private static void relationsAre1Or0() {
        String[] ones = {"(2 < 3)", "(3 > 2)", "(3 = 3)", "(5 and 7)", "(0 or 5)", "(5 or 0)", "(5 or 7)", "(not 0)", "(not not 7)",
            "(0 - 1 and 0 - 1)", "(0 - 1 or 0)", "(0 or 0 - 1)", "(0 = 1 - 1)"};
        for (String one : ones) {
            isNot0(one + " = 1", true);
            isNot0(one + " + " + one + " = 2", true);
        }
        String[] zeros = {"(3 < 3)", "(4 < 3)", "(3 > 3)", "(2 > 3)", "(3 = 4)", "(4 = 3)", "(5 and 0)", "(0 and 5)", "(0 and 0)", "(0 or 0)",
            "(not 1)", "(not 5)", "(not 0 - 1)", "(0 - 1 and 0)", "(0 - 1 = 1)", "(0 - 1 > 0)", "(0 < 0 - 1)"};
        for (String zero : zeros) {
            isNot0(zero + " = 0", true);
            isNot0(zero, false);
        }
    }

    // A MIX of two FACES by a share s (0 .. 10): measure by measure (first * s + second * (10 - s)) / 10 (cut), both of YEAR 0
    private static void sharesOfAMix() {
        TwoFaces x = three(face("a", 0, 9, "99 0 1"), face("b", 0, 9, "0 99 2"));
        int[] first = {0, 9, 19, 29, 39, 49, 59, 69, 79, 89, 99};
        int[] third = {2, 1, 1, 1, 1, 1, 1, 1, 1, 1, 1};
        for (int s = 0; s <= 10; s++) {
            due("share " + s, x.mix(0, 1, s, -1, 0), first[s]);
            due("share " + s + ", second", x.mix(0, 1, s, -1, 1), first[10 - s]);
            due("share " + s + ", third", x.mix(0, 1, s, -1, 2), third[s]);
            due("the other way " + s, x.mix(1, 0, s, -1, 0), first[10 - s]);
        }
        nones("shares that can't be", x.mix(0, 1, -1, -1, 0), x.mix(0, 1, 11, -1, 0), x.mix(0, 1, LEAST, -1, 0), x.mix(0, 1, GREATEST, -1, 0));
        nones("both faces one", x.mix(0, 0, 5, -1, 0), x.mix(1, 1, 0, -1, 0), x.mix(1, 1, 10, 3, 2));
        nones("measures that can't be", x.mix(0, 1, 5, -1, -1), x.mix(0, 1, 5, -1, 3));
        nones("printers that can't be", x.mix(0, 1, 5, -2, 0), x.mix(0, 1, 5, 4, 0));
        TwoFaces y = with("points 3;" + face("a", 0, 9, "0 0 0") + face("b", 0, 9, "0 0 0"), "bar far = 108;");
        due("of year 0", y.both(0, 1, 5, 60, 0), 3);
        due("of year 0 for able", y.able(0, 1, 60, 0), 0);
        due("not in year 0", y.both(0, 1, 5, 0, 0), 0);
        nones("both faces one", y.both(0, 0, 5, 0, 0), y.both(1, 1, 5, 0, 0));
        nones("both that can't be", y.both(0, 1, -1, 0, 0), y.both(0, 1, 11, 0, 0), y.both(0, 1, 5, -1, 0), y.both(0, 1, 5, 61, 0),
            y.both(0, 1, 5, 0, -1), y.both(0, 1, 5, 0, 10), y.both(0, 2, 5, 0, 0), y.both(-1, 0, 5, 0, 0));
    }

    // BEST is of these s that by which the greater FAR of both live ones is least; of like ones the least s
    private static void bestShare() {
        TwoFaces x = three(face("a", "0 0 0"), face("b", "10 0 0"));
        due("in the middle", x.able(0, 1, 0, 0), 5);
        rules(x, "bar far < 5;");
        due("five is too far", x.able(0, 1, 0, 0), NONE);
        rules(x, "bar far < 6;");
        due("five is not", x.able(0, 1, 0, 0), 5);
        rules(x, "bar not far = 5;");
        due("4 and 6 are like", x.able(0, 1, 0, 0), 4);
        rules(x, "bar far < 1 or far > 9;");
        due("0 and 10 are like", x.able(0, 1, 0, 0), 0);
        rules(x, "bar far = 1 or far = 9;");
        due("1 and 9 are like", x.able(0, 1, 0, 0), 1);
        rules(x, "bar far = 0;");
        due("no share lets both", x.able(0, 1, 0, 0), NONE);
        due("each by one", x.both(0, 1, 10, 0, 0) * 10 + x.both(0, 1, 0, 0, 0), 12);
        TwoFaces y = three(face("a", "0 0 0"), face("b", 1, 0, "10 0 0"));
        rules(y, "bar far = 10 * kind;");
        due("by 10 only", y.able(0, 1, 0, 0), 10);
        rules(y, "bar far = 10 - 10 * kind;");
        due("by 0 only", y.able(0, 1, 0, 0), 0);
        TwoFaces z = three(face("a", "5 5 5"), face("b", "5 5 5"));
        due("all are like", z.able(0, 1, 0, 0), 0);
    }

    // A pair (the first below the second) .. (a is not below b, too)
    private static void firstBelowTheSecond() {
        TwoFaces x = with("points 3;" + alike("5 5 5"));
        due("0 and 1", x.able(0, 1, 0, 0), 0);
        due("14 and 15", x.able(14, 15, 0, 0), 0);
        due("0 and 15", x.able(0, 15, 60, 9), 0);
        nones("not below", x.able(1, 1, 0, 0), x.able(1, 0, 0, 0), x.able(15, 14, 0, 0), x.able(15, 15, 0, 0));
        nones("can't be", x.able(-1, 0, 0, 0), x.able(0, 16, 0, 0), x.able(LEAST, GREATEST, 0, 0), x.able(0, 1, -1, 0), x.able(0, 1, 61, 0),
            x.able(0, 1, 0, -1), x.able(0, 1, 0, 10));
    }

    // The i-th of them (from 0 on, by the first, then the second): 100 * the first + the second; NONE if there is none such.
    private static void pairsToTheLast() {
        TwoFaces x = with("points 3;" + alike("5 5 5"));
        due("all", x.pairs(0, 0), 120);
        due("0", x.pair(0, 0, 0), 1);
        due("14", x.pair(14, 0, 0), 15);
        due("15", x.pair(15, 0, 0), 102);
        due("118", x.pair(118, 0, 0), 1315);
        due("119", x.pair(119, 60, 9), 1415);
        nones("none such", x.pair(120, 0, 0), x.pair(-1, 0, 0), x.pair(GREATEST, 0, 0), x.pair(LEAST, 0, 0));
        nones("can't be", x.pair(0, -1, 0), x.pair(0, 61, 0), x.pair(0, 0, -1), x.pair(0, 0, 10), x.pairs(-1, 0), x.pairs(61, 0), x.pairs(0, -1),
            x.pairs(0, 10));
        rules(x, "bar 0;");
        due("none", x.pairs(0, 0), 0);
        nones("the first of none", x.pair(0, 0, 0));
        rules(x, "bar years = 60 and light = 9;");
        due("by the last year and light", x.pairs(60, 9), 120);
        due("by the year ahead", x.pairs(59, 9) + x.pairs(60, 8), 0);
    }

    // FALSE ones: ordered pairs of FACES; TWINS: pairs: one FACE alone is none of them.
    private static void noPairOfOneFace() {
        TwoFaces x = three(face("a", "5 5 5"));
        due("false", x.gate(0, -1, 0, 0), 0);
        due("twins", x.twins(0, 0), 0);
        due("pairs", x.pairs(0, 0), 0);
        due("held", x.gate(1, -1, 0, 0), 0);
        nones("caught", x.caught(-1, 0), x.caught(-1, 1));
        TwoFaces none = new TwoFaces();
        due("false of none", none.gate(0, -1, 0, 0) + none.gate(0, 3, 60, 9), 0);
        due("held of none", none.gate(1, -1, 0, 0) + none.gate(1, 3, 60, 9), 0);
        due("twins of none", none.twins(60, 9), 0);
        due("pairs of none", none.pairs(60, 9), 0);
        due("cost of none", none.cost(800, 99, 99, 60, 9), 0);
        due("best bar of none", none.bestBar(99, 99, 60, 9), 0);
        due("false by none", none.fair(100, 60, 9, 4), 0);
        nones("faces of none", none.face(0, 0, 0), none.far(0, 0, 0, 0), none.passes(0, 0, 0, 0), none.until(0, 0), none.between(0, 0), none.measure(0, 0),
            none.able(0, 1, 0, 0), none.pair(0, 0, 0), none.signs(0, 1, 5, -1), none.caught(0, 1), none.paper(0, 0, 0, 0), none.fair(0, 0, 0, 0));
    }

    // FALSE ones: .. of a kind: of the first. HELD: FACES that do not PASS with their own picture (-1: of all)
    private static void heldAndFalse() {
        TwoFaces x = with("points 3;" + alike("5 5 5"));
        due("false", x.gate(0, -1, 60, 9), 240);
        due("held", x.gate(1, -1, 60, 9), 0);
        due("twins", x.twins(60, 9), 120);
        rules(x, "bar 0;");
        due("false", x.gate(0, -1, 60, 9), 0);
        due("held", x.gate(1, -1, 60, 9), 16);
        due("twins", x.twins(60, 9), 0);
        TwoFaces y = three(face("a", 0, 0, "1 1 1"), face("b", 3, 0, "1 1 1"), face("c", 3, 0, "1 1 1"));
        rules(y, "bar kind;");
        due("false of kind 0", y.gate(0, 0, 0, 0), 0);
        due("false of kind 3", y.gate(0, 3, 0, 0), 4);
        due("held of kind 0", y.gate(1, 0, 0, 0), 1);
        due("held of kind 3", y.gate(1, 3, 0, 0), 0);
        due("of kinds without faces", y.gate(0, 1, 0, 0) + y.gate(1, 2, 0, 0), 0);
        due("of all", y.gate(0, -1, 0, 0) * 10 + y.gate(1, -1, 0, 0), 41);
        due("twins: both", y.twins(0, 0), 1);
        nones("can't be", y.gate(-1, 0, 0, 0), y.gate(2, 0, 0, 0), y.gate(0, -2, 0, 0), y.gate(0, 4, 0, 0), y.gate(1, LEAST, 0, 0), y.gate(1, GREATEST, 0, 0),
            y.gate(0, 0, -1, 0), y.gate(0, 0, 61, 0), y.gate(0, 0, 0, -1), y.gate(0, 0, 0, 10));
        nones("twins that can't be", y.twins(-1, 0), y.twins(61, 0), y.twins(0, -1), y.twins(0, 10));
    }

    // UNTIL: the first YEAR in which it is HELD; NONE if it is never (till YEAR 60)
    private static void untilTheLastYear() {
        TwoFaces x = three(face("a", "5 5 5"), face("b", 0, 9, "0 0 0"));
        rules(x, "bar years;");
        due("at once", x.until(0, 0), 0);
        rules(x, "bar years < 1;");
        due("in year 1", x.until(0, 0), 1);
        rules(x, "bar years < 59;");
        due("in year 59", x.until(0, 0), 59);
        rules(x, "bar years < 60;");
        due("in year 60", x.until(0, 0), 60);
        rules(x, "bar years < 61;");
        due("never", x.until(0, 0), NONE);
        rules(x, "bar light < 9;");
        due("by light 8", x.until(0, 8), NONE);
        due("by light 9", x.until(0, 9), 0);
        nones("can't be", x.until(-1, 9), x.until(2, 9), x.until(0, -1), x.until(0, 10), x.until(LEAST, 9), x.until(GREATEST, 9));
        rules(x, "bar far < 18;");
        // b is 9 0 9 in year 10, and 9 0 9 in year 11.
        due("by its drift", x.until(1, 0), 10);
        rules(x, "bar far < 19;");
        due("by its drift, cut", x.until(1, 0), 12);
    }

    // PRINTED by a PRINTER: each measure v becomes v - v modulo (blurs and 1)
    private static void blursPrinted() {
        for (int blurs = 0; blurs <= 9; blurs++) {
            int grain = blurs + 1;
            for (int v : new int[] {0, blurs, grain, 2 * grain - 1, 2 * grain, 98, 99}) {
                int due = 0;
                while (due + grain <= v) {
                    due += grain;
                }
                String row = v + " 0 " + v;
                for (int printer = 0; printer < 4; printer++) {
                    TwoFaces x = three(face("a", row), face("b", row), printer(printer, blurs, 0));
                    due(v + " printed by blurs " + blurs, x.mix(0, 1, 5, printer, 0), due);
                    due(v + " not printed", x.mix(0, 1, 5, -1, 0), v);
                    due(v + " printed by another one", x.mix(0, 1, 5, (printer + 1) % 4, 2), v);
                }
            }
        }
        // It is the mix that is printed, not its parts: (19 * 5 + 11 * 5) / 10 is 15.
        TwoFaces x = three(face("a", "19 0 0"), face("b", "11 0 0"), printer(0, 4, 0), printer(1, 9, 0));
        due("15 by 4", x.mix(0, 1, 5, 0, 0), 15);
        due("15 by 9", x.mix(0, 1, 5, 1, 0), 10);
    }

    // sum of its measures; edge: FAR of each and the next one, together; most, least of them; at N: measure N
    private static void signsOfPictures() {
        for (int n = 3; n <= 8; n++) {
            StringBuilder zigzag = new StringBuilder("0");
            StringBuilder up = new StringBuilder("3");
            StringBuilder down = new StringBuilder("" + (3 * n));
            for (int i = 1; i < n; i++) {
                zigzag.append(i % 2 == 0 ? " 0" : " 99");
                up.append(' ').append(3 + 3 * i);
                down.append(' ').append(3 * n - 3 * i);
            }
            int all = 3 * n * (n + 1) / 2;
            TwoFaces x = with("points " + n + ";" + face("a", "99" + " 99".repeat(n - 1)) + face("b", zigzag.toString()) + face("c", up.toString())
                + face("d", down.toString()));
            measuresOf(x, 0, 99 * n, 0, 99, 99);
            measuresOf(x, 1, 99 * (n / 2), 99 * (n - 1), 99, 0);
            measuresOf(x, 2, all, 3 * (n - 1), 3 * n, 3);
            measuresOf(x, 3, all, 3 * (n - 1), 3 * n, 3);
            rules(x, "sign s when at 0 = 3;sign t when at " + (n - 1) + " = 3;sign u when at " + (n - 2) + " = 6;");
            due("at of up", x.signs(2, 0, 10, -1), n == 3 ? 5 : 1);
            due("at of down", x.signs(3, 0, 10, -1), 6);
        }
        TwoFaces x = with(far(3), "sign a when 1;sign b when 1;sign c when 1;sign d when 1;sign e when 1;sign f when 1;");
        due("all six", x.signs(0, 1, 0, -1), 63);
        due("by share 10", x.signs(0, 1, 10, 3), 63);
        nones("can't be", x.signs(0, 0, 5, -1), x.signs(0, 2, 5, -1), x.signs(-1, 0, 5, -1), x.signs(0, 1, -1, -1), x.signs(0, 1, 11, -1),
            x.signs(0, 1, 5, -2), x.signs(0, 1, 5, 4));
        rules(x, "");
        due("none", x.signs(0, 1, 5, -1), 0);
    }

    /** The picture of a face is the mix with another one by share 10. */
    private static void measuresOf(TwoFaces x, int face, int sum, int edge, int most, int least) {
        rules(x, "sign s when sum = " + sum + ";sign t when edge = " + edge + ";sign u when most = " + most + ";sign v when least = " + least + ";");
        due("sum " + sum + ", edge " + edge + ", most " + most + ", least " + least, x.signs(face, face == 0 ? 1 : 0, 10, -1), 15);
    }

    // CAUGHT by a PRINTER: of all MIXES of two FACES (the first below the second) by s 1 .. 9, PRINTED, the share with any SIGN
    private static void caughtByShares1To9() {
        // a is 0, and b is 90, so that by s the mix is 90 - 9 * s.
        TwoFaces x = three(face("a", "0 0 0"), face("b", "90 0 0"), printer(1, 9, 0));
        for (int s = 0; s <= 10; s++) {
            rules(x, "sign s when at 0 = " + (90 - 9 * s) + ";");
            due("upper part of share " + s, x.caught(-1, 0), s == 0 || s == 10 ? 0 : 1);
            due("lower part of share " + s, x.caught(-1, 1), s == 0 || s == 10 ? 1 : 9);
        }
        rules(x, "sign s when at 0 = 90 or at 0 = 0;");
        due("printed by 1 that by 9 is 0", x.caught(1, 0) * 10 + x.caught(1, 1), 19);
        due("printed by 0 it is not", x.caught(0, 0) * 10 + x.caught(0, 1), 1);
        rules(x, "sign s when at 0 > 80;sign t when at 0 = 81;sign u when at 0 < 10;");
        due("one with two signs is one", x.caught(-1, 0) * 10 + x.caught(-1, 1), 29);
        nones("can't be", x.caught(-2, 0), x.caught(4, 0), x.caught(0, -1), x.caught(0, 2), x.caught(LEAST, 0), x.caught(GREATEST, 0), x.caught(0, LEAST),
            x.caught(0, GREATEST));
    }

    // a fraction .. in lowest terms; NONE if there are no MIXES
    private static void caughtInLowestTerms() {
        String fifteen = alike("0 0 0").substring(0, alike("0 0 0").length() - face("p", "0 0 0").length());
        TwoFaces x = with("points 3;" + fifteen + face("z", "90 0 0"), "sign s when at 0 = 81;");
        due("15 of 1080, upper", x.caught(-1, 0), 1);
        due("15 of 1080, lower", x.caught(-1, 1), 72);
        rules(x, "sign s when at 0;");
        due("135 of 1080, upper", x.caught(3, 0), 1);
        due("135 of 1080, lower", x.caught(3, 1), 8);
        rules(x, "sign s when 1;");
        due("all, upper", x.caught(-1, 0), 1);
        due("all, lower", x.caught(-1, 1), 1);
        rules(x, "sign s when 0;");
        due("none, upper", x.caught(-1, 0), 0);
        due("none, lower", x.caught(-1, 1), 1);
        TwoFaces y = three(face("a", "0 0 0"), face("b", "90 0 0"), face("c", "0 0 0"));
        rules(y, "sign s when at 0 > 50;");
        // Of a and b those by s 1 .. 4, of b and c those by 6 .. 9, of a and c none.
        due("8 of 27", y.caught(-1, 0) * 100 + y.caught(-1, 1), 827);
        TwoFaces one = with("points 3;" + face("a", "1 1 1"), "sign s when 1;");
        nones("no mixes", one.caught(-1, 0), one.caught(-1, 1), one.caught(3, 0));
    }

    // PAPERS, 40 at most; NONE, doing nothing, if one can't be, or there are 40
    private static void fortyPapers() {
        TwoFaces x = three(face("a", "1 1 1"), face("b", "1 1 1"));
        for (int i = 0; i < 40; i++) {
            due("paper " + i, x.paper(i % 2, 1 - i % 2, i % 11, 100 * i + i % 40), i);
            due("how many", x.about(3), i + 1);
        }
        nones("a 41st", x.paper(0, 1, 5, 0), x.paper(1, 1, 0, 6039));
        due("forty", x.about(3), 40);
        due("the 40th is the last", x.ring(39, 0) > 0, true);
        nones("no 41st", x.ring(40, 0), x.behind(40, 0, 0));
        due("keep forty", x.image(2), 40);
        for (int i = 0; i < 40; i++) {
            due("untell " + i, x.untell(i), true);
        }
        due("untell 40", x.untell(40), false);
        nones("those untold are there, too", x.paper(0, 1, 5, 0));
        due("forty still", x.about(3), 40);
        due("none counts", x.rings(0, 0), 0);
        due("back to forty", x.back(2), 40);
        nones("forty again", x.paper(0, 1, 5, 0));
        due("all count", x.rings(1, 0) > 1, true);
        due("another town", town(x, "points 3;" + face("a", "1 1 1")), 1);
        due("the first again", x.paper(0, 0, 5, 0), 0);
    }

    // (place: 100 * YEAR + 10 * PRINTER + STREET): in a YEAR, from a STREET (0 .. 9)
    private static void placesOfPapers() {
        TwoFaces x = three(face("a", "1 1 1"), face("b", "1 1 1"));
        int told = 0;
        for (int place : new int[] {0, 9, 30, 39, 100, 5939, 6000, 6009, 6030, 6039}) {
            due("place " + place, x.paper(0, 1, 5, place), told);
            told++;
        }
        for (int place : new int[] {-1, -10, -100, -6039, 40, 49, 50, 90, 99, 140, 5940, 5999, 6040, 6090, 6099, 6100, 6139, 10000, LEAST, LEAST + 1,
            GREATEST, GREATEST - 47}) {
            nones("place " + place, x.paper(0, 1, 5, place));
        }
        due("share 0", x.paper(1, 0, 0, 0), told);
        due("share 10", x.paper(1, 0, 10, 0), told + 1);
        due("itself", x.paper(1, 1, 10, 0), told + 2);
        nones("shares that can't be", x.paper(0, 1, -1, 0), x.paper(0, 1, 11, 0), x.paper(0, 1, LEAST, 0), x.paper(0, 1, GREATEST, 0));
        nones("faces that can't be", x.paper(2, 1, 5, 0), x.paper(0, 2, 5, 0), x.paper(-1, 1, 5, 0), x.paper(0, -1, 5, 0), x.paper(2, 2, 5, 0), x.paper(LEAST, 0, 5, 0),
            x.paper(0, GREATEST, 5, 0));
        due("nothing was done", x.about(3), told + 3);
    }

    /** Whether paper 0, the only one, counts at k, as each question sees it. */
    private static void counts(TwoFaces x, int k, boolean want) {
        due("ring at " + k, x.ring(0, k), want ? 1 : NONE);
        due("rings at " + k, x.rings(0, k), want ? 1 : 0);
        due("greatest ring at " + k, x.rings(1, k), want ? 1 : 0);
        due("first ring at " + k, x.rings(2, k), want ? 0 : NONE);
        due("behind at " + k, x.behind(0, 0, k), want ? 1 : NONE);
        due("looks at " + k, x.looks(0, 1, k), want ? 1 : 0);
        due("looked at " + k, x.looks(0, 0, k), want ? 1 : 0);
    }

    // As known at k those count that were TOLD at k or before, not UNTOLD at k or before.
    private static void toldAndUntold() {
        TwoFaces x = with("points 3;" + face("a", "0 0 0") + face("b", "50 0 0"), "sign s when 1;");
        x.later(3);
        due("told at 3", x.paper(0, 1, 5, 0), 0);
        counts(x, LEAST, false);
        counts(x, -1, false);
        counts(x, 0, false);
        counts(x, 2, false);
        counts(x, 3, true);
        counts(x, 4, true);
        counts(x, GREATEST, true);
        x.later(4);
        counts(x, 2, false);
        counts(x, 3, true);
        due("untold at 7", x.untell(0), true);
        counts(x, 2, false);
        counts(x, 3, true);
        counts(x, 6, true);
        counts(x, 7, false);
        counts(x, 8, false);
        counts(x, GREATEST, false);
        x.later(2);
        due("not untold again", x.untell(0), false);
        counts(x, 6, true);
        counts(x, 7, false);
        due("still a paper", x.about(3), 1);
    }

    // UNTOLD at a later one or the same
    private static void toldAndUntoldAtOnce() {
        TwoFaces x = with("points 3;" + face("a", "0 0 0") + face("b", "50 0 0"), "sign s when 1;");
        x.paper(0, 1, 5, 0);
        due("untold at once", x.untell(0), true);
        counts(x, -1, false);
        counts(x, 0, false);
        counts(x, 1, false);
        due("not again", x.untell(0), false);
        due("none such", x.untell(1), false);
        due("none below", x.untell(-1), false);
        due("none at the ends", x.untell(LEAST) || x.untell(GREATEST), false);
    }

    // It is MIXED, if the other is not itself, and s is 1 .. 9.
    private static void mixedBy1To9() {
        TwoFaces x = with("points 3;" + face("a", "0 0 0") + face("b", "50 0 0"), "sign s when 1;");
        int mixed = 0;
        for (int s = 0; s <= 10; s++) {
            x.paper(0, 1, s, 0);
            mixed += s >= 1 && s <= 9 ? 1 : 0;
            due("share " + s, x.looks(0, 1, 0), mixed);
            x.paper(0, 0, s, 0);
            due("itself by share " + s, x.looks(0, 1, 0), mixed);
        }
        due("nine of all", mixed, 9);
    }

    private static void behind(TwoFaces x, int paper, int face, int share, int far, int told) {
        due("behind paper " + paper + " the face", x.behind(paper, 0, 0), face);
        due("behind paper " + paper + " the share", x.behind(paper, 1, 0), share);
        due("behind paper " + paper + " the far", x.behind(paper, 2, 0), far);
        due("behind paper " + paper + " told", x.behind(paper, 3, 0), told);
    }

    // of all other FACES and s 1 .. 9 those by whose MIX .. its picture is least FAR
    private static void behindByShares1To9() {
        TwoFaces x = three(face("a", "0 0 0"), face("b", "50 0 0"), "near 0;");
        x.paper(0, 1, 0, 0);
        behind(x, 0, 1, 1, 5, 1);
        x.paper(0, 1, 1, 0);
        behind(x, 1, 1, 1, 0, 1);
        x.paper(0, 1, 9, 0);
        behind(x, 2, 1, 9, 0, 1);
        x.paper(0, 1, 10, 0);
        behind(x, 3, 1, 9, 5, 0);
        x.paper(0, 0, 5, 0);
        behind(x, 4, 1, 9, 5, 0);
        x.paper(1, 0, 0, 0);
        behind(x, 5, 0, 1, 5, 1);
        nones("other whats", x.behind(0, -1, 0), x.behind(0, 4, 0), x.behind(0, LEAST, 0), x.behind(0, GREATEST, 0));
        nones("no such papers", x.behind(-1, 0, 0), x.behind(6, 0, 0), x.behind(LEAST, 0, 0), x.behind(GREATEST, 0, 0));
        TwoFaces one = three(face("a", "0 0 0"));
        one.paper(0, 0, 5, 0);
        nones("there is no other face", one.behind(0, 0, 0), one.behind(0, 1, 0), one.behind(0, 2, 0), one.behind(0, 3, 0));
        TwoFaces last = with("points 3;" + alike("9 9 9").replace(face("p", "9 9 9"), face("p", "90 9 9")));
        last.paper(7, 15, 4, 0);
        due("the last of sixteen", last.behind(0, 0, 0), 15);
    }

    // of like ones the least FACE, then s
    private static void behindLikeOnes() {
        // d hands in its mix with c by 4, 30 0 0: by a 4, too, who is told ahead of c.
        TwoFaces x = three(face("b", "99 9 9"), face("a", "50 0 0"), face("d", "0 0 0"), face("c", "50 0 0"), "near 0;");
        x.paper(2, 3, 4, 0);
        behind(x, 0, 1, 4, 0, 0);
        // By e 7 it is 30, and by f 4, too: the least face, though its share is more.
        TwoFaces y = three(face("d", "0 0 0"), face("e", "99 0 0"), face("f", "49 0 0"), "near 0;");
        y.paper(0, 2, 4, 0);
        behind(y, 0, 1, 7, 0, 0);
        // Printed by blurs 9 the mixes by 1 .. 9 are 40 40 30 30 20 20 10 10 0.
        TwoFaces z = three(face("a", "0 0 0"), face("b", "50 0 0"), printer(2, 9, 0), "near 0;");
        int[] least = {1, 1, 1, 3, 3, 5, 5, 7, 7, 9, 9};
        int[] far = {10, 0, 0, 0, 0, 0, 0, 0, 0, 0, 0};
        for (int s = 0; s <= 10; s++) {
            z.paper(0, 1, s, 20);
            behind(z, s, 1, least[s], far[s], s <= 8 ? 1 : 0);
        }
    }

    // It is TOLD, if that FAR plus near is less than the least FAR by any third FACE (or there is none)
    private static void toldIfNoOtherIsNear() {
        String ab = face("a", "0 0 0") + face("b", "80 0 0");
        // a and b by 5 are 40 0 0; a's mixes with c are 54 48 42 36 .. : 2 away.
        third(ab + face("c", "60 0 0"), 5, 2);
        // 81 72 63 54 45 36: 4 away.
        third(ab + face("c", "90 0 0"), 5, 4);
        // By 1 it is 36: 4 away.
        third(ab + face("c", "40 0 0"), 5, 4);
        // By 9 b's is 8, and c's 9: 1 away.
        third(ab + face("c", "99 0 0"), 9, 1);
        // The nearest of two third ones.
        third(ab + face("c", "60 0 0") + face("d", "61 0 0"), 5, 2);
        third(ab + face("d", "90 0 0") + face("c", "60 0 0"), 5, 2);
        // As near as the one itself.
        third(ab + face("c", "80 0 0"), 5, 0);
        // None.
        for (int near = 0; near < 40; near += 39) {
            TwoFaces x = with("points 3;" + ab + "near " + near + ";");
            x.paper(0, 1, 5, 0);
            behind(x, 0, 1, 5, 0, 1);
        }
    }

    private static void third(String faces, int share, int far) {
        for (int near = 0; near <= far + 1; near++) {
            TwoFaces x = with("points 3;" + faces + "near " + near + ";");
            x.paper(0, 1, share, 0);
            behind(x, 0, 1, share, 0, near < far ? 1 : 0);
        }
    }

    // and that FAR plus near is less than FAR of the picture and the one who hands it in, PRINTED so, too
    private static void toldIfItsOwnIsFar() {
        for (int near : new int[] {0, 19, 20, 21, 800}) {
            TwoFaces x = three(face("a", "0 0 0"), face("b", "40 0 0"), "near " + near + ";");
            x.paper(0, 1, 5, 0);
            behind(x, 0, 1, 5, 0, near < 20 ? 1 : 0);
            x.paper(0, 1, 0, 0);
            // 36 is 4 away from 40, and its own is 40.
            behind(x, 1, 1, 1, 4, near < 36 ? 1 : 0);
        }
        for (int near = 34; near <= 37; near++) {
            TwoFaces x = three(face("a", "0 0 0"), face("b", "40 0 0"), "near " + near + ";");
            x.paper(0, 1, 0, 0);
            behind(x, 0, 1, 1, 4, near < 36 ? 1 : 0);
        }
        // Not told: near is 20.
        TwoFaces x = three(face("a", "0 0 0"), face("b", "42 0 0"));
        x.paper(0, 1, 5, 0);
        behind(x, 0, 1, 5, 0, 1);
        TwoFaces y = three(face("a", "0 0 0"), face("b", "40 0 0"));
        y.paper(0, 1, 5, 0);
        behind(y, 0, 1, 5, 0, 0);
        // Printed by blurs 9 its own 9 is 0, and the mix 14 is 10.
        for (int near = 9; near <= 10; near++) {
            TwoFaces z = three(face("a", "9 0 0"), face("b", "20 0 0"), printer(0, 9, 0), "near " + near + ";");
            z.paper(0, 1, 5, 0);
            due("its own is printed, too", z.behind(0, 3, 0), near < 10 ? 1 : 0);
        }
    }

    // of one PRINTER and one STREET and no more than 2 YEARS apart
    private static void ringsOfYears() {
        int[][] years = {{0, 0}, {0, 1}, {0, 2}, {0, 3}, {2, 0}, {3, 0}, {58, 60}, {57, 60}, {60, 58}, {60, 57}, {30, 33}, {0, 60}};
        for (int[] two : years) {
            TwoFaces x = with("points 3;" + alike("1 1 1"));
            x.paper(0, 1, 5, 100 * two[0] + 25);
            x.paper(1, 0, 5, 100 * two[1] + 25);
            boolean together = Math.abs(two[0] - two[1]) < 3;
            due("years " + two[0] + " and " + two[1], x.ring(0, 0), together ? 2 : 1);
            due("the other way", x.ring(1, 0), together ? 2 : 1);
            due("parts", x.rings(0, 0), together ? 1 : 2);
            due("the greatest", x.rings(1, 0), together ? 2 : 1);
        }
        for (int corner : new int[] {0, 25, 39}) {
            for (int year = 0; year <= 58; year++) {
                TwoFaces x = with("points 3;" + face("a", "1 1 1") + face("b", "1 1 1") + face("c", "1 1 1"));
                x.paper(0, 1, 5, 100 * year + corner);
                x.paper(1, 0, 5, 100 * (year + 2) + corner);
                due("years " + year + " and two more at " + corner, x.ring(0, 0), 2);
                x.paper(2, 0, 5, 100 * Math.max(0, year - 1) + corner);
                due("a third one at " + corner, x.rings(0, 0), 1);
                x.untell(0);
                due("three years apart from " + year + " at " + corner, x.rings(0, 0), year == 0 ? 1 : 2);
            }
        }
        // (through others, too)
        TwoFaces x = with("points 3;" + alike("1 1 1"));
        x.paper(0, 0, 5, 1000);
        x.paper(1, 1, 5, 1400);
        due("four years apart", x.ring(0, 0), 1);
        x.paper(2, 2, 5, 1200);
        due("through one between", x.ring(0, 0), 3);
        due("parts", x.rings(0, 0), 1);
        x.later(1);
        x.untell(2);
        due("not through one untold", x.ring(0, 1), 1);
    }

    private static void ringsOfPrintersAndStreets() {
        for (int printer = 0; printer < 4; printer++) {
            for (int street = 0; street <= 9; street += 3) {
                TwoFaces x = with("points 3;" + alike("1 1 1") + "knows a d;");
                x.paper(0, 1, 5, 3013);
                x.paper(1, 0, 5, 3000 + 10 * printer + street);
                due("printer " + printer + ", street " + street, x.ring(0, 0), printer == 1 && street == 3 ? 2 : 1);
                x.paper(0, 0, 5, 32);
                due("its own face", x.ring(2, 0), printer == 1 && street == 3 ? 3 : 2);
                x.paper(3, 3, 5, 6039);
                due("one it knows", x.ring(3, 0), printer == 1 && street == 3 ? 4 : 3);
            }
        }
        // others, whose faces are in the mixes, do not count
        TwoFaces x = with("points 3;" + alike("1 1 1") + "knows a d;");
        x.paper(1, 0, 5, 0);
        x.paper(2, 0, 5, 11);
        x.paper(4, 3, 5, 22);
        due("their others are one, or know one another", x.rings(0, 0), 3);
    }

    // RINGS what 0: how many parts, 1: the most PAPERS in one
    private static void ringsOfAll() {
        TwoFaces x = with("points 3;" + alike("1 1 1"));
        due("none", x.rings(0, 0), 0);
        due("most of none", x.rings(1, 0), 0);
        nones("first of none, another what", x.rings(2, 0), x.rings(-1, 0), x.rings(3, 0), x.rings(LEAST, 0), x.rings(GREATEST, 0));
        nones("none hangs", x.ring(0, 0), x.ring(-1, 0));
        for (int i = 0; i < 16; i++) {
            x.paper(i, i, 5, 300 * i + 10 * (i % 4) + i % 10);
        }
        due("sixteen parts", x.rings(0, 0), 16);
        due("of one each", x.rings(1, 0), 1);
        due("the first", x.rings(2, 0), 0);
        for (int i = 16; i < 40; i++) {
            x.paper(15, i % 16, 5, 100 * i + 9);
        }
        due("sixteen parts still", x.rings(0, 0), 16);
        due("of 25 the greatest", x.rings(1, 0), 25);
        due("which", x.rings(2, 0), 15);
        due("the last hangs there", x.ring(39, 0), 25);
        nones("none such", x.ring(40, 0), x.ring(LEAST, 0), x.ring(GREATEST, 0));
        TwoFaces y = with("points 3;" + alike("1 1 1"));
        for (int i = 0; i < 40; i++) {
            y.paper(0, i % 16, 5, 150 * i - 150 * i % 100);
        }
        due("one of forty", y.rings(1, 0), 40);
        due("parts", y.rings(0, 0), 1);
        due("ring", y.ring(39, 0), 40);
        // A chain, told from both ends to its middle.
        TwoFaces z = with("points 3;" + alike("1 1 1"));
        for (int i = 0; i < 8; i++) {
            z.paper(i, i, 5, 200 * i);
            z.paper(15 - i, i, 5, 200 * (15 - i));
        }
        due("a chain of sixteen", z.rings(1, 0) * 10 + z.rings(0, 0), 161);
    }

    // 2: the least PAPER of the first such
    private static void firstOfTheGreatestRings() {
        TwoFaces x = with("points 3;" + alike("1 1 1"));
        x.paper(0, 0, 5, 1);
        x.paper(1, 1, 5, 2);
        x.paper(2, 2, 5, 3);
        due("three of one", x.rings(2, 0), 0);
        x.paper(2, 2, 5, 4);
        due("two of the third", x.rings(2, 0), 2);
        x.paper(1, 1, 5, 5);
        due("two of the second, too", x.rings(2, 0), 1);
        x.paper(0, 0, 5, 6);
        due("two of each", x.rings(2, 0), 0);
        x.later(1);
        x.untell(0);
        due("the first is one alone", x.rings(2, 1), 1);
        x.untell(1);
        due("the third is the greatest", x.rings(2, 1), 2);
        x.untell(3);
        due("all are alone: the least that counts", x.rings(2, 1), 2);
        due("ahead of that", x.rings(2, 0), 0);
    }

    // BETWEEN two FACES: the fewest steps of knows; NONE if there is no way, or one is none.
    private static void stepsBetween() {
        StringBuilder chain = new StringBuilder("points 3;" + alike("1 1 1"));
        for (char a = 'a'; a < 'p'; a++) {
            chain.append("knows ").append(a).append(' ').append((char) (a + 1)).append(';');
        }
        TwoFaces x = with(chain.toString());
        for (int i = 0; i < 16; i++) {
            due("from the first to " + i, x.between(0, i), i);
            due("from the last to " + i, x.between(15, i), 15 - i);
        }
        nones("none", x.between(0, 16), x.between(16, 0), x.between(-1, 0), x.between(0, -1), x.between(16, 16), x.between(LEAST, 0), x.between(0, GREATEST),
            x.between(32, 0), x.between(0, 32));
        TwoFaces ring = with(chain + "knows p a;");
        due("round the other way", ring.between(0, 15), 1);
        due("eight either way", ring.between(0, 8), 8);
        due("seven the other way", ring.between(0, 9), 7);
        TwoFaces cut = with(chain.toString().replace("knows h i;", ""));
        due("to the end of the way", cut.between(0, 7), 7);
        nones("no way", cut.between(0, 8), cut.between(15, 7));
        due("itself", cut.between(8, 8), 0);
    }

    private static TwoFaces withPapersOfAll(int cost0, int cost1, int cost2, int cost3) {
        TwoFaces x = with("points 3;" + alike("1 1 1") + printer(0, 0, cost0) + printer(1, 0, cost1) + printer(2, 0, cost2) + printer(3, 0, cost3), "sign s when 1;");
        for (int printer = 0; printer < 4; printer++) {
            x.paper(0, 1, 5, 10 * printer);
        }
        return x;
    }

    private static void looks(TwoFaces x, int sum, int printers, int papers) {
        due("printers for " + sum, x.looks(sum, 0, 0), printers);
        due("papers for " + sum, x.looks(sum, 1, 0), papers);
    }

    // LOOKS by a sum (0 .. 999): PRINTERS whose costs together are no more
    private static void looksForASum() {
        TwoFaces x = withPapersOfAll(1, 2, 4, 99);
        looks(x, 0, 0, 0);
        looks(x, 1, 1, 1);
        looks(x, 2, 1, 1);
        looks(x, 3, 3, 2);
        looks(x, 6, 3, 2);
        looks(x, 7, 7, 3);
        looks(x, 105, 7, 3);
        looks(x, 106, 15, 4);
        looks(x, 999, 15, 4);
        nones("can't be", x.looks(-1, 0, 0), x.looks(1000, 0, 0), x.looks(LEAST, 0, 0), x.looks(GREATEST, 0, 0), x.looks(0, -1, 0), x.looks(0, 2, 0),
            x.looks(0, LEAST, 0), x.looks(0, GREATEST, 0));
        TwoFaces dear = withPapersOfAll(99, 99, 99, 99);
        looks(dear, 98, 0, 0);
        looks(dear, 99, 1, 1);
        looks(dear, 395, 7, 3);
        looks(dear, 396, 15, 4);
        looks(withPapersOfAll(0, 0, 0, 0), 0, 15, 4);
        // any SIGN: none without rules
        rules(x, "");
        looks(x, 999, 0, 0);
        rules(x, "sign s when 0;sign t when sum = 3;");
        looks(x, 999, 15, 4);
    }

    // so that most PAPERS .. are of them; of like ones the least number (as bits)
    private static void looksOfLikeOnes() {
        TwoFaces x = withPapersOfAll(5, 3, 3, 3);
        looks(x, 3, 2, 1);
        looks(x, 5, 1, 1);
        looks(x, 6, 6, 2);
        looks(x, 8, 3, 2);
        looks(x, 9, 14, 3);
        looks(x, 11, 7, 3);
        looks(x, 14, 15, 4);
        x.paper(0, 1, 5, 30);
        looks(x, 3, 8, 2);
        looks(x, 5, 8, 2);
        looks(x, 6, 10, 3);
        // One without papers is not among them.
        TwoFaces y = with("points 3;" + alike("1 1 1"), "sign s when 1;");
        y.paper(0, 1, 5, 20);
        looks(y, 999, 4, 1);
    }

    // A PLAIN bar T (0 .. 800) lets who is no more than T FAR. COST of T ..: f for each FALSE one, h for each HELD
    private static void plainBarsToTheLast() {
        TwoFaces x = with(far(8));
        due("791", x.cost(791, 1, 0, 0, 0), 0);
        due("792", x.cost(792, 1, 0, 0, 0), 2);
        due("800", x.cost(800, 1, 0, 60, 0), 2);
        due("f 99", x.cost(800, 99, 99, 0, 0), 198);
        due("f 0", x.cost(800, 0, 99, 0, 0), 0);
        due("0", x.cost(0, 99, 99, 0, 0), 0);
        // By light 9 the first is 9 in each: 72 from its own, and 720 from the other one's; the second stays.
        due("71 by light 9", x.cost(71, 1, 1, 0, 9), 1);
        due("72 by light 9", x.cost(72, 1, 1, 0, 9), 0);
        due("719 by light 9", x.cost(719, 1, 0, 0, 9), 0);
        due("720 by light 9", x.cost(720, 1, 0, 0, 9), 1);
        due("791 by light 9", x.cost(791, 1, 0, 0, 9), 1);
        due("792 by light 9", x.cost(792, 1, 0, 0, 9), 2);
        due("h 99", x.cost(0, 0, 99, 0, 9), 99);
        due("h 0", x.cost(0, 99, 0, 0, 9), 0);
        TwoFaces all = with("points 3;" + alike("1 1 1"));
        due("240 false ones", all.cost(0, 99, 99, 0, 0), 240 * 99);
        due("16 held ones", all.cost(26, 99, 99, 0, 9), 16 * 99);
        due("all let in", all.cost(27, 99, 99, 0, 9), 240 * 99);
        nones("can't be", x.cost(-1, 1, 1, 0, 0), x.cost(801, 1, 1, 0, 0), x.cost(LEAST, 1, 1, 0, 0), x.cost(GREATEST, 1, 1, 0, 0), x.cost(0, -1, 1, 0, 0),
            x.cost(0, 100, 1, 0, 0), x.cost(0, 1, -1, 0, 0), x.cost(0, 1, 100, 0, 0), x.cost(0, 1, 1, -1, 0), x.cost(0, 1, 1, 61, 0), x.cost(0, 1, 1, 0, -1),
            x.cost(0, 1, 1, 0, 10));
    }

    // BEST BAR: the T of least COST; of like ones the least
    private static void bestBarOfLikeOnes() {
        TwoFaces x = with(far(8));
        due("none costs", x.bestBar(99, 99, 0, 0), 0);
        due("the first is let in at 72", x.bestBar(99, 99, 0, 9), 72);
        due("that is free", x.bestBar(99, 0, 0, 9), 0);
        due("all is free", x.bestBar(0, 0, 60, 9), 0);
        due("false ones are free", x.bestBar(0, 1, 0, 9), 72);
        TwoFaces y = three(face("a", "0 0 0"), face("b", "0 0 99"), face("c", "0 1 99"));
        // By light 1 a is 1 1 1, b 1 1 99 and c 1 2 99: from their own 3, 2, 2; b from c's 1, c from b's 3.
        due("b from c's at 1", y.cost(0, 1, 0, 0, 1) * 10 + y.cost(1, 1, 0, 0, 1), 1);
        due("c from b's at 3", y.cost(2, 1, 0, 0, 1) * 10 + y.cost(3, 1, 0, 0, 1), 12);
        // h for 3 held ones; at 1 f more; at 2 two held ones less; at 3 the last, and f more.
        due("h 2, f 1", y.bestBar(1, 2, 0, 1), 3);
        due("h 1, f 1: 3 4 2 2", y.bestBar(1, 1, 0, 1), 2);
        due("h 1, f 2: 3 5 3 4", y.bestBar(2, 1, 0, 1), 0);
        due("h 1, f 3: 3 6 4 6", y.bestBar(3, 1, 0, 1), 0);
        // By light 1 six false ones are let in at 3, and three held ones ahead of it.
        TwoFaces z = three(face("a", "0 0 0"), face("b", "0 0 0"), face("c", "0 0 0"));
        due("6 for 3", z.bestBar(1, 1, 0, 1), 0);
        due("6 for 6", z.bestBar(1, 2, 0, 1), 0);
        due("6 for 9", z.bestBar(1, 3, 0, 1), 3);
        nones("can't be", x.bestBar(-1, 1, 0, 0), x.bestBar(100, 1, 0, 0), x.bestBar(1, -1, 0, 0), x.bestBar(1, 100, 0, 0), x.bestBar(1, 1, -1, 0),
            x.bestBar(1, 1, 61, 0), x.bestBar(1, 1, 0, -1), x.bestBar(1, 1, 0, 10));
    }

    // FAIR by d (0 .. 100): .. the least T of its own by which no more than d hundredths of them are HELD
    private static void fairByHundredths() {
        // The last one is 3 from its own in year 10, the others 0.
        StringBuilder sixteen = new StringBuilder("points 3;");
        for (char name = 'a'; name <= 'o'; name++) {
            sixteen.append(face("" + name, 2, 0, "50 50 50"));
        }
        TwoFaces x = with(sixteen + face("p", 2, 1, "50 50 50"));
        due("1 of 16 by 0", x.fair(0, 10, 0, 2), 3);
        due("1 of 16 by 6", x.fair(6, 10, 0, 2), 3);
        due("1 of 16 by 7", x.fair(7, 10, 0, 2), 0);
        due("none in year 9", x.fair(0, 9, 0, 2), 0);
        int[][] leasts = {{1, 100}, {2, 50}, {3, 34}, {4, 25}, {5, 20}, {6, 17}, {7, 15}, {8, 13}};
        for (int[] some : leasts) {
            StringBuilder text = new StringBuilder("points 3;" + face("p", 3, 1, "50 50 50"));
            for (int i = 1; i < some[0]; i++) {
                text.append(face("" + (char) ('a' + i), 3, 0, "50 50 50"));
            }
            TwoFaces y = with(text.toString());
            due("1 of " + some[0] + " by " + some[1], y.fair(some[1], 10, 0, 3), 0);
            due("1 of " + some[0] + " by " + (some[1] - 1), y.fair(some[1] - 1, 10, 0, 3), 3);
            due("1 of " + some[0] + " by 0", y.fair(0, 10, 0, 3), 3);
            due("1 of " + some[0] + " by 100", y.fair(100, 10, 0, 3), 0);
        }
        nones("kinds without faces", x.fair(0, 0, 0, 0), x.fair(0, 0, 0, 1), x.fair(100, 60, 9, 3));
        nones("can't be", x.fair(-1, 0, 0, 2), x.fair(101, 0, 0, 2), x.fair(LEAST, 0, 0, 2), x.fair(GREATEST, 0, 0, 2), x.fair(0, -1, 0, 2), x.fair(0, 61, 0, 2),
            x.fair(0, 0, -1, 2), x.fair(0, 0, 10, 2), x.fair(0, 0, 0, -1), x.fair(0, 0, 0, 5), x.fair(0, 0, 0, LEAST), x.fair(0, 0, 0, GREATEST));
    }

    // what all FALSE ones together are then, each by its kind's T
    private static void fairFalseOnes() {
        // In year 10 a is 51 49 51 (kind 0, 3 from its own), b stays (kind 1, 0), and c is 53 49 51 (kind 0, as a, but 52 told).
        TwoFaces x = three(face("a", 0, 1, "50 50 50"), face("b", 1, 0, "50 50 50"), face("c", 0, 1, "52 50 50"));
        due("T of kind 0", x.fair(0, 10, 0, 0), 3);
        due("T of kind 1", x.fair(0, 10, 0, 1), 0);
        // a from b's 3, from c's 1 + 1 + 1; c from a's and b's 3 + 1 + 1; b from a's 0, from c's 2.
        due("a with both, b with a's", x.fair(0, 10, 0, 4), 3);
        due("by 100 only b with a's", x.fair(100, 10, 0, 4), 1);
        due("by 99", x.fair(99, 10, 0, 4), 3);
        TwoFaces all = with("points 3;" + alike("1 1 1"));
        due("all", all.fair(100, 60, 0, 4), 240);
        due("none", all.fair(100, 60, 1, 4), 0);
        due("all by 99", all.fair(99, 60, 1, 4), 240);
    }

    // MEASURE of two kinds: the least FAR of a FACE of the one and another FACE of the other (YEAR 0)
    private static void measureToTheFarthest() {
        TwoFaces x = with(far(8));
        due("792", x.measure(0, 1), 792);
        due("792 the other way", x.measure(1, 0), 792);
        nones("not another one", x.measure(0, 0), x.measure(1, 1));
        nones("not both", x.measure(0, 2), x.measure(3, 1), x.measure(2, 3), x.measure(2, 2));
        nones("no kinds", x.measure(-1, 0), x.measure(0, -1), x.measure(4, 0), x.measure(0, 4), x.measure(LEAST, GREATEST));
        TwoFaces y = three(face("a", 3, 9, "1 1 1"), face("b", 3, 0, "1 1 1"), face("c", 0, 9, "1 1 4"), face("d", 0, 0, "9 9 9"));
        due("0 of one kind", y.measure(3, 3), 0);
        due("the least of four", y.measure(0, 3), 3);
        due("of kind 0", y.measure(0, 0), 8 + 8 + 5);
    }

    // later: So much later (0 .. 1000): the TIME; NONE, doing nothing, for another number, or if it would be above 100,000.
    private static void timeToTheLast() {
        TwoFaces x = three(face("a", "1 1 1"));
        due("0 at first", x.about(4), 0);
        due("0 later", x.later(0), 0);
        due("1 later", x.later(1), 1);
        due("999 later", x.later(999), 1000);
        nones("another number", x.later(-1), x.later(1001), x.later(LEAST), x.later(GREATEST));
        due("nothing was done", x.about(4), 1000);
        for (int time = 2000; time <= 99000; time += 1000) {
            due("1000 later", x.later(1000), time);
        }
        due("999 later", x.later(999), 99999);
        nones("100,001", x.later(2), x.later(1000));
        due("nothing was done", x.about(4), 99999);
        due("100,000", x.later(1), 100000);
        nones("above it", x.later(1), x.later(1000));
        due("0 later there", x.later(0), 100000);
        due("told there", x.paper(0, 0, 5, 0), 0);
        due("known there", x.ring(0, 100000), 1);
        nones("not ahead", x.ring(0, 99999));
        due("untold there", x.untell(0), true);
        nones("not known there", x.ring(0, 100000));
    }

    // PAPERS, and the TIME, are kept in a BOX 0 .. 2 .. All is as it was kept .. NONE, doing nothing, if nothing was.
    private static void boxesKeep() {
        TwoFaces x = with("points 3;" + alike("1 1 1"), "sign s when 1;");
        nones("nothing was", x.back(0), x.back(1), x.back(2));
        nones("none such", x.image(-1), x.image(3), x.image(LEAST), x.image(GREATEST), x.back(-1), x.back(3), x.back(LEAST), x.back(GREATEST));
        x.paper(3, 4, 6, 3021);
        x.later(5);
        due("one in the last box", x.image(2), 1);
        nones("nothing in the others", x.back(0), x.back(1));
        due("still one", x.about(3) * 100 + x.about(4), 105);
        x.untell(0);
        x.paper(5, 6, 7, 0);
        x.later(5);
        due("two in the first box", x.image(0), 2);
        due("back to the last", x.back(2), 1);
        due("the time", x.about(4), 5);
        due("it counts", x.ring(0, 5), 1);
        nones("the other one is not there", x.ring(1, 5));
        due("told later now", x.paper(7, 8, 2, 100), 1);
        due("back to the first", x.back(0), 2);
        due("the time there", x.about(4), 10);
        nones("it is untold there", x.ring(0, 5));
        due("it counted ahead", x.ring(0, 4), 1);
        due("not again", x.untell(0), false);
        // What is kept is all of a paper: its face, other, share, place and time.
        due("back to the last again", x.back(2), 1);
        for (int i = 0; i < 39; i++) {
            x.paper(9, 9, 0, 6039);
        }
        due("forty", x.about(3), 40);
        due("back from forty", x.back(2), 1);
        due("its mix", x.looks(0, 0, 5) * 10 + x.looks(0, 1, 5), 41);
        due("one more", x.paper(3, 3, 0, 0), 1);
        due("its face", x.ring(0, 5), 2);
        x.paper(10, 10, 0, 3221);
        due("its place", x.ring(0, 5), 3);
        // A box keeps what was brought last.
        due("three in the last box", x.image(2), 3);
        due("back to the first", x.back(0), 2);
        due("two in the last box", x.image(2), 2);
        x.paper(0, 0, 0, 0);
        due("two are back", x.back(2), 2);
        due("none in the middle one", x.back(1), NONE);
        due("a town with a fault", town(x, "?"), NONE);
        due("boxes stay", x.back(2), 2);
        due("a town", town(x, "points 3;" + alike("1 1 1")), 16);
        nones("boxes are empty then", x.back(0), x.back(1), x.back(2));
        due("none kept", x.image(1), 0);
        due("none back", x.back(1), 0);
        due("the time stays", x.about(4), 10);
    }

    // PAPERS, and the TIME, are kept: the TAPE, the RULES and the latest FAULT are not.
    private static void boxesKeepNothingElse() {
        TwoFaces x = with(far(3), "bar 0;sign s when 1;");
        x.paper(0, 1, 5, 0);
        put(x, "near 7;");
        due("one", x.image(0), 1);
        x.end(0);
        due("other rules", rules(x, "bar 1;sign s when 0;sign t when 1;"), 3);
        due("rules with a fault", rules(x, "bar"), NONE);
        put(x, "near");
        due("back", x.back(0), 1);
        due("the rules are the latest", x.about(2) * 10 + x.about(6), 23);
        due("the bar, too", x.passes(0, 0, 0, 0), 1);
        due("papers are looked at by them", x.looks(0, 1, 0) * 10 + x.signs(0, 1, 5, -1), 12);
        due("the fault stays", x.fault(0) * 100 + x.fault(1), 203);
        due("the tape stays", x.about(5), 4);
        due("it is the latest, too", x.town(), NONE);
        due("where it ends", x.fault(1), 4);
    }
}
