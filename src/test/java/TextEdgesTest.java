import java.util.ArrayList;
import java.util.List;
import java.util.regex.Matcher;
import java.util.regex.Pattern;

/** The bounds that ../shared/DOC.md names for the two texts, each on both sides; the sentence stands above its test. */
public final class TextEdgesTest extends Checks {
    private static final String RESERVED = "points face kind drift row knows printer blurs costs near bar sign"
        + " when far years light sum edge most least at and or not";
    private static final String TOWN = "points 3;face a kind 0 drift 0 row 10 20 30;face b kind 1 drift 5 row 20 20 50;"
        + "knows a b;printer 1 blurs 9 costs 4;near 5;";
    private static final String RULES = "bar far < 30 and (kind = 1 or not years > 2) * 4 - light;"
        + "sign s when at 1 + sum * edge > most - least;";

    public static void main(String[] args) {
        townOf1600Bytes();
        rulesOf800Bytes();
        everyByteInATown();
        everyByteInRules();
        longestWords();
        longestNumbers();
        lettersBehindNumbers();
        longestTokens();
        reservedWordsAreNoNames();
        allButReservedWordsAreNames();
        leastAtOnePlace();
        firstByItsPlace();
        textsThatEndTooEarly();
        tokensLeftOut();
        linesTooShortOrTooLong();
        numbersAreNoNames();
        tokensSpoilt();
        pointsAndRows();
        pointsOnceAheadOfFaces();
        sixteenFaces();
        numbersOfAFace();
        namesToldAlready();
        twentyKnows();
        knowsOfTwoFacesToldAhead();
        printersOnce();
        nearOnce();
        oneBar();
        sixSigns();
        measuresThatThereAre();
        fortyUnits();
        withinSixOthers();
        valuesOfABarAndOfASign();
        oneRelation();
        unitsOfRules();
        tellAndExit();
    }

    private static String blanks(int n) {
        return " ".repeat(n);
    }

    // A TOWN is a text of at most 1,600 bytes (empty at first)
    private static void townOf1600Bytes() {
        String face = face("a", "1 2 3 4 5");
        String full = face + blanks(1600 - face.length() - 7) + "near 9;";
        due("bytes", full.length(), 1600);
        TwoFaces x = with(full);
        due("its last line counts", x.about(8), 9);
        townFault(full.substring(0, 1599), 2, 1599);
        townFault(full.substring(0, 1599) + " ", 2, 1600);
        townFault(full.substring(0, 1599) + "\n", 2, 1600);
        townFault(full.substring(0, 1599) + "?", 1, 1599);
        townFault(blanks(1599) + "a", 2, 1599);
        townFault(";".repeat(1600), 2, 0);
        townStands(blanks(1600), 0);
        put(x, full);
        due("one more does not come", x.feed(0x3b3b3b3b, 0x3b3b3b3b, 0x3b3b3b3b, 0x3b3b3b3b, 0x3b3b3b3b), NONE);
        due("nor is there one", x.end(1601), NONE);
        due("1600 are there", x.end(1600), 1600);
        due("as they were", x.town(), 1);
        due("the last line, too", x.about(8), 9);
        TwoFaces empty = new TwoFaces();
        due("empty at first: faces", empty.about(0), 0);
        due("an empty text is a town", empty.town(), 0);
        due("without a fault", empty.fault(0), 0);
    }

    // RULES are a text of at most 800 bytes (none at first, and behind another TOWN); -2, and the TAPE stays: more than 800 bytes
    private static void rulesOf800Bytes() {
        String full = "sign s when 1;" + blanks(800 - 14 - 6) + "bar 0;";
        due("bytes", full.length(), 800);
        TwoFaces x = with(far(5));
        due("none at first: signs", x.about(2), 0);
        due("none at first: units", x.about(6), 0);
        due("none at first: bar", x.passes(0, 0, 0, 0), 1);
        due("800", rules(x, full), 2);
        due("its last line counts", x.passes(0, 0, 0, 0), 0);
        due("801", rules(x, full + " "), -2);
        due("all 801 are there", x.about(5), 801);
        due("the rules stay", x.about(2) * 10 + x.about(6), 12);
        due("801 again", x.rules(), -2);
        due("without the last", x.end(800), 800);
        due("800 again", x.rules(), 2);
        due("nothing is there", x.about(5), 0);
        due("1600", rules(x, full + full), -2);
        due("all 1600 are there", x.about(5), 1600);
        x.end(0);
        due("none", rules(x, ""), 0);
        due("no signs", x.about(2), 0);
        due("no units", x.about(6), 0);
        due("no bar", x.passes(0, 0, 0, 0), 1);
        due("800 again", rules(x, full), 2);
        due("a town", town(x, far(5)), 2);
        due("behind another town: signs", x.about(2), 0);
        due("behind another town: units", x.about(6), 0);
        due("behind another town: bar", x.passes(0, 0, 0, 0), 1);
        rulesFault(full.substring(0, 799), 2, 799);
        rulesFault(full.substring(0, 799) + " ", 2, 800);
        rulesFault(full.substring(0, 799) + "?", 1, 799);
        rulesFault("(".repeat(800), 2, 0);
        // Of a text that is too long no fault is told, of whatever sort it would be.
        TwoFaces y = with(far(5));
        rules(y, "bar 1 1;");
        due("too long", rules(y, "?".repeat(801)), -2);
        due("the fault of the latest that was not -2", y.fault(0), 2);
        due("its place", y.fault(1), 6);
        due("as a town it has one", y.town(), NONE);
        due("which", y.fault(0), 1);
        due("where", y.fault(1), 0);
    }

    // TOKENS: words (a .. z ..), N .., sign ; ; blanks (32, 10) part them or not
    private static void everyByteInATown() {
        for (char c = 0; c < 256; c++) {
            String text = "near" + c + "3;";
            if (c == 32 || c == 10 || c >= '0' && c <= '9') {
                TwoFaces x = with(text);
                due("near with byte " + (int) c, x.about(8), c < '0' ? 3 : 10 * (c - '0') + 3);
            } else if (c >= 'a' && c <= 'z') {
                townFault(text, 2, 0);
            } else {
                townFault(text, c == ';' ? 2 : 1, 4);
            }
        }
    }

    // TOKENS with the signs ( ) < > = + - *, too
    private static void everyByteInRules() {
        for (char c = 0; c < 256; c++) {
            String text = "bar 1" + c + "1;";
            if (c >= '0' && c <= '9' || c != 0 && "<>=+-*".indexOf(c) >= 0) {
                rulesStand(text, 1);
            } else if (c >= 'a' && c <= 'z') {
                rulesFault(text, 1, 4);
            } else if (c == 32 || c == 10 || c == ';') {
                rulesFault(text, 2, 6);
            } else {
                rulesFault(text, c == '(' || c == ')' ? 2 : 1, 5);
            }
        }
    }

    // words (a .. z, 8 at most) .. a longer word .. 1 at its first byte
    private static void longestWords() {
        townStands("points 3;" + face("azazazaz", "1 2 3"), 1);
        townFault("points 3;" + face("azazazaza", "1 2 3"), 1, 14);
        townFault("points 3;" + face("a".repeat(1000), "1 2 3"), 1, 14);
        townFault("a".repeat(8), 2, 0);
        townFault("a".repeat(9), 1, 0);
        townFault("near 3;knows abcdefgh", 5, 13);
        townFault("near 3;knows abcdefghi", 1, 13);
        rulesStand("sign abcdefgh when 1;", 1);
        rulesFault("sign abcdefghi when 1;", 1, 5);
        rulesFault("bar fffffffff;", 1, 4);
        // Names of eight are told apart by the last letter and by the first, and from what they begin with.
        townStands("points 3;" + face("aaaaaaaa", "1 2 3") + face("aaaaaaab", "1 2 3") + face("baaaaaaa", "1 2 3") + face("aaaaaaa", "1 2 3"), 4);
    }

    // N (1 to 4 digits) .. more digits .. 1 at its first byte
    private static void longestNumbers() {
        townStands("near 0;", 0);
        townStands("near 0000;", 0);
        due("four digits", with("near 0123;").about(8), 123);
        due("two digits", with("near 09;").about(8), 9);
        townFault("near 00000;", 1, 5);
        townFault("near 00012;", 1, 5);
        townFault("near 9999;", 4, 5);
        townFault("near 10000;", 1, 5);
        townFault("near " + "0".repeat(1000) + ";", 1, 5);
        rulesStand("bar 9999;", 1);
        rulesFault("bar 10000;", 1, 4);
        rulesFault("bar 00001;", 1, 4);
        TwoFaces x = with(far(5), "bar 0010 = 10 and 9999 = 3 * 3333;");
        due("their values", x.passes(0, 0, 0, 0), 1);
    }

    // no letter directly behind an N (.. an N with a letter behind it: 1 at its first byte)
    private static void lettersBehindNumbers() {
        for (char c = 'a'; c <= 'z'; c++) {
            townFault("near 3" + c, 1, 5);
            townFault("near 3 " + c, 2, 7);
            townFault("near 3\n" + c, 2, 7);
            townFault("near 3;" + c, 2, 7);
        }
        for (char c : new char[] {'a' - 1, 'z' + 1, 'A', 'Z', '_'}) {
            townFault("near 3" + c + ";", 1, 6);
        }
        townFault("near 1234z;", 1, 5);
        townFault("near 12345z;", 1, 5);
        townFault("face a kind 0drift 0 row 1 1 1 1 1;", 1, 12);
        townFault("face a kind 0 drift 0 row 1 1 1 1 1z;", 1, 34);
        rulesFault("bar 3and 3;", 1, 4);
        rulesStand("bar 3 and3;", 1);
        rulesFault("bar 3 and3far;", 1, 9);
    }

    // blanks part them or not; each is as long as can be
    private static void longestTokens() {
        townStands("points3;face a kind0 drift0 row1 2 3;", 1);
        townStands("\n \npoints \n\n 3\n;\nface\na\nkind\n0\ndrift\n0\nrow\n1\n2\n3\n;\n", 1);
        due("33 is one", with("near 33;").about(8), 33);
        townFault("near 3 3;", 2, 7);
        townFault("nearn 3;", 2, 0);
        townFault("ne ar 3;", 2, 0);
        townFault("nearnear 3;", 2, 0);
        townFault("points 3;facea kind 0 drift 0 row 1 2 3;", 2, 9);
        townFault("face a1 kind 0 drift 0 row 1 2 3 4 5;", 2, 6);
        rulesStand("bar(far)<(5);", 1);
        rulesStand("sign s when at0<at1 and(at2);", 1);
        rulesFault("sign s when at0<at1and(at2);", 1, 18);
    }

    // Words that stand for themselves here or in RULES .. are no NAMES.
    private static void reservedWordsAreNoNames() {
        for (String word : RESERVED.split(" ")) {
            townFault("face " + word + " kind 0 drift 0 row 1 1 1 1 1;", 2, 5);
            townFault(TOWN + "knows " + word + " b;", 2, TOWN.length() + 6);
            townFault(TOWN + "knows b " + word + ";", 2, TOWN.length() + 8);
            rulesFault("sign " + word + " when 1;", 2, 5);
        }
        due("how many they are", RESERVED.split(" ").length, 24);
    }

    private static void allButReservedWordsAreNames() {
        for (String word : RESERVED.split(" ")) {
            for (String name : new String[] {word.substring(0, word.length() - 1), word + "z", "z" + word, word.substring(1)}) {
                if (name.length() <= 8 && !name.isEmpty() && !List.of(RESERVED.split(" ")).contains(name)) {
                    townStands("points 3;" + face(name, "1 2 3"), 1);
                    rulesStand("sign " + name + " when 1;", 1);
                }
            }
        }
        for (String word : "town rules mix paper share printed signs false held twins year place two".split(" ")) {
            townStands("points 3;" + face(word, "1 2 3"), 1);
        }
    }

    // at one place the least
    private static void leastAtOnePlace() {
        townFault("near 90000;", 1, 5);
        townFault("near 900a;", 1, 5);
        townFault("knows abcdefghi", 1, 6);
        townFault("face abcdefghi", 1, 5);
        townFault(TOWN + "knows b abcdefghi;", 1, TOWN.length() + 8);
        townFault(TOWN + "printer 10000 blurs", 1, TOWN.length() + 8);
        townFault(TOWN + "printer 1a blurs", 1, TOWN.length() + 8);
        townFault(TOWN + "?near 6;", 1, TOWN.length());
        rulesFault("sign s when at 30000;", 1, 15);
        rulesFault("sign s when at 3a;", 1, 15);
        rulesFault("bar 1" + "+1".repeat(39) + "+?", 1, 84);
        rulesFault("bar 1" + "+1".repeat(39) + "+10000", 1, 84);
        rulesFault("sign s when 1;sign abcdefghi", 1, 19);
    }

    // FAULTS, the first by its place
    private static void firstByItsPlace() {
        townFault("near 900;?", 4, 5);
        townFault("near ? 900;", 1, 5);
        townFault("near 3;near ?", 2, 7);
        townFault("near 3;near 900;", 2, 7);
        townFault("points 9;face face", 4, 7);
        townFault(TOWN + "face a kind 9", 3, TOWN.length() + 5);
        townFault(TOWN + "face z kind 9 drift 99", 4, TOWN.length() + 12);
        townFault(TOWN + "knows y z;", 5, TOWN.length() + 6);
        townFault(TOWN + "knows a a;?", 3, TOWN.length() + 8);
        rulesFault("bar 1;bar ?", 2, 6);
        rulesFault("sign s when 1;sign s ?", 3, 19);
        rulesFault("sign s when at 9 ?", 4, 15);
        rulesFault("bar 1 1 ?", 2, 6);
    }

    private static List<int[]> tokensOf(String text) {
        List<int[]> found = new ArrayList<>();
        Matcher m = Pattern.compile("[a-z]+|[0-9]+|[;()<>=+*-]").matcher(text);
        while (m.find()) {
            found.add(new int[] {m.start(), m.end()});
        }
        return found;
    }

    // (bytes from 0; the end: the text's length)
    private static void textsThatEndTooEarly() {
        for (int[] token : tokensOf(TOWN)) {
            String cut = TOWN.substring(0, token[1]);
            if (!cut.endsWith(";")) {
                townFault(cut, 2, cut.length());
                townFault(cut + " \n ", 2, cut.length() + 3);
            } else {
                townStands(cut, cut.split("face").length - 1);
            }
        }
        for (int[] token : tokensOf(RULES)) {
            String cut = RULES.substring(0, token[1]);
            if (!cut.endsWith(";")) {
                rulesFault(cut, 2, cut.length());
                rulesFault(cut + "\n\n", 2, cut.length() + 2);
            } else {
                rulesStand(cut, cut.contains("sign") ? 2 : 1);
            }
        }
    }

    // FAULTS: 2 one that can't stand there: what is left out is missed at the token that comes next, or at the line's end.
    private static void tokensLeftOut() {
        List<int[]> tokens = tokensOf(TOWN);
        for (int i = 0; i + 1 < tokens.size(); i++) {
            int[] token = tokens.get(i);
            int[] next = tokens.get(i + 1);
            boolean ofRow = TOWN.substring(0, token[0]).matches("(?s).* row [0-9 ]*");
            boolean first = TOWN.substring(0, token[0]).endsWith("knows ");
            int at = ofRow && TOWN.charAt(token[0]) != ';' || first ? TOWN.indexOf(';', token[0]) : next[0];
            townFault(TOWN.substring(0, token[0]) + blanks(token[1] - token[0]) + TOWN.substring(token[1]), 2, at);
        }
        String last = TOWN.substring(0, TOWN.length() - 1);
        townFault(last, 2, last.length());
    }

    /** A line that ends by ; too early, and one that goes on behind its last word. */
    private static void linesTooShortOrTooLong() {
        String ahead = "points 3;" + face("y", "1 2 3") + face("z", "1 2 3");
        for (String line : new String[] {"face a kind 0 drift 0 row 10 20 30", "knows z y", "printer 1 blurs 9 costs 4", "near 5"}) {
            for (int[] token : tokensOf(line)) {
                String cut = ahead + line.substring(0, token[1]);
                if (token[1] < line.length()) {
                    townFault(cut + ";", 2, cut.length());
                    townFault(cut + " ;" + line + ";", 2, cut.length() + 1);
                }
            }
            for (String more : "0 a z row kind points near face".split(" ")) {
                townFault(ahead + line + " " + more + ";", 2, (ahead + line).length() + 1);
            }
            townFault(ahead + line + ";;", 2, (ahead + line).length() + 1);
            townStands(ahead + line + ";", line.startsWith("face") ? 3 : 2);
        }
        townFault("points;", 2, 6);
        townFault("points 3 4;", 2, 9);
        for (String line : new String[] {"sign s when 1 < sum", "bar far + 1 = light"}) {
            for (int[] token : tokensOf(line)) {
                String cut = line.substring(0, token[1]);
                boolean stands = cut.endsWith("1") || cut.endsWith("far") || token[1] == line.length();
                if (stands) {
                    rulesStand(cut + ";", 1);
                } else {
                    rulesFault(cut + ";", 2, cut.length());
                }
            }
            for (String more : "0 a far sum when not bar sign ( )".split(" ")) {
                rulesFault(line + " " + more + ";", 2, line.length() + 1);
            }
            rulesFault(line + ";;", 2, line.length() + 1);
        }
    }

    /** No number is a name, whatever letters it could be kept as. */
    private static void numbersAreNoNames() {
        String ahead = "points 3;" + face("a", "1 2 3") + face("b", "1 2 3") + face("aa", "1 2 3") + face("z", "1 2 3");
        for (int i = 0; i <= 9999; i += i < 1100 ? 1 : 271) {
            townFault(ahead + "knows " + i + " b;", 2, ahead.length() + 6);
            townFault(ahead + "knows b " + i + ";", 2, ahead.length() + 8);
        }
        for (int i = 0; i <= 40; i++) {
            townFault("face " + i + " kind", 2, 5);
            rulesFault("sign " + i + " when 1;", 2, 5);
        }
    }

    // FAULTS: 1 no TOKEN
    private static void tokensSpoilt() {
        for (int[] token : tokensOf(TOWN)) {
            townFault(TOWN.substring(0, token[0]) + "?" + TOWN.substring(token[1]), 1, token[0]);
        }
        for (int[] token : tokensOf(RULES)) {
            rulesFault(RULES.substring(0, token[0]) + "?" + RULES.substring(token[1]), 1, token[0]);
        }
    }

    // points: 3 .. 8 measures in each row
    private static void pointsAndRows() {
        townFault("points 0;", 4, 7);
        townFault("points 2;", 4, 7);
        townFault("points 9;", 4, 7);
        townFault("points 9999;", 4, 7);
        for (int n = 3; n <= 8; n++) {
            String points = "points " + n + ";";
            String row = points + "face a kind 0 drift 0 row" + " 7".repeat(n);
            TwoFaces x = with(row + ";");
            due("points " + n, x.about(1), n);
            due("the last measure", x.face(0, n - 1, 0), 7);
            due("no more", x.face(0, n, 0), NONE);
            townFault(row.substring(0, row.length() - 2) + ";", 2, row.length() - 2);
            townFault(row + " 7;", 2, row.length() + 1);
            due("points " + n + " without faces", with(points).about(1), n);
        }
        due("points 03", with("points 0003;").about(1), 3);
    }

    // once, ahead of all faces (5 if it is not told ahead of the first one; then it can't be told) .. points too late or twice
    private static void pointsOnceAheadOfFaces() {
        townFault("points 3;points 3;", 2, 9);
        townFault("points 5;near 3;points 5;", 2, 16);
        townFault("points 3;points 9;", 2, 9);
        String untold = face("a", "1 2 3 4 5");
        due("five if not told", with(untold).about(1), 5);
        townFault(untold + "points 5;", 2, untold.length());
        townFault(untold + "points", 2, untold.length());
        townFault("points 5;" + untold + "points 5;", 2, 9 + untold.length());
        townFault(face("a", "1 2 3 4"), 2, 33);
        townFault(face("a", "1 2 3 4 5 6"), 2, 36);
        due("behind all but faces", with("near 3;" + printer(0, 0, 0) + "points 8;").about(1), 8);
        due("not told in another town", with("points 8;").about(1), 8);
        TwoFaces x = with("points 8;");
        due("another town", town(x, ""), 0);
        due("five again", x.about(1), 5);
    }

    // At most 16 FACES, numbered as told .. one of a sort too many .. at the line's first word
    private static void sixteenFaces() {
        TwoFaces x = with(faces(16));
        due("sixteen", x.about(0), 16);
        for (int i = 0; i < 16; i++) {
            due("numbered as told " + i, x.face(i, 0, 0), i);
        }
        due("no 17th", x.face(16, 0, 0), NONE);
        due("fifteen", with(faces(15)).face(15, 0, 0), NONE);
        int at = faces(16).length();
        townFault(faces(17), 2, at);
        townFault(faces(16) + "face", 2, at);
        townFault(faces(16) + "face a kind", 2, at);
        townFault(faces(16) + "face z kind 9", 2, at);
        townFault(faces(16) + "near 5;face z", 2, at + 7);
        townFault(faces(15) + "face a kind", 3, faces(15).length() + 5);
    }

    // (kind 0 .. 3, drift 0 .. 9, measures 0 .. 99)
    private static void numbersOfAFace() {
        TwoFaces x = with("points 3;" + face("a", 0, 0, "0 99 0") + face("b", 3, 9, "99 0 99"));
        due("least measures", x.face(0, 0, 0) + x.face(0, 2, 0) + x.face(1, 1, 0), 0);
        due("greatest measures", x.face(0, 1, 0) + x.face(1, 0, 0) + x.face(1, 2, 0), 297);
        due("kinds 0 and 3", x.measure(0, 3), 297);
        due("drift 0", x.face(0, 0, 60), 0);
        townFault("points 3;" + face("a", 4, 0, "0 99 0"), 4, 21);
        townFault("points 3;" + face("a", 9999, 0, "0 99 0"), 4, 21);
        townFault("points 3;" + face("a", 0, 10, "0 99 0"), 4, 29);
        townFault("points 3;" + face("a", 0, 0, "100 99 0"), 4, 35);
        townFault("points 3;" + face("a", 0, 0, "0 100 0"), 4, 37);
        townFault("points 3;" + face("a", 0, 0, "0 99 100"), 4, 40);
        townFault("points 3;" + face("a", 0, 0, "-1 99 0"), 1, 35);
        due("drift 9", with("points 3;" + face("a", 0, 9, "0 0 0")).face(0, 0, 60), 54);
        due("drift 1", with("points 3;" + face("a", 0, 1, "0 0 0")).face(0, 0, 60), 6);
        for (int kind = 0; kind < 4; kind++) {
            TwoFaces y = with("points 3;" + face("a", kind, 0, "1 2 3"));
            for (int other = 0; other < 4; other++) {
                due("kind " + kind + " or " + other, y.fair(0, 0, 0, other), other == kind ? 0 : NONE);
            }
        }
    }

    // 3 a NAME told already
    private static void namesToldAlready() {
        String ahead = "points 3;" + face("a", "1 2 3") + face("b", "1 2 3") + face("c", "1 2 3");
        for (String name : "a b c".split(" ")) {
            townFault(ahead + face(name, "1 2 3"), 3, ahead.length() + 5);
        }
        townStands(ahead + face("ab", "1 2 3"), 4);
        String signs = "sign a when 1;sign b when 1;sign c when 1;";
        for (String name : "a b c".split(" ")) {
            rulesFault(signs + "sign " + name + " when 1;", 3, signs.length() + 5);
        }
        rulesStand(signs + "sign d when 1;", 4);
        // A name of rules that are gone, or of a text with a fault, is not told.
        TwoFaces x = with(far(5), signs);
        due("the same names again", rules(x, signs), 3);
        due("a fault", rules(x, "sign x when 1;sign x when 1;"), NONE);
        due("its names are free", rules(x, "sign x when 1;"), 1);
        due("a town again", town(x, far(5)), 2);
        due("a town with a fault", town(x, face("q", "1 2 3 4 5") + "?"), NONE);
        due("its names are free", town(x, face("q", "1 2 3 4 5")), 1);
    }

    private static String knows(int n) {
        StringBuilder text = new StringBuilder();
        int told = 0;
        for (char a = 'a'; a <= 'p' && told < n; a++) {
            for (char b = (char) (a + 1); b <= 'p' && told < n; b++) {
                text.append("knows ").append(told % 2 == 0 ? a : b).append(' ').append(told % 2 == 0 ? b : a).append(';');
                told++;
            }
        }
        return text.toString();
    }

    // 20 knows lines
    private static void twentyKnows() {
        for (int n : new int[] {0, 1, 19, 20}) {
            TwoFaces x = with(faces(16) + knows(n));
            due("pairs that know one another", x.about(7), n);
            due("the first of them", x.between(0, 1), n > 0 ? 1 : NONE);
            due("the 16th is of the second face", x.between(1, 2), n > 15 ? 1 : NONE);
            due("the 20th", x.between(1, 6), n > 19 ? 1 : n > 15 ? 2 : NONE);
        }
        String text = faces(16) + knows(20);
        townFault(faces(16) + knows(21), 2, text.length());
        townFault(text + "knows", 2, text.length());
        townFault(text + "knows a b;", 2, text.length());
        townFault(text + "knows z z;", 2, text.length());
        townFault(text + "near 3;knows", 2, text.length() + 7);
        townFault(faces(16) + knows(19) + "knows a b;", 3, (faces(16) + knows(19)).length() + 8);
        TwoFaces x = with(text);
        due("another town", town(x, faces(2)), 2);
        due("nobody knows another", x.about(7), 0);
        due("no way", x.between(0, 1), NONE);
    }

    // (of two FACES told ahead); 3 the second of knows like the first, or both told already (either way; at the second);
    // 5 a NAME that no FACE has (told ahead)
    private static void knowsOfTwoFacesToldAhead() {
        String a = "points 3;" + face("a", "1 2 3");
        String b = face("b", "1 2 3");
        townFault(a + "knows a b;" + b, 5, a.length() + 8);
        townFault(a + "knows b a;" + b, 5, a.length() + 6);
        townFault("knows a b;" + a + b, 5, 6);
        townFault(a + "knows b c;" + b, 5, a.length() + 6);
        townStands(a + b + "knows a b;", 2);
        townStands(a + b + "knows a b;" + face("c", "1 2 3") + "knows c a;", 3);
        townFault(a + "knows a a;", 3, a.length() + 8);
        townFault(a + "knows q q;", 5, a.length() + 6);
        townFault(a + b + "knows a b;knows a b;", 3, (a + b).length() + 18);
        townFault(a + b + "knows a b;knows b a;", 3, (a + b).length() + 18);
        townFault(a + b + "knows b a;knows a b;", 3, (a + b).length() + 18);
        townFault(a + b + "knows b a;knows b b;", 3, (a + b).length() + 18);
        // Being told through another one is not being told.
        townStands(a + b + face("c", "1 2 3") + "knows a b;knows b c;knows a c;", 3);
        TwoFaces x = with(a + b);
        due("what an earlier town told is not told", town(x, a + b + "knows a b;"), 2);
        due("nor what this one told", town(x, a + b + "knows a b;"), 2);
    }

    // PRINTERS 0 .. 3 (blurs 0 .. 9, costs 0 .. 99, each once; 0, 0 if not told) .. 3 a PRINTER told already
    private static void printersOnce() {
        townFault(printer(4, 0, 0), 4, 8);
        townFault(printer(9999, 0, 0), 4, 8);
        townFault(printer(0, 10, 0), 4, 16);
        townFault(printer(0, 0, 100), 4, 24);
        townStands(printer(0, 9, 99) + printer(3, 0, 0), 0);
        String all = printer(2, 1, 1) + printer(0, 2, 2) + printer(3, 3, 3) + printer(1, 4, 4);
        townStands(all, 0);
        for (int i = 0; i < 4; i++) {
            townFault(printer(i, 0, 0) + printer(i, 1, 1), 3, 34);
            townFault(all + printer(i, 0, 0), 3, all.length() + 8);
            townStands(all.replace("printer " + i + " ", "near 7;printer " + i + " "), 0);
        }
        townFault(all + printer(4, 0, 0), 4, all.length() + 8);
        TwoFaces x = with(all);
        due("what an earlier town told is not told", town(x, all), 0);
        TwoFaces y = with("points 3;" + face("a", "19 19 19") + face("b", "19 19 19") + printer(1, 9, 99) + printer(3, 0, 0));
        due("blurs 9", y.mix(0, 1, 5, 1, 0), 10);
        due("blurs 0", y.mix(0, 1, 5, 3, 0), 19);
        due("not told: 0", y.mix(0, 1, 5, 0, 0), 19);
        due("not told: 2", y.mix(0, 1, 5, 2, 0), 19);
        rules(y, "sign s when 1;");
        y.paper(0, 1, 5, 0);
        y.paper(0, 1, 5, 10);
        y.paper(0, 1, 5, 20);
        y.paper(0, 1, 5, 30);
        due("costs 99", y.looks(99, 0, 0), 15);
        due("no less", y.looks(98, 0, 0), 13);
        due("costs 0", y.looks(0, 1, 0), 3);
    }

    // near once (0 .. 800; 20) .. near twice: at the line's first word
    private static void nearOnce() {
        due("0", with("near 0;").about(8), 0);
        due("800", with("near 800;").about(8), 800);
        due("20 if not told", with("points 3;").about(8), 20);
        townFault("near 801;", 4, 5);
        townFault("near 9999;", 4, 5);
        townFault("near 3;near 3;", 2, 7);
        townFault("near 20;points 3;near", 2, 17);
        townStands("near 3;" + face("a", "1 2 3 4 5"), 1);
        TwoFaces x = with("near 800;");
        due("another town", town(x, ""), 0);
        due("20 again", x.about(8), 20);
        due("not twice in two towns", town(x, "near 3;"), 0);
    }

    // bar once .. 2 (a second bar .. at the line's first word)
    private static void oneBar() {
        rulesStand("", 0);
        rulesStand("bar 1;", 1);
        rulesFault("bar 1;bar 1;", 2, 6);
        rulesFault("bar 1;sign s when 1;bar", 2, 20);
        rulesFault("bar 1;\n bar 1;", 2, 8);
        TwoFaces x = with(far(5), "bar 0;");
        due("another text has its own", rules(x, "bar 1;"), 1);
        due("that is the bar", x.passes(0, 0, 0, 0), 1);
    }

    private static String signs(int n) {
        StringBuilder text = new StringBuilder();
        for (int i = 0; i < n; i++) {
            text.append("sign ").append((char) ('a' + i)).append(" when ").append(i % 2).append(';');
        }
        return text.toString();
    }

    // 6 SIGNS at most, numbered as told .. a 7th SIGN: at the line's first word
    private static void sixSigns() {
        for (int n = 0; n <= 6; n++) {
            TwoFaces x = with(far(5));
            due("lines", rules(x, signs(n)), n);
            due("signs", x.about(2), n);
            due("their bits", x.signs(0, 1, 5, -1), 42 & (1 << n) - 1);
        }
        rulesFault(signs(7), 2, signs(6).length());
        rulesFault(signs(6) + "sign", 2, signs(6).length());
        rulesFault(signs(6) + "sign a", 2, signs(6).length());
        rulesFault(signs(6) + "bar 1;sign ?", 2, signs(6).length() + 6);
        rulesStand(signs(6) + "bar 1;", 7);
        rulesStand("bar 1;" + signs(6), 7);
        TwoFaces x = with(far(5), "sign a when 0;bar 0;sign b when 1;sign c when 0;sign d when 9;");
        due("a bar between them is none", x.signs(0, 1, 5, -1), 2 + 8);
    }

    // at N: a measure that there is (4)
    private static void measuresThatThereAre() {
        for (int n = 3; n <= 8; n++) {
            rulesStand(n, "sign s when at 0;", 1);
            rulesStand(n, "sign s when at " + (n - 1) + ";", 1);
            rulesFault(n, "sign s when at " + n + ";", 4, 15);
            rulesFault(n, "sign s when at 9999;", 4, 15);
            TwoFaces x = with(far(n).replace("99;", "98;"), "sign s when at " + (n - 1) + " = 98;sign t when at " + (n - 2) + " = 99;");
            due("which they are", x.signs(0, 1, 0, -1), 3);
        }
        rulesStand(5, "sign s when at 0004;", 1);
        rulesFault(5, "sign s when at -1;", 2, 15);
        rulesFault(5, "sign s when at (1);", 2, 15);
        rulesFault(5, "sign s when at at 1;", 2, 15);
    }

    // 40 units in all .. a 41st unit .. at its first TOKEN
    private static void fortyUnits() {
        String forty = "bar 1" + "+1".repeat(39);
        rulesStand(forty + ";", 1);
        for (String unit : "1 far kind years light ( (1)".split(" ")) {
            rulesFault(forty + "+" + unit, 2, forty.length() + 1);
            rulesFault(forty + "* " + unit, 2, forty.length() + 2);
            rulesFault(forty + " or " + unit, 2, forty.length() + 4);
            rulesFault(forty + " and not " + unit, 2, forty.length() + 9);
        }
        String signs = "sign s when 1" + "+1".repeat(39);
        rulesStand(signs + ";", 1);
        for (String unit : "1 sum edge most least at (".split(" ")) {
            rulesFault(signs + "+" + unit, 2, signs.length() + 1);
        }
        for (String act : "+ - * < > =".split(" ")) {
            rulesFault(forty + act + "1;", 2, forty.length() + 1);
        }
        for (String act : "or and + - *".split(" ")) {
            TwoFaces x = with(far(5), "bar 1" + (" " + act + " 1").repeat(39) + ";");
            due("forty by " + act, x.about(6), 40);
            rulesFault("bar 1" + (" " + act + " 1").repeat(40) + ";", 2, 4 + 40 * (3 + act.length()));
        }
        // They are counted over all lines.
        String lines = "bar 1" + "+1".repeat(9) + ";sign a when 1" + "+1".repeat(9) + ";sign b when 1" + "+1".repeat(19) + ";";
        rulesStand(lines, 3);
        rulesFault(lines + "sign c when 1;", 2, lines.length() + 12);
        rulesFault(lines + "sign c when at 9;", 2, lines.length() + 12);
        // A unit ( e ) is one ahead of those inside it.
        rulesStand("bar (1" + "+1".repeat(38) + ");", 1);
        rulesFault("bar (1" + "+1".repeat(39) + ");", 2, 5 + 2 * 39);
        rulesFault("bar (1" + "+1".repeat(38) + ")+1;", 2, 6 + 2 * 38 + 2);
        // not, and, or and the signs are none.
        rulesStand("bar not not 1" + " and not 1".repeat(39) + ";", 1);
        // A unit is counted anew in each text.
        TwoFaces x = with(far(5), forty + ";");
        due("forty again", rules(x, forty + ";"), 1);
        due("a 41st", rules(x, forty + "+1;"), NONE);
        due("forty once more", rules(x, forty + ";"), 1);
    }

    // a unit ( e ), or a one behind not, within 6 others at most .. what is within 7 others: at its first TOKEN, or the not
    private static void withinSixOthers() {
        for (int nots = 0; nots <= 7; nots++) {
            String open = "not ".repeat(nots) + "(".repeat(7 - nots);
            String close = ")".repeat(7 - nots) + ";";
            for (String line : new String[] {"bar ", "sign s when "}) {
                String unit = line.equals("bar ") ? "far" : "at 1";
                String seven = line + open;
                rulesStand(seven + unit + close, 1);
                rulesStand(seven + unit + "*2" + close, 1);
                rulesFault(seven + "(" + unit + ")" + close, 2, seven.length());
                rulesFault(seven + "not " + unit + close, 2, seven.length());
                rulesFault(seven + unit + "+(" + unit + ")" + close, 2, (seven + unit).length() + 1);
                rulesFault(seven + "( ?", 2, seven.length());
                rulesFault(seven + "not ?", 2, seven.length());
                rulesFault(seven + "?", 1, seven.length());
                String six = line + "not ".repeat(Math.min(nots, 6)) + "(".repeat(6 - Math.min(nots, 6));
                String closeSix = ")".repeat(6 - Math.min(nots, 6)) + ";";
                rulesStand(six + "(" + unit + ")" + closeSix, 1);
                rulesStand(six + "not " + unit + closeSix, 1);
            }
        }
        String mixed = "bar (not (not (not ";
        rulesStand(mixed + "(1))));", 1);
        rulesStand(mixed + "not 1)));", 1);
        rulesFault(mixed + "((1", 2, mixed.length() + 1);
        rulesFault(mixed + "(not 1", 2, mixed.length() + 1);
        rulesFault(mixed + "not (1", 2, mixed.length() + 4);
        rulesFault(mixed + "not not 1", 2, mixed.length() + 4);
        // What stands beside others is not within them.
        rulesStand("bar " + "(1)*".repeat(19) + "(1);", 1);
        rulesStand("bar not 1" + " or not 1".repeat(20) + ";", 1);
        rulesStand("bar (((((((1)))))))+(((((((1)))))));", 1);
        rulesStand("bar not not not not not not not 1 and (((((((1)))))));", 1);
        // A not takes one, so that what is behind it by and, or is not within it.
        rulesStand("bar ((((((not 1 and not 1 or not 1))))));", 1);
        // But both sides of its relation are.
        rulesFault("bar ((((((not 1 < (1)))))));", 2, 4 + 6 + 8);
    }

    // unit = .. in a bar: far | kind | years | light | in a sign: sum | edge | most | least | at N
    private static void valuesOfABarAndOfASign() {
        for (String word : RESERVED.split(" ")) {
            boolean ofBar = List.of("far", "kind", "years", "light").contains(word);
            boolean ofSign = List.of("sum", "edge", "most", "least").contains(word);
            if (ofBar) {
                rulesStand("bar " + word + ";", 1);
            } else if (!word.equals("not")) {
                rulesFault("bar " + word + ";", 2, 4);
            }
            if (ofSign) {
                rulesStand("sign s when " + word + ";", 1);
            } else if (!word.equals("not") && !word.equals("at")) {
                rulesFault("sign s when " + word + ";", 2, 12);
            }
        }
        rulesFault("bar a;", 2, 4);
        rulesFault("bar ;", 2, 4);
        rulesFault("sign s when a;", 2, 12);
        rulesFault("bar not ;", 2, 8);
        rulesFault("sign s when at ;", 2, 15);
        rulesFault("bar 1;sign s when far;", 2, 18);
        rulesFault("sign s when 1;bar sum;", 2, 18);
    }

    // one = not one | sum [(< | > | =) sum]
    private static void oneRelation() {
        for (char act : "<>=".toCharArray()) {
            rulesStand("bar 1 " + act + " 2;", 1);
            for (char other : "<>=".toCharArray()) {
                rulesFault("bar 1 " + act + " 2 " + other + " 3;", 2, 10);
                rulesFault("bar 1 " + act + other + " 3;", 2, 7);
                rulesStand("bar (1 " + act + " 2) " + other + " 3;", 1);
                rulesStand("bar 1 " + act + " 2 and 2 " + other + " 3 or 2 " + other + " 3;", 1);
            }
            rulesFault("bar 1 " + act + ";", 2, 7);
            rulesFault("bar " + act + " 1;", 2, 4);
            rulesFault("bar 1 " + act + " not 1;", 2, 8);
        }
        for (String act : "+ - * and or".split(" ")) {
            rulesFault("bar " + act + " 1;", 2, 4);
            rulesFault("bar 1 " + act + ";", 2, 6 + act.length());
            rulesFault("bar 1 " + act + " " + act + " 1;", 2, 7 + act.length());
        }
        rulesFault("bar 1 not 1;", 2, 6);
        rulesFault("bar 1 * not 1;", 2, 8);
        rulesFault("bar 1 (2);", 2, 6);
        rulesFault("bar (1)(2);", 2, 7);
        rulesFault("bar (1;", 2, 6);
        rulesFault("bar 1);", 2, 5);
        rulesFault("bar ();", 2, 5);
        rulesFault("bar (1 or);", 2, 9);
    }

    // about 6: units of RULES
    private static void unitsOfRules() {
        TwoFaces x = with(far(5), RULES);
        // far, 30, ( e ), kind, 1, years, 2, 4, light; at 1, sum, edge, most, least.
        due("units", x.about(6), 14);
        due("a fault behind three", rules(x, "bar 1+1+1 1;"), NONE);
        due("they stay", x.about(6), 14);
        due("none", rules(x, ""), 0);
        due("without rules", x.about(6), 0);
    }
}
