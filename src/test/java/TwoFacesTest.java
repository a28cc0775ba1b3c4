/** At least one test for each promise of ../shared/DOC.md: what is ordinary, the edges, and what is wrong. */
public final class TwoFacesTest extends Checks {
    private static final String THREE = "points 3;face a kind 0 drift 0 row 10 20 30;face b kind 1 drift 5 row 20 20 50;"
        + "face c kind 1 drift 0 row 90 90 90;knows a b;printer 1 blurs 9 costs 4;printer 2 blurs 0 costs 3;near 5;";

    public static void main(String[] args) {
        newObject();
        feedAndEnd();
        townReads();
        townFaults();
        townFaultsOfCounts();
        townKeepsOrClears();
        rulesRead();
        rulesFaults();
        rulesUnitsAndDepth();
        rulesValues();
        signValues();
        faults();
        measures();
        gates();
        mixes();
        ablePairs();
        gatesCount();
        untilHeld();
        signsAndCaught();
        papersAndTimes();
        behindPapers();
        behindIsTold();
        ringsHang();
        knowing();
        looksAtPrinters();
        plainBars();
        fairBars();
        measureOfKinds();
        boxes();
        abouts();
        tellAndExit();
    }

    private static String times(String text, int n) {
        return text.repeat(n);
    }

    private static void newObject() {
        TwoFaces x = new TwoFaces();
        int[] abouts = {0, 5, 0, 0, 0, 0, 0, 0, 20};
        for (int i = 0; i < abouts.length; i++) {
            due("new: about(" + i + ")", x.about(i), abouts[i]);
        }
        due("NONE", TwoFaces.NONE, -1);
        due("new: pairs", x.pairs(0, 0), 0);
        due("new: twins", x.twins(0, 0), 0);
        due("new: gate", x.gate(0, -1, 0, 0) + x.gate(1, -1, 0, 0), 0);
        due("new: caught", x.caught(-1, 0), NONE);
        due("new: between", x.between(0, 0), NONE);
        due("new: far", x.far(0, 0, 0, 0), NONE);
        due("new: bestBar", x.bestBar(1, 1, 0, 0), 0);
        due("new: fault", x.fault(0), 0);
        due("new: place of fault", x.fault(1), NONE);
        due("new: rules()", x.rules(), 0);
        due("new: town()", x.town(), 0);
    }

    private static void feedAndEnd() {
        TwoFaces x = new TwoFaces();
        for (int i = 1; i <= 80; i++) {
            due("feed " + i, x.feed(0x20202020, 0x20202020, 0x20202020, 0x20202020, 0x20202020), 20 * i);
        }
        due("feed 81", x.feed(0, 0, 0, 0, 0), NONE);
        due("tape stays", x.about(5), 1600);
        due("end 1581", x.end(1581), 1581);
        due("feed at 1581", x.feed(0, 0, 0, 0, 0), NONE);
        due("end 1580", x.end(1580), 1580);
        due("end behind the tape", x.end(1581), NONE);
        due("end -1", x.end(-1), NONE);
        due("end of the least int", x.end(Integer.MIN_VALUE), NONE);
        due("end does nothing then", x.about(5), 1580);
        due("feed at 1580", x.feed(0x20202020, 0x20202020, 0x20202020, 0x20202020, 0x20202020), 1600);
        due("blanks are a town", x.town(), 0);
        due("tape empty", x.about(5), 0);
        // The highest byte of each number comes first: "near 7;near 8;......" is near told twice at 7.
        due("feed bytes", x.feed(0x6e656172, 0x20373b6e, 0x65617220, 0x383b2020, 0x20202020), 20);
        due("bytes in order", x.town(), NONE);
        due("sort", x.fault(0), 2);
        due("place", x.fault(1), 7);
        due("feed bytes again", x.feed(0x6e656172, 0x20373b6e, 0x65617220, 0x383b2020, 0xff202020), 20);
        due("end keeps the first", x.end(7), 7);
        due("end again", x.end(0x7), 7);
        due("cut town", x.town(), 0);
        due("near", x.about(8), 7);
        x.feed(1, 2, 3, 4, 5);
        due("end 0", x.end(0), 0);
        // What was cut off is not looked at: "near 7" of "near 7abc".
        put(x, "near 7abc");
        x.end(6);
        due("cut behind a number", x.town(), NONE);
        due("it ends there", x.fault(0) * 100 + x.fault(1), 206);
        due("nothing on it", x.about(5), 0);
    }

    private static void townReads() {
        TwoFaces x = new TwoFaces();
        due("town", town(x, THREE), 3);
        due("points", x.about(1), 3);
        due("knows", x.about(7), 1);
        due("near", x.about(8), 5);
        due("fault", x.fault(0), 0);
        due("close together", town(x, "points3;face a kind0 drift0 row1 2 3;face\nb kind\n1 drift 2 row 4 5 6 ; \n"), 2);
        due("row", x.face(1, 2, 0), 6);
        due("points untold", town(x, "face a kind 3 drift 9 row 0 99 0099 5 6;"), 1);
        due("five measures", x.about(1), 5);
        due("leading zeros", x.face(0, 2, 0), 99);
        due("points behind others", town(x, "near 0;printer 0 blurs 9 costs 99;points 8;face a kind 0 drift 0 row 1 2 3 4 5 6 7 8;"), 1);
        due("eight", x.about(1), 8);
        due("near 800", town(x, "near 800;"), 0);
        due("near told", x.about(8), 800);
        due("near untold again", town(x, ""), 0);
        due("near 20", x.about(8), 20);
        due("points 5 again", x.about(1), 5);
        due("sixteen faces", town(x, faces(16)), 16);
        due("a name of 8", town(x, "face abcdefgh kind 0 drift 0 row 1 1 1 1 1;"), 1);
        due("all letters", town(x, "face abyz kind 0 drift 0 row 1 1 1 1 1;face zzzzzzzz kind 0 drift 0 row 1 1 1 1 1;knows abyz zzzzzzzz;"), 2);
        due("names that begin alike", town(x, "points 3;face a kind 0 drift 0 row 1 1 1;face aa kind 0 drift 0 row 1 1 1;face fac kind 0 drift 0 row 1 1 1;face facee kind 0 drift 0 row 1 1 1;"), 4);
    }

    private static void townFaults() {
        townFault("?", 1, 0);
        townFault("points A", 1, 7);
        townFault("points 3x;", 1, 7);
        townFault("points 00003;", 1, 7);
        townFault("points 3;face abcdefghi kind", 1, 14);
        townFault("pointsss 3;", 2, 0);
        townFault("pointssss 3;", 1, 0);
        townFault("near\t3;", 1, 4);
        townFault("near\r3;", 1, 4);
        townFault("near (3);", 1, 5);
        townFault("near 3;" + (char) 0, 1, 7);
        townFault("near 3;" + (char) 233, 1, 7);
        townFault("near", 2, 4);
        townFault("near 3", 2, 6);
        townFault("near 3 \n ", 2, 9);
        townFault(";", 2, 0);
        townFault("3", 2, 0);
        townFault("bar far;", 2, 0);
        townFault("near ;", 2, 5);
        townFault("near x;", 2, 5);
        townFault("near 3 4;", 2, 7);
        townFault("near 801;", 4, 5);
        townFault("points 2;", 4, 7);
        townFault("points 9;", 4, 7);
        townFault("points 3;points 3;", 2, 9);
        townFault("near 3;near 3;", 2, 7);
        townFault("points 3;face a kind 0 drift 0 row 1 2 3;points 3;", 2, 41);
        townFault("face a kind 0 drift 0 row 1 2 3 4 5;points 5;", 2, 36);
        townFault("face face kind", 2, 5);
        townFault("face not kind", 2, 5);
        townFault("face 5 kind", 2, 5);
        townFault("face a drift", 2, 7);
        townFault("face a kind 4 drift", 4, 12);
        townFault("face a kind 3 drift 10 row", 4, 20);
        townFault("face a kind 3 drift 9 row 100", 4, 26);
        townFault("points 3;face a kind 3 drift 9 row 1 2;", 2, 38);
        townFault("points 3;face a kind 3 drift 9 row 1 2 3 4;", 2, 41);
        townFault("points 3;face a kind 3 drift 9 row 1 2 3 400000;", 1, 41);
        townFault("points 3;face a kind 3 drift 9 row 1 2 3;face a kind", 3, 46);
        townFault("printer 4 blurs", 4, 8);
        townFault("printer 0 blurs 10 costs", 4, 16);
        townFault("printer 0 blurs 9 costs 100;", 4, 24);
        townFault("printer 0 blurs 9;", 2, 17);
        townFault("printer 0 blurs 0 costs 0;printer 0 blurs", 3, 34);
        townFault("printer 0 blurs 0 costs 0;printer 5 blurs", 4, 34);
        townFault("knows", 2, 5);
        townFault("knows a", 5, 6);
        townFault("knows kind a", 2, 6);
        townFault(THREE + "knows d a;", 5, THREE.length() + 6);
        townFault(THREE + "knows a d;", 5, THREE.length() + 8);
        townFault(THREE + "knows a;", 2, THREE.length() + 7);
        townFault(THREE + "knows c c;", 3, THREE.length() + 8);
        townFault(THREE + "knows a b;", 3, THREE.length() + 8);
        townFault(THREE + "knows b a;", 3, THREE.length() + 8);
        townFault(THREE + "knows b c", 2, THREE.length() + 9);
        townFault("points 3;face a kind 0 drift 0 row 1 2 3;knows a b;face b kind 0 drift 0 row 1 2 3;", 5, 49);
        String[] reserved = "points face kind drift row knows printer blurs costs near bar sign when far years light sum edge most least at and or not".split(" ");
        for (String word : reserved) {
            townFault("face " + word + " kind 0 drift 0 row 1 1 1 1 1;", 2, 5);
        }
    }

    private static void townFaultsOfCounts() {
        townFault(faces(16) + "face a", 2, faces(16).length());
        StringBuilder text = new StringBuilder(faces(8));
        int told = 0;
        for (int a = 0; a < 8 && told < 20; a++) {
            for (int b = a + 1; b < 8 && told < 20; b++) {
                text.append("knows ").append((char) ('a' + b)).append(' ').append((char) ('a' + a)).append(';');
                told++;
            }
        }
        due("20 knows", with(text.toString()).about(7), 20);
        townFault(text + "knows z z;", 2, text.length());
        due("all printers", town(new TwoFaces(), "printer 3 blurs 0 costs 0;printer 2 blurs 0 costs 0;printer 1 blurs 0 costs 0;printer 0 blurs 0 costs 0;"), 0);
    }

    private static void townKeepsOrClears() {
        TwoFaces x = with(THREE, "bar far < 20;sign s when 1;");
        x.paper(0, 1, 5, 120);
        x.later(7);
        x.image(2);
        due("a town with a fault", town(x, "points 4;face q kind 0 drift 0 row 9 9 9 9;near;"), NONE);
        due("faces stay", x.about(0), 3);
        due("points stay", x.about(1), 3);
        due("rows stay", x.face(0, 1, 0), 20);
        due("near stays", x.about(8), 5);
        due("knows stay", x.about(7), 1);
        due("signs stay", x.about(2), 1);
        due("papers stay", x.about(3), 1);
        due("boxes stay", x.back(2), 1);
        due("printers stay", x.mix(0, 1, 5, 1, 0), 10);
        due("another town", town(x, THREE), 3);
        due("no signs", x.about(2), 0);
        due("no units", x.about(6), 0);
        due("no papers", x.about(3), 0);
        due("no boxes", x.back(2), NONE);
        due("the time stays", x.about(4), 7);
        due("no bar", x.passes(0, 1, 0, 0), 1);
        due("a town without printers", town(x, "points 3;face a kind 0 drift 0 row 19 20 30;face b kind 1 drift 5 row 19 20 50;"), 2);
        due("no blur", x.mix(0, 1, 5, 1, 0), 19);
        town(x, "printer 0 blurs 9 costs 99;");
        due("a town without printers again", town(x, "points 3;face a kind 0 drift 0 row 19 20 30;face b kind 1 drift 5 row 19 20 50;"), 2);
        due("no blur of 0", x.mix(0, 1, 5, 0, 0), 19);
        rules(x, "sign s when 1;");
        x.paper(0, 1, 5, 0);
        x.paper(0, 1, 5, 30);
        due("printers that are not told cost nothing", x.looks(0, 0, 7) * 10 + x.looks(0, 1, 7), 92);
        due("nobody knows", x.between(0, 1), NONE);
    }

    private static void rulesRead() {
        TwoFaces x = with(THREE);
        due("no rules", rules(x, " \n"), 0);
        due("a bar", rules(x, "bar far;"), 1);
        due("seven lines", rules(x, "sign a when 1;sign b when 1;bar 1;sign c when 1;sign d when 1;sign e when 1;sign f when sum;"), 7);
        due("six signs", x.about(2), 6);
        due("seven units", x.about(6), 7);
        due("a fault", rules(x, "sign a when 1;sign"), NONE);
        due("those there are stay", x.about(2), 6);
        due("their units stay", x.about(6), 7);
        due("tape empty", x.about(5), 0);
        due("801 bytes", rules(x, "?" + times(" ", 800)), -2);
        due("fault of the latest that was not -2", x.fault(0), 2);
        due("its place", x.fault(1), 18);
        due("tape stays", x.about(5), 801);
        due("800 bytes", x.end(800), 800);
        due("rules of 800", x.rules(), NONE);
        due("now a fault", x.fault(0), 1);
        due("800 blanks", rules(x, times(" ", 800)), 0);
        due("rules are none now", x.about(2), 0);
        due("no fault now", x.fault(0), 0);
        due("no place now", x.fault(1), NONE);
        due("a long one", rules(x, "bar " + times("not ", 7) + times(" ", 700) + "1 ;"), 1);
    }

    private static void rulesFaults() {
        rulesFault("?", 1, 0);
        rulesFault("bar 12a;", 1, 4);
        rulesFault("bar 12345;", 1, 4);
        rulesFault("bar far far;", 2, 8);
        rulesFault("bar", 2, 3);
        rulesFault("bar far", 2, 7);
        rulesFault("near 3;", 2, 0);
        rulesFault("bar 1;bar", 2, 6);
        rulesFault("bar sum;", 2, 4);
        rulesFault("bar edge;", 2, 4);
        rulesFault("bar most;", 2, 4);
        rulesFault("bar least;", 2, 4);
        rulesFault("bar at 1;", 2, 4);
        rulesFault("bar x;", 2, 4);
        rulesFault("sign s when far;", 2, 12);
        rulesFault("sign s when kind;", 2, 12);
        rulesFault("sign s when years;", 2, 12);
        rulesFault("sign s when light;", 2, 12);
        rulesFault("sign s 1;", 2, 7);
        rulesFault("sign sum when 1;", 2, 5);
        rulesFault("sign 1 when 1;", 2, 5);
        rulesFault("sign s when at 3;", 4, 15);
        rulesFault("sign s when at;", 2, 14);
        rulesFault("sign s when at sum;", 2, 15);
        rulesFault("sign s when 1;sign s when", 3, 19);
        rulesFault("bar ();", 2, 5);
        rulesFault("bar (1;", 2, 6);
        rulesFault("bar 1);", 2, 5);
        rulesFault("bar 1<2<3;", 2, 7);
        rulesFault("bar 1+;", 2, 6);
        rulesFault("bar -1;", 2, 4);
        rulesFault("bar 1 + not 1;", 2, 8);
        rulesFault("bar 1 and;", 2, 9);
        rulesFault("bar 1 or or;", 2, 9);
        rulesFault("bar not;", 2, 7);
        rulesFault("bar 1 = not 1;", 2, 8);
        rulesFault("sign s when 1 or at 9;", 4, 20);
        rulesFault("sign s when 1 and at 9;", 4, 21);
        rulesFault("sign s when 1 < at 9;", 4, 19);
        rulesFault("sign s when 1 + at 9;", 4, 19);
        rulesFault("sign s when 1 * at 9;", 4, 19);
        rulesFault("sign s when not at 9;", 4, 19);
        rulesFault("sign s when (at 9;", 4, 16);
        rulesFault("sign s when at 2a;", 1, 15);
        String six = "";
        for (int i = 0; i < 6; i++) {
            six += "sign " + (char) ('a' + i) + " when 1;";
        }
        rulesFault(six + "sign a", 2, six.length());
        TwoFaces wide = with(faces(2));
        due("at 4 of five", rules(wide, "sign a when at 4;"), 1);
        due("at 5 of five", rules(wide, "sign a when at 5;"), NONE);
        due("sort", wide.fault(0), 4);
        due("signs may be called as faces", rules(wide, "sign a when 1;sign b when 1;"), 2);
    }

    private static void rulesUnitsAndDepth() {
        TwoFaces x = with(THREE);
        due("40 units", rules(x, "bar 1" + times("+1", 39) + ";"), 1);
        due("40 of them", x.about(6), 40);
        due("40 in two lines", rules(x, "bar 1" + times("*1", 19) + ";sign s when at 1" + times(" and at 1", 19) + ";"), 2);
        due("40 of them", x.about(6), 40);
        due("( e ) is one, too", rules(x, "bar ( 1 ) + ( ( far ) );"), 1);
        due("five of them", x.about(6), 5);
        rulesFault("bar 1" + times("+1", 39) + "+(", 2, 84);
        rulesFault("bar 1" + times("+1", 39) + "+far", 2, 84);
        rulesFault("bar 1" + times("+1", 39) + " or not 1", 2, 91);
        rulesFault("sign s when sum" + times("+1", 39) + "+at 7", 2, 94);
        rulesFault("bar (1" + times("+1", 38) + ")+1;", 2, 84);
        rulesFault("bar 1" + times("+1", 38) + ";sign s when 1;sign t when 1;", 2, 108);
        due("7 deep", rules(x, "bar " + times("(", 7) + "1" + times(")", 7) + ";"), 1);
        due("7 deep in a sign", rules(x, "sign s when " + times("(", 7) + "1" + times(")", 7) + ";"), 1);
        due("7 nots", rules(x, "bar " + times("not ", 7) + "far < 5;"), 1);
        due("7 both ways", rules(x, "bar not (not (not (not far)));"), 1);
        due("beside one another 7 deep", rules(x, "bar " + times("(", 6) + "(1)+(2)*(3)" + times(")", 6) + ";"), 1);
        due("nots beside one another 7 deep", rules(x, "bar " + times("(", 6) + "not 1 and not 2 or not (not" + ";"), NONE);
        due("the one too deep", x.fault(1), 33);
        rulesFault("bar " + times("(", 8) + "1", 2, 11);
        rulesFault("bar " + times("not ", 8) + "1", 2, 32);
        rulesFault("bar " + times("not(", 3) + "not not", 2, 4 + 15 + 1);
        rulesFault("bar " + times("not(", 3) + "not (1", 2, 4 + 16);
    }

    /** What an e of a bar is, not 0 or 0, told by face a of kind 3 whose picture is 0 FAR, in YEAR 6 by LIGHT 2. */
    private static void bar(String e, boolean want) {
        TwoFaces x = with("points 3;face a kind 3 drift 0 row 10 20 30;");
        due("rules bar " + e, rules(x, "bar " + e + ";"), 1);
        due("bar " + e, x.passes(0, 0, 6, 2), want ? 1 : 0);
    }

    private static void rulesValues() {
        bar("far = 6", true);
        bar("far", true);
        bar("far - 6", false);
        bar("kind = 3", true);
        bar("years = 6", true);
        bar("light = 2", true);
        bar("0", false);
        bar("9999", true);
        bar("1 < 1", false);
        bar("0 < 1", true);
        bar("1 > 1", false);
        bar("2 > 1", true);
        bar("2 = 1", false);
        bar("1 + 2 * 3 = 7", true);
        bar("(1 + 2) * 3 = 9", true);
        bar("9 - 2 - 3 = 4", true);
        bar("9 - 2 + 3 = 10", true);
        bar("0 - 1 < 0", true);
        bar("0 - 1", true);
        bar("1 or 0 and 0", true);
        bar("(1 or 0) and 0", false);
        bar("0 and 0 or 1", true);
        bar("not 1 < 0", true);
        bar("not 5 - 5", true);
        bar("not 0 and 0", false);
        bar("not not 7 = 7", true);
        bar("(not not 7) = 1", true);
        bar("(not 7) = 0", true);
        bar("(5 and 7) = 1", true);
        bar("(5 or 7) = 1", true);
        bar("(0 or 7) = 1", true);
        bar("(0 or 0) = 0", true);
        bar("(0 - 5 and 7) = 1", true);
        bar("(5 and 0) = 0", true);
        bar("(3 < 5) + (4 = 4) + (2 > 1) = 3", true);
        bar("(5) = 5", true);
        bar("1 = 1 or 0 = 1", true);
        bar("1 < 2 and 2 < 3 and 3 < 4 or 0", true);
        int wrapped = 9999 * 9999 * 9999;
        bar("9999 * 9999 * 9999 < 0", wrapped < 0);
        bar("9999 * 9999 * 9999 - " + "9999 * 9999 * 9999", false);
        bar("9999 * 9999 * 21 + 9999 * 9999 * 21 > 0", 9999 * 9999 * 21 + 9999 * 9999 * 21 > 0);
        bar("9999 * 9999 * 30 < 0", 9999 * 9999 * 30 < 0);
        bar("9999 * 9999 * 25 < 0", 9999 * 9999 * 25 < 0);
        TwoFaces x = with(THREE, "sign s when 1;");
        due("without a bar 30", x.passes(0, 1, 0, 0), 1);
        x = with("points 3;face a kind 0 drift 0 row 0 0 0;face b kind 0 drift 0 row 0 0 39;face c kind 0 drift 0 row 0 0 40;");
        due("without a bar 39", x.passes(0, 1, 0, 0), 1);
        due("without a bar 40", x.passes(0, 2, 0, 0), 0);
        due("without a bar 41", x.passes(0, 2, 0, 1) + x.passes(2, 0, 0, 0), 0);
    }

    private static void sign(String e, boolean want) {
        TwoFaces x = with("points 4;face a kind 3 drift 0 row 10 40 30 20;face b kind 0 drift 0 row 9 9 9 9;", "sign x when 0;sign s when " + e + ";");
        due("sign " + e, x.signs(0, 1, 10, -1), want ? 2 : 0);
    }

    private static void signValues() {
        sign("sum = 100", true);
        sign("edge = 50", true);
        sign("most = 40", true);
        sign("least = 10", true);
        sign("at 0 = 10 and at 1 = 40 and at 2 = 30 and at 3 = 20", true);
        sign("at 0 - 10", false);
        sign("most - least = at 2", true);
        TwoFaces x = with("points 3;face a kind 0 drift 0 row 0 0 0;face b kind 0 drift 0 row 99 99 99;",
            "sign a when sum;sign b when edge;sign c when most;sign d when least;sign e when at 2 > 90;sign f when 1;");
        due("zeros", x.signs(0, 1, 10, -1), 32);
        due("nines", x.signs(0, 1, 0, -1), 1 + 4 + 8 + 16 + 32);
    }

    private static void faults() {
        TwoFaces x = new TwoFaces();
        due("another what", x.fault(2), NONE);
        due("another what below", x.fault(-1), NONE);
        town(x, "near 900;");
        due("of town", x.fault(0) * 100 + x.fault(1), 405);
        rules(x, "bar 1 1;");
        due("of rules", x.fault(0) * 100 + x.fault(1), 206);
        due("stays", x.fault(0) * 100 + x.fault(1), 206);
        town(x, "");
        due("none", x.fault(0), 0);
        due("no place", x.fault(1), NONE);
    }

    private static void measures() {
        TwoFaces x = with("points 4;face a kind 0 drift 7 row 50 50 95 3;face b kind 0 drift 0 row 1 2 3 4;");
        due("as told", x.face(0, 0, 0), 50);
        due("even, cut", x.face(0, 0, 9), 56);
        due("odd, cut", x.face(0, 1, 9), 44);
        due("year 1", x.face(0, 0, 1), 50);
        due("year 2", x.face(0, 1, 2), 49);
        due("year 60", x.face(0, 0, 60), 92);
        due("year 60 less", x.face(0, 1, 60), 8);
        due("not above 99", x.face(0, 2, 7), 99);
        due("not above 99 later", x.face(0, 2, 60), 99);
        due("not below 0", x.face(0, 3, 5), 0);
        due("not below 0 later", x.face(0, 3, 60), 0);
        due("year 61", x.face(0, 0, 61), NONE);
        due("year -1", x.face(0, 0, -1), NONE);
        due("measure 4", x.face(0, 4, 0), NONE);
        due("measure -1", x.face(0, -1, 0), NONE);
        due("face 2", x.face(2, 0, 0), NONE);
        due("face -1", x.face(-1, 0, 0), NONE);
        due("far", x.far(0, 0, 1, 0), 49 + 48 + 92 + 1);
        due("far in years", x.far(0, 10, 1, 60), 56 + 41 + 96 + 4);
        due("far in both years", x.far(0, 10, 0, 20), 7 + 7 + 0 + 0);
        due("far the other way", x.far(0, 20, 0, 10), 14);
        due("far of the same", x.far(1, 3, 1, 60), 0);
        due("far, wrong faces", x.far(2, 0, 0, 0) + x.far(0, 0, 2, 0) + x.far(-1, 0, 0, 0) + x.far(0, 0, -1, 0), 4 * NONE);
        due("far, wrong years", x.far(0, 61, 0, 0) + x.far(0, 0, 0, 61) + x.far(0, -1, 0, 0) + x.far(0, 0, 0, -1), 4 * NONE);
    }

    private static void gates() {
        TwoFaces x = with(THREE, "bar far < 20 and kind = 1 or far + years < 16;");
        due("30 far", x.passes(0, 1, 0, 0), 0);
        due("itself", x.passes(0, 0, 0, 0), 1);
        due("itself by light", x.passes(0, 0, 0, 5), 1 - 1 + (15 < 16 ? 1 : 0));
        due("itself by more light", x.passes(0, 0, 0, 6), 0);
        due("kind 1 by light 6", x.passes(1, 1, 0, 6), 1);
        due("kind 1 by light 7", x.passes(1, 1, 0, 7), 0);
        due("light is 99 at most", x.passes(2, 2, 0, 9), 0);
        due("a year more", x.passes(0, 0, 1, 5), 0);
        due("wrong faces", x.passes(3, 0, 0, 0) + x.passes(0, 3, 0, 0) + x.passes(-1, 0, 0, 0) + x.passes(0, -1, 0, 0), 4 * NONE);
        due("wrong years", x.passes(0, 0, 61, 0) + x.passes(0, 0, -1, 0), 2 * NONE);
        due("wrong lights", x.passes(0, 0, 0, 10) + x.passes(0, 0, 0, -1), 2 * NONE);
        TwoFaces y = with("points 3;face a kind 0 drift 9 row 95 5 0;", "bar far = 4 + 5 + 9;");
        due("99 at most", y.passes(0, 0, 60, 9) + y.passes(0, 0, 9, 9), 0);
        due("drift first, then light", rules(y, "bar far = 4 + 4 + 63;"), 1);
        due("year 60 by light 9", y.passes(0, 0, 60, 9), 1);
    }

    private static void mixes() {
        TwoFaces x = with("points 3;face a kind 0 drift 9 row 10 99 35;face b kind 1 drift 5 row 25 0 52;printer 1 blurs 9 costs 0;printer 2 blurs 6 costs 0;printer 0 blurs 1 costs 0;");
        due("share 5", x.mix(0, 1, 5, -1, 0), 17);
        due("share 3", x.mix(0, 1, 3, -1, 0), 20);
        due("share 3, 1", x.mix(0, 1, 3, -1, 1), 29);
        due("share 3, 2", x.mix(0, 1, 3, -1, 2), 46);
        due("share 0", x.mix(0, 1, 0, -1, 2), 52);
        due("share 10", x.mix(0, 1, 10, -1, 2), 35);
        due("the other way", x.mix(1, 0, 3, -1, 0), 14);
        due("printed by 0", x.mix(0, 1, 3, 0, 1), 28);
        due("printed by 1", x.mix(0, 1, 3, 1, 1), 20);
        due("printed by 2", x.mix(0, 1, 3, 2, 1), 28);
        due("printed by 3", x.mix(0, 1, 3, 3, 1), 29);
        due("both one", x.mix(0, 0, 5, -1, 0), NONE);
        due("wrong faces", x.mix(2, 0, 5, -1, 0) + x.mix(0, 2, 5, -1, 0) + x.mix(-1, 0, 5, -1, 0) + x.mix(0, -1, 5, -1, 0), 4 * NONE);
        due("wrong shares", x.mix(0, 1, 11, -1, 0) + x.mix(0, 1, -1, -1, 0), 2 * NONE);
        due("wrong printers", x.mix(0, 1, 1, -2, 0) + x.mix(0, 1, 1, 4, 0), 2 * NONE);
        due("wrong measures", x.mix(0, 1, 1, -1, 3) + x.mix(0, 1, 1, -1, -1), 2 * NONE);
    }

    private static void ablePairs() {
        TwoFaces x = with(THREE);
        due("both", x.both(0, 1, 5, 0, 0), 3);
        due("the first", with("points 3;face a kind 0 drift 0 row 0 0 0;face b kind 0 drift 0 row 40 0 0;").both(0, 1, 10, 0, 0), 1);
        due("the second", with("points 3;face a kind 0 drift 0 row 0 0 0;face b kind 0 drift 0 row 40 0 0;").both(0, 1, 0, 0, 0), 2);
        due("none", x.both(0, 2, 5, 0, 0), 0);
        due("both faces one", x.both(1, 1, 5, 0, 0), NONE);
        due("both wrong", x.both(0, 3, 5, 0, 0) + x.both(-1, 0, 5, 0, 0) + x.both(0, 1, 11, 0, 0) + x.both(0, 1, -1, 0, 0)
            + x.both(0, 1, 5, 61, 0) + x.both(0, 1, 5, -1, 0) + x.both(0, 1, 5, 0, 10) + x.both(0, 1, 5, 0, -1), 8 * NONE);
        due("both in a year", with(THREE, "bar far < 20 and kind = 1 or far + years < 16;").both(0, 1, 5, 1, 0), 2);
        due("able", x.able(0, 1, 0, 0), 5);
        due("not able", x.able(0, 2, 0, 0), NONE);
        due("the wrong way", x.able(1, 0, 0, 0), NONE);
        due("itself", x.able(1, 1, 0, 0), NONE);
        due("able wrong", x.able(0, 3, 0, 0) + x.able(-1, 1, 0, 0) + x.able(0, 1, 61, 0) + x.able(0, 1, 0, 10) + x.able(0, 1, -1, 0) + x.able(0, 1, 0, -1), 6 * NONE);
        // 0 and 5: s 4 gives 3 (2 and 3 away), s 6 gives 2 (3 and 2 away): 3 at most each, as from 4 to 6.
        TwoFaces y = with("points 3;face a kind 0 drift 0 row 0 0 0;face b kind 0 drift 0 row 5 0 0;");
        due("least s of like ones", y.able(0, 1, 0, 0), 3);
        rules(y, "bar far > 4;");
        due("no s lets both", y.able(0, 1, 0, 0), NONE);
        rules(y, "bar kind + 1 > far * 0 and (far = 0 or far = 5);");
        due("only the ends", y.able(0, 1, 0, 0), 0);
        due("a pair by s 0", y.pairs(0, 0), 1);
        y = with("points 3;face a kind 0 drift 0 row 0 0 0;face b kind 1 drift 0 row 50 0 0;", "bar far = 50 * kind;");
        due("s 10 only", y.able(0, 1, 0, 0), 10);
        due("a pair by s 10", y.pairs(0, 0), 1);
        due("which", y.pair(0, 0, 0), 1);
        y = with("points 3;face a kind 0 drift 0 row 0 0 0;face b kind 1 drift 0 row 50 0 0;", "bar far = 50 - 50 * kind;");
        due("s 0 only", y.able(0, 1, 0, 0), 0);
        due("a pair by s 0 only", y.pairs(0, 0), 1);
        rules(y, "bar 1;");
        due("able with none", y.able(-1, 1, 0, 0) + y.able(0, 2, 0, 0), 2 * NONE);
        TwoFaces z = with("points 3;face d kind 0 drift 0 row 0 0 0;face e kind 0 drift 0 row 99 0 0;face f kind 0 drift 0 row 10 0 0;face g kind 0 drift 0 row 90 0 0;");
        due("pairs", z.pairs(0, 0), 2);
        due("the first", z.pair(0, 0, 0), 2);
        due("the second", z.pair(1, 0, 0), 103);
        due("no third", z.pair(2, 0, 0), NONE);
        due("none below", z.pair(-1, 0, 0), NONE);
        due("pairs by a light", z.pairs(0, 9), 2);
        rules(z, "bar far < 1000;");
        due("all pairs", z.pairs(0, 0), 6);
        due("their order", z.pair(0, 0, 0) + 1000 * z.pair(1, 0, 0), 1 + 2000);
        due("their order, on", z.pair(2, 0, 0) + 1000 * z.pair(3, 0, 0), 3 + 102000);
        due("their order, last", z.pair(5, 0, 0), 203);
        rules(z, "bar years > 9 and light > 3;");
        due("by years and light", z.pairs(9, 4) + 100 * z.pairs(10, 3) + 10000 * z.pairs(10, 4), 60000);
        due("pairs wrong", z.pairs(61, 0) + z.pairs(-1, 0) + z.pairs(0, 10) + z.pairs(0, -1), 4 * NONE);
        due("pair wrong", z.pair(0, 61, 4) + z.pair(0, -1, 4) + z.pair(0, 10, 10) + z.pair(0, 10, -1), 4 * NONE);
    }

    private static void gatesCount() {
        TwoFaces x = with(THREE);
        due("false", x.gate(0, -1, 0, 0), 2);
        due("false of 0", x.gate(0, 0, 0, 0), 1);
        due("false of 1", x.gate(0, 1, 0, 0), 1);
        due("false of 3", x.gate(0, 3, 0, 0), 0);
        due("held", x.gate(1, -1, 0, 0), 0);
        due("held late", x.gate(1, -1, 30, 0), 1);
        due("held late of 0", x.gate(1, 0, 30, 0), 0);
        due("held late of 1", x.gate(1, 1, 30, 0), 1);
        due("wrong", x.gate(2, -1, 0, 0) + x.gate(-1, -1, 0, 0) + x.gate(0, -2, 0, 0) + x.gate(0, 4, 0, 0) + x.gate(0, 0, 61, 0)
            + x.gate(0, 0, -1, 0) + x.gate(0, 0, 0, 10) + x.gate(0, 0, 0, -1), 8 * NONE);
        due("twins", x.twins(0, 0), 1);
        rules(x, "bar kind = 1;");
        due("false of the first's kind", x.gate(0, 1, 0, 0), 4);
        due("none of kind 0", x.gate(0, 0, 0, 0), 0);
        due("held of kind 0", x.gate(1, 0, 0, 0), 1);
        due("twins both", x.twins(0, 0), 1);
        rules(x, "bar light = 4 and years = 60;");
        due("twins then", x.twins(60, 4), 3);
        due("no twins else", x.twins(59, 4) + x.twins(60, 3), 0);
        due("twins wrong", x.twins(61, 0) + x.twins(-1, 0) + x.twins(0, 10) + x.twins(0, -1), 4 * NONE);
    }

    private static void untilHeld() {
        TwoFaces x = with(THREE);
        due("never", x.until(0, 0), NONE);
        due("by light 9", x.until(1, 9), 22);
        due("wrong", x.until(3, 0) + x.until(-1, 0) + x.until(0, 10) + x.until(0, -1), 4 * NONE);
        rules(x, "bar years < 60;");
        due("the last year", x.until(0, 0), 60);
        rules(x, "bar years;");
        due("the first year", x.until(0, 0), 0);
        rules(x, "bar not years = 7 and not years = 9;");
        due("the first of them", x.until(0, 0), 7);
        rules(x, "bar 0;");
        due("none of them, held or not", x.until(3, 0) + x.until(-1, 0) + x.until(0, 10) + x.until(0, -1), 4 * NONE);
        rules(x, "bar light - 3 or years < 5;");
        due("by its light", x.until(0, 3), 5);
        due("by another", x.until(0, 4), NONE);
    }

    private static void signsAndCaught() {
        TwoFaces x = with(THREE, "sign x when edge < 25;sign y when at 2 > 35 and not least > 12;");
        due("not printed", x.signs(0, 1, 5, -1), 0);
        due("printed", x.signs(0, 1, 5, 1), 2);
        due("wrong", x.signs(0, 0, 5, 1) + x.signs(0, 3, 5, 1) + x.signs(-1, 0, 5, 1) + x.signs(0, 1, 11, 1) + x.signs(0, 1, -1, 1)
            + x.signs(0, 1, 5, 4) + x.signs(0, 1, 5, -2), 7 * NONE);
        TwoFaces y = with("points 3;face a kind 0 drift 0 row 0 0 0;face b kind 0 drift 0 row 90 0 0;printer 3 blurs 9 costs 1;");
        due("without signs, upper", y.caught(-1, 0), 0);
        due("without signs, lower", y.caught(-1, 1), 1);
        // The mixes by s 1 .. 9 have 81, 72, 63, 54, 45, 36, 27, 18, 9.
        rules(y, "sign s when at 0 > 30;");
        due("6 of 9, upper", y.caught(-1, 0), 2);
        due("6 of 9, lower", y.caught(-1, 1), 3);
        due("5 of 9, upper", y.caught(3, 0), 5);
        due("5 of 9, lower", y.caught(3, 1), 9);
        rules(y, "sign s when at 0 > 50;sign t when at 0 > 70;");
        due("any, not each", y.caught(-1, 0) * 10 + y.caught(-1, 1), 49);
        rules(y, "sign s when sum < 9999;");
        due("all", y.caught(0, 0) * 10 + y.caught(0, 1), 11);
        due("wrong", y.caught(4, 0) + y.caught(-2, 0) + y.caught(0, 2) + y.caught(0, -1), 4 * NONE);
        TwoFaces one = with("points 3;face a kind 0 drift 0 row 0 0 0;");
        due("one face has no mixes", one.caught(-1, 0) + one.caught(-1, 1), 2 * NONE);
        TwoFaces three = with("points 3;face a kind 0 drift 0 row 0 0 0;face b kind 0 drift 0 row 90 0 0;face c kind 0 drift 0 row 90 0 0;", "sign s when at 0 < 10;");
        due("2 of 27", three.caught(-1, 0) * 100 + three.caught(-1, 1), 227);
    }

    private static void papersAndTimes() {
        TwoFaces x = with(THREE);
        due("first", x.paper(0, 1, 5, 120), 0);
        due("of itself", x.paper(1, 1, 0, 6039), 1);
        due("wrong faces", x.paper(3, 0, 5, 0) + x.paper(0, 3, 5, 0) + x.paper(-1, 0, 5, 0) + x.paper(0, -1, 5, 0), 4 * NONE);
        due("wrong shares", x.paper(0, 1, -1, 0) + x.paper(0, 1, 11, 0), 2 * NONE);
        due("wrong places", x.paper(0, 1, 5, -1) + x.paper(0, 1, 5, 40) + x.paper(0, 1, 5, 90) + x.paper(0, 1, 5, 6100)
            + x.paper(0, 1, 5, 6040) + x.paper(0, 1, 5, Integer.MAX_VALUE) + x.paper(0, 1, 5, Integer.MIN_VALUE) + x.paper(0, 1, 5, -100), 8 * NONE);
        due("nothing done", x.about(3), 2);
        for (int i = 2; i < 40; i++) {
            due("paper " + i, x.paper(2, 0, 10, 0), i);
        }
        due("no 41st", x.paper(0, 1, 5, 0), NONE);
        due("untell", x.untell(39), true);
        due("untold ones are there, too", x.paper(0, 1, 5, 0), NONE);
        due("untell again", x.untell(39), false);
        due("untell none", x.untell(40), false);
        due("untell -1", x.untell(-1), false);
        due("later 0", x.later(0), 0);
        due("later 1000", x.later(1000), 1000);
        due("later 1001", x.later(1001), NONE);
        due("later -1", x.later(-1), NONE);
        due("later the greatest", x.later(Integer.MAX_VALUE), NONE);
        due("time stays", x.about(4), 1000);
        for (int i = 0; i < 98; i++) {
            x.later(1000);
        }
        due("time", x.later(999), 99999);
        due("above", x.later(2), NONE);
        due("still", x.about(4), 99999);
        due("just", x.later(1), 100000);
        due("not more", x.later(1), NONE);
        due("none more", x.later(0), 100000);
        TwoFaces y = with(THREE);
        y.later(5);
        y.paper(0, 1, 5, 0);
        y.later(5);
        y.untell(0);
        due("before it was told", y.ring(0, 4), NONE);
        due("when it was told", y.ring(0, 5), 1);
        due("before it was untold", y.ring(0, 9), 1);
        due("when it was untold", y.ring(0, 10), NONE);
        due("far on", y.ring(0, Integer.MAX_VALUE), NONE);
        y.paper(0, 1, 5, 0);
        due("told now, known later", y.ring(1, 1000000), 1);
        due("at a time below 0", y.ring(1, -1), NONE);
        y.untell(1);
        due("told and untold at once", y.rings(0, 10), 0);
        TwoFaces none = new TwoFaces();
        due("no face, no paper", none.paper(0, 0, 0, 0), NONE);
        due("nothing to untell", none.untell(0), false);
    }

    private static void behindPapers() {
        TwoFaces x = with(THREE);
        x.paper(0, 1, 5, 120);
        due("who", x.behind(0, 0, 0), 1);
        due("by which share", x.behind(0, 1, 0), 5);
        due("how far", x.behind(0, 2, 0), 0);
        due("told", x.behind(0, 3, 0), 1);
        due("another what", x.behind(0, 4, 0) + x.behind(0, -1, 0), 2 * NONE);
        due("not known yet", x.behind(0, 0, -1), NONE);
        due("no such paper", x.behind(1, 0, 0) + x.behind(-1, 0, 0), 2 * NONE);
        x.paper(2, 0, 9, 120);
        due("the one who hands it in is the first", x.behind(1, 0, 0) * 10 + x.behind(1, 1, 0), 9);
        x.paper(0, 2, 1, 121);
        due("by share 1", x.behind(2, 0, 0) * 10 + x.behind(2, 1, 0), 21);
        due("by share 1 there, too", x.behind(2, 2, 0), 0);
        x.untell(0);
        due("does not count", x.behind(0, 0, 0), NONE);
        TwoFaces one = with("points 3;face a kind 0 drift 0 row 9 9 9;");
        one.paper(0, 0, 5, 0);
        due("no other face", one.behind(0, 0, 0) + one.behind(0, 3, 0), 2 * NONE);
        // The picture is a's own: of b's mixes that by s 9 is nearest, of c's, too, and b's is 1 * 3 away, c's 8.
        TwoFaces own = with("points 3;face a kind 0 drift 0 row 0 0 0;face c kind 0 drift 0 row 80 0 0;face b kind 0 drift 0 row 10 10 10;near 0;");
        own.paper(0, 0, 5, 0);
        due("nearest of others", own.behind(0, 0, 0) * 100 + own.behind(0, 1, 0) * 10 + own.behind(0, 2, 0), 293);
        due("its own is nearer", own.behind(0, 3, 0), 0);
        TwoFaces alike = with("points 3;face a kind 0 drift 0 row 0 0 0;face b kind 0 drift 0 row 50 0 0;face c kind 0 drift 0 row 50 0 0;near 0;printer 1 blurs 9 costs 0;");
        alike.paper(0, 2, 5, 0);
        due("the least face", alike.behind(0, 0, 0), 1);
        due("not told of two", alike.behind(0, 3, 0), 0);
        // Printed by 9 blurs the mixes by s 9 and 8 are 0 and 10, by 7 and 6: 10 and 20.
        alike.paper(0, 1, 7, 10);
        due("the least share", alike.behind(1, 0, 0) * 10 + alike.behind(1, 1, 0), 17);
        alike.paper(0, 1, 6, 10);
        due("the least share again", alike.behind(2, 1, 0), 5);
    }

    private static void behindIsTold() {
        // a's mix with b by 5 is 20 0 0: 20 from a; c's nearest mix is 0 c/10 0 and 20 away, and more.
        String faces = "points 3;face a kind 0 drift 9 row 0 0 0;face b kind 0 drift 0 row 40 0 0;";
        TwoFaces x = with(faces + "near 19;");
        x.paper(0, 1, 5, 6000);
        due("far enough from its own", x.behind(0, 3, 0), 1);
        x = with(faces + "near 20;");
        x.paper(0, 1, 5, 6000);
        due("not far enough from its own", x.behind(0, 3, 0), 0);
        // c is 0 40 0: its mixes by 9 .. 1 are 4 .. 36 in the second: 24 away at least.
        x = with(faces + "face c kind 0 drift 0 row 0 40 0;near 19;");
        x.paper(0, 1, 5, 0);
        due("a third one is far", x.behind(0, 3, 0), 1);
        // d is 30 0 0: its mixes 3 .. 27, and 21 is 1 away.
        x = with(faces + "face d kind 0 drift 0 row 30 0 0;near 0;");
        x.paper(0, 1, 5, 0);
        due("a third one is near, but farther", x.behind(0, 3, 0), 1);
        x = with(faces + "face d kind 0 drift 0 row 30 0 0;near 1;");
        x.paper(0, 1, 5, 0);
        due("a third one is too near", x.behind(0, 3, 0), 0);
        due("who it is all the same", x.behind(0, 0, 0), 1);
        // Printed by 9 blurs 20 stays 20, and a's own stays 0; printed the third one is 10 or 20.
        x = with(faces + "face d kind 0 drift 0 row 30 0 0;near 0;printer 2 blurs 9 costs 0;");
        x.paper(0, 1, 5, 20);
        due("printed the third one is as near", x.behind(0, 3, 0), 0);
        // Its own picture is printed, too: 9 becomes 0, so that a mix of 18 (10) is 10 away, not 1.
        x = with("points 3;face a kind 0 drift 0 row 9 0 0;face b kind 0 drift 0 row 20 0 0;near 9;printer 2 blurs 9 costs 0;");
        x.paper(0, 1, 5, 20);
        due("own printed", x.behind(0, 3, 0), 1);
        // In its year a would be 54 0 54; its picture is of year 0 all the same.
        x = with("points 3;face a kind 0 drift 9 row 0 0 0;face b kind 0 drift 0 row 10 0 0;near 5;");
        x.paper(0, 1, 5, 6000);
        due("own of year 0", x.behind(0, 3, 0), 0);
        // The third one is the first face.
        x = with("points 3;face d kind 0 drift 0 row 30 0 0;face a kind 0 drift 0 row 0 0 0;face b kind 0 drift 0 row 40 0 0;near 1;");
        x.paper(1, 2, 5, 0);
        due("a third one ahead is too near", x.behind(0, 3, 0), 0);
        due("it is not the one", x.behind(0, 0, 0), 2);
    }

    private static void ringsHang() {
        TwoFaces x = with(faces(8) + "knows a b;knows b c;");
        due("none", x.rings(0, 0) + x.rings(1, 0), 0);
        due("none at all", x.rings(2, 0), NONE);
        x.paper(7, 0, 5, 500);
        x.paper(6, 0, 5, 711);
        x.paper(5, 0, 5, 911);
        x.paper(4, 0, 5, 1111);
        x.paper(3, 0, 5, 1411);
        due("by printer, street and years", x.rings(0, 0) * 10 + x.rings(1, 0), 33);
        due("the least paper", x.rings(2, 0), 1);
        due("through others", x.ring(1, 0) * 100 + x.ring(3, 0) * 10 + x.ring(4, 0), 331);
        x.paper(0, 0, 0, 6000);
        x.paper(2, 0, 0, 6023);
        due("not those that know one between", x.ring(5, 0) * 10 + x.ring(6, 0), 11);
        x.paper(1, 0, 0, 6035);
        due("those that know one another", x.ring(5, 0) * 10 + x.ring(6, 0), 33);
        due("the first of two such", x.rings(2, 0), 1);
        x.paper(0, 1, 3, 3333);
        due("the same face", x.ring(8, 0), 4);
        due("the greatest", x.rings(2, 0), 5);
        due("how many in it", x.rings(1, 0), 4);
        due("parts", x.rings(0, 0), 4);
        x.paper(3, 1, 3, 1101);
        due("another printer or street: only by the face", x.ring(9, 0), 2);
        due("another street", x.ring(3, 0), 3);
        due("wrong what", x.rings(3, 0) + x.rings(-1, 0), 2 * NONE);
        due("wrong papers", x.ring(10, 0) + x.ring(-1, 0), 2 * NONE);
        due("not known yet", x.rings(0, -1), 0);
        x.later(1);
        x.untell(2);
        due("a part falls apart", x.rings(0, 1), 5);
        due("as known ahead", x.rings(0, 0), 4);
        due("one untold", x.ring(2, 1), NONE);
        due("one untold, ahead", x.ring(2, 0), 3);
        TwoFaces y = with(faces(2));
        y.paper(0, 1, 5, 0);
        y.paper(1, 0, 5, 301);
        due("others do not hang papers together", y.rings(0, 0), 2);
        y.paper(1, 0, 5, 300);
        due("three years apart", y.ring(0, 0), 1);
        y.paper(1, 0, 5, 200);
        due("two years apart", y.ring(0, 0), 4);
        due("the first part is the greatest", y.rings(2, 0) * 10 + y.rings(1, 0), 4);
    }

    private static void knowing() {
        TwoFaces x = with(faces(8) + "knows b a;knows b c;knows c d;knows a e;knows e d;knows f g;");
        due("itself", x.between(3, 3), 0);
        due("one", x.between(0, 1), 1);
        due("the other way", x.between(1, 0), 1);
        due("two", x.between(0, 2), 2);
        due("the shorter way", x.between(0, 3), 2);
        due("no way", x.between(0, 5), NONE);
        due("alone", x.between(7, 0), NONE);
        due("alone itself", x.between(7, 7), 0);
        due("none such, either", x.between(32, 0) + x.between(0, 32) + x.between(33, 1), 3 * NONE);
        due("none such", x.between(8, 0) + x.between(0, 8) + x.between(-1, 0) + x.between(0, -1), 4 * NONE);
        StringBuilder chain = new StringBuilder(faces(16));
        for (int i = 1; i < 16; i++) {
            chain.append("knows ").append((char) ('a' + i)).append(' ').append((char) ('a' + i - 1)).append(';');
        }
        TwoFaces y = with(chain.toString());
        due("fifteen", y.between(0, 15), 15);
        due("pairs that know one another", y.about(7), 15);
    }

    private static void looksAtPrinters() {
        TwoFaces x = with("points 3;face a kind 0 drift 0 row 0 0 0;face b kind 0 drift 0 row 90 0 0;printer 0 blurs 0 costs 5;printer 1 blurs 9 costs 4;printer 2 blurs 0 costs 3;printer 3 blurs 0 costs 3;",
            "sign s when at 0 > 30;");
        due("nothing told", x.looks(999, 0, 0) * 10 + x.looks(999, 1, 0), 0);
        x.paper(0, 1, 1, 0);
        x.paper(0, 1, 2, 0);
        x.paper(0, 1, 6, 10);
        x.paper(0, 1, 5, 11);
        x.paper(1, 0, 9, 20);
        x.paper(1, 0, 10, 20);
        x.paper(1, 1, 5, 20);
        x.paper(0, 1, 0, 20);
        x.paper(0, 1, 9, 20);
        x.paper(0, 1, 4, 30);
        due("none for 2", x.looks(2, 0, 0) * 10 + x.looks(2, 1, 0), 0);
        due("the least number of like ones", x.looks(3, 0, 0), 4);
        due("one only", x.looks(3, 1, 0), 1);
        due("4 too", x.looks(4, 0, 0) * 10 + x.looks(4, 1, 0), 21);
        due("5", x.looks(5, 0, 0) * 10 + x.looks(5, 1, 0), 12);
        due("6", x.looks(6, 0, 0) * 10 + x.looks(6, 1, 0), 12);
        due("8", x.looks(8, 0, 0) * 10 + x.looks(8, 1, 0), 53);
        due("15", x.looks(15, 0, 0) * 10 + x.looks(15, 1, 0), 155);
        due("wrong", x.looks(-1, 0, 0) + x.looks(1000, 0, 0) + x.looks(0, 2, 0) + x.looks(0, -1, 0), 4 * NONE);
        x.later(1);
        x.untell(0);
        due("untold", x.looks(999, 1, 1) * 10 + x.looks(999, 1, 0), 45);
        due("not known yet", x.looks(999, 1, -1), 0);
        rules(x, "sign s when 0;sign t when at 0 > 30;");
        due("any sign", x.looks(999, 1, 0), 5);
        rules(x, "");
        due("no signs", x.looks(999, 1, 0), 0);
    }

    private static void plainBars() {
        TwoFaces x = with(THREE, "bar 0;");
        due("30", x.cost(30, 1, 1, 0, 0), 2);
        due("29", x.cost(29, 1, 1, 0, 0), 0);
        due("false ones cost f", x.cost(800, 7, 0, 0, 0), 42);
        due("held ones cost h", x.cost(14, 0, 9, 10, 0), 9);
        due("held ones no more", x.cost(15, 0, 9, 10, 0), 0);
        due("all held by light", x.cost(0, 1, 99, 0, 1), 297);
        due("best", x.bestBar(1, 1, 0, 0), 0);
        due("best later", x.bestBar(1, 1, 10, 0), 15);
        due("best by light", x.bestBar(1, 1, 0, 3), 9);
        due("held ones are free", x.bestBar(1, 0, 10, 9), 0);
        due("false ones are free", x.bestBar(0, 1, 0, 9), 27);
        due("all is free", x.bestBar(0, 0, 60, 9), 0);
        due("held ones are dear", x.bestBar(1, 99, 60, 0), 80);
        due("cost wrong", x.cost(-1, 1, 1, 0, 0) + x.cost(801, 1, 1, 0, 0) + x.cost(0, -1, 1, 0, 0) + x.cost(0, 100, 1, 0, 0) + x.cost(0, 1, -1, 0, 0)
            + x.cost(0, 1, 100, 0, 0) + x.cost(0, 1, 1, 61, 0) + x.cost(0, 1, 1, -1, 0) + x.cost(0, 1, 1, 0, 10) + x.cost(0, 1, 1, 0, -1), 10 * NONE);
        due("best wrong", x.bestBar(-1, 1, 0, 0) + x.bestBar(100, 1, 0, 0) + x.bestBar(1, -1, 0, 0) + x.bestBar(1, 100, 0, 0)
            + x.bestBar(1, 1, 61, 0) + x.bestBar(1, 1, -1, 0) + x.bestBar(1, 1, 0, 10) + x.bestBar(1, 1, 0, -1), 8 * NONE);
        due("no faces", new TwoFaces().cost(800, 99, 99, 60, 9), 0);
        // By light 2 both are held below 6; a is 2 away from b's picture, b 10 from a's.
        TwoFaces y = with("points 3;face a kind 0 drift 0 row 10 10 10;face b kind 0 drift 0 row 12 12 10;");
        due("false from 2 on", y.cost(1, 1, 0, 0, 2) * 10 + y.cost(2, 1, 0, 0, 2), 1);
        due("both from 10 on", y.cost(9, 1, 0, 0, 2) * 10 + y.cost(10, 1, 0, 0, 2), 12);
        due("held till 6", y.cost(5, 0, 1, 0, 2) * 10 + y.cost(6, 0, 1, 0, 2), 20);
        due("two held, one false: let in", y.bestBar(1, 1, 0, 2), 6);
        due("as dear: the least", y.bestBar(4, 2, 0, 2), 0);
        due("just less dear", y.bestBar(3, 2, 0, 2), 6);
        due("just dearer", y.bestBar(5, 2, 0, 2), 0);
    }

    private static void fairBars() {
        TwoFaces x = with(THREE, "bar 0;");
        due("kind 1", x.fair(0, 10, 0, 1), 15);
        due("kind 0", x.fair(0, 10, 0, 0), 0);
        due("kind 2 has none", x.fair(0, 10, 0, 2) + x.fair(0, 10, 0, 3), 2 * NONE);
        due("false ones", x.fair(0, 10, 0, 4), 0);
        due("half", x.fair(50, 10, 0, 1), 0);
        due("not half", x.fair(49, 10, 0, 1), 15);
        due("by light", x.fair(0, 0, 9, 0), 27);
        due("all may be held", x.fair(100, 60, 9, 1), 0);
        TwoFaces y = with("points 3;face a kind 2 drift 1 row 50 50 50;face b kind 2 drift 2 row 50 50 50;face c kind 2 drift 3 row 50 50 50;face d kind 3 drift 9 row 50 50 50;");
        due("none held", y.fair(0, 10, 0, 2), 9);
        due("32 of 100", y.fair(32, 10, 0, 2), 9);
        due("34 of 100", y.fair(34, 10, 0, 2), 6);
        due("33 of 100 are less than a third", y.fair(33, 10, 0, 2), 9);
        due("67 of 100", y.fair(67, 10, 0, 2), 3);
        due("99 of 100", y.fair(99, 10, 0, 2), 3);
        due("100 of 100", y.fair(100, 10, 0, 2), 0);
        due("kind 3", y.fair(99, 10, 0, 3), 27);
        // All pictures are alike: a, b, c are let in with three each, d too, and by 67 of 100 only a.
        due("false of all", y.fair(0, 10, 0, 4), 12);
        due("false of some", y.fair(67, 10, 0, 4), 6);
        due("wrong", y.fair(-1, 0, 0, 4) + y.fair(101, 0, 0, 4) + y.fair(0, 61, 0, 4) + y.fair(0, -1, 0, 4) + y.fair(0, 0, 10, 4)
            + y.fair(0, 0, -1, 4) + y.fair(0, 0, 0, 5) + y.fair(0, 0, 0, -1), 8 * NONE);
        TwoFaces z = with("points 3;face a kind 0 drift 0 row 99 99 50;face b kind 0 drift 0 row 99 99 51;");
        due("one away", z.fair(0, 0, 1, 0), 1);
        due("both are held below", z.fair(99, 0, 1, 0), 1);
        due("both may be", z.fair(100, 0, 1, 0), 0);
        due("kind 0's false ones", z.fair(0, 0, 1, 4), 1);
        due("false ones by 0", z.fair(100, 0, 0, 4) * 10 + z.fair(100, 0, 1, 4), 1);
        due("no faces", new TwoFaces().fair(0, 0, 0, 4), 0);
        due("no kind", new TwoFaces().fair(0, 0, 0, 0), NONE);
    }

    private static void measureOfKinds() {
        TwoFaces x = with(THREE);
        due("two kinds", x.measure(0, 1), 30);
        due("the other way", x.measure(1, 0), 30);
        due("one kind", x.measure(1, 1), 180);
        due("only one of it", x.measure(0, 0), NONE);
        due("none of it", x.measure(2, 0) + x.measure(0, 3), 2 * NONE);
        due("no kinds", x.measure(4, 0) + x.measure(0, 4) + x.measure(-1, 0) + x.measure(0, -1), 4 * NONE);
        due("none apart", with("points 3;face a kind 3 drift 0 row 1 1 1;face b kind 3 drift 9 row 1 1 1;").measure(3, 3), 0);
    }

    private static void boxes() {
        TwoFaces x = with(THREE);
        due("nothing kept", x.back(0) + x.back(1) + x.back(2), 3 * NONE);
        due("no such box", x.image(3) + x.image(-1) + x.back(3) + x.back(-1), 4 * NONE);
        due("empty", x.image(0), 0);
        x.paper(0, 1, 5, 0);
        x.later(3);
        x.paper(1, 0, 5, 333);
        due("two", x.image(1), 2);
        x.later(4);
        x.untell(0);
        x.paper(2, 0, 5, 6039);
        due("as known now", x.rings(0, 7), 2);
        due("three", x.image(2), 3);
        due("back to two", x.back(1), 2);
        due("the time", x.about(4), 3);
        due("told again", x.ring(0, 3), 2);
        due("untell it again", x.untell(0), true);
        due("back once more", x.back(1), 2);
        due("told once more", x.untell(0), true);
        due("on to three", x.back(2), 3);
        due("time then", x.about(4), 7);
        due("untold then", x.untell(0), false);
        due("back to none", x.back(0), 0);
        due("time 0", x.about(4), 0);
        due("a new first one", x.paper(2, 2, 5, 0), 0);
        due("another box keeps", x.image(0), 1);
        due("kept anew", x.back(0), 1);
        due("the other stays", x.back(1) * 10 + x.behind(0, 0, 3), 21);
        rules(x, "bar 0;");
        due("rules empty no box", x.back(1), 2);
        town(x, THREE);
        due("towns do", x.back(0) + x.back(1) + x.back(2), 3 * NONE);
    }

    private static void abouts() {
        TwoFaces x = with(THREE, "sign s when (sum) < 3;sign t when 1;bar far < 100;");
        x.later(9);
        x.paper(0, 0, 0, 0);
        x.paper(0, 0, 0, 0);
        x.untell(0);
        x.feed(0, 0, 0, 0, 0);
        int[] abouts = {3, 3, 2, 2, 9, 20, 6, 1, 5};
        for (int i = 0; i < abouts.length; i++) {
            due("about(" + i + ")", x.about(i), abouts[i]);
        }
        due("another what", x.about(9) + x.about(-1), 2 * NONE);
    }
}
