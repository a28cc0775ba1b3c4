import java.util.ArrayList;
import java.util.List;

/**
 * Each argument of each call at the last values that can be and the first that can't, and at the ends of the ints: a call that is
 * refused answers NONE (or false) and leaves all as it was, and so does a question that is answered.
 */
public final class RefusalsTest extends Checks {
    private static final String TOWN = "points 3;face a kind 0 drift 9 row 30 40 50;face b kind 0 drift 8 row 31 40 50;"
        + "face c kind 1 drift 7 row 32 40 50;face d kind 1 drift 6 row 33 40 50;face e kind 2 drift 5 row 34 40 50;"
        + "face f kind 2 drift 4 row 35 40 50;face g kind 3 drift 3 row 36 40 50;face h kind 3 drift 0 row 37 40 50;"
        + "knows a b;knows b c;knows c d;knows d e;knows e f;knows f g;knows g h;"
        + "printer 0 blurs 0 costs 3;printer 1 blurs 1 costs 2;printer 3 blurs 9 costs 1;near 0;";
    // All pass but in year 30, so that no question of the other years is answered NONE.
    private static final String RULES = "bar not years = 30;sign s when at 0 > 32;sign t when sum > 121;";
    private static final String RULES_OF_LIGHT = "bar far < 30 + light * 3 + kind and years < 50 + kind;sign s when at 0 > 32;sign t when sum > 121;";
    private static final String RULES_WITH_FAULT = "bar 1 + 1 1;";
    private static final String LEFT_ON_TAPE = "near 7;";

    /** What a call is, by its arguments. */
    private interface Call {
        int on(TwoFaces x, int[] n);
    }

    /** A call, arguments that can be, and of each the least and the greatest that can be. */
    private record Row(String name, boolean asks, Call call, int[] base, int[][] bounds) { }

    private static final List<Row> ROWS = new ArrayList<>();

    public static void main(String[] args) {
        edgesOfRows();
        tapeThatIsFull();
        textsWithFaults();
        textsThatAreTooLong();
        papersBeyondForty();
        untoldTwice();
        boxesThatAreEmpty();
        boxesKeepEachPaper();
        boxesStandAlone();
        questionsBehindOthers();
        townsBehindOthers();
        tellAndExit();
    }

    private static void question(String name, Call call, int[] base, int[]... bounds) {
        ROWS.add(new Row(name, true, call, base, bounds));
    }

    private static void change(String name, Call call, int[] base, int[]... bounds) {
        ROWS.add(new Row(name, false, call, base, bounds));
    }

    private static int[] n(int... numbers) {
        return numbers;
    }

    private static void questions() {
        int[] faces = n(0, 7);
        int[] years = n(0, 60);
        int[] lights = n(0, 9);
        int[] shares = n(0, 10);
        int[] printers = n(-1, 3);
        int[] prices = n(0, 99);
        int[] any = null;
        question("fault", (x, a) -> x.fault(a[0]), n(0), n(0, 1));
        question("face", (x, a) -> x.face(a[0], a[1], a[2]), n(3, 1, 5), faces, n(0, 2), years);
        question("far", (x, a) -> x.far(a[0], a[1], a[2], a[3]), n(3, 4, 5, 6), faces, years, faces, years);
        question("passes", (x, a) -> x.passes(a[0], a[1], a[2], a[3]), n(3, 4, 5, 6), faces, faces, years, lights);
        question("mix", (x, a) -> x.mix(a[0], a[1], a[2], a[3], a[4]), n(3, 4, 5, 1, 1), faces, faces, shares, printers, n(0, 2));
        question("both", (x, a) -> x.both(a[0], a[1], a[2], a[3], a[4]), n(3, 4, 5, 6, 7), faces, faces, shares, years, lights);
        question("able", (x, a) -> x.able(a[0], a[1], a[2], a[3]), n(3, 4, 5, 6), n(0, 3), n(4, 7), years, lights);
        question("pairs", (x, a) -> x.pairs(a[0], a[1]), n(5, 6), years, lights);
        question("pair", (x, a) -> x.pair(a[0], a[1], a[2]), n(4, 5, 6), n(0, 27), years, lights);
        question("gate", (x, a) -> x.gate(a[0], a[1], a[2], a[3]), n(0, 1, 5, 6), n(0, 1), n(-1, 3), years, lights);
        question("twins", (x, a) -> x.twins(a[0], a[1]), n(5, 6), years, lights);
        question("until", (x, a) -> x.until(a[0], a[1]), n(3, 4), faces, lights);
        question("signs", (x, a) -> x.signs(a[0], a[1], a[2], a[3]), n(3, 4, 5, 1), faces, faces, shares, printers);
        question("caught", (x, a) -> x.caught(a[0], a[1]), n(1, 0), printers, n(0, 1));
        question("behind", (x, a) -> x.behind(a[0], a[1], a[2]), n(2, 0, 4), n(0, 4), n(0, 3), any);
        question("rings", (x, a) -> x.rings(a[0], a[1]), n(0, 4), n(0, 2), any);
        question("ring", (x, a) -> x.ring(a[0], a[1]), n(2, 4), n(0, 4), any);
        question("between", (x, a) -> x.between(a[0], a[1]), n(3, 4), faces, faces);
        question("looks", (x, a) -> x.looks(a[0], a[1], a[2]), n(3, 0, 4), n(0, 999), n(0, 1), any);
        question("cost", (x, a) -> x.cost(a[0], a[1], a[2], a[3], a[4]), n(9, 8, 7, 6, 5), n(0, 800), prices, prices, years, lights);
        question("bestBar", (x, a) -> x.bestBar(a[0], a[1], a[2], a[3]), n(8, 7, 6, 5), prices, prices, years, lights);
        question("fair", (x, a) -> x.fair(a[0], a[1], a[2], a[3]), n(20, 6, 5, 2), n(0, 100), years, lights, n(0, 4));
        question("measure", (x, a) -> x.measure(a[0], a[1]), n(1, 2), n(0, 3), n(0, 3));
        question("about", (x, a) -> x.about(a[0]), n(1), n(0, 8));
    }

    private static void changes() {
        change("end", (x, a) -> x.end(a[0]), n(3), n(0, LEFT_ON_TAPE.length()));
        change("paper", (x, a) -> x.paper(a[0], a[1], a[2], a[3]), n(3, 4, 5, 1234), n(0, 7), n(0, 7), n(0, 10), n(0, 6039));
        change("untell", (x, a) -> x.untell(a[0]) ? 1 : NONE, n(2), n(0, 4));
        change("later", (x, a) -> x.later(a[0]), n(3), n(0, 1000));
        change("image", (x, a) -> x.image(a[0]), n(1), n(0, 2));
        change("back", (x, a) -> x.back(a[0]), n(1), n(0, 2));
    }

    /** Always the same object: a town with rules, papers, boxes, a fault and something on the tape. */
    private static TwoFaces made() {
        return made(RULES);
    }

    private static TwoFaces made(String rules) {
        TwoFaces x = new TwoFaces();
        make(x, rules);
        return x;
    }

    private static void make(TwoFaces x, String rules) {
        town(x, TOWN);
        rules(x, rules);
        x.paper(0, 5, 4, 100);
        x.image(0);
        x.later(2);
        x.paper(3, 2, 7, 231);
        x.paper(4, 4, 7, 332);
        x.image(1);
        x.later(2);
        x.paper(6, 1, 1, 431);
        x.paper(7, 0, 9, 111);
        x.image(2);
        x.later(1);
        x.untell(1);
        rules(x, RULES_WITH_FAULT);
        put(x, LEFT_ON_TAPE);
    }

    /** All that can be asked of it but the tape and the fault; what changes it stands behind what does not. */
    private static String facts(TwoFaces x) {
        StringBuilder told = new StringBuilder();
        for (int what = 0; what <= 8; what++) {
            told.append(what == 5 ? "" : x.about(what) + " ");
        }
        told.append("| ");
        for (int f = 0; f < 8; f++) {
            told.append(x.face(f, 0, 0)).append(' ').append(x.face(f, 1, 60)).append(' ').append(x.face(f, 2, 60)).append(' ');
            told.append(x.signs(f, 7 - f, 5, -1)).append(' ').append(x.passes(f, f, 30, 0)).append(x.passes(f, f, 0, 0)).append(' ');
        }
        told.append("| ");
        for (int printer = 0; printer <= 3; printer++) {
            told.append(x.mix(0, 7, 5, printer, 0)).append(' ');
        }
        for (int kind = 0; kind <= 3; kind++) {
            told.append(x.measure(kind, kind)).append(' ').append(x.gate(0, kind, 0, 0)).append(' ');
        }
        told.append(x.between(0, 7)).append(' ').append(x.bestBar(1, 2, 60, 0)).append(" | ");
        papers(x, told);
        told.append("| ").append(x.later(0)).append(' ').append(x.untell(1)).append(x.untell(0)).append(' ').append(x.paper(0, 1, 2, 0)).append(' ');
        for (int box = 0; box <= 2; box++) {
            told.append("| box ").append(x.back(box)).append(' ').append(x.about(4)).append(' ');
            for (int k = 0; k <= 5; k++) {
                told.append(x.rings(0, k)).append(x.rings(1, k)).append(' ');
            }
        }
        return told.toString();
    }

    private static void papers(TwoFaces x, StringBuilder told) {
        for (int k = -1; k <= 6; k++) {
            for (int p = 0; p <= 5; p++) {
                told.append(x.ring(p, k)).append(' ');
            }
            told.append(x.rings(0, k)).append(x.rings(1, k)).append(x.rings(2, k)).append(' ');
        }
        for (int p = 0; p <= 4; p++) {
            for (int what = 0; what <= 3; what++) {
                told.append(x.behind(p, what, 4)).append(' ');
            }
        }
        for (int sum = 0; sum <= 6; sum++) {
            told.append(x.looks(sum, 0, 4)).append(' ').append(x.looks(sum, 1, 5)).append(' ');
        }
    }

    /** The tape, the fault, and all the rest; the tape is read as a town at the end. */
    private static String state(TwoFaces x) {
        String tapeAndFault = x.about(5) + " " + x.fault(0) + " " + x.fault(1) + " | ";
        String facts = facts(x);
        return tapeAndFault + facts + "| " + x.town() + " " + x.about(8);
    }

    /** Calls so many that all of them are within the 512 of one object, each with its own. */
    private static void edgesOfRows() {
        questions();
        changes();
        String before = state(made());
        for (Row row : ROWS) {
            due(row.name() + " has a bound for each argument", row.bounds().length, row.base().length);
            answered(row, row.base(), before);
            for (int i = 0; i < row.base().length; i++) {
                int[] bounds = row.bounds()[i];
                if (bounds == null) {
                    for (int k : n(Integer.MIN_VALUE, -1, 100001, Integer.MAX_VALUE)) {
                        TwoFaces x = made();
                        row.call().on(x, changed(row.base(), i, k));
                        due(row.name() + " with any number", state(x), before);
                    }
                    continue;
                }
                for (int good : n(bounds[0], bounds[0] + 1, bounds[1] - 1, bounds[1])) {
                    boolean untold = row.name().equals("untell") && good == 1;
                    boolean bad = row.name().equals("paper") && i == 3 && good / 10 % 10 > 3;
                    boolean one = isOfTwo(row.name()) && i < 2 && good == row.base()[1 - i];
                    if (!untold && !bad && !one) {
                        answered(row, changed(row.base(), i, good), before);
                    }
                }
                for (int bad : n(bounds[0] - 1, bounds[0] - 2, bounds[1] + 1, bounds[1] + 2, bounds[0] - 256, bounds[1] + 256, bounds[0] - 65536,
                    bounds[1] + 65536, Integer.MIN_VALUE, Integer.MIN_VALUE + 1, Integer.MAX_VALUE - 1, Integer.MAX_VALUE)) {
                    refused(row, changed(row.base(), i, bad), before);
                }
            }
        }
        for (Row row : ROWS) {
            if (isOfTwo(row.name())) {
                int[] one = row.base().clone();
                one[1] = one[0];
                refused(row, one, before);
            }
        }
    }

    private static boolean isOfTwo(String name) {
        return name.equals("mix") || name.equals("both") || name.equals("able") || name.equals("signs");
    }

    /** The arguments of a question as great as they can be, but two faces that are not one. */
    private static int[] greatest(Row row) {
        int[] all = row.base().clone();
        for (int i = 0; i < all.length; i++) {
            all[i] = row.bounds()[i] == null || isOfTwo(row.name()) && i == 0 ? all[i] : row.bounds()[i][1];
        }
        return all;
    }

    /** What a question is answered does not hang on what was asked ahead of it. */
    private static void questionsBehindOthers() {
        questions();
        for (Row row : ROWS) {
            for (int[] numbers : row.asks() ? new int[][] {row.base(), greatest(row)} : new int[0][]) {
                int alone = row.call().on(made(RULES_OF_LIGHT), numbers);
                for (Row other : ROWS) {
                    for (int[] ahead : other.asks() ? new int[][] {other.base(), greatest(other)} : new int[0][]) {
                        TwoFaces x = made(RULES_OF_LIGHT);
                        other.call().on(x, ahead);
                        due(told(row, numbers) + " behind " + told(other, ahead), row.call().on(x, numbers), alone);
                    }
                }
            }
        }
    }

    private static int[] changed(int[] base, int i, int to) {
        int[] all = base.clone();
        all[i] = to;
        return all;
    }

    private static String told(Row row, int[] numbers) {
        StringBuilder text = new StringBuilder(row.name());
        for (int number : numbers) {
            text.append(' ').append(number);
        }
        return text.toString();
    }

    private static void answered(Row row, int[] numbers, String before) {
        TwoFaces x = made();
        due(told(row, numbers) + " is answered", row.call().on(x, numbers) != NONE, true);
        if (row.asks()) {
            due(told(row, numbers) + " leaves all", state(x), before);
        }
    }

    private static void refused(Row row, int[] numbers, String before) {
        TwoFaces x = made();
        due(told(row, numbers), row.call().on(x, numbers), NONE);
        due(told(row, numbers) + " leaves all", state(x), before);
    }

    private static void tapeThatIsFull() {
        String before = facts(made());
        for (int length = 1581; length <= 1600; length++) {
            TwoFaces x = made();
            x.end(0);
            put(x, " ".repeat(1600 - LEFT_ON_TAPE.length()) + LEFT_ON_TAPE);
            x.end(length);
            due("twenty at " + length, x.feed(0x3b3b3b3b, 0x3b3b3b3b, 0x3b3b3b3b, 0x3b3b3b3b, 0x3b3b3b3b), NONE);
            due("as many as before", x.about(5), length);
            due("the fault stays", x.fault(0) * 100 + x.fault(1), 210);
            due("all stays", facts(x), before);
            due("the tape", x.town(), length == 1600 || length <= 1593 ? 0 : NONE);
            due("what was on it", x.about(8), length == 1600 ? 7 : length <= 1593 ? 20 : 0);
        }
    }

    // a FAULT (the TAPE is empty then, too; all else stays) .. NONE: a FAULT (those there are stay)
    private static void textsWithFaults() {
        String before = facts(made());
        String[] towns = {"?", "near", "points 4;face a kind 0 drift 0 row 1 2 3 4;face a kind", TOWN + TOWN, TOWN + "near 9;", TOWN + "knows a z;", TOWN + "printer 4",
            TOWN.replace("near 0", "near 801"), TOWN.substring(0, TOWN.length() - 1), "near 99;points 8;face x kind 3 drift 9 row 1 2 3 4 5 6 7 8;printer 0 blurs 9 costs 9;bar"};
        int[] sorts = {1, 2, 3, 2, 2, 5, 4, 4, 2, 2};
        for (int i = 0; i < towns.length; i++) {
            TwoFaces x = made();
            x.end(0);
            due("town '" + towns[i] + "'", town(x, towns[i]), NONE);
            due("its fault", x.fault(0), sorts[i]);
            due("the tape is empty", x.about(5), 0);
            due("all else stays", facts(x), before);
        }
        String[] rules = {"?", "bar", RULES + "bar", RULES + "sign s", RULES + "sign u when at 3;", "bar 0;sign z when 1" + "+1".repeat(39) + ";",
            "bar " + "(".repeat(8), "bar 1+1+1;sign x when sum;sign y when edge = 7;sign z when 1"};
        int[] ruleSorts = {1, 2, 2, 3, 4, 2, 2, 2};
        for (int i = 0; i < rules.length; i++) {
            TwoFaces x = made();
            x.end(0);
            due("rules '" + rules[i] + "'", rules(x, rules[i]), NONE);
            due("their fault", x.fault(0), ruleSorts[i]);
            due("the tape is empty", x.about(5), 0);
            due("those there are stay", facts(x), before);
        }
    }

    // -2, and the TAPE stays: more than 800 bytes.
    private static void textsThatAreTooLong() {
        String before = facts(made());
        for (int length : n(801, 1200, 1600)) {
            TwoFaces x = made();
            x.end(0);
            put(x, "near 44;" + " ".repeat(length - 8));
            due(length + " bytes", x.rules(), -2);
            due("the tape stays", x.about(5), length);
            due("the fault stays", x.fault(0) * 100 + x.fault(1), 210);
            due("all stays", facts(x), before);
            due("again", x.rules(), -2);
            due("what is on it", x.town(), 0);
            due("its near", x.about(8), 44);
            due("without a fault", x.fault(0), 0);
        }
    }

    private static void papersBeyondForty() {
        TwoFaces x = made();
        TwoFaces y = made();
        for (int i = 5; i < 40; i++) {
            due("paper " + i, x.paper(i % 8, i % 5, i % 11, i), i);
            y.paper(i % 8, i % 5, i % 11, i);
        }
        nones("one more", x.paper(0, 1, 2, 0), x.paper(7, 7, 10, 6039), x.paper(-1, 0, 0, 0));
        due("forty", x.about(3), 40);
        due("it leaves all", state(x), state(y));
    }

    // true; false if it is so already, or there is none such: its time stays.
    private static void untoldTwice() {
        TwoFaces x = made();
        TwoFaces y = made();
        x.later(3);
        y.later(3);
        due("untold already", x.untell(1), false);
        due("it leaves all", state(x), state(y));
        TwoFaces z = made();
        z.later(3);
        due("not yet untold", z.untell(2), true);
        z.later(3);
        due("untold already", z.untell(2), false);
        due("known till then", z.ring(2, 7) > 0, true);
        nones("not from then on", z.ring(2, 8), z.ring(2, 11));
    }

    // NONE, doing nothing, if nothing was.
    private static void boxesThatAreEmpty() {
        for (int box = 0; box <= 2; box++) {
            TwoFaces x = new TwoFaces();
            town(x, TOWN);
            x.paper(0, 1, 2, 3);
            x.later(4);
            for (int other = 0; other <= 2; other++) {
                if (other != box) {
                    x.image(other);
                }
            }
            x.paper(1, 2, 3, 104);
            x.later(5);
            nones("nothing was kept", x.back(box));
            due("papers stay", x.about(3), 2);
            due("the time stays", x.about(4), 9);
            due("they count", x.rings(0, 4) * 10 + x.rings(1, 4), 12);
            due("another one", x.back((box + 1) % 3), 1);
            due("its time", x.about(4), 4);
        }
    }

    // All is as it was kept: whatever stood on the places of those papers in between.
    private static void boxesKeepEachPaper() {
        for (int box = 0; box <= 2; box++) {
            for (int between = 0; between <= 1; between++) {
                TwoFaces x = made();
                x.image(box);
                x.image(2);
                x.back(between);
                for (int i = 0; i < 6; i++) {
                    x.paper(5 - i, 7 - i, 10 - i, 5900 + 30 + i);
                    x.later(2);
                }
                x.untell(0);
                x.untell(3);
                due("papers there were", x.back(box == 2 || box == between ? 2 : box), 5);
                TwoFaces y = made();
                y.image(box);
                y.image(2);
                due("box " + box + " behind " + between, state(x), state(y));
            }
        }
    }

    private static String papers(TwoFaces x) {
        StringBuilder told = new StringBuilder().append(x.about(3)).append(' ').append(x.about(4)).append(' ');
        papers(x, told);
        return told.toString();
    }

    /** Each box holds other papers on the same places; the last one of the order holds none till then, so that one can begin anew. */
    private static void boxesStandAlone() {
        int[][] orders = {n(0, 1, 2), n(0, 2, 1), n(1, 0, 2), n(1, 2, 0), n(2, 0, 1), n(2, 1, 0)};
        for (int[] order : orders) {
            TwoFaces x = new TwoFaces();
            town(x, TOWN);
            rules(x, RULES);
            due("none yet", x.image(order[2]), 0);
            String[] kept = new String[3];
            for (int box : order) {
                due("none again", x.back(order[2]), 0);
                x.later(box);
                x.paper(box, 7 - box, 4 + box, 111 * box);
                x.later(1);
                x.paper(box + 3, box, 9 - box, 111 * (box + 1));
                x.later(1);
                x.untell(box % 2);
                due("two in box " + box, x.image(box), 2);
                kept[box] = papers(x);
            }
            due("they differ", kept[0].equals(kept[1]) || kept[0].equals(kept[2]) || kept[1].equals(kept[2]), false);
            for (int i = 0; i < 6; i++) {
                int box = order[i % 3];
                due("back to box " + box, x.back(box), 2);
                due("papers of box " + box, papers(x), kept[box]);
                x.untell(1 - box % 2);
                x.paper(0, 0, 0, 0);
                x.later(9);
            }
        }
    }

    // The TAPE is the TOWN: nothing but the TIME is left of the one ahead of it, however great that was.
    private static void townsBehindOthers() {
        StringBuilder great = new StringBuilder("points 8;");
        for (char name = 'a'; name <= 'p'; name++) {
            great.append(face("" + name, name % 4, name % 10, "99 1 98 2 97 3 " + (name - 'a') + " 99"));
        }
        great.append("knows a h;knows h b;knows a p;").append(printer(0, 9, 9)).append(printer(2, 8, 9)).append("near 800;");
        String signs = "bar 0;";
        for (char name = 'a'; name <= 'f'; name++) {
            signs += "sign " + name + " when at 7 + at 6 > " + (name - 'a') + ";";
        }
        for (String rules : new String[] {RULES, RULES_OF_LIGHT}) {
            TwoFaces x = with(great.toString(), signs);
            for (int i = 0; i < 40; i++) {
                x.paper(i % 16, 15 - i % 16, i % 11, 101 * i);
            }
            x.untell(0);
            x.untell(1);
            due("forty", x.image(0) + x.image(1) + x.image(2), 120);
            x.pairs(60, 9);
            x.cost(9, 1, 1, 60, 9);
            x.bestBar(1, 1, 60, 9);
            x.behind(3, 0, 0);
            x.rings(1, 0);
            x.looks(999, 0, 0);
            x.signs(0, 1, 5, 2);
            make(x, rules);
            due("as on a new object", state(x), state(made(rules)));
        }
    }
}
