import java.util.ArrayList;
import java.util.List;
import java.util.Random;

/** Runs of chosen calls (always the same ones) on the class and on the Oracle: each answer must be the same. */
public final class TwoFacesAgainstOracle {
    private static final int CALLS = 512;

    private final Random random;
    private final TwoFaces x = new TwoFaces();
    private final Oracle o = new Oracle();
    private final List<String> calls = new ArrayList<>();
    private final int[] seen;
    private boolean same = true;

    private TwoFacesAgainstOracle(long seed, int[] seen) {
        random = new Random(seed);
        this.seen = seen;
    }

    public static void main(String[] args) {
        int runs = args.length > 0 ? Integer.parseInt(args[0]) : 1500;
        int wrong = 0;
        int[] seen = new int[10];
        for (int run = 0; run < runs && wrong < 5; run++) {
            if (!new TwoFacesAgainstOracle(run, seen).run()) {
                wrong++;
                System.out.println("  run " + run + " is not as the Oracle's");
            }
        }
        System.out.println("towns " + seen[6] + ", with faults 1 .. 5: " + seen[1] + " " + seen[2] + " " + seen[3] + " " + seen[4]
            + " " + seen[5] + ", rules " + seen[7] + ", too long " + seen[8]);
        System.out.println(runs - wrong + " passed, " + wrong + " failed");
        if (wrong != 0) {
            System.exit(1);
        }
    }

    private int below(int n) {
        return random.nextInt(n);
    }

    /** Mostly 0 .. most, now and then beyond. */
    private int number(int most) {
        int chance = below(40);
        return chance == 0 ? -1 : chance == 1 ? most + 1 : chance == 2 ? random.nextInt() : below(most + 1);
    }

    private void check(String call, int got, int due) {
        calls.add(call + " = " + got);
        if (got != due) {
            same = false;
            System.out.println("  " + call + " answered " + got + ", the Oracle " + due);
            for (String told : calls) {
                System.out.println("    " + told);
            }
        }
    }

    private boolean run() {
        for (int i = 0; i < CALLS && same; ) {
            int before = calls.size();
            int chance = i == 0 ? 0 : below(150);
            if (chance < 1) {
                giveTown();
            } else if (chance < 3) {
                giveRules();
            } else if (chance < 30) {
                paperCall();
            } else {
                ask();
            }
            i += calls.size() - before;
        }
        return same;
    }

    private void feedText(String text) {
        if (x.about(5) != 0 && below(4) != 0) {
            check("end(0)", x.end(0), o.end(0));
        }
        int from = x.about(5);
        byte[] bytes = new byte[(text.length() + 19) / 20 * 20];
        for (int i = 0; i < bytes.length; i++) {
            bytes[i] = i < text.length() ? (byte) text.charAt(i) : (byte) ' ';
        }
        for (int i = 0; i < bytes.length; i += 20) {
            int[] n = new int[5];
            for (int j = 0; j < 20; j++) {
                n[j / 4] = n[j / 4] << 8 | bytes[i + j] & 255;
            }
            check("feed '" + text.substring(i, Math.min(text.length(), i + 20)) + "'", x.feed(n[0], n[1], n[2], n[3], n[4]),
                o.feed(n[0], n[1], n[2], n[3], n[4]));
        }
        int to = below(30) == 0 ? number(1600) : from + text.length();
        check("end(" + to + ")", x.end(to), o.end(to));
    }

    private void giveTown() {
        feedText(spoilt(townText()));
        int got = x.town();
        check("town()", got, o.town());
        checkFault();
        seen[got == -1 ? x.fault(0) : 6]++;
    }

    private void giveRules() {
        feedText(below(20) == 0 ? rulesText() + " ".repeat(700 + below(500)) : spoilt(rulesText()));
        int got = x.rules();
        check("rules()", got, o.rules());
        checkFault();
        seen[got == -2 ? 8 : got == -1 ? x.fault(0) : 7]++;
    }

    private void checkFault() {
        check("fault(0)", x.fault(0), o.fault(0));
        check("fault(1)", x.fault(1), o.fault(1));
    }

    private String gap() {
        return new String[] {" ", "  ", "\n", " \n "}[below(4)];
    }

    private String townText() {
        StringBuilder text = new StringBuilder();
        int points = below(3) == 0 ? 5 : 3 + below(6);
        if (points != 5 || below(2) == 0) {
            text.append("points ").append(points).append(";");
        }
        int faces = below(8) == 0 ? below(3) : below(10) == 0 ? 16 + below(2) : 2 + below(11);
        boolean alike = below(2) == 0;
        int base = below(100);
        for (int i = 0; i < faces; i++) {
            text.append("face ").append(name(i)).append(" kind ").append(below(4)).append(" drift").append(gap()).append(below(3) == 0 ? 0 : below(10)).append(" row");
            for (int m = 0; m < points; m++) {
                int value = alike ? base - 10 + below(21) + m : below(100);
                text.append(' ').append(Math.max(0, Math.min(99, value)));
            }
            text.append(below(2) == 0 ? ";" : " ;" + gap());
        }
        int knows = faces == 0 ? 0 : below(30) == 0 ? 21 : below(8);
        for (int i = 0; i < knows; i++) {
            int a = below(faces);
            int b = below(faces);
            if (a != b && text.indexOf("knows " + name(a) + " " + name(b)) < 0 && text.indexOf("knows " + name(b) + " " + name(a)) < 0
                || below(60) == 0) {
                text.append("knows ").append(name(a)).append(" ").append(name(b)).append(";");
            }
        }
        for (int i = 0; i < 4; i++) {
            if (below(3) != 0) {
                text.append("printer ").append(i).append(" blurs ").append(below(10)).append(" costs ").append(below(8) == 0 ? below(100) : below(6)).append(";");
            }
        }
        if (below(2) == 0) {
            text.append("near ").append(below(4) == 0 ? below(100) : below(12)).append(";");
        }
        return text.toString();
    }

    private static String name(int i) {
        return (i < 10 ? "" : "mayor") + (char) ('a' + i);
    }

    private String rulesText() {
        StringBuilder text = new StringBuilder();
        int lines = below(6);
        for (int i = 0; i < lines; i++) {
            text.append("sign ").append(below(60) == 0 ? "s" : "s" + (char) ('a' + i)).append(" when ").append(expression(3 + below(4), false)).append(";").append(gap());
            if (below(3) == 0 && text.indexOf("bar") < 0) {
                text.append("bar ");
                text.append(below(2) == 0 ? "far < " + below(100) : "far + years * kind < " + below(150));
                text.append(below(2) == 0 ? "" : " or " + expression(3, true)).append(";");
            }
        }
        if (text.indexOf("bar") < 0 && below(2) == 0) {
            text.append("bar ").append(expression(5, true)).append(';');
        }
        return text.toString();
    }

    private String expression(int depth, boolean inBar) {
        if (depth <= 0) {
            return unit(inBar);
        }
        switch (below(12)) {
            case 0: return expression(depth - 2, inBar) + " or " + expression(depth - 2, inBar);
            case 1: return expression(depth - 2, inBar) + " and " + expression(depth - 2, inBar);
            case 2: return "not " + expression(depth - 1, inBar);
            case 3: return "(" + expression(depth - 1, inBar) + ")";
            case 4: return "( " + expression(depth - 1, inBar) + " ) " + "+-*<>=".charAt(below(6)) + " " + unit(inBar);
            case 5: return unit(inBar) + "+-*".charAt(below(3)) + unit(inBar) + "<>=".charAt(below(3)) + unit(inBar);
            case 6: return unit(inBar) + "*" + unit(inBar) + "-" + unit(inBar) + "*" + unit(inBar);
            case 7: return "not (" + expression(depth - 1, inBar) + " )";
            case 8: case 9: return threshold(inBar);
            default: return unit(inBar) + " " + "<>=".charAt(below(3)) + " " + unit(inBar);
        }
    }

    private String threshold(boolean inBar) {
        if (inBar) {
            return "far " + "<>".charAt(below(2)) + " " + below(200);
        }
        return new String[] {"sum > " + below(500), "edge < " + below(150), "most > " + below(100), "least < " + below(100),
            "at 1 < at 2"}[below(5)];
    }

    private String unit(boolean inBar) {
        if (below(4) == 0) {
            return "" + (below(3) == 0 ? below(10000) : below(60));
        }
        if (inBar) {
            return new String[] {"far", "kind", "years", "light"}[below(4)];
        }
        return new String[] {"sum", "edge", "most", "least", "at " + below(5), "at 2"}[below(6)];
    }

    /** Half of the texts as they are; the others with a byte or a word changed. */
    private String spoilt(String text) {
        String out = text;
        int changes = below(2) == 0 ? 0 : 1 + below(2);
        for (int i = 0; i < changes && out.length() > 0; i++) {
            int at = below(out.length());
            String with = new String[] {"", "" + (char) below(256), ";", " ", "7", "1", "z", "points", " near ", "near 3;", "(", ")", " not ", "at",
                "row", " 100 ", "sign", "knows a a;", "knows a b;", "knows b a;", " a ", " far ", " 5 ", "bar far;", "printer 2 blurs 1 costs 1;", "*1", "+(1)",
                "not not not not ", "((("}[below(29)];
            int skip = below(3);
            out = out.substring(0, at) + with + out.substring(Math.min(out.length(), at + skip));
        }
        return out.length() > 1600 ? out.substring(0, 1600) : below(40) == 0 ? out.substring(0, below(out.length() + 1)) : out;
    }

    private int aFace() {
        return number(Math.max(0, x.about(0) - 1));
    }

    private int aPaper() {
        return number(Math.max(0, x.about(3) - 1));
    }

    private int aTime() {
        int chance = below(10);
        return chance == 0 ? random.nextInt() : chance == 1 ? -1 : below(3) == 0 ? x.about(4) : below(x.about(4) + 2);
    }

    private void paperCall() {
        switch (below(12)) {
            case 0: {
                int by = below(10) == 0 ? number(1000) : below(4);
                check("later(" + by + ")", x.later(by), o.later(by));
                break;
            }
            case 1: {
                int p = aPaper();
                check("untell(" + p + ")", x.untell(p) ? 1 : 0, o.untell(p) ? 1 : 0);
                break;
            }
            case 2: {
                int b = number(2);
                check("image(" + b + ")", x.image(b), o.image(b));
                break;
            }
            case 3: {
                int b = number(2);
                check("back(" + b + ")", x.back(b), o.back(b));
                break;
            }
            default: {
                int f = aFace();
                int g = below(4) == 0 ? f : aFace();
                int s = number(10);
                int place = below(15) == 0 ? number(7000) : 100 * below(8) + 10 * below(4) + below(3);
                check("paper(" + f + ", " + g + ", " + s + ", " + place + ")", x.paper(f, g, s, place), o.paper(f, g, s, place));
            }
        }
    }

    private void ask() {
        int a = aFace();
        int b = aFace();
        int year = below(3) == 0 ? 0 : number(60);
        int light = number(9);
        int share = number(10);
        int printer = number(4) - 1;
        int k = aTime();
        switch (below(26)) {
            case 0: {
                int m = number(8);
                check("face(" + a + ", " + m + ", " + year + ")", x.face(a, m, year), o.face(a, m, year));
                break;
            }
            case 1: {
                int yb = number(60);
                check("far(" + a + ", " + year + ", " + b + ", " + yb + ")", x.far(a, year, b, yb), o.far(a, year, b, yb));
                break;
            }
            case 2: check("passes" + told(a, b, year, light), x.passes(a, b, year, light), o.passes(a, b, year, light)); break;
            case 3: {
                int m = number(8);
                check("mix" + told(a, b, share, printer, m), x.mix(a, b, share, printer, m), o.mix(a, b, share, printer, m));
                break;
            }
            case 4: check("both" + told(a, b, share, year, light), x.both(a, b, share, year, light), o.both(a, b, share, year, light)); break;
            case 5: check("able" + told(a, b, year, light), x.able(a, b, year, light), o.able(a, b, year, light)); break;
            case 6: check("pairs" + told(year, light), x.pairs(year, light), o.pairs(year, light)); break;
            case 7: {
                int i = number(10);
                check("pair" + told(i, year, light), x.pair(i, year, light), o.pair(i, year, light));
                break;
            }
            case 8: {
                int what = number(1);
                int kind = number(4) - 1;
                check("gate" + told(what, kind, year, light), x.gate(what, kind, year, light), o.gate(what, kind, year, light));
                break;
            }
            case 9: check("twins" + told(year, light), x.twins(year, light), o.twins(year, light)); break;
            case 10: check("until" + told(a, light), x.until(a, light), o.until(a, light)); break;
            case 11: check("signs" + told(a, b, share, printer), x.signs(a, b, share, printer), o.signs(a, b, share, printer)); break;
            case 12: {
                int part = number(1);
                check("caught" + told(printer, part), x.caught(printer, part), o.caught(printer, part));
                break;
            }
            case 13: case 14: case 15: {
                int p = aPaper();
                int what = number(3);
                check("behind" + told(p, what, k), x.behind(p, what, k), o.behind(p, what, k));
                break;
            }
            case 16: {
                int what = number(2);
                check("rings" + told(what, k), x.rings(what, k), o.rings(what, k));
                break;
            }
            case 17: {
                int p = aPaper();
                check("ring" + told(p, k), x.ring(p, k), o.ring(p, k));
                break;
            }
            case 18: check("between" + told(a, b), x.between(a, b), o.between(a, b)); break;
            case 19: {
                int sum = below(4) == 0 ? number(999) : below(15);
                int what = number(1);
                check("looks" + told(sum, what, k), x.looks(sum, what, k), o.looks(sum, what, k));
                break;
            }
            case 20: {
                int t = number(800) / (1 + below(10));
                int f = number(99);
                int h = number(99);
                check("cost" + told(t, f, h, year, light), x.cost(t, f, h, year, light), o.cost(t, f, h, year, light));
                break;
            }
            case 21: {
                int f = below(2) == 0 ? below(3) : number(99);
                int h = below(2) == 0 ? below(3) : number(99);
                check("bestBar" + told(f, h, year, light), x.bestBar(f, h, year, light), o.bestBar(f, h, year, light));
                break;
            }
            case 22: {
                int d = number(100);
                int what = number(4);
                check("fair" + told(d, year, light, what), x.fair(d, year, light, what), o.fair(d, year, light, what));
                break;
            }
            case 23: {
                int kind = number(3);
                int other = number(3);
                check("measure" + told(kind, other), x.measure(kind, other), o.measure(kind, other));
                break;
            }
            case 24: {
                int what = number(8);
                check("about" + told(what), x.about(what), o.about(what));
                break;
            }
            default: check("fault" + told(a), x.fault(a), o.fault(a));
        }
    }

    private static String told(int... numbers) {
        StringBuilder text = new StringBuilder("(");
        for (int n : numbers) {
            text.append(text.length() > 1 ? ", " : "").append(n);
        }
        return text.append(")").toString();
    }
}
