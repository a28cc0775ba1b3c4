/** What the tests share: answers counted against those that are due, and texts brought onto the tape. */
abstract class Checks {
    static final int NONE = TwoFaces.NONE;

    private static int passed = 0;
    private static int failed = 0;

    static void due(String what, int got, int want) {
        if (got == want) {
            passed++;
        } else {
            failed++;
            System.out.println("  " + what + " answered " + got + ", due is " + want);
        }
    }

    static void due(String what, boolean got, boolean want) {
        due(what, got ? 1 : 0, want ? 1 : 0);
    }

    static void due(String what, String got, String want) {
        if (got.equals(want)) {
            passed++;
        } else {
            failed++;
            System.out.println("  " + what + " answered\n    " + got + ", due is\n    " + want);
        }
    }

    /** Each of the answers must be NONE. */
    static void nones(String what, int... got) {
        for (int i = 0; i < got.length; i++) {
            due(what + " (" + (i + 1) + ")", got[i], NONE);
        }
    }

    static void tellAndExit() {
        System.out.println(passed + " passed, " + failed + " failed");
        if (failed != 0) {
            System.exit(1);
        }
    }

    static void put(TwoFaces x, String text) {
        int from = x.about(5);
        for (int i = 0; i < text.length(); i += 20) {
            int[] n = new int[5];
            for (int j = 0; j < 20; j++) {
                int sign = i + j < text.length() ? text.charAt(i + j) : 0;
                n[j / 4] = n[j / 4] << 8 | sign & 255;
            }
            x.feed(n[0], n[1], n[2], n[3], n[4]);
        }
        x.end(from + text.length());
    }

    static int town(TwoFaces x, String text) {
        put(x, text);
        return x.town();
    }

    static int rules(TwoFaces x, String text) {
        put(x, text);
        return x.rules();
    }

    static TwoFaces with(String town) {
        TwoFaces x = new TwoFaces();
        due("town '" + town + "' has a fault", town(x, town) == NONE, false);
        return x;
    }

    static TwoFaces with(String town, String rules) {
        TwoFaces x = with(town);
        due("rules '" + rules + "' have a fault", rules(x, rules) == NONE, false);
        return x;
    }

    static void townFault(String text, int sort, int place) {
        TwoFaces x = new TwoFaces();
        due("town '" + text + "'", town(x, text), NONE);
        due("sort of the fault in '" + text + "'", x.fault(0), sort);
        due("its place in '" + text + "'", x.fault(1), place);
        due("tape behind it", x.about(5), 0);
    }

    static void townStands(String text, int faces) {
        TwoFaces x = new TwoFaces();
        due("town '" + text + "'", town(x, text), faces);
        due("fault in '" + text + "'", x.fault(0), 0);
        due("place in '" + text + "'", x.fault(1), NONE);
    }

    /** The rules of a town with these points; a bar that lets all in stands ahead, and must stay. */
    static void rulesFault(int points, String text, int sort, int place) {
        TwoFaces x = with(far(points), "bar 1;");
        due("rules '" + text + "'", rules(x, text), NONE);
        due("sort of the fault in '" + text + "'", x.fault(0), sort);
        due("its place in '" + text + "'", x.fault(1), place);
        due("tape behind it", x.about(5), 0);
        due("bar behind it", x.passes(0, 1, 0, 0), 1);
    }

    static void rulesFault(String text, int sort, int place) {
        rulesFault(3, text, sort, place);
    }

    static void rulesStand(int points, String text, int lines) {
        TwoFaces x = with(far(points));
        due("rules '" + text + "'", rules(x, text), lines);
        due("fault in '" + text + "'", x.fault(0), 0);
        due("place in '" + text + "'", x.fault(1), NONE);
    }

    static void rulesStand(String text, int lines) {
        rulesStand(3, text, lines);
    }

    /** A town of two faces that are 99 apart in each measure. */
    static String far(int points) {
        return "points " + points + ";face a kind 0 drift 0 row" + " 0".repeat(points) + ";face b kind 1 drift 0 row" + " 99".repeat(points) + ";";
    }

    /** Faces a, b, c, .. of five measures, the first of which is the face's number. */
    static String faces(int n) {
        StringBuilder text = new StringBuilder();
        for (int i = 0; i < n; i++) {
            text.append("face ").append((char) ('a' + i)).append(" kind 0 drift 0 row ").append(i).append(" 0 0 0 0;");
        }
        return text.toString();
    }

    /** A face of kind 0 that does not drift. */
    static String face(String name, String row) {
        return face(name, 0, 0, row);
    }

    static String face(String name, int kind, int drift, String row) {
        return "face " + name + " kind " + kind + " drift " + drift + " row " + row + ";";
    }

    static String printer(int printer, int blurs, int costs) {
        return "printer " + printer + " blurs " + blurs + " costs " + costs + ";";
    }
}
