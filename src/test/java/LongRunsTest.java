import java.lang.reflect.Array;
import java.lang.reflect.Field;
import java.lang.reflect.Modifier;
import java.util.ArrayDeque;
import java.util.Collections;
import java.util.Deque;
import java.util.IdentityHashMap;
import java.util.Set;

/** Objects used for all their 512 calls, text upon text; texts as deep as they can be; the room that an object takes. */
public final class LongRunsTest extends Checks {
    private static final int CALLS = 512;
    /** The calls of a run live in one room (600,000 and 7.3 million): one object leaves place for some hundreds of others. */
    private static final int MOST_OBJECTS = 300;
    private static final int MOST_PARTS = 20000;

    public static void main(String[] args) {
        rulesUponRules();
        faultsUponFaults();
        townsUponTowns();
        papersUponTowns();
        deepestValues();
        deepestTexts();
        longestTexts();
        roomOfAnObject();
        tellAndExit();
    }

    // The TAPE is RULES: only those that were told last are, and they may be as many units each time.
    private static void rulesUponRules() {
        TwoFaces x = with(far(3));
        for (int i = 0; i < 50; i++) {
            String bar = "bar " + i + " + 1" + " + 1".repeat(18) + " = years;";
            String signs = "sign s when sum * 0 + " + i % 2 + ";sign t when at 2 * 0 + " + (1 - i % 2) + " and 1" + "*1".repeat(12) + ";";
            due("rules " + i, rules(x, i % 3 == 0 ? bar + signs : signs + bar), 3);
            due("their units " + i, x.about(6), 40);
            due("their bar " + i, x.passes(0, 0, i + 19 > 60 ? 60 : i + 19, 0), i + 19 > 60 ? 0 : 1);
            due("their signs " + i, x.signs(0, 1, 5, -1), i % 2 == 0 ? 2 : 1);
        }
        due("none", rules(x, ""), 0);
        due("no units", x.about(6), 0);
    }

    // NONE: a FAULT (those there are stay): however many come.
    private static void faultsUponFaults() {
        TwoFaces x = with(far(3), "bar years = 7;sign s when at 2 = 99;");
        String forty = "sign b when 0;sign a when 1" + "+1".repeat(37);
        for (int i = 0; i < 25; i++) {
            due("rules with a fault " + i, rules(x, forty + (i % 2 == 0 ? ";bar" : "+1 and 1;")), NONE);
            due("its place " + i, x.fault(1), forty.length() + (i % 2 == 0 ? 4 : 7));
            due("the bar stays " + i, x.passes(0, 0, 7, 0) * 10 + x.passes(0, 0, 8, 0), 10);
            due("the sign stays " + i, x.signs(0, 1, 0, -1) * 10 + x.signs(0, 1, 5, -1), 10);
        }
        due("as many units as can be all the same", rules(x, forty + "+1;"), 2);
        due("their values", x.signs(0, 1, 5, -1), 2);
    }

    // The TAPE is the TOWN: names, knows, printers are told anew in each, and a FAULT leaves the one there is.
    private static void townsUponTowns() {
        TwoFaces x = new TwoFaces();
        for (int i = 0; i < 40; i++) {
            int points = 3 + i % 6;
            String row = (10 + i) + " 0".repeat(points - 1);
            String text = "points " + points + ";near " + i + ";" + face("a", i % 4, 0, row) + face("b", 3 - i % 4, 9, row) + "knows a b;"
                + printer(i % 4, 9, 1);
            due("town " + i, town(x, text), 2);
            due("its faces are told already", town(x, text + face("a", row)), NONE);
            due("which fault", x.fault(0) * 10000 + x.fault(1), 30000 + text.length() + 5);
            due("points " + i, x.about(1), points);
            due("near " + i, x.about(8), i);
            due("knows " + i, x.about(7) * 10 + x.between(0, 1), 11);
            due("row " + i, x.face(1, 0, 0), 10 + i);
            due("its printer " + i, x.mix(0, 1, 5, i % 4, 0), (10 + i) / 10 * 10);
            due("no other printer " + i, x.mix(0, 1, 5, (i + 3) % 4, 0), 10 + i);
            due("its kinds " + i, x.measure(i % 4, 3 - i % 4), 0);
        }
    }

    // PAPERS are none, BOXES are empty then; 40 at most in each TOWN.
    private static void papersUponTowns() {
        TwoFaces x = new TwoFaces();
        String text = "points 3;" + face("a", "1 1 1");
        for (int i = 0; i < 9; i++) {
            due("town " + i, town(x, text), 1);
            nones("its boxes are empty " + i, x.back(0));
            for (int p = 0; p < 40; p++) {
                due("paper " + p + " of town " + i, x.paper(0, 0, 5, 100 * i), p);
            }
            nones("no 41st of town " + i, x.paper(0, 0, 5, 0));
            due("kept " + i, x.image(0), 40);
        }
    }

    // e = both {or both} .. sum [(< | > | =) sum] .. term {(+ | -) term} .. unit {* unit}, each within the other six times
    private static void deepestValues() {
        String level = "0 or 1 and 1 = 1 + 1 * (";
        for (int last : new int[] {4, 5}) {
            String e = level.repeat(6) + "0 or 1 and " + last + " < 5" + ")".repeat(6);
            TwoFaces x = with(far(3), "bar " + e + ";");
            due("40 units", x.about(6), 40);
            due("bar " + e, x.passes(0, 0, 0, 0), last == 4 ? 1 : 0);
            rules(x, "sign s when " + e + ";");
            due("sign " + e, x.signs(0, 1, 5, -1), last == 4 ? 1 : 0);
        }
        String nots = "0 or 1 and not 1 = 1 - 1 * (";
        for (int last : new int[] {4, 5}) {
            String e = nots.repeat(3) + last + " > 4" + ")".repeat(3);
            TwoFaces x = with(far(3), "bar " + e + ";");
            due("bar " + e, x.passes(0, 0, 0, 0), last == 4 ? 0 : 1);
        }
    }

    // what is within 7 others: at its first TOKEN, or the not: however much comes behind it
    private static void deepestTexts() {
        for (String line : new String[] {"bar ", "sign s when "}) {
            for (int n : new int[] {8, 9, 40, 41, 100, 196}) {
                rulesFault(line + "(".repeat(n), 2, line.length() + 7);
                rulesFault(line + "(".repeat(n) + "1" + ")".repeat(n) + ";", 2, line.length() + 7);
                rulesFault(line + "not ".repeat(n), 2, line.length() + 28);
                rulesFault(line + "not ".repeat(n) + "1;", 2, line.length() + 28);
            }
            rulesFault(line + "(".repeat(800 - line.length()), 2, line.length() + 7);
            rulesFault(line + "not(".repeat(150), 2, line.length() + 4 * 3 + 3);
        }
    }

    /** Texts of as many tokens, and of as many lines, as there can be bytes for. */
    private static void longestTexts() {
        rulesFault("bar 1" + "+1".repeat(397) + ";", 2, 84);
        rulesFault("bar 1" + " or 1".repeat(158) + ";", 2, 4 + 40 * 5);
        rulesFault("bar 1" + ";".repeat(795), 2, 6);
        rulesFault("bar 1;" + "sign a when 1;".repeat(56), 3, 6 + 14 + 5);
        townFault("a;".repeat(800), 2, 0);
        townFault("points3" + ";".repeat(1593), 2, 8);
        townFault("points3;face a kind0drift0", 1, 19);
        String row = "points8;face a kind0 drift0 row";
        townFault(row + " 1".repeat(780), 2, row.length() + 17);
        String knows = face("a", "1 1 1 1 1") + face("b", "1 1 1 1 1");
        townFault(knows + "knows a b;".repeat(150), 3, knows.length() + 18);
        townStands("near 7;" + "\n".repeat(1593), 0);
        rulesStand(" ".repeat(794) + "bar 1;", 1);
    }

    /** What an object takes does not grow, whatever is asked of it; a new one is small. */
    private static void roomOfAnObject() {
        long[] fresh = room(new TwoFaces());
        due("objects and arrays of a new one: " + fresh[0], fresh[0] <= MOST_OBJECTS, true);
        due("fields and elements of a new one: " + fresh[1], fresh[1] <= MOST_PARTS, true);
        TwoFaces x = with("points 8;" + face("a", "1 2 3 4 5 6 7 8") + face("b", "8 7 6 5 4 3 2 1") + "knows a b;" + printer(1, 9, 9),
            "bar far < 50;sign s when at 7 > 2" + "+1".repeat(30) + ";");
        for (int i = 0; i < CALLS - 50; i++) {
            ask(x, i);
        }
        long[] used = room(x);
        due("objects and arrays behind all calls", (int) used[0], (int) fresh[0]);
        due("fields and elements behind all calls", (int) used[1], (int) fresh[1]);
    }

    private static void ask(TwoFaces x, int i) {
        switch (i % 20) {
            case 0: x.paper(i % 2, i / 2 % 2, i % 11, 100 * (i % 61)); break;
            case 1: x.later(i); break;
            case 2: x.untell(i / 40); break;
            case 3: x.image(i % 3); break;
            case 4: x.rings(1, i); break;
            case 5: x.behind(0, 0, 0); break;
            case 6: x.looks(999, 0, i); break;
            case 7: x.pairs(i % 61, i % 10); break;
            case 8: x.caught(1, 0); break;
            case 9: x.bestBar(1, 2, i % 61, 0); break;
            case 10: x.fair(10, 20, 3, 4); break;
            case 11: x.until(0, 9); break;
            case 12: x.twins(60, 9); break;
            case 13: x.feed(0x62617220, 0x313b2020, 0x20202020, 0x20202020, 0x20202020); break;
            case 14: x.rules(); break;
            case 15: x.back(i % 3); break;
            case 16: x.ring(1, i); break;
            case 17: x.between(0, 1); break;
            case 18: x.measure(i % 4, 0); break;
            default: x.signs(0, 1, 5, 1);
        }
    }

    /** How many objects and arrays hang on one, and how many fields and elements they have. */
    private static long[] room(Object root) {
        Set<Object> seen = Collections.newSetFromMap(new IdentityHashMap<>());
        Deque<Object> waiting = new ArrayDeque<>();
        seen.add(root);
        waiting.add(root);
        long parts = 0;
        while (!waiting.isEmpty()) {
            Object one = waiting.remove();
            if (one.getClass().isArray()) {
                parts += Array.getLength(one);
                for (int i = 0; i < Array.getLength(one) && !one.getClass().getComponentType().isPrimitive(); i++) {
                    see(Array.get(one, i), seen, waiting);
                }
            } else {
                for (Field field : one.getClass().getDeclaredFields()) {
                    if (!Modifier.isStatic(field.getModifiers())) {
                        parts++;
                        see(valueOf(field, one), seen, waiting);
                    }
                }
            }
        }
        return new long[] {seen.size(), parts};
    }

    private static Object valueOf(Field field, Object one) {
        if (field.getType().isPrimitive()) {
            return null;
        }
        try {
            field.setAccessible(true);
            return field.get(one);
        } catch (ReflectiveOperationException refused) {
            throw new IllegalStateException(refused);
        }
    }

    private static void see(Object next, Set<Object> seen, Deque<Object> waiting) {
        if (next != null && seen.add(next)) {
            waiting.add(next);
        }
    }
}
