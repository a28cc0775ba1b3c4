import java.util.ArrayList;
import java.util.Arrays;
import java.util.HashSet;
import java.util.List;
import java.util.Set;

/** The document told once more, in the longest way and with the whole Java library, to be held against the class. */
final class Oracle {
    static final Set<String> RESERVED = new HashSet<>(Arrays.asList(("points face kind drift row knows printer blurs costs near bar sign"
        + " when far years light sum edge most least at and or not").split(" ")));

    @SuppressWarnings("serial")
    static final class Fault extends RuntimeException {
        final int sort;
        final int place;

        Fault(int sort, int place) {
            super(null, null, false, false);
            this.sort = sort;
            this.place = place;
        }
    }

    record Token(String word, int place) { }

    record Face(String name, int kind, int drift, int[] row) { }

    record Sign(String name, Tree e) { }

    record Tree(String act, int number, Tree left, Tree right) { }

    record Paper(int face, int other, int share, int year, int printer, int street, int told, Integer untold) {
        boolean counts(int k) {
            return told <= k && !(untold != null && untold <= k);
        }
    }

    record Box(List<Paper> papers, int time) { }

    /** Tokens are read only when they are asked for, so that a fault behind the first is never met. */
    static final class Reader {
        final String text;
        final String signs;
        int at = 0;

        Reader(String text, String signs) {
            this.text = text;
            this.signs = signs;
        }

        Token look() {
            int p = at;
            while (p < text.length() && " \n".indexOf(text.charAt(p)) >= 0) {
                p++;
            }
            if (p == text.length()) {
                return new Token("", p);
            }
            char c = text.charAt(p);
            int q = p;
            if (c >= 'a' && c <= 'z') {
                while (q < text.length() && text.charAt(q) >= 'a' && text.charAt(q) <= 'z') {
                    q++;
                }
                if (q - p > 8) {
                    throw new Fault(1, p);
                }
            } else if (c >= '0' && c <= '9') {
                while (q < text.length() && text.charAt(q) >= '0' && text.charAt(q) <= '9') {
                    q++;
                }
                if (q - p > 4 || q < text.length() && text.charAt(q) >= 'a' && text.charAt(q) <= 'z') {
                    throw new Fault(1, p);
                }
            } else if (signs.indexOf(c) >= 0) {
                q++;
            } else {
                throw new Fault(1, p);
            }
            return new Token(text.substring(p, q), p);
        }

        Token next() {
            Token t = look();
            at = t.place() + t.word().length();
            return t;
        }

        boolean sees(String word) {
            return look().word().equals(word);
        }

        void need(String word) {
            Token t = next();
            if (!t.word().equals(word)) {
                throw new Fault(2, t.place());
            }
        }

        Token number() {
            Token t = next();
            if (t.word().isEmpty() || !Character.isDigit(t.word().charAt(0))) {
                throw new Fault(2, t.place());
            }
            return t;
        }

        int number(int least, int most) {
            Token t = number();
            int n = Integer.parseInt(t.word());
            if (n < least || n > most) {
                throw new Fault(4, t.place());
            }
            return n;
        }

        Token name() {
            Token t = next();
            if (t.word().isEmpty() || !Character.isLetter(t.word().charAt(0)) || RESERVED.contains(t.word())) {
                throw new Fault(2, t.place());
            }
            return t;
        }
    }

    StringBuilder tape = new StringBuilder();
    int points = 5;
    int near = 20;
    List<Face> faces = new ArrayList<>();
    List<Set<Integer>> knows = new ArrayList<>();
    int[] blurs = new int[4];
    int[] costs = new int[4];
    Tree bar = null;
    List<Sign> signList = new ArrayList<>();
    int units = 0;
    List<Paper> papers = new ArrayList<>();
    int time = 0;
    Box[] boxes = new Box[3];
    int faultSort = 0;
    int faultPlace = -1;

    int feed(int a, int b, int c, int d, int e) {
        if (tape.length() > 1580) {
            return -1;
        }
        for (int n : new int[] {a, b, c, d, e}) {
            tape.append((char) (n >> 24 & 255)).append((char) (n >> 16 & 255)).append((char) (n >> 8 & 255)).append((char) (n & 255));
        }
        return tape.length();
    }

    int end(int n) {
        if (n < 0 || n > tape.length()) {
            return -1;
        }
        tape.setLength(n);
        return n;
    }

    private static int find(List<Face> faces, String name) {
        for (int i = 0; i < faces.size(); i++) {
            if (faces.get(i).name().equals(name)) {
                return i;
            }
        }
        return -1;
    }

    int town() {
        Reader r = new Reader(tape.toString(), ";");
        tape.setLength(0);
        try {
            readTown(r);
        } catch (Fault f) {
            faultSort = f.sort;
            faultPlace = f.place;
            return -1;
        }
        faultSort = 0;
        faultPlace = -1;
        bar = null;
        signList = new ArrayList<>();
        units = 0;
        papers = new ArrayList<>();
        boxes = new Box[3];
        return faces.size();
    }

    private void readTown(Reader r) {
        Integer p = null;
        Integer n = null;
        List<Face> fs = new ArrayList<>();
        List<Set<Integer>> ks = new ArrayList<>();
        int[] bs = {-1, -1, -1, -1};
        int[] cs = new int[4];
        while (!r.sees("")) {
            Token first = r.next();
            switch (first.word()) {
                case "points" -> {
                    if (p != null || !fs.isEmpty()) {
                        throw new Fault(2, first.place());
                    }
                    p = r.number(3, 8);
                }
                case "near" -> {
                    if (n != null) {
                        throw new Fault(2, first.place());
                    }
                    n = r.number(0, 800);
                }
                case "face" -> {
                    if (fs.size() == 16) {
                        throw new Fault(2, first.place());
                    }
                    Token name = r.name();
                    if (find(fs, name.word()) >= 0) {
                        throw new Fault(3, name.place());
                    }
                    r.need("kind");
                    int kind = r.number(0, 3);
                    r.need("drift");
                    int drift = r.number(0, 9);
                    r.need("row");
                    int[] row = new int[p == null ? 5 : p];
                    for (int i = 0; i < row.length; i++) {
                        row[i] = r.number(0, 99);
                    }
                    fs.add(new Face(name.word(), kind, drift, row));
                }
                case "knows" -> {
                    if (ks.size() == 20) {
                        throw new Fault(2, first.place());
                    }
                    Token a = r.name();
                    int i = find(fs, a.word());
                    if (i < 0) {
                        throw new Fault(5, a.place());
                    }
                    Token b = r.name();
                    int j = find(fs, b.word());
                    if (j < 0) {
                        throw new Fault(5, b.place());
                    }
                    if (i == j || ks.contains(Set.of(i, j))) {
                        throw new Fault(3, b.place());
                    }
                    ks.add(Set.of(i, j));
                }
                case "printer" -> {
                    Token t = r.look();
                    int which = r.number(0, 3);
                    if (bs[which] >= 0) {
                        throw new Fault(3, t.place());
                    }
                    r.need("blurs");
                    bs[which] = r.number(0, 9);
                    r.need("costs");
                    cs[which] = r.number(0, 99);
                }
                default -> throw new Fault(2, first.place());
            }
            r.need(";");
        }
        points = p == null ? 5 : p;
        near = n == null ? 20 : n;
        faces = fs;
        knows = ks;
        for (int i = 0; i < 4; i++) {
            blurs[i] = Math.max(0, bs[i]);
        }
        costs = cs;
    }

    private int unitsRead;
    private boolean barRead;

    int rules() {
        if (tape.length() > 800) {
            return -2;
        }
        Reader r = new Reader(tape.toString(), ";()<>=+-*");
        tape.setLength(0);
        Tree newBar = null;
        List<Sign> newSigns = new ArrayList<>();
        unitsRead = 0;
        try {
            while (!r.sees("")) {
                Token first = r.next();
                if (first.word().equals("bar")) {
                    if (newBar != null) {
                        throw new Fault(2, first.place());
                    }
                    barRead = true;
                    newBar = either(r, 0);
                } else if (first.word().equals("sign")) {
                    if (newSigns.size() == 6) {
                        throw new Fault(2, first.place());
                    }
                    Token name = r.name();
                    for (Sign s : newSigns) {
                        if (s.name().equals(name.word())) {
                            throw new Fault(3, name.place());
                        }
                    }
                    r.need("when");
                    barRead = false;
                    newSigns.add(new Sign(name.word(), either(r, 0)));
                } else {
                    throw new Fault(2, first.place());
                }
                r.need(";");
            }
        } catch (Fault f) {
            faultSort = f.sort;
            faultPlace = f.place;
            return -1;
        }
        faultSort = 0;
        faultPlace = -1;
        bar = newBar;
        signList = newSigns;
        units = unitsRead;
        return signList.size() + (bar == null ? 0 : 1);
    }

    private Tree either(Reader r, int within) {
        Tree t = every(r, within);
        while (r.sees("or")) {
            r.next();
            t = new Tree("or", 0, t, every(r, within));
        }
        return t;
    }

    private Tree every(Reader r, int within) {
        Tree t = one(r, within);
        while (r.sees("and")) {
            r.next();
            t = new Tree("and", 0, t, one(r, within));
        }
        return t;
    }

    private Tree one(Reader r, int within) {
        if (r.sees("not")) {
            Token not = r.next();
            if (within == 7) {
                throw new Fault(2, not.place());
            }
            return new Tree("not", 0, one(r, within + 1), null);
        }
        Tree t = sum(r, within);
        if (r.sees("<") || r.sees(">") || r.sees("=")) {
            String act = r.next().word();
            t = new Tree(act, 0, t, sum(r, within));
        }
        return t;
    }

    private Tree sum(Reader r, int within) {
        Tree t = term(r, within);
        while (r.sees("+") || r.sees("-")) {
            String act = r.next().word();
            t = new Tree(act, 0, t, term(r, within));
        }
        return t;
    }

    private Tree term(Reader r, int within) {
        Tree t = unit(r, within);
        while (r.sees("*")) {
            r.next();
            t = new Tree("*", 0, t, unit(r, within));
        }
        return t;
    }

    private Tree unit(Reader r, int within) {
        Token t = r.next();
        unitsRead++;
        if (unitsRead > 40) {
            throw new Fault(2, t.place());
        }
        if (!t.word().isEmpty() && Character.isDigit(t.word().charAt(0))) {
            return new Tree("N", Integer.parseInt(t.word()), null, null);
        }
        if (t.word().equals("(")) {
            if (within == 7) {
                throw new Fault(2, t.place());
            }
            Tree inner = either(r, within + 1);
            r.need(")");
            return inner;
        }
        if (barRead && List.of("far", "kind", "years", "light").contains(t.word())
            || !barRead && List.of("sum", "edge", "most", "least").contains(t.word())) {
            return new Tree(t.word(), 0, null, null);
        }
        if (!barRead && t.word().equals("at")) {
            return new Tree("at", r.number(0, points - 1), null, null);
        }
        throw new Fault(2, t.place());
    }

    /** facts: far, kind, years, light of a bar; picture: of a sign. */
    private int value(Tree t, int[] facts, int[] picture) {
        switch (t.act()) {
            case "N":
                return t.number();
            case "far":
                return facts[0];
            case "kind":
                return facts[1];
            case "years":
                return facts[2];
            case "light":
                return facts[3];
            case "sum":
                return Arrays.stream(picture).sum();
            case "most":
                return Arrays.stream(picture).max().getAsInt();
            case "least":
                return Arrays.stream(picture).min().getAsInt();
            case "edge":
                int edge = 0;
                for (int i = 0; i + 1 < picture.length; i++) {
                    edge += Math.abs(picture[i] - picture[i + 1]);
                }
                return edge;
            case "at":
                return picture[t.number()];
            default:
        }
        int a = value(t.left(), facts, picture);
        if (t.act().equals("not")) {
            return a == 0 ? 1 : 0;
        }
        int b = value(t.right(), facts, picture);
        boolean yes;
        switch (t.act()) {
            case "+":
                return a + b;
            case "-":
                return a - b;
            case "*":
                return a * b;
            case "<":
                yes = a < b;
                break;
            case ">":
                yes = a > b;
                break;
            case "=":
                yes = a == b;
                break;
            case "and":
                yes = a != 0 && b != 0;
                break;
            default:
                yes = a != 0 || b != 0;
        }
        return yes ? 1 : 0;
    }

    int fault(int what) {
        return what == 0 ? faultSort : what == 1 ? faultPlace : -1;
    }

    private boolean is(int... faceNumbers) {
        for (int f : faceNumbers) {
            if (f < 0 || f >= faces.size()) {
                return false;
            }
        }
        return true;
    }

    private static boolean in(int n, int least, int most) {
        return n >= least && n <= most;
    }

    private int[] row(int f, int year) {
        int[] row = faces.get(f).row().clone();
        for (int i = 0; i < row.length; i++) {
            int d = faces.get(f).drift() * year / 10;
            row[i] = i % 2 == 0 ? row[i] + d : row[i] - d;
            row[i] = row[i] < 0 ? 0 : row[i] > 99 ? 99 : row[i];
        }
        return row;
    }

    private int[] live(int f, int year, int light) {
        int[] row = row(f, year);
        for (int i = 0; i < row.length; i++) {
            row[i] = row[i] + light > 99 ? 99 : row[i] + light;
        }
        return row;
    }

    private int[] mixOf(int a, int b, int s, int printer) {
        int[] x = row(a, 0);
        int[] y = row(b, 0);
        for (int i = 0; i < x.length; i++) {
            x[i] = (x[i] * s + y[i] * (10 - s)) / 10;
        }
        return printed(x, printer);
    }

    private int[] printed(int[] x, int printer) {
        int[] y = x.clone();
        for (int i = 0; i < x.length && printer >= 0; i++) {
            y[i] = x[i] - x[i] % (blurs[printer] + 1);
        }
        return y;
    }

    private static int far(int[] x, int[] y) {
        int all = 0;
        for (int i = 0; i < x.length; i++) {
            all += x[i] > y[i] ? x[i] - y[i] : y[i] - x[i];
        }
        return all;
    }

    private boolean lets(int f, int[] picture, int year, int light) {
        int far = far(live(f, year, light), picture);
        if (bar == null) {
            return far < 40;
        }
        return value(bar, new int[] {far, faces.get(f).kind(), year, light}, null) != 0;
    }

    int face(int f, int m, int year) {
        return is(f) && in(m, 0, points - 1) && in(year, 0, 60) ? row(f, year)[m] : -1;
    }

    int far(int a, int ya, int b, int yb) {
        return is(a, b) && in(ya, 0, 60) && in(yb, 0, 60) ? far(row(a, ya), row(b, yb)) : -1;
    }

    private static boolean when(int year, int light) {
        return in(year, 0, 60) && in(light, 0, 9);
    }

    int passes(int f, int p, int year, int light) {
        return !is(f, p) || !when(year, light) ? -1 : lets(f, row(p, 0), year, light) ? 1 : 0;
    }

    int mix(int a, int b, int s, int printer, int m) {
        return is(a, b) && a != b && in(s, 0, 10) && in(printer, -1, 3) && in(m, 0, points - 1) ? mixOf(a, b, s, printer)[m] : -1;
    }

    int both(int a, int b, int s, int year, int light) {
        if (!is(a, b) || a == b || !in(s, 0, 10) || !when(year, light)) {
            return -1;
        }
        int[] m = mixOf(a, b, s, -1);
        return (lets(a, m, year, light) ? 1 : 0) + (lets(b, m, year, light) ? 2 : 0);
    }

    int able(int a, int b, int year, int light) {
        if (!is(a, b) || a >= b || !when(year, light)) {
            return -1;
        }
        int best = -1;
        int least = Integer.MAX_VALUE;
        for (int s = 10; s >= 0; s--) {
            int[] m = mixOf(a, b, s, -1);
            int greater = Math.max(far(live(a, year, light), m), far(live(b, year, light), m));
            if (both(a, b, s, year, light) == 3 && greater <= least) {
                best = s;
                least = greater;
            }
        }
        return best;
    }

    private List<Integer> ablePairs(int year, int light) {
        List<Integer> found = new ArrayList<>();
        for (int a = 0; a < faces.size(); a++) {
            for (int b = a + 1; b < faces.size(); b++) {
                if (able(a, b, year, light) >= 0) {
                    found.add(100 * a + b);
                }
            }
        }
        return found;
    }

    int pairs(int year, int light) {
        return when(year, light) ? ablePairs(year, light).size() : -1;
    }

    int pair(int i, int year, int light) {
        if (!when(year, light) || i < 0) {
            return -1;
        }
        List<Integer> found = ablePairs(year, light);
        return i < found.size() ? found.get(i) : -1;
    }

    int gate(int what, int kind, int year, int light) {
        if (!in(what, 0, 1) || !in(kind, -1, 3) || !when(year, light)) {
            return -1;
        }
        int count = 0;
        for (int a = 0; a < faces.size(); a++) {
            for (int b = 0; b < faces.size(); b++) {
                if (kind == -1 || faces.get(a).kind() == kind) {
                    int passes = passes(a, b, year, light);
                    count += what == 0 && a != b ? passes : 0;
                    count += what == 1 && a == b ? 1 - passes : 0;
                }
            }
        }
        return count;
    }

    int twins(int year, int light) {
        if (!when(year, light)) {
            return -1;
        }
        int count = 0;
        for (int a = 0; a < faces.size(); a++) {
            for (int b = 0; b < a; b++) {
                count += passes(a, b, year, light) * passes(b, a, year, light);
            }
        }
        return count;
    }

    int until(int f, int light) {
        if (!is(f) || !in(light, 0, 9)) {
            return -1;
        }
        int year = 0;
        while (year <= 60 && passes(f, f, year, light) == 1) {
            year++;
        }
        return year > 60 ? -1 : year;
    }

    private int bits(int[] picture) {
        int all = 0;
        int bit = 1;
        for (Sign s : signList) {
            all += value(s.e(), null, picture) != 0 ? bit : 0;
            bit *= 2;
        }
        return all;
    }

    int signs(int a, int b, int s, int printer) {
        return is(a, b) && a != b && in(s, 0, 10) && in(printer, -1, 3) ? bits(mixOf(a, b, s, printer)) : -1;
    }

    int caught(int printer, int part) {
        if (!in(printer, -1, 3) || !in(part, 0, 1) || faces.size() < 2) {
            return -1;
        }
        int all = 0;
        int some = 0;
        for (int a = 0; a < faces.size(); a++) {
            for (int b = a + 1; b < faces.size(); b++) {
                for (int s = 1; s <= 9; s++) {
                    all++;
                    some += signs(a, b, s, printer) != 0 ? 1 : 0;
                }
            }
        }
        int d = all;
        while (all % d != 0 || some % d != 0) {
            d--;
        }
        return part == 0 ? some / d : all / d;
    }

    int paper(int f, int other, int s, int place) {
        int street = place % 10;
        int printer = place / 10 % 10;
        int year = place / 100;
        if (!is(f, other) || !in(s, 0, 10) || place < 0 || printer > 3 || year > 60 || papers.size() >= 40) {
            return -1;
        }
        papers.add(new Paper(f, other, s, year, printer, street, time, null));
        return papers.size() - 1;
    }

    boolean untell(int p) {
        if (p < 0 || p >= papers.size() || papers.get(p).untold() != null) {
            return false;
        }
        Paper q = papers.get(p);
        papers.set(p, new Paper(q.face(), q.other(), q.share(), q.year(), q.printer(), q.street(), q.told(), time));
        return true;
    }

    int later(int by) {
        if (by < 0 || by > 1000 || time + by > 100000) {
            return -1;
        }
        time += by;
        return time;
    }

    private boolean counting(int p, int k) {
        return p >= 0 && p < papers.size() && papers.get(p).counts(k);
    }

    int behind(int p, int what, int k) {
        if (!counting(p, k) || !in(what, 0, 3) || faces.size() == 1) {
            return -1;
        }
        Paper paper = papers.get(p);
        int me = paper.face();
        int[] picture = mixOf(me, paper.other(), paper.share(), paper.printer());
        int[] best = {Integer.MAX_VALUE, 0, 0};
        for (int g = 0; g < faces.size(); g++) {
            for (int s = 1; s <= 9 && g != me; s++) {
                int far = far(picture, mixOf(me, g, s, paper.printer()));
                if (far < best[0]) {
                    best = new int[] {far, g, s};
                }
            }
        }
        boolean told = best[0] + near < far(picture, printed(row(me, 0), paper.printer()));
        for (int g = 0; g < faces.size(); g++) {
            for (int s = 1; s <= 9 && g != me && g != best[1]; s++) {
                told &= best[0] + near < far(picture, mixOf(me, g, s, paper.printer()));
            }
        }
        return new int[] {best[1], best[2], best[0], told ? 1 : 0}[what];
    }

    private List<Set<Integer>> partsAt(int k) {
        List<Set<Integer>> parts = new ArrayList<>();
        for (int p = 0; p < papers.size(); p++) {
            if (counting(p, k)) {
                parts.add(new HashSet<>(Set.of(p)));
            }
        }
        boolean again = true;
        while (again) {
            again = false;
            for (int i = 0; i < parts.size() && !again; i++) {
                for (int j = i + 1; j < parts.size() && !again; j++) {
                    for (int p : parts.get(i)) {
                        for (int q : parts.get(j)) {
                            again |= hang(papers.get(p), papers.get(q));
                        }
                    }
                    if (again) {
                        parts.get(i).addAll(parts.remove(j));
                    }
                }
            }
        }
        return parts;
    }

    private boolean hang(Paper p, Paper q) {
        return p.face() == q.face() || knows.contains(Set.of(p.face(), q.face()))
            || p.printer() == q.printer() && p.street() == q.street() && Math.abs(p.year() - q.year()) < 3;
    }

    int rings(int what, int k) {
        List<Set<Integer>> parts = partsAt(k);
        if (what == 0) {
            return parts.size();
        }
        int most = 0;
        int least = -1;
        for (Set<Integer> part : parts) {
            int first = part.stream().min(Integer::compare).get();
            if (part.size() > most || part.size() == most && first < least) {
                most = part.size();
                least = first;
            }
        }
        return what == 1 ? most : what == 2 ? least : -1;
    }

    int ring(int p, int k) {
        for (Set<Integer> part : partsAt(k)) {
            if (part.contains(p)) {
                return part.size();
            }
        }
        return -1;
    }

    int between(int a, int b) {
        if (!is(a, b)) {
            return -1;
        }
        int n = faces.size();
        int[][] d = new int[n][n];
        for (int i = 0; i < n; i++) {
            for (int j = 0; j < n; j++) {
                d[i][j] = i == j ? 0 : knows.contains(Set.of(i, j)) ? 1 : 1000;
            }
        }
        for (int m = 0; m < n; m++) {
            for (int i = 0; i < n; i++) {
                for (int j = 0; j < n; j++) {
                    d[i][j] = Math.min(d[i][j], d[i][m] + d[m][j]);
                }
            }
        }
        return d[a][b] >= 1000 ? -1 : d[a][b];
    }

    int looks(int sum, int what, int k) {
        if (!in(sum, 0, 999) || !in(what, 0, 1)) {
            return -1;
        }
        int best = 0;
        int most = -1;
        for (int bits = 0; bits < 16; bits++) {
            int cost = 0;
            int count = 0;
            for (int printer = 0; printer < 4; printer++) {
                if ((bits & 1 << printer) != 0) {
                    cost += costs[printer];
                    for (Paper p : papers) {
                        boolean mixed = p.face() != p.other() && p.share() != 0 && p.share() != 10;
                        if (p.printer() == printer && p.counts(k) && mixed
                            && bits(mixOf(p.face(), p.other(), p.share(), printer)) != 0) {
                            count++;
                        }
                    }
                }
            }
            if (cost <= sum && count > most) {
                best = bits;
                most = count;
            }
        }
        return what == 0 ? best : most;
    }

    int cost(int t, int f, int h, int year, int light) {
        if (!in(t, 0, 800) || !in(f, 0, 99) || !in(h, 0, 99) || !when(year, light)) {
            return -1;
        }
        int all = 0;
        for (int a = 0; a < faces.size(); a++) {
            for (int b = 0; b < faces.size(); b++) {
                boolean in = far(live(a, year, light), row(b, 0)) <= t;
                all += a != b && in ? f : a == b && !in ? h : 0;
            }
        }
        return all;
    }

    int bestBar(int f, int h, int year, int light) {
        if (cost(0, f, h, year, light) < 0) {
            return -1;
        }
        int n = faces.size();
        int[][] d = new int[n][n];
        for (int a = 0; a < n; a++) {
            for (int b = 0; b < n; b++) {
                d[a][b] = far(live(a, year, light), row(b, 0));
            }
        }
        int best = 0;
        int least = Integer.MAX_VALUE;
        for (int t = 0; t <= 800; t++) {
            int all = 0;
            for (int a = 0; a < n; a++) {
                for (int b = 0; b < n; b++) {
                    all += a != b && d[a][b] <= t ? f : a == b && d[a][b] > t ? h : 0;
                }
            }
            if (all < least) {
                best = t;
                least = all;
            }
        }
        return best;
    }

    private int bars(int kind, int d, int year, int light) {
        for (int t = 0; t <= 800; t++) {
            int all = 0;
            int held = 0;
            for (int a = 0; a < faces.size(); a++) {
                if (faces.get(a).kind() == kind) {
                    all++;
                    held += far(live(a, year, light), row(a, 0)) > t ? 1 : 0;
                }
            }
            if (all == 0) {
                return -1;
            }
            if (held * 100 <= d * all) {
                return t;
            }
        }
        return -1;
    }

    int fair(int d, int year, int light, int what) {
        if (!in(d, 0, 100) || !when(year, light) || !in(what, 0, 4)) {
            return -1;
        }
        if (what < 4) {
            return bars(what, d, year, light);
        }
        int all = 0;
        int[] bars = {bars(0, d, year, light), bars(1, d, year, light), bars(2, d, year, light), bars(3, d, year, light)};
        for (int a = 0; a < faces.size(); a++) {
            for (int b = 0; b < faces.size(); b++) {
                all += a != b && far(live(a, year, light), row(b, 0)) <= bars[faces.get(a).kind()] ? 1 : 0;
            }
        }
        return all;
    }

    int measure(int kind, int other) {
        int least = -1;
        for (int a = 0; a < faces.size(); a++) {
            for (int b = 0; b < faces.size(); b++) {
                if (a != b && faces.get(a).kind() == kind && faces.get(b).kind() == other) {
                    int far = far(row(a, 0), row(b, 0));
                    least = least < 0 ? far : Math.min(least, far);
                }
            }
        }
        return least;
    }

    int image(int box) {
        if (!in(box, 0, 2)) {
            return -1;
        }
        boxes[box] = new Box(new ArrayList<>(papers), time);
        return papers.size();
    }

    int back(int box) {
        if (!in(box, 0, 2) || boxes[box] == null) {
            return -1;
        }
        papers = new ArrayList<>(boxes[box].papers());
        time = boxes[box].time();
        return papers.size();
    }

    int about(int what) {
        int[] all = {faces.size(), points, signList.size(), papers.size(), time, tape.length(), units, knows.size(), near};
        return in(what, 0, 8) ? all[what] : -1;
    }
}
