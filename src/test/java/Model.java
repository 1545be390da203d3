import java.util.ArrayDeque;
import java.util.ArrayList;
import java.util.Collections;
import java.util.List;

/**
 * The document once more, told as plainly as the Java library allows and without a thought for room:
 * rows and PARTS are lists, states are copied whole, all sets are tried. ModelTest holds BatchShare against it.
 */
final class Model {
    static final class Fault extends RuntimeException {
        private static final long serialVersionUID = 1L;
        final int number;

        Fault(int place, int kind) {
            number = 1 + 8 * place + kind;
        }
    }

    record Token(char sort, int place, String text) {
        boolean is(String what) {
            return text.equals(what);
        }
    }

    /** A kept PART: what it is, its ROWS then, USED, STALE. */
    record Keeping(List<Integer> part, int rows, int used, boolean stale) {
    }

    record Asked(List<Integer> shape, List<Integer> shown, boolean isVoid) {
        int source() {
            return shape.get(0);
        }
    }

    static final class Situation {
        boolean base = false;
        int memory = 0;
        List<List<Integer>> r = new ArrayList<>();
        List<List<Integer>> s = new ArrayList<>();
        List<Boolean> struck = new ArrayList<>(Collections.nCopies(8, false));
        List<Keeping> kept = new ArrayList<>();
        int spent = 0;
        int time = 0;

        Situation twin() {
            Situation t = new Situation();
            t.base = base;
            t.memory = memory;
            t.r = new ArrayList<>(r);
            t.s = new ArrayList<>(s);
            t.struck = new ArrayList<>(struck);
            t.kept = new ArrayList<>(kept);
            t.spent = spent;
            t.time = time;
            return t;
        }
    }

    record Picture(Situation now, List<Situation> past, int x) {
    }

    private String tape = "";
    private final List<Asked> asked = new ArrayList<>();
    private Situation now = new Situation();
    private ArrayDeque<Situation> past = new ArrayDeque<>();
    private int x = 0;
    private final Picture[] pictures = new Picture[4];

    // ---- reading

    private static List<Token> tokens(String text) {
        List<Token> list = new ArrayList<>();
        int i = 0;
        while (i < text.length()) {
            char c = text.charAt(i);
            int j = i + 1;
            char sort = 'o';
            if (c >= 'a' && c <= 'z') {
                sort = 'w';
                while (j < text.length() && text.charAt(j) >= 'a' && text.charAt(j) <= 'z') {
                    j++;
                }
            } else if (c >= '0' && c <= '9') {
                sort = 'n';
                while (j < text.length() && text.charAt(j) >= '0' && text.charAt(j) <= '9') {
                    j++;
                }
            } else if ((c == '<' || c == '>') && j < text.length() && text.charAt(j) == '=') {
                j++;
            }
            if (c != ' ') {
                list.add(new Token(sort, i, text.substring(i, j)));
            }
            i = j;
        }
        list.add(new Token('e', text.length(), ""));
        return list;
    }

    private static int number(Token t, int most) {
        if (t.sort() != 'n') {
            throw new Fault(t.place(), 0);
        }
        if (t.text().length() > 5 || Integer.parseInt(t.text()) > most) {
            throw new Fault(t.place(), 1);
        }
        return Integer.parseInt(t.text());
    }

    private static int col(Token t, String among) {
        if (t.sort() != 'w' || t.text().length() != 1 || "abcde".indexOf(t.text()) < 0) {
            throw new Fault(t.place(), 0);
        }
        if (among.indexOf(t.text()) < 0) {
            throw new Fault(t.place(), 2);
        }
        return "abcde".indexOf(t.text());
    }

    private static Situation readBase(String text) {
        List<Token> ts = tokens(text);
        Situation made = new Situation();
        made.base = true;
        int i = 0;
        for (int clause = 0;; clause++) {
            Token first = ts.get(i);
            boolean isRow = first.is("r") || first.is("s");
            if (!isRow && !first.is("base")) {
                throw new Fault(first.place(), 0);
            }
            boolean full = first.is("r") && made.r.size() == 12 || first.is("s") && made.s.size() == 8;
            if (clause == 40 || isRow == (clause == 0) || full) {
                throw new Fault(first.place(), 4);
            }
            i++;
            int width = first.is("r") ? 3 : first.is("s") ? 2 : 1;
            List<Integer> numbers = new ArrayList<>();
            for (int k = 0; k < width; k++) {
                numbers.add(number(ts.get(i), isRow ? 9 : 99));
                i++;
            }
            if (first.is("r")) {
                made.r.add(numbers);
            } else if (first.is("s")) {
                made.s.add(numbers);
            } else {
                made.memory = numbers.get(0);
            }
            Token behind = ts.get(i);
            if (behind.sort() == 'e') {
                return made;
            }
            if (!behind.is(";")) {
                throw new Fault(behind.place(), 0);
            }
            i++;
        }
    }

    private static Asked readQuery(String text) {
        List<Token> ts = tokens(text);
        Token first = ts.get(0);
        int source = List.of("r", "s", "join").indexOf(first.text());
        if (source < 0) {
            throw new Fault(first.place(), 0);
        }
        int i = 1;
        int colR = -1;
        int colS = -1;
        if (source == 2) {
            colR = col(ts.get(1), "abc");
            if (!ts.get(2).is("=")) {
                throw new Fault(ts.get(2).place(), 0);
            }
            colS = col(ts.get(3), "de");
            i = 4;
        }
        String own = List.of("abc", "de", "abcde").get(source);
        List<List<Integer>> allowed = new ArrayList<>();
        for (int c = 0; c < 5; c++) {
            allowed.add(new ArrayList<>(List.of(0, 1, 2, 3, 4, 5, 6, 7, 8, 9)));
        }
        List<Integer> shown = new ArrayList<>();
        for (char c : own.toCharArray()) {
            shown.add(c - 'a');
        }
        int tests = 0;
        while (ts.get(i).sort() != 'e') {
            Token word = ts.get(i);
            if (word.is("if")) {
                do {
                    Token colToken = ts.get(i + 1);
                    int c = col(colToken, own);
                    if (++tests > 12) {
                        throw new Fault(colToken.place(), 4);
                    }
                    Token sign = ts.get(i + 2);
                    if (!List.of("<", "<=", "=", ">=", ">").contains(sign.text())) {
                        throw new Fault(sign.place(), 0);
                    }
                    int n = number(ts.get(i + 3), 9);
                    allowed.get(c).removeIf(v -> !(v < n && sign.text().startsWith("<")
                        || v == n && sign.text().endsWith("=") || v > n && sign.text().startsWith(">")));
                    i += 4;
                } while (ts.get(i).is("and"));
            } else if (word.is("show")) {
                shown.clear();
                do {
                    Token colToken = ts.get(i + 1);
                    int c = col(colToken, own);
                    if (shown.size() == 5) {
                        throw new Fault(colToken.place(), 4);
                    }
                    shown.add(c);
                    i += 2;
                } while (ts.get(i).is(","));
            } else {
                throw new Fault(word.place(), 0);
            }
        }
        boolean isVoid = allowed.stream().anyMatch(List::isEmpty);
        List<Integer> shape = new ArrayList<>(List.of(source, colR, colS));
        for (List<Integer> numbers : allowed) {
            shape.add(isVoid ? 1 : numbers.get(0));
            shape.add(isVoid ? 0 : numbers.get(numbers.size() - 1));
        }
        return new Asked(shape, shown, isVoid);
    }

    // ---- rows and PARTS

    private static boolean inRanges(List<Integer> shape, List<Integer> row, int firstCol) {
        for (int i = 0; i < row.size(); i++) {
            int n = row.get(i);
            if (n < shape.get(3 + 2 * (firstCol + i)) || n > shape.get(4 + 2 * (firstCol + i))) {
                return false;
            }
        }
        return true;
    }

    /** Rows of five numbers each, NONE where the PART has no such COL. */
    private static List<List<Integer>> rowsOf(List<Integer> shape, Situation in) {
        List<List<Integer>> found = new ArrayList<>();
        List<List<Integer>> rs = shape.get(0) == 1 ? List.of(List.of(-1, -1, -1)) : in.r;
        List<List<Integer>> ss = shape.get(0) == 0 ? List.of(List.of(-1, -1)) : in.s;
        for (List<Integer> r : rs) {
            for (List<Integer> s : ss) {
                boolean fits = (shape.get(0) == 1 || inRanges(shape, r, 0)) && (shape.get(0) == 0 || inRanges(shape, s, 3));
                List<Integer> both = new ArrayList<>(r);
                both.addAll(s);
                if (fits && (shape.get(0) != 2 || both.get(shape.get(1)).equals(both.get(shape.get(2))))) {
                    found.add(both);
                }
            }
        }
        return found;
    }

    private static int rows(List<Integer> shape, Situation in) {
        return rowsOf(shape, in).size();
    }

    private static List<Integer> partOf(List<Integer> shape, int kind) {
        List<Integer> part = new ArrayList<>(shape);
        part.set(0, kind);
        if (kind != 2) {
            part.set(1, -1);
            part.set(2, -1);
        }
        for (int c = 0; c < 5; c++) {
            if (kind == 0 && c > 2 || kind == 1 && c < 3) {
                part.set(3 + 2 * c, 0);
                part.set(4 + 2 * c, 9);
            }
        }
        return part;
    }

    private static List<List<Integer>> partsOf(Asked q) {
        if (q.isVoid()) {
            return List.of();
        }
        if (q.source() != 2) {
            return List.of(partOf(q.shape(), q.source()));
        }
        return List.of(partOf(q.shape(), 0), partOf(q.shape(), 1), partOf(q.shape(), 2));
    }

    private static int make(List<Integer> part, Situation in) {
        return switch (part.get(0)) {
            case 0 -> in.r.size();
            case 1 -> in.s.size();
            default -> in.r.size() + in.s.size() + rows(partOf(part, 0), in) * rows(partOf(part, 1), in);
        };
    }

    private static boolean holds(List<Integer> big, List<Integer> small) {
        if (!big.subList(0, 3).equals(small.subList(0, 3))) {
            return false;
        }
        for (int c = 0; c < 5; c++) {
            if (small.get(3 + 2 * c) < big.get(3 + 2 * c) || small.get(4 + 2 * c) > big.get(4 + 2 * c)) {
                return false;
            }
        }
        return true;
    }

    private List<List<Integer>> choices() {
        List<List<Integer>> list = new ArrayList<>();
        for (int q = 0; q < asked.size(); q++) {
            if (!now.struck.get(q)) {
                for (List<Integer> part : partsOf(asked.get(q))) {
                    if (!list.contains(part)) {
                        list.add(part);
                    }
                }
            }
        }
        int plain = list.size();
        for (int i = 0; i < plain; i++) {
            for (int j = i + 1; j < plain; j++) {
                List<Integer> wide = new ArrayList<>(list.get(i));
                for (int k = 3; k < 13; k++) {
                    int a = list.get(i).get(k);
                    int b = list.get(j).get(k);
                    wide.set(k, k % 2 == 1 ? Math.min(a, b) : Math.max(a, b));
                }
                if (list.get(i).subList(0, 3).equals(list.get(j).subList(0, 3)) && !list.contains(wide)) {
                    list.add(wide);
                }
            }
        }
        return list;
    }

    // ---- costs

    /** Cost, and which ones serve by kind. */
    private static int[] price(Asked q, Situation in, List<Keeping> kept) {
        int[] none = {0, -2, -2, -2};
        if (q.isVoid()) {
            return none;
        }
        int[] cost = new int[3];
        int[] by = {-2, -2, -2};
        for (List<Integer> part : partsOf(q)) {
            int kind = part.get(0);
            cost[kind] = kind == 2 ? Integer.MAX_VALUE : make(part, in);
            for (int k = 0; k < kept.size(); k++) {
                Keeping one = kept.get(k);
                if (!one.stale() && holds(one.part(), part) && one.rows() < cost[kind]) {
                    cost[kind] = one.rows();
                    by[kind] = k;
                }
            }
        }
        if (q.source() != 2) {
            return new int[] {cost[q.source()], by[0], by[1], -2};
        }
        int apart = cost[0] + cost[1] + rows(partOf(q.shape(), 0), in) * rows(partOf(q.shape(), 1), in);
        return cost[2] <= apart ? new int[] {cost[2], -2, -2, by[2]} : new int[] {apart, by[0], by[1], -2};
    }

    private int batchOf(Situation in, List<Keeping> kept) {
        int sum = 0;
        for (int q = 0; q < asked.size(); q++) {
            sum += in.struck.get(q) ? 0 : price(asked.get(q), in, kept)[0];
        }
        return sum;
    }

    private Keeping fresh(List<Integer> part) {
        return new Keeping(part, rows(part, now), now.time, false);
    }

    private int gainOf(List<Keeping> kept, List<List<Integer>> more) {
        List<Keeping> all = new ArrayList<>(kept);
        int makes = 0;
        for (List<Integer> part : more) {
            all.add(fresh(part));
            makes += make(part, now);
        }
        return batchOf(now, kept) - batchOf(now, all) - makes;
    }

    // ---- the face

    int feed(int a, int b, int c, int d, int e) {
        if (tape.length() + 20 > 400) {
            return -1;
        }
        StringBuilder more = new StringBuilder(tape);
        for (int n : new int[] {a, b, c, d, e}) {
            for (int k = 3; k >= 0; k--) {
                more.append((char) (n >> 8 * k & 255));
            }
        }
        tape = more.toString();
        return tape.length();
    }

    int end(int n) {
        if (n < 0 || n > tape.length()) {
            return -1;
        }
        tape = tape.substring(0, n);
        return n;
    }

    int base() {
        String text = tape;
        tape = "";
        try {
            now = readBase(text);
            past.clear();
            return now.r.size() + now.s.size();
        } catch (Fault f) {
            return -2 - f.number;
        }
    }

    int query() {
        if (asked.size() == 8) {
            return -1;
        }
        String text = tape;
        tape = "";
        try {
            asked.add(readQuery(text));
            return asked.size() - 1;
        } catch (Fault f) {
            return -2 - f.number;
        }
    }

    private List<List<Integer>> table(int table) {
        return table == 0 ? now.r : table == 1 ? now.s : List.of();
    }

    private boolean isQuery(int q) {
        return q >= 0 && q < asked.size();
    }

    private boolean isOpen(int q) {
        return isQuery(q) && !now.struck.get(q);
    }

    private boolean isKept(int k) {
        return k >= 0 && k < now.kept.size();
    }

    int cell(int table, int row, int col) {
        int c = table == 1 ? col - 3 : col;
        if (row < 0 || row >= table(table).size() || c < 0 || c >= table(table).get(row).size()) {
            return -1;
        }
        return table(table).get(row).get(c);
    }

    int form(int q, int what) {
        if (!isQuery(q) || what < 0 || what > 20) {
            return -2;
        }
        Asked one = asked.get(q);
        if (what < 13) {
            return one.shape().get(what);
        }
        if (what == 13) {
            return one.shown().size();
        }
        if (what < 19) {
            return what - 14 < one.shown().size() ? one.shown().get(what - 14) : -1;
        }
        return (what == 19 ? one.isVoid() : now.struck.get(q)) ? 1 : 0;
    }

    int digest(int q) {
        if (!isQuery(q)) {
            return -1;
        }
        List<Integer> numbers = new ArrayList<>(asked.get(q).shape());
        numbers.replaceAll(n -> n == -1 ? 9 : n);
        numbers.add(asked.get(q).shown().size());
        numbers.addAll(asked.get(q).shown());
        long d = 7;
        for (int n : numbers) {
            d = (31 * d + n) % 1000003;
        }
        return (int) d;
    }

    int alike(int q) {
        return isQuery(q) ? asked.indexOf(asked.get(q)) : -1;
    }

    int answer(int q, int row, int col) {
        if (!isQuery(q) || row < -1) {
            return -2;
        }
        List<List<Integer>> rows = rowsOf(asked.get(q).shape(), now);
        if (row == -1) {
            return rows.size();
        }
        if (row >= rows.size() || col < 0 || col >= asked.get(q).shown().size()) {
            return -2;
        }
        return rows.get(row).get(asked.get(q).shown().get(col));
    }

    int alone(int q) {
        return isQuery(q) ? price(asked.get(q), now, List.of())[0] : -1;
    }

    int candidates() {
        return choices().size();
    }

    int candidate(int c, int what) {
        List<List<Integer>> list = choices();
        if (c < 0 || c >= list.size() || what < 0 || what > 14) {
            return -2;
        }
        List<Integer> part = list.get(c);
        return what < 13 ? part.get(what) : what == 13 ? rows(part, now) : make(part, now);
    }

    int gain(int c) {
        List<List<Integer>> list = choices();
        return c < 0 || c >= list.size() ? -1 : 10000 + gainOf(now.kept, List.of(list.get(c)));
    }

    int greedy(int what) {
        if (what < 0 || what > 7) {
            return -2;
        }
        List<List<Integer>> list = choices();
        List<Keeping> with = new ArrayList<>();
        List<Integer> taken = new ArrayList<>();
        int total = 0;
        int room = now.memory;
        while (taken.size() < 6) {
            int chosen = -1;
            int most = 0;
            for (int c = 0; c < list.size(); c++) {
                int rows = rows(list.get(c), now);
                if (rows <= room) {
                    int g = gainOf(with, List.of(list.get(c)));
                    if (g > 0 && (chosen < 0 || g > most || g == most && rows < rows(list.get(chosen), now))) {
                        chosen = c;
                        most = g;
                    }
                }
            }
            if (chosen < 0) {
                break;
            }
            taken.add(chosen);
            total += most;
            with.add(fresh(list.get(chosen)));
            room -= rows(list.get(chosen), now);
        }
        if (what < 2) {
            return what == 0 ? taken.size() : total;
        }
        return what - 2 < taken.size() ? taken.get(what - 2) : -1;
    }

    int best(int what) {
        if (what < 0 || what > 2) {
            return -2;
        }
        List<List<Integer>> list = choices();
        int[] found = {0, -1, -1};
        for (int size = 1; size <= 2; size++) {
            for (int i = 0; i < list.size(); i++) {
                for (int j = size == 1 ? i : i + 1; j < (size == 1 ? i + 1 : list.size()); j++) {
                    List<List<Integer>> set = size == 1 ? List.of(list.get(i)) : List.of(list.get(i), list.get(j));
                    int rows = set.stream().mapToInt(part -> rows(part, now)).sum();
                    if (rows <= now.memory) {
                        int g = gainOf(List.of(), set);
                        if (g > found[0]) {
                            found = new int[] {g, i, size == 1 ? -1 : j};
                        }
                    }
                }
            }
        }
        return found[what];
    }

    private void act() {
        past.addLast(now.twin());
        if (past.size() > 20) {
            past.removeFirst();
        }
    }

    private static void spoil(Situation in, int table, List<Integer> row) {
        in.kept.replaceAll(k -> {
            boolean over = k.part().get(0) == 2 || k.part().get(0) == table;
            boolean hit = over && inRanges(k.part(), row, table == 0 ? 0 : 3);
            return new Keeping(k.part(), k.rows(), k.used(), k.stale() || hit);
        });
    }

    private static boolean digit(int n) {
        return n >= 0 && n <= 9;
    }

    int put(int table, int a, int b, int c) {
        boolean fine = now.base && (table == 0 && digit(a) && digit(b) && digit(c) && now.r.size() < 12
            || table == 1 && digit(a) && digit(b) && now.s.size() < 8);
        if (!fine) {
            return -1;
        }
        act();
        List<Integer> row = table == 0 ? List.of(a, b, c) : List.of(a, b);
        table(table).add(row);
        spoil(now, table, row);
        return table(table).size();
    }

    int remove(int table, int row) {
        if (row < 0 || row >= table(table).size()) {
            return -1;
        }
        act();
        spoil(now, table, table(table).remove(row));
        return table(table).size();
    }

    private static void replace(Situation in, int table, int row, int place, int number) {
        List<List<Integer>> rows = table == 0 ? in.r : in.s;
        List<Integer> was = rows.get(row);
        List<Integer> is = new ArrayList<>(was);
        is.set(place, number);
        rows.set(row, is);
        spoil(in, table, was);
        spoil(in, table, is);
    }

    int change(int table, int row, int col, int number) {
        int was = cell(table, row, col);
        if (was == -1 || was == number || !digit(number)) {
            return -1;
        }
        act();
        replace(now, table, row, table == 0 ? col : col - 3, number);
        return was;
    }

    int strike(int q) {
        if (!now.base || !isQuery(q)) {
            return -1;
        }
        act();
        now.struck.set(q, !now.struck.get(q));
        return Collections.frequency(now.struck, true);
    }

    private static int rowsKept(Situation in) {
        return in.kept.stream().mapToInt(Keeping::rows).sum();
    }

    int keep(int c) {
        List<List<Integer>> list = choices();
        if (!now.base || c < 0 || c >= list.size()) {
            return -1;
        }
        List<Integer> part = list.get(c);
        if (rows(part, now) > now.memory || now.kept.stream().anyMatch(k -> k.part().equals(part))) {
            return -1;
        }
        act();
        int forgotten = 0;
        while (now.kept.size() == 6 || rowsKept(now) + rows(part, now) > now.memory) {
            int least = now.kept.stream().mapToInt(Keeping::used).min().getAsInt();
            int i = 0;
            while (now.kept.get(i).used() != least) {
                i++;
            }
            now.kept.remove(i);
            forgotten++;
        }
        now.kept.add(fresh(part));
        now.spent += make(part, now);
        return forgotten;
    }

    int forget(int k) {
        if (!isKept(k)) {
            return -1;
        }
        act();
        now.kept.remove(k);
        return now.kept.size();
    }

    int refresh(int k) {
        if (!isKept(k) || !now.kept.get(k).stale()) {
            return -1;
        }
        act();
        Keeping was = now.kept.remove(k);
        int rows = rows(was.part(), now);
        if (rowsKept(now) + rows > now.memory) {
            return -2;
        }
        now.kept.add(k, new Keeping(was.part(), rows, was.used(), false));
        now.spent += make(was.part(), now);
        return rows;
    }

    int run() {
        if (!now.base) {
            return -1;
        }
        act();
        now.time++;
        int batch = batchOf(now, now.kept);
        now.spent += batch;
        for (int q = 0; q < asked.size(); q++) {
            if (!now.struck.get(q)) {
                int[] priced = price(asked.get(q), now, now.kept);
                for (int kind = 0; kind < 3; kind++) {
                    int k = priced[1 + kind];
                    if (k >= 0) {
                        Keeping one = now.kept.get(k);
                        now.kept.set(k, new Keeping(one.part(), one.rows(), now.time, one.stale()));
                    }
                }
            }
        }
        return batch;
    }

    int undo() {
        if (past.isEmpty()) {
            return -2;
        }
        now = past.removeLast();
        return past.size();
    }

    int kept(int k, int what) {
        if (!isKept(k) || what < 0 || what > 15) {
            return -2;
        }
        Keeping one = now.kept.get(k);
        return what < 13 ? one.part().get(what) : List.of(one.rows(), one.used(), one.stale() ? 1 : 0).get(what - 13);
    }

    int batch() {
        return batchOf(now, now.kept);
    }

    int costs(int q) {
        return isOpen(q) ? price(asked.get(q), now, now.kept)[0] : -1;
    }

    int serves(int q, int kind) {
        return isOpen(q) && kind >= 0 && kind <= 2 ? price(asked.get(q), now, now.kept)[1 + kind] : -1;
    }

    int marks(int table, int row) {
        if (row < 0 || row >= table(table).size()) {
            return -1;
        }
        int bits = 0;
        for (int q = 0; q < asked.size(); q++) {
            for (List<Integer> part : partsOf(asked.get(q))) {
                if (isOpen(q) && part.get(0) == table && inRanges(part, table(table).get(row), 3 * table)) {
                    bits += 1 << q;
                }
            }
        }
        return bits;
    }

    int shared() {
        boolean[] scanned = new boolean[2];
        List<List<Integer>> joins = new ArrayList<>();
        for (int q = 0; q < asked.size(); q++) {
            Asked one = asked.get(q);
            if (isOpen(q) && !one.isVoid()) {
                scanned[0] |= one.source() != 1;
                scanned[1] |= one.source() != 0;
                if (one.source() == 2 && !joins.contains(one.shape().subList(1, 3))) {
                    joins.add(one.shape().subList(1, 3));
                }
            }
        }
        int sum = (scanned[0] ? now.r.size() : 0) + (scanned[1] ? now.s.size() : 0);
        for (List<Integer> join : joins) {
            int[] marked = new int[2];
            for (int table = 0; table < 2; table++) {
                for (List<Integer> row : table(table)) {
                    for (int q = 0; q < asked.size(); q++) {
                        Asked one = asked.get(q);
                        if (isOpen(q) && one.source() == 2 && one.shape().subList(1, 3).equals(join)
                            && inRanges(one.shape(), row, 3 * table)) {
                            marked[table]++;
                            break;
                        }
                    }
                }
            }
            sum += marked[0] * marked[1];
        }
        return sum;
    }

    int residue(int q, int k) {
        if (!isOpen(q) || !isKept(k)) {
            return -1;
        }
        Keeping by = now.kept.get(k);
        for (List<Integer> part : partsOf(asked.get(q))) {
            if (!by.stale() && holds(by.part(), part)) {
                List<List<Integer>> out = new ArrayList<>(rowsOf(by.part(), now));
                out.removeIf(row -> rowsOf(part, now).contains(row));
                return out.size();
            }
        }
        return -2;
    }

    private int draw() {
        x = (int) ((x * 1103515245L + 12345L) % 2147483648L);
        return x / 65536;
    }

    int drift(int m, int n, int p, int what) {
        if (!now.base || m < 1 || m > 5 || n < 1 || n > 30 || p < 0 || p > 100 || what < 0 || what > 1) {
            return -1;
        }
        int was = x;
        int sum = 0;
        int stale = 0;
        for (int i = 0; i < m; i++) {
            Situation on = now.twin();
            for (int j = 0; j < n; j++) {
                if (draw() % 100 < p && !on.r.isEmpty()) {
                    int row = draw() % on.r.size();
                    int col = draw() % 3;
                    int number = draw() % 10;
                    if (on.r.get(row).get(col) != number) {
                        replace(on, 0, row, col, number);
                    }
                }
                sum += batchOf(on, on.kept);
            }
            stale += (int) on.kept.stream().filter(Keeping::stale).count();
        }
        x = was;
        return what == 0 ? sum : stale;
    }

    int seed(int to) {
        if (to < 0) {
            return -1;
        }
        int was = x;
        x = to;
        return was;
    }

    int count(int what) {
        int bits = 0;
        for (int q = 0; q < 8; q++) {
            bits += now.struck.get(q) ? 1 << q : 0;
        }
        int[] counts = {now.memory, now.r.size(), now.s.size(), asked.size(), bits, now.kept.size(), rowsKept(now),
            now.spent, now.time, past.size(), x, tape.length()};
        return what < 0 || what >= counts.length ? -1 : counts[what];
    }

    private static List<Situation> twins(Iterable<Situation> list) {
        List<Situation> copies = new ArrayList<>();
        for (Situation one : list) {
            copies.add(one.twin());
        }
        return copies;
    }

    int image(int k) {
        if (k < 0 || k > 3) {
            return -1;
        }
        pictures[k] = new Picture(now.twin(), twins(past), x);
        return now.time;
    }

    int back(int k) {
        if (k < 0 || k > 3 || pictures[k] == null) {
            return -1;
        }
        now = pictures[k].now().twin();
        past = new ArrayDeque<>(twins(pictures[k].past()));
        x = pictures[k].x();
        return now.time;
    }
}
