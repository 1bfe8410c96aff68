import java.util.ArrayDeque;
import java.util.ArrayList;
import java.util.Arrays;
import java.util.HashMap;
import java.util.HashSet;
import java.util.List;
import java.util.Map;
import java.util.Set;
import java.util.TreeMap;
import java.util.TreeSet;

/**
 * The document, written a second time and by other ways (trees, all orders, all sets, searches over
 * all steps), to hold the class against. It is slow and free to use the library.
 */
public final class Model {
    static final int NONE = -1;
    private static final Set<String> WORDS = new HashSet<>(Arrays.asList("member", "in", "out", "minds", "votes",
            "clause", "sharp", "winds", "cock", "quota", "puns", "draw", "or", "and", "not", "notch", "falling", "read"));

    // ---- what is told

    private interface Node {
        int of(Map<String, Integer> env);
    }

    private static final class Told {
        final List<String> memberNames = new ArrayList<>();
        final List<Boolean> out = new ArrayList<>();
        final List<Integer> minds = new ArrayList<>();
        final List<Integer> votes = new ArrayList<>();
        final List<String> clauseNames = new ArrayList<>();
        final List<Integer> sharp = new ArrayList<>();
        Integer cock;
        Integer quota;
        Integer puns;
        Integer draw;
        Node winds;
        int units;

        int cock() { return cock == null ? 10 : cock; }
        int quota() { return quota == null ? 1 : quota; }
        int puns() { return puns == null ? 0 : puns; }
        int draw() { return draw == null ? 0 : draw; }
    }

    private static final class Fault extends RuntimeException {
        private static final long serialVersionUID = 1L;
        final int which;
        final int place;

        Fault(int which, int place) {
            this.which = which;
            this.place = place;
        }
    }

    private record Token(String text, int place) { }

    private static final class Text {
        final int[] bytes;
        int at;
        Told told = new Told();

        Text(int[] bytes) {
            this.bytes = bytes;
        }

        private boolean letter(int i) { return i < bytes.length && bytes[i] >= 'a' && bytes[i] <= 'z'; }
        private boolean digit(int i) { return i < bytes.length && bytes[i] >= '0' && bytes[i] <= '9'; }

        /** The next token ("" at the end); a fault 1 if there is none. */
        Token peek() {
            int i = at;
            while (i < bytes.length && (bytes[i] == 32 || bytes[i] == 10)) i++;
            if (i == bytes.length) return new Token("", i);
            int j = i;
            if (letter(i)) {
                while (letter(j)) j++;
                if (j - i > 8) throw new Fault(1, i);
            } else if (digit(i)) {
                while (digit(j)) j++;
                if (j - i > 4 || letter(j)) throw new Fault(1, i);
            } else {
                if (";()<>=+-*/%".indexOf(bytes[i]) < 0) throw new Fault(1, i);
                j++;
            }
            StringBuilder b = new StringBuilder();
            for (int k = i; k < j; k++) b.append((char) bytes[k]);
            return new Token(b.toString(), i);
        }

        boolean is(String... words) {
            return Arrays.asList(words).contains(peek().text());
        }

        Token next() {
            Token t = peek();
            at = t.place() + t.text().length();
            return t;
        }

        Token want(String... words) {
            Token t = peek();
            if (!Arrays.asList(words).contains(t.text())) throw new Fault(2, t.place());
            return next();
        }

        int number(int least, int most) {
            Token t = peek();
            if (t.text().isEmpty() || !Character.isDigit(t.text().charAt(0))) throw new Fault(2, t.place());
            int n = Integer.parseInt(t.text());
            if (n < least || n > most) throw new Fault(4, t.place());
            next();
            return n;
        }

        void name(List<String> names) {
            Token t = peek();
            if (t.text().isEmpty() || !Character.isLetter(t.text().charAt(0)) || WORDS.contains(t.text())) {
                throw new Fault(2, t.place());
            }
            if (names.contains(t.text())) throw new Fault(3, t.place());
            names.add(next().text());
        }

        private void tooMany(boolean is, Token t) {
            if (is) throw new Fault(2, t.place());
        }

        Told all() {
            while (!is("")) {
                Token t = want("member", "clause", "winds", "cock", "quota", "puns", "draw");
                switch (t.text()) {
                    case "member" -> {
                        tooMany(told.memberNames.size() == 7, t);
                        name(told.memberNames);
                        told.out.add(want("in", "out").text().equals("out"));
                        want("minds");
                        told.minds.add(number(0, 9));
                        want("votes");
                        told.votes.add(number(0, 9));
                    }
                    case "clause" -> {
                        tooMany(told.clauseNames.size() == 6, t);
                        name(told.clauseNames);
                        want("sharp");
                        told.sharp.add(number(0, 20));
                    }
                    case "winds" -> {
                        tooMany(told.winds != null, t);
                        told.winds = e(0);
                    }
                    case "cock" -> { tooMany(told.cock != null, t); told.cock = number(1, 30); }
                    case "quota" -> { tooMany(told.quota != null, t); told.quota = number(0, 99); }
                    case "puns" -> { tooMany(told.puns != null, t); told.puns = number(0, 100); }
                    default -> { tooMany(told.draw != null, t); told.draw = number(0, 999); }
                }
                want(";");
            }
            return told;
        }

        private static int bit(boolean b) { return b ? 1 : 0; }

        Node e(int within) {
            Node left = both(within);
            while (is("or")) {
                next();
                Node a = left;
                Node b = both(within);
                left = env -> bit(a.of(env) != 0 | b.of(env) != 0);
            }
            return left;
        }

        Node both(int within) {
            Node left = one(within);
            while (is("and")) {
                next();
                Node a = left;
                Node b = one(within);
                left = env -> bit(a.of(env) != 0 & b.of(env) != 0);
            }
            return left;
        }

        Node one(int within) {
            if (is("not")) {
                tooMany(within > 6, peek());
                next();
                Node a = one(within + 1);
                return env -> bit(a.of(env) == 0);
            }
            Node a = sum(within);
            if (is("<", ">", "=")) {
                String how = next().text();
                Node b = sum(within);
                return env -> {
                    int c = Integer.compare(a.of(env), b.of(env));
                    return bit(how.equals("<") ? c < 0 : how.equals(">") ? c > 0 : c == 0);
                };
            }
            return a;
        }

        Node sum(int within) {
            Node left = term(within);
            while (is("+", "-")) {
                boolean plus = next().text().equals("+");
                Node a = left;
                Node b = term(within);
                left = env -> plus ? a.of(env) + b.of(env) : a.of(env) - b.of(env);
            }
            return left;
        }

        Node term(int within) {
            Node left = unit(within);
            while (is("*", "/", "%")) {
                String how = next().text();
                Node a = left;
                Node b = unit(within);
                left = env -> {
                    int x = a.of(env);
                    int y = b.of(env);
                    if (how.equals("*")) return x * y;
                    if (y == 0) return 0;
                    return how.equals("/") ? (int) ((long) x / y) : (int) ((long) x % y);
                };
            }
            return left;
        }

        Node unit(int within) {
            Token t = peek();
            boolean number = !t.text().isEmpty() && Character.isDigit(t.text().charAt(0));
            if (!number && !is("sharp", "minds", "notch", "falling", "read", "votes", "(")) throw new Fault(2, t.place());
            tooMany(told.units == 30, t);
            told.units++;
            next();
            if (number) {
                int n = Integer.parseInt(t.text());
                return env -> n;
            }
            if (t.text().equals("(")) {
                tooMany(within > 6, t);
                Node inner = e(within + 1);
                want(")");
                return inner;
            }
            return env -> env.get(t.text());
        }
    }

    // ---- how it stands

    private static final class Standing {
        int[] notch;
        boolean[] out;
        Set<Integer> read = new TreeSet<>();
        Set<Integer> carried = new TreeSet<>();
        int seed;

        Standing copy() {
            Standing s = new Standing();
            s.notch = notch.clone();
            s.out = out.clone();
            s.read = new TreeSet<>(read);
            s.carried = new TreeSet<>(carried);
            s.seed = seed;
            return s;
        }
    }

    private record Outcome(boolean carried, int shots, int backers) { }

    private record Heard(int n, int notches, boolean is, int told, Integer[] untold) { }

    private List<Integer> tape = new ArrayList<>();
    private Told told = new Told();
    private int fault;
    private int place = NONE;
    private Standing now = fresh();
    private List<Standing> past = new ArrayList<>();
    private List<Standing> future = new ArrayList<>();
    private List<Integer> lying = new ArrayList<>();
    private List<Heard> heards = new ArrayList<>();
    private int time;
    private Map<Integer, Standing> boxes = new HashMap<>();

    private int n() { return told.memberNames.size(); }
    private int m() { return told.clauseNames.size(); }

    private Standing fresh() {
        Standing s = new Standing();
        s.notch = new int[n()];
        s.out = new boolean[n()];
        for (int i = 0; i < n(); i++) s.out[i] = told.out.get(i);
        s.seed = told.draw();
        return s;
    }

    private int wind(int i, int sharp, int minds, int notch, boolean falling, int read) {
        int w;
        if (told.winds == null) {
            w = (sharp + minds) / 3 - (falling ? 2 : 0);
        } else {
            Map<String, Integer> env = new HashMap<>();
            env.put("sharp", sharp);
            env.put("minds", minds);
            env.put("votes", told.votes.get(i));
            env.put("notch", notch);
            env.put("falling", falling ? 1 : 0);
            env.put("read", read);
            w = told.winds.of(env);
        }
        return w < -9 ? -9 : w > 9 ? 9 : w;
    }

    private Outcome reading(Standing s, int c, int sharp, Integer mind, boolean falling) {
        int shots = 0;
        int backers = 0;
        int votes = 0;
        for (int i = 0; i < n(); i++) {
            boolean isFor = !s.out[i];
            if (s.out[i]) {
                int w = wind(i, sharp, mind == null ? told.minds.get(i) : mind, s.notch[i], falling, s.read.size());
                s.notch[i] = Math.max(0, s.notch[i] + w);
                if (s.notch[i] >= told.cock()) {
                    s.notch[i] = 0;
                    shots |= 1 << i;
                } else {
                    isFor = s.notch[i] < told.cock() / 2.0;
                }
            }
            if (isFor) {
                backers |= 1 << i;
                votes += told.votes.get(i);
            }
        }
        s.read.add(c);
        boolean carried = shots == 0 && votes >= told.quota();
        if (carried) s.carried.add(c);
        return new Outcome(carried, shots, backers);
    }

    private Outcome reading(Standing s, int c, boolean falling) {
        return reading(s, c, told.sharp.get(c), null, falling);
    }

    private void pun(Standing s) {
        s.seed = (s.seed * 137 + 71) % 1000;
        if (s.seed % 100 < told.puns()) {
            for (int i = 0; i < n(); i++) if (s.out[i]) s.notch[i] = Math.min(99, s.notch[i] + 1);
        }
    }

    private void turn(Standing s) {
        ArrayDeque<Integer> bows = new ArrayDeque<>();
        for (int i = 0; i < n(); i++) {
            if (s.out[i]) bows.add(s.notch[i]);
            s.notch[i] = 0;
            s.out[i] = !s.out[i];
        }
        for (int i = 0; i < n(); i++) if (s.out[i] && !bows.isEmpty()) s.notch[i] = bows.poll();
    }

    private List<Integer> unread() {
        List<Integer> list = new ArrayList<>();
        for (int c = 0; c < m(); c++) if (!now.read.contains(c)) list.add(c);
        return list;
    }

    private int carriedBy(Standing start, List<Integer> order, int fallingSet, Integer mind) {
        Standing s = start.copy();
        int k = 0;
        for (int c : order) {
            if (reading(s, c, told.sharp.get(c), mind, (fallingSet >> c & 1) == 1).carried) k++;
        }
        return k;
    }

    private static int tone(boolean falling) { return falling ? -1 : 0; }

    private static int bits(Set<Integer> set) {
        int b = 0;
        for (int i : set) b |= 1 << i;
        return b;
    }

    private int outBits(Standing s) {
        int b = 0;
        for (int i = 0; i < n(); i++) if (s.out[i]) b |= 1 << i;
        return b;
    }

    private boolean member0(int i) { return i >= 0 && i < n(); }
    private boolean out0(int i) { return member0(i) && now.out[i]; }
    private boolean clause0(int c) { return c >= 0 && c < m(); }
    private boolean unread0(int c) { return clause0(c) && !now.read.contains(c); }

    private void act() {
        past.add(now.copy());
        if (past.size() > 40) past.remove(0);
        future.clear();
    }

    // ---- the face

    public int feed(int a, int b, int c, int d, int e) {
        if (tape.size() + 20 > 1600) return NONE;
        for (int x : new int[] {a, b, c, d, e}) {
            for (int i = 3; i >= 0; i--) tape.add(x >> 8 * i & 0xff);
        }
        return tape.size();
    }

    public int end(int n) {
        if (n < 0 || n > tape.size()) return NONE;
        tape = new ArrayList<>(tape.subList(0, n));
        return n;
    }

    public int house() {
        int[] bytes = tape.stream().mapToInt(x -> x).toArray();
        tape.clear();
        try {
            told = new Text(bytes).all();
        } catch (Fault f) {
            fault = f.which;
            place = f.place;
            return NONE;
        }
        fault = 0;
        place = NONE;
        now = fresh();
        past.clear();
        future.clear();
        lying.clear();
        heards.clear();
        boxes.clear();
        return n();
    }

    public int fault(int what) { return what == 0 ? fault : what == 1 ? place : NONE; }

    public int member(int i, int what) {
        if (!member0(i) || what < 0 || what > 3) return NONE;
        return new int[] {now.out[i] ? 1 : 0, told.minds.get(i), told.votes.get(i), now.notch[i]}[what];
    }

    public int clause(int c, int what) {
        if (!clause0(c) || what < 0 || what > 2) return NONE;
        return new int[] {told.sharp.get(c), now.read.contains(c) ? 1 : 0, now.carried.contains(c) ? 1 : 0}[what];
    }

    public int winds(int i, int c, boolean falling) {
        if (!out0(i) || !clause0(c)) return -100;
        int w = wind(i, told.sharp.get(c), told.minds.get(i), now.notch[i], falling, now.read.size());
        return Math.max(0, now.notch[i] + w) - now.notch[i];
    }

    public int read(int c, boolean falling) {
        if (!unread0(c)) return NONE;
        act();
        boolean carried = reading(now, c, falling).carried;
        pun(now);
        return carried ? 1 : 0;
    }

    public int oil(int i) {
        if (!out0(i) || now.notch[i] == 0) return NONE;
        act();
        return --now.notch[i];
    }

    public int change() {
        if (n() == 0) return NONE;
        act();
        turn(now);
        return outBits(now);
    }

    public boolean undo() {
        if (past.isEmpty()) return false;
        future.add(now);
        now = past.remove(past.size() - 1);
        return true;
    }

    public boolean redo() {
        if (future.isEmpty()) return false;
        past.add(now);
        now = future.remove(future.size() - 1);
        return true;
    }

    public int carries(int c, boolean falling) {
        return unread0(c) ? (reading(now.copy(), c, falling).carried ? 1 : 0) : NONE;
    }

    public int shots(int c, boolean falling) {
        return unread0(c) ? reading(now.copy(), c, falling).shots : NONE;
    }

    public int backers(int c, boolean falling) {
        return unread0(c) ? reading(now.copy(), c, falling).backers : NONE;
    }

    public int will(int i, int k, int what) {
        if (!member0(i) || k < 0 || k > 6 || what < 0 || what > 1) return NONE;
        Standing s = now.copy();
        List<Integer> list = unread();
        for (int c : list.subList(0, Math.min(k, list.size()))) {
            reading(s, c, false);
            if (what == 1) pun(s);
        }
        return s.notch[i];
    }

    private static void permute(List<Integer> head, List<Integer> rest, List<List<Integer>> all) {
        if (rest.isEmpty()) all.add(new ArrayList<>(head));
        for (Integer x : rest) {
            List<Integer> less = new ArrayList<>(rest);
            less.remove(x);
            head.add(x);
            permute(head, less, all);
            head.remove(head.size() - 1);
        }
    }

    private static List<List<Integer>> orders(List<Integer> of) {
        List<List<Integer>> all = new ArrayList<>();
        permute(new ArrayList<>(), of, all);
        return all;
    }

    public int agenda(boolean falling) {
        int most = -1;
        for (List<Integer> order : orders(unread())) {
            int k = carriedBy(now, order, tone(falling), null);
            if (k > most) {
                most = k;
                lying = new ArrayList<>(order);
            }
        }
        return most;
    }

    public int tones(int what) {
        if (what < 0 || what > 1) return NONE;
        List<int[]> all = new ArrayList<>();
        int may = 0;
        for (int c : unread()) may |= 1 << c;
        for (int set = 0; set < 64; set++) {
            if ((set & may) == set) all.add(new int[] {carriedBy(now, unread(), set, null), set});
        }
        all.sort((a, b) -> a[0] != b[0] ? b[0] - a[0]
                : Integer.bitCount(a[1]) != Integer.bitCount(b[1]) ? Integer.bitCount(a[1]) - Integer.bitCount(b[1])
                : a[1] - b[1]);
        return all.get(0)[what];
    }

    public int lost(boolean falling) {
        Standing s = now.copy();
        for (int c : unread()) if (!reading(s, c, falling).carried) return c;
        return NONE;
    }

    private List<Integer> allMembers() {
        List<Integer> list = new ArrayList<>();
        for (int i = 0; i < n(); i++) list.add(i);
        return list;
    }

    public int tips(int i) {
        if (!member0(i)) return NONE;
        int k = 0;
        for (List<Integer> order : orders(allMembers())) {
            int ahead = 0;
            for (int j : order) {
                if (j == i) break;
                ahead += told.votes.get(j);
            }
            if (ahead < told.quota() && ahead + told.votes.get(i) >= told.quota()) k++;
        }
        return k;
    }

    private int votes(int set) {
        int v = 0;
        for (int i = 0; i < n(); i++) if ((set >> i & 1) == 1) v += told.votes.get(i);
        return v;
    }

    public int league(int i, int what) {
        if (!member0(i) || what < 0 || what > 1) return NONE;
        TreeMap<Integer, Integer> bySize = new TreeMap<>();
        for (int set = (1 << n()) - 1; set > 0; set--) {
            if ((set >> i & 1) == 1 && votes(set) >= told.quota()) bySize.put(Integer.bitCount(set), set);
        }
        if (bySize.isEmpty()) return NONE;
        return what == 0 ? bySize.firstKey() : bySize.firstEntry().getValue();
    }

    public int disarm(int i, int j, int within) {
        if (i == j || !out0(i) || !out0(j) || within < 0 || within > 99) return NONE;
        int x = now.notch[i];
        int y = now.notch[j];
        Integer[][] steps = new Integer[x + 1][y + 1];
        steps[x][y] = 0;
        for (int a = x; a >= 0; a--) {
            for (int b = y; b >= 0; b--) {
                if (steps[a][b] == null) continue;
                if (a > 0 && Math.abs(a - 1 - b) <= within) steps[a - 1][b] = steps[a][b] + 1;
                if (b > 0 && Math.abs(a - b + 1) <= within) steps[a][b - 1] = steps[a][b] + 1;
            }
        }
        return steps[0][0] == null ? NONE : steps[0][0];
    }

    public int trust(int i, int j) {
        lying.clear();
        if (i == j || !out0(i) || !out0(j)) return NONE;
        int[][] one = new int[2][2];
        int[][] two = new int[2][2];
        for (int a = 0; a < 2; a++) {
            for (int b = 0; b < 2; b++) {
                one[a][b] = a == 0 ? 4 * b : b == 1 ? 3 : 3 - now.notch[j];
                two[a][b] = b == 0 ? 4 * a : a == 1 ? 3 : 3 - now.notch[i];
            }
        }
        int rests = 0;
        for (int a = 0; a < 2; a++) {
            for (int b = 0; b < 2; b++) {
                if (one[a][b] >= one[1 - a][b] && two[a][b] >= two[a][1 - b]) {
                    if (rests++ == 0) lying = new ArrayList<>(List.of(a, b));
                }
            }
        }
        return rests;
    }

    public int edge(int c, boolean falling) {
        if (!unread0(c)) return NONE;
        int best = NONE;
        for (int sharp = 0; sharp <= 20; sharp++) if (reading(now.copy(), c, sharp, null, falling).carried) best = sharp;
        return best;
    }

    public int usher(boolean falling, int what) {
        int[] best = {NONE, NONE};
        for (int i = n() - 1; i >= 0; i--) {
            if (!now.out[i]) continue;
            Standing s = now.copy();
            if (s.notch[i] > 0) s.notch[i]--;
            int k = carriedBy(s, unread(), tone(falling), null);
            if (k >= best[1]) best = new int[] {i, k};
        }
        return what == 0 || what == 1 ? best[what] : NONE;
    }

    public int creak(int c, boolean falling) {
        if (!clause0(c)) return -1000;
        int sum = 0;
        for (int i = 0; i < n(); i++) if (now.out[i]) sum += winds(i, c, falling);
        return sum;
    }

    public int over() {
        Standing s = now.copy();
        turn(s);
        return carriedBy(s, unread(), 0, null);
    }

    private int dropsFrom(Standing s, int i, int dropped, int c, boolean falling) {
        if (i == n()) return reading(s.copy(), c, falling).carried ? dropped : Integer.MAX_VALUE;
        int best = Integer.MAX_VALUE;
        int had = s.notch[i];
        for (int d = 0; d <= (s.out[i] ? had : 0); d++) {
            s.notch[i] = had - d;
            best = Math.min(best, dropsFrom(s, i + 1, dropped + d, c, falling));
        }
        s.notch[i] = had;
        return best;
    }

    /** NONE - 1 where a search over all would take too long. */
    public int drops(int c, boolean falling) {
        if (!unread0(c)) return NONE;
        long ways = 1;
        for (int x : now.notch) ways *= x + 1;
        if (ways > 3000) return NONE - 1;
        int best = dropsFrom(now.copy(), 0, 0, c, falling);
        return best == Integer.MAX_VALUE ? NONE : best;
    }

    public int swap(boolean falling, int what) {
        if (what < 0 || what > 2) return NONE;
        int best = carriedBy(now, unread(), tone(falling), null);
        int[] found = {NONE, NONE, NONE};
        for (int i = 0; i < n(); i++) {
            for (int j = i + 1; j < n(); j++) {
                if (!now.out[i] || !now.out[j]) continue;
                Standing s = now.copy();
                int keep = s.notch[i];
                s.notch[i] = s.notch[j];
                s.notch[j] = keep;
                int k = carriedBy(s, unread(), tone(falling), null);
                if (k > best) {
                    best = k;
                    found = new int[] {i, j, k};
                }
            }
        }
        return found[what];
    }

    public int tilts(int i) {
        if (!member0(i)) return NONE;
        int k = 0;
        for (int set = 0; set < 1 << n(); set++) {
            if ((set >> i & 1) == 0 && votes(set) < told.quota() && votes(set | 1 << i) >= told.quota()) k++;
        }
        return k;
    }

    public int leagues() {
        int k = 0;
        for (int set = 0; set < 1 << n(); set++) {
            boolean is = votes(set) >= told.quota();
            for (int i = 0; i < n(); i++) is &= (set >> i & 1) == 0 || votes(set ^ 1 << i) < told.quota();
            if (is) k++;
        }
        return k;
    }

    public int softest() {
        return unread().stream().min((a, b) -> Integer.compare(creak(a, true), creak(b, true))).orElse(NONE);
    }

    public int outs() { return outBits(now); }

    public int loudest() {
        return unread().stream().min((a, b) -> Integer.compare(creak(b, false), creak(a, false))).orElse(NONE);
    }

    public int tensest() {
        return allMembers().stream().filter(i -> now.out[i])
                .min((a, b) -> Integer.compare(now.notch[b], now.notch[a])).orElse(NONE);
    }

    public int strength() {
        int v = 0;
        for (int i = 0; i < n(); i++) if (!now.out[i]) v += told.votes.get(i);
        return v;
    }

    public int cross() {
        int set = 0;
        for (int i = 0; i < n(); i++) if (now.out[i] && now.notch[i] >= told.cock() / 2.0) set |= 1 << i;
        return set;
    }

    public int vetoes() {
        int set = 0;
        for (int i = 0; i < n(); i++) if (votes((1 << n()) - 1 - (1 << i)) < told.quota()) set |= 1 << i;
        return set;
    }

    public int law(int k) { return k < 0 || k > 20 ? NONE : carriedBy(now, unread(), 0, k); }

    public int until(int i, int c, boolean falling) {
        if (!out0(i) || !clause0(c)) return NONE;
        int notch = now.notch[i];
        for (int k = 1; k <= 60; k++) {
            int w = wind(i, told.sharp.get(c), told.minds.get(i), notch, falling, now.read.size() + k - 1);
            notch = Math.max(0, notch + w);
            if (notch >= told.cock()) return k;
        }
        return NONE;
    }

    public int odds(int k, int part) {
        if (k < 0 || k > 4 || part < 0 || part > 1) return NONE;
        java.math.BigInteger up = java.math.BigInteger.valueOf(100 - told.puns()).pow(k);
        java.math.BigInteger low = java.math.BigInteger.valueOf(100).pow(k);
        java.math.BigInteger g = up.gcd(low);
        return (part == 0 ? up : low).divide(g).intValueExact();
    }

    public int lies(int i) { return i >= 0 && i < lying.size() ? lying.get(i) : -2; }

    private boolean open() { return n() > 0 && told.out.get(n() - 1); }

    public int heard(int k, int notches, boolean is) {
        if (!open() || k < 0 || k > 6 || notches < 0 || notches > 99 || heards.size() == 30) return NONE;
        heards.add(new Heard(k, notches, is, time, new Integer[1]));
        return heards.size() - 1;
    }

    public boolean untell(int i) {
        if (i < 0 || i >= heards.size() || heards.get(i).untold[0] != null) return false;
        heards.get(i).untold[0] = time;
        return true;
    }

    public int later(int by) {
        if (by < 0 || by > 1000 || time + by > 100000) return NONE;
        return time += by;
    }

    private int notchesBehind(int k, int mind) {
        Standing s = fresh();
        int mine = n() - 1;
        int kept = told.minds.get(mine);
        told.minds.set(mine, mind);
        for (int c = 0; c < Math.min(k, m()); c++) reading(s, c, false);
        told.minds.set(mine, kept);
        return s.notch[mine];
    }

    private List<Integer> fitting(int k) {
        List<Integer> list = new ArrayList<>();
        for (int mind = 0; mind <= 20 && open(); mind++) {
            boolean ok = true;
            for (Heard h : heards) {
                if (h.told <= k && !(h.untold[0] != null && h.untold[0] <= k)) {
                    ok &= (notchesBehind(h.n, mind) >= h.notches) == h.is;
                }
            }
            if (ok) list.add(mind);
        }
        return list;
    }

    public int fits(int k) { return fitting(k).size(); }

    public int sure(int what, int k) {
        List<Integer> list = fitting(k);
        if (list.isEmpty() || what < 0 || what > 1) return NONE;
        return what == 0 ? list.get(0) : list.get(list.size() - 1);
    }

    public int ask(int what, int k) {
        List<Integer> list = fitting(k);
        if (list.isEmpty() || what < 0 || what > 1) return NONE;
        int[] best = {NONE, 99};
        for (int q = 0; q <= 6; q++) {
            Map<Integer, Integer> groups = new HashMap<>();
            for (int mind : list) groups.merge(notchesBehind(q, mind), 1, Integer::sum);
            int left = groups.values().stream().max(Integer::compare).get();
            if (left < best[1]) best = new int[] {q, left};
        }
        return best[what];
    }

    public int image(int box) {
        if (box < 0 || box > 2) return NONE;
        boxes.put(box, now.copy());
        return now.read.size();
    }

    public int back(int box) {
        if (!boxes.containsKey(box)) return NONE;
        now = boxes.get(box).copy();
        past.clear();
        future.clear();
        return now.read.size();
    }

    public int about(int what) {
        int[] all = {n(), m(), bits(now.read), bits(now.carried), now.seed, past.size(), future.size(), heards.size(),
            time, tape.size(), told.units, lying.size(), told.cock(), told.quota(), told.puns()};
        return what >= 0 && what < all.length ? all[what] : NONE;
    }
}
