import java.nio.charset.StandardCharsets;
import java.util.Random;

/** Runs of calls by chance (from fixed seeds), each answer held against the Model's. */
public final class FuzzTest {
    private static final String[] NAMES = {"a", "bob", "cy", "dee", "eveeveev", "one", "both", "e", "sum", "house"};
    private static final String[] INPUTS = {"sharp", "minds", "notch", "falling", "read", "votes"};

    private final Random chance;
    private final Checks checks;
    private final BowHouse x = new BowHouse();
    private final Model y = new Model();
    private final StringBuilder log = new StringBuilder();

    private FuzzTest(long seed, Checks checks) {
        chance = new Random(seed);
        this.checks = checks;
        log.append("seed ").append(seed).append('\n');
    }

    private int upTo(int most) {
        return chance.nextInt(most + 1);
    }

    private boolean oneIn(int n) {
        return chance.nextInt(n) == 0;
    }

    private String pick(String... of) {
        return of[chance.nextInt(of.length)];
    }

    private String unit(int depth) {
        if (depth > 0 && oneIn(4)) return "(" + e(depth - 1) + ")";
        return oneIn(3) ? Integer.toString(oneIn(10) ? upTo(9999) : upTo(9)) : pick(INPUTS);
    }

    private String chain(int depth, int level) {
        if (level == 0) return unit(depth);
        StringBuilder b = new StringBuilder(chain(depth, level - 1));
        int more = oneIn(3) ? 1 + (oneIn(3) ? 1 : 0) : 0;
        for (int i = 0; i < more; i++) b.append(level == 1 ? pick("*", "/", "%") : pick("+", "-")).append(chain(depth, level - 1));
        return b.toString();
    }

    private String one(int depth) {
        if (depth > 0 && oneIn(10)) return "not " + one(depth - 1);
        return chain(depth, 2) + (oneIn(6) ? pick("<", ">", "=") + chain(depth, 2) : "");
    }

    private String e(int depth) {
        String s = one(depth);
        if (oneIn(8)) s += " and " + one(depth);
        if (oneIn(8)) s += " or " + one(depth);
        return s;
    }

    private String formula() {
        switch (upTo(6)) {
            case 0: return "sharp/2-minds";
            case 1: return "minds+sharp-notch";
            case 2: return "sharp%5-falling*3+read";
            case 3: return "(minds>4)*3+(sharp>9)*4-(notch>5)*9-falling*2";
            default: return e(4);
        }
    }

    private String houseText() {
        StringBuilder b = new StringBuilder();
        int members = oneIn(12) ? upTo(1) : oneIn(40) ? 8 : 1 + upTo(oneIn(4) ? 6 : 4);
        int clauses = oneIn(12) ? upTo(1) : oneIn(40) ? 7 : 1 + upTo(oneIn(4) ? 5 : 4);
        for (int i = 0; i < members; i++) {
            String name = oneIn(200) ? pick(NAMES) : NAMES[i % NAMES.length];
            b.append("member ").append(name).append(' ').append(oneIn(3) ? "in" : "out");
            b.append(" minds ").append(upTo(oneIn(100) ? 10 : 9)).append(" votes ").append(upTo(oneIn(100) ? 10 : 9)).append(";\n");
        }
        for (int i = 0; i < clauses; i++) {
            String name = oneIn(200) ? pick(NAMES) : NAMES[i % NAMES.length];
            b.append("clause ").append(name).append(" sharp ").append(upTo(oneIn(100) ? 22 : 20)).append(";");
        }
        if (!oneIn(3)) b.append("winds ").append(formula()).append("; ");
        if (!oneIn(3)) b.append("cock ").append(oneIn(50) ? upTo(40) : 1 + upTo(29)).append(";");
        if (!oneIn(3)) b.append("quota ").append(oneIn(20) ? upTo(99) : upTo(members * 5)).append(";");
        if (!oneIn(3)) b.append("puns ").append(oneIn(3) ? upTo(100) : upTo(50)).append(";");
        if (!oneIn(3)) b.append("draw ").append(upTo(999)).append(";");
        return b.toString();
    }

    private String spoiled(String text) {
        byte[] bytes = text.getBytes(StandardCharsets.ISO_8859_1);
        StringBuilder b = new StringBuilder(new String(bytes, StandardCharsets.ISO_8859_1));
        int times = 1 + upTo(2);
        for (int i = 0; i < times && b.length() > 0; i++) {
            int at = chance.nextInt(b.length());
            switch (upTo(5)) {
                case 0: b.deleteCharAt(at); break;
                case 1: b.setCharAt(at, (char) upTo(255)); break;
                case 2: b.insert(at, pick(" ", "\n", ";", "(", ")", "not ", "1", "z", "<", "+", "99999", "abcdefghi", "cock 5;", "winds 1;", "%")); break;
                case 3: b.setLength(at); break;
                case 4: b.insert(at, b.substring(at, Math.min(b.length(), at + 1 + upTo(30)))); break;
                default: b.delete(at, Math.min(b.length(), at + 1 + upTo(8))); break;
            }
        }
        return b.toString();
    }

    private void tellBoth() {
        String text = houseText();
        if (oneIn(4)) text = spoiled(text);
        byte[] bytes = text.getBytes(StandardCharsets.ISO_8859_1);
        log.append(text).append('\n');
        for (int at = 0; at < bytes.length; at += 20) {
            int[] f = Checks.fiveNumbers(bytes, at);
            same("feed", x.feed(f[0], f[1], f[2], f[3], f[4]), y.feed(f[0], f[1], f[2], f[3], f[4]));
        }
        same("end(" + bytes.length + ")", x.end(bytes.length), y.end(bytes.length));
        same("house()", x.house(), y.house());
        same("fault(0)", x.fault(0), y.fault(0));
        same("fault(1)", x.fault(1), y.fault(1));
    }

    private void same(String call, long got, long want) {
        log.append(call).append(' ').append(got).append('\n');
        int before = checks.wrong();
        checks.due(call, got, want);
        if (checks.wrong() != before && before == 0) System.out.println(log);
    }

    private void same(String call, boolean got, boolean want) {
        same(call, got ? 1 : 0, want ? 1 : 0);
    }

    private int who() {
        return oneIn(20) ? chance.nextInt() : oneIn(8) ? -1 + upTo(8) : upTo(6);
    }

    private int which() {
        return oneIn(20) ? chance.nextInt() : oneIn(8) ? -1 + upTo(7) : upTo(5);
    }

    private int what(int most) {
        return oneIn(30) ? chance.nextInt() : oneIn(12) ? -1 + upTo(most + 2) : upTo(most);
    }

    private void act() {
        int m = who();
        int c = which();
        boolean f = oneIn(2);
        switch (upTo(9)) {
            case 0: case 1: case 2: same("read " + c + f, x.read(c, f), y.read(c, f)); break;
            case 3: case 4: same("oil " + m, x.oil(m), y.oil(m)); break;
            case 5: same("change", x.change(), y.change()); break;
            case 6: same("undo", x.undo(), y.undo()); break;
            case 7: same("redo", x.redo(), y.redo()); break;
            case 8: { int b = what(2); same("image " + b, x.image(b), y.image(b)); break; }
            default: { int b = what(2); if (oneIn(2)) same("back " + b, x.back(b), y.back(b)); break; }
        }
    }

    private void listen() {
        int k = oneIn(20) ? chance.nextInt() : upTo(30);
        int w = what(1);
        int n = what(6);
        int notches = oneIn(15) ? what(99) : upTo(12);
        boolean is = oneIn(2);
        switch (upTo(6)) {
            case 0: same("heard " + n + " " + notches + is, x.heard(n, notches, is), y.heard(n, notches, is)); break;
            case 1: { int h = what(6); same("untell " + h, x.untell(h), y.untell(h)); break; }
            case 2: { int by = oneIn(20) ? what(1000) : upTo(4); same("later " + by, x.later(by), y.later(by)); break; }
            case 3: same("fits " + k, x.fits(k), y.fits(k)); break;
            case 4: same("sure " + w + " " + k, x.sure(w, k), y.sure(w, k)); break;
            default: same("ask " + w + " " + k, x.ask(w, k), y.ask(w, k)); break;
        }
    }

    private void ask() {
        int m = who();
        int o = who();
        int c = which();
        boolean f = oneIn(2);
        int w = what(1);
        switch (upTo(37)) {
            case 0: { int k = what(3); same("member " + m + " " + k, x.member(m, k), y.member(m, k)); break; }
            case 1: { int k = what(2); same("clause " + c + " " + k, x.clause(c, k), y.clause(c, k)); break; }
            case 2: same("winds " + m + " " + c + f, x.winds(m, c, f), y.winds(m, c, f)); break;
            case 3: same("carries " + c + f, x.carries(c, f), y.carries(c, f)); break;
            case 4: same("shots " + c + f, x.shots(c, f), y.shots(c, f)); break;
            case 5: same("backers " + c + f, x.backers(c, f), y.backers(c, f)); break;
            case 6: { int n = what(6); same("will " + m + " " + n + " " + w, x.will(m, n, w), y.will(m, n, w)); break; }
            case 7: if (oneIn(4)) same("agenda " + f, x.agenda(f), y.agenda(f)); break;
            case 8: same("tones " + w, x.tones(w), y.tones(w)); break;
            case 9: same("lost " + f, x.lost(f), y.lost(f)); break;
            case 10: if (oneIn(8)) same("tips " + m, x.tips(m), y.tips(m)); break;
            case 11: same("league " + m + " " + w, x.league(m, w), y.league(m, w)); break;
            case 12: { int n = oneIn(8) ? what(99) : upTo(6); same("disarm " + m + " " + o + " " + n, x.disarm(m, o, n), y.disarm(m, o, n)); break; }
            case 13: same("trust " + m + " " + o, x.trust(m, o), y.trust(m, o)); break;
            case 14: same("edge " + c + f, x.edge(c, f), y.edge(c, f)); break;
            case 15: same("usher " + f + w, x.usher(f, w), y.usher(f, w)); break;
            case 16: same("creak " + c + f, x.creak(c, f), y.creak(c, f)); break;
            case 17: same("over", x.over(), y.over()); break;
            case 18: {
                int want = y.drops(c, f);
                int got = x.drops(c, f);
                if (want >= Model.NONE) same("drops " + c + f, got, want);
                break;
            }
            case 19: { int k = what(2); same("swap " + f + k, x.swap(f, k), y.swap(f, k)); break; }
            case 20: same("tilts " + m, x.tilts(m), y.tilts(m)); break;
            case 21: same("leagues", x.leagues(), y.leagues()); break;
            case 22: same("softest", x.softest(), y.softest()); break;
            case 23: same("outs", x.outs(), y.outs()); break;
            case 24: same("loudest", x.loudest(), y.loudest()); break;
            case 25: same("tensest", x.tensest(), y.tensest()); break;
            case 26: same("strength", x.strength(), y.strength()); break;
            case 27: same("cross", x.cross(), y.cross()); break;
            case 28: same("vetoes", x.vetoes(), y.vetoes()); break;
            case 29: { int n = what(20); same("law " + n, x.law(n), y.law(n)); break; }
            case 30: same("until " + m + " " + c + f, x.until(m, c, f), y.until(m, c, f)); break;
            case 31: { int n = what(4); same("odds " + n + " " + w, x.odds(n, w), y.odds(n, w)); break; }
            case 32: case 33: { int i = what(6); same("lies " + i, x.lies(i), y.lies(i)); break; }
            case 34: { int k = what(1); same("fault " + k, x.fault(k), y.fault(k)); break; }
            default: { int k = what(14); same("about " + k, x.about(k), y.about(k)); break; }
        }
    }

    private void run() {
        if (!oneIn(20)) tellBoth();
        for (int i = 0; i < 300; i++) {
            if (oneIn(100)) tellBoth();
            int way = upTo(9);
            if (way < 3) act();
            else if (way < 4) listen();
            else ask();
        }
    }

    public static void main(String[] args) {
        Checks checks = new Checks();
        int runs = args.length > 0 ? Integer.parseInt(args[0]) : 1500;
        int from = args.length > 1 ? Integer.parseInt(args[1]) : 0;
        for (int seed = from; seed < from + runs; seed++) new FuzzTest(seed, checks).run();
        checks.close();
    }
}
