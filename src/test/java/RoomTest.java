import java.lang.management.ManagementFactory;

/** All calls of a run live in one room: no call but the constructor may make an object. */
public final class RoomTest {
    private static final String TEXT = "member a out minds 1 votes 1;member b out minds 2 votes 2;member c out minds 3 votes 3;"
            + "member d out minds 4 votes 4;member e out minds 5 votes 5;member f in minds 6 votes 6;member g out minds 7 votes 7;"
            + "clause p sharp 1;clause q sharp 2;clause r sharp 3;clause s sharp 4;clause t sharp 5;clause u sharp 6;"
            + "winds (sharp*3+minds)/4-falling*2-(notch>6 and not read=2);cock 17;quota 9;puns 40;draw 9;";

    private static void callAll(BowHouse x, int[][] fives, int length) {
        for (int[] f : fives) x.feed(f[0], f[1], f[2], f[3], f[4]);
        x.end(length);
        x.house();
        for (int c = 0; c < 6; c++) {
            boolean falling = c % 2 == 0;
            x.agenda(falling);
            x.tones(c % 2);
            x.lost(falling);
            x.tips(c);
            x.league(c, 1);
            x.disarm(0, 1, c);
            x.trust(0, 1);
            x.edge(c, falling);
            x.usher(falling, 0);
            x.creak(c, falling);
            x.over();
            x.drops(c, falling);
            x.swap(falling, 0);
            x.tilts(c);
            x.leagues();
            x.softest();
            x.loudest();
            x.tensest();
            x.strength();
            x.cross();
            x.vetoes();
            x.law(c);
            x.until(c, c, falling);
            x.odds(4, 1);
            x.heard(c, c, falling);
            x.untell(c - 1);
            x.later(1);
            x.fits(c);
            x.sure(1, c);
            x.ask(0, c);
            x.will(0, c, 1);
            x.carries(c, falling);
            x.shots(c, falling);
            x.backers(c, falling);
            x.image(c % 3);
            x.read(c, falling);
            x.oil(c);
            x.change();
            x.undo();
            x.redo();
            x.undo();
            x.about(c);
            x.member(c, 3);
            x.clause(c, 1);
            x.winds(c, c, falling);
        }
        x.back(1);
    }

    public static void main(String[] args) {
        byte[] bytes = TEXT.getBytes(java.nio.charset.StandardCharsets.ISO_8859_1);
        int[][] fives = new int[(bytes.length + 19) / 20][];
        for (int i = 0; i < fives.length; i++) fives[i] = Checks.fiveNumbers(bytes, 20 * i);
        BowHouse x = new BowHouse();
        com.sun.management.ThreadMXBean room = (com.sun.management.ThreadMXBean) ManagementFactory.getThreadMXBean();
        long self = Thread.currentThread().getId();
        for (int i = 0; i < 5; i++) callAll(x, fives, bytes.length);
        long before = room.getThreadAllocatedBytes(self);
        long nothing = room.getThreadAllocatedBytes(self) - before;
        before = room.getThreadAllocatedBytes(self);
        for (int i = 0; i < 20; i++) callAll(x, fives, bytes.length);
        long made = room.getThreadAllocatedBytes(self) - before - nothing;
        Checks t = new Checks();
        t.due("the text was told", x.about(0), 7);
        // The smallest object has 16 bytes: one in a round would be more than this.
        t.due("few bytes made by 20 rounds of all calls: " + made, made < 300, true);
        t.close();
    }
}
