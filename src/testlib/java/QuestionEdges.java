/** The boundaries of what is asked of the House as it stands: promises 14 to 43. */
public final class QuestionEdges {
    // b, who is in, has votes enough; a and c wind by what they mind.
    private static final String MIXED = "member a out minds 1 votes 1;member b in minds 2 votes 2;member c out minds 3 votes 4;"
            + "clause p sharp 0;clause q sharp 7;clause r sharp 20;winds minds-falling;cock 10;quota 3;";

    private final Sentences s;

    public QuestionEdges(Sentences s) {
        this.s = s;
    }

    /** One who is out, of one vote, whom alone it depends on, at clauses of these sharpnesses. */
    private static BowHouse one(String winds, String more, int... sharps) {
        StringBuilder b = new StringBuilder("member a out minds 0 votes 1;");
        for (int i = 0; i < sharps.length; i++) b.append("clause c").append((char) ('a' + i)).append(" sharp ").append(sharps[i]).append(';');
        return Houses.told(b + "winds " + winds + ";" + more);
    }

    private static String lying(BowHouse x) {
        StringBuilder b = new StringBuilder();
        for (int i = 0; i < x.about(11); i++) b.append(x.lies(i)).append(' ');
        return b.toString().trim();
    }

    private static String answers(BowHouse x) {
        StringBuilder b = new StringBuilder();
        for (int k = 0; k < 2; k++) {
            boolean f = k == 1;
            for (int c = 0; c < 3; c++) {
                b.append(x.carries(c, f)).append(' ').append(x.shots(c, f)).append(' ').append(x.backers(c, f)).append(' ');
                b.append(x.edge(c, f)).append(' ').append(x.creak(c, f)).append(' ').append(x.drops(c, f)).append(' ');
                for (int i = 0; i < 3; i++) b.append(x.winds(i, c, f)).append(' ').append(x.until(i, c, f)).append(' ');
            }
            for (int i = 0; i < 3; i++) b.append(x.will(i, 3, 0)).append(' ').append(x.tips(i)).append(' ').append(x.league(i, k)).append(' ');
            b.append(x.tones(k)).append(' ').append(x.lost(f)).append(' ').append(x.usher(f, 1)).append(' ').append(x.swap(f, 2)).append(' ');
        }
        b.append(x.disarm(0, 2, 1)).append(' ').append(x.trust(0, 2)).append(' ').append(x.over()).append(' ').append(x.leagues()).append(' ');
        b.append(x.tilts(0)).append(' ').append(x.softest()).append(' ').append(x.loudest()).append(' ').append(x.tensest()).append(' ');
        b.append(x.strength()).append(' ').append(x.cross()).append(' ').append(x.vetoes()).append(' ').append(x.law(9)).append(' ');
        b.append(x.agenda(true)).append(' ').append(lying(x)).append(' ').append(x.agenda(false)).append(' ').append(lying(x));
        return b.toString();
    }

    private void nothingDone() {
        s.terms();
        s.says("(By what is now; nothing is done; no puns, if not told otherwise; how many are CARRIED is told of those that are read so alone.)");
        BowHouse x = Houses.told(MIXED);
        BowHouse y = Houses.told(MIXED + "puns 100;");
        y.agenda(false);
        String before = Houses.all(y);
        String answers = answers(x);
        s.due("puns or none", answers(y), answers);
        s.due("nothing is done", Houses.all(y), before);
        BowHouse later = Houses.told(MIXED + "puns 100;");
        later.read(0, false);
        later.read(1, false);
        later.undo();
        later.agenda(false);
        String between = Houses.all(later);
        s.due("by what is now", answers(later).equals(answers), false);
        s.due("nothing is done, acts stay", Houses.all(later), between);

        BowHouse z = Houses.told("member a in minds 0 votes 5;member b out minds 0 votes 0;" + Houses.clauses(3, 0) + "winds 0;");
        s.due("carried", z.read(0, false), 1);
        s.due("agenda", z.agenda(false), 2);
        s.due("tones", z.tones(0), 2);
        s.due("usher", z.usher(false, 1), 2);
        s.due("law", z.law(0), 2);
        s.due("over", z.over(), 2);
        z.read(1, false);
        z.read(2, false);
        s.due("agenda", z.agenda(false), 0);
        s.due("tones", z.tones(0), 0);
        s.due("usher", z.usher(false, 1), 0);
        s.due("law", z.law(0), 0);
        s.due("over", z.over(), 0);
    }

    private void orders() {
        s.terms();
        s.says("AGENDA on a tone: the order in which to read all CLAUSES that are not READ, on that tone, so that most are CARRIED;"
                + " of like ones the first (by numbers).");
        BowHouse x = one("sharp-falling*9", "", 9, 0, 0, 0, 0, 0);
        s.due("the sharp one behind", x.agenda(false), 5);
        s.due("in order", lying(x), "1 2 3 4 5 0");
        s.due("falling", x.agenda(true), 6);
        s.due("of like ones the first", lying(x), "0 1 2 3 4 5");
        x.read(2, false);
        s.due("not what is read", x.agenda(false), 4);
        s.due("in order", lying(x), "1 3 4 5 0");
        // 4 and 1 are 5, which is too many: 4 is lost in whatever order, or 1 and 4; 3 and 1 are not.
        BowHouse y = one("sharp", "", 4, 3, 1);
        s.due("two of three", y.agenda(false), 2);
        s.due("in order", lying(y), "1 2 0");
        s.due("all on a falling tone", one("5-falling*5", "", 0, 0, 0).agenda(true), 3);
        s.due("none", one("5", "", 0, 0).agenda(false), 0);
        BowHouse last = one("5", "", 0, 0);
        last.agenda(false);
        s.due("of like ones the first, none being carried", lying(last), "0 1");

        s.says("TONES: which of the CLAUSES that are not READ to read on a FALLING tone, all being read in order of their numbers,"
                + " so that most are CARRIED; of like ones the fewest, then the least set as bits.");
        s.due("none needed", one("0", "", 0, 0, 0, 0, 0, 0).tones(1), 0);
        s.due("all needed", one("5-falling*5", "", 0, 0, 0, 0, 0, 0).tones(1), 63);
        s.due("all carried", one("5-falling*5", "", 0, 0, 0, 0, 0, 0).tones(0), 6);
        s.due("any one does", one("2-falling", "cock 11;", 0, 0, 0).tones(1), 1);
        s.due("any two do", one("2-falling", "", 0, 0, 0).tones(1), 3);
        s.due("the last needed", one("sharp*5*(1-falling)", "", 0, 0, 0, 0, 0, 1).tones(1), 32);
        s.due("one is fewer than two", one("(sharp=3)*(2-falling)+(sharp=4)*(2-falling*3)", "cock 9;", 3, 3, 4).tones(1), 4);
        s.due("none helps", one("5", "", 0, 0).tones(1), 0);
        BowHouse z = one("5-falling*5", "", 0, 0, 0);
        z.read(1, true);
        s.due("not what is read", z.tones(1), 5);
        s.due("of those read alone", z.tones(0), 2);
        BowHouse once = one("5*(read=0)-5*(read=1)", "", 0, 0, 0);
        s.due("lost", once.read(0, false), 0);
        s.due("what is read and lost is not read again", once.tones(0), 2);

        s.says("LOST on a tone: the CLAUSE that is not CARRIED first, if all that are not READ are read so in order of their numbers.");
        BowHouse w = one("sharp*5*(1-falling)", "", 0, 0, 1, 0, 0, 1);
        s.due("the first", w.lost(false), 2);
        s.due("none, falling", w.lost(true), -1);
        w.read(2, true);
        s.due("the last", w.lost(false), 5);
        s.due("at once", one("5", "", 0, 0).lost(true), 0);
        s.due("by what was wound ahead of it", one("2", "", 0, 0, 0, 0).lost(false), 2);
    }

    private void weights() {
        s.terms();
        s.says("TIPS of a MEMBER: in how many orders of all MEMBERS those ahead of him have fewer votes than quota tells together, with him not.");
        String two = "member a in minds 0 votes 3;member b out minds 0 votes 2;quota ";
        int[][] tips = {{0, 0, 0}, {1, 1, 1}, {2, 1, 1}, {3, 2, 0}, {4, 1, 1}, {5, 1, 1}, {6, 0, 0}};
        for (int[] row : tips) {
            BowHouse x = Houses.told(two + row[0] + ";");
            s.due("a of quota " + row[0], x.tips(0), row[1]);
            s.due("b of quota " + row[0], x.tips(1), row[2]);
        }
        BowHouse seven = Houses.told(Houses.members(7, "out", 1) + "quota 4;");
        s.due("one of seven", seven.tips(6), 720);
        s.due("he alone of seven", Houses.told(Houses.members(6, "in", 0) + "member z in minds 0 votes 1;").tips(6), 5040);
        s.due("who has no votes", Houses.told(Houses.members(6, "in", 0) + "member z in minds 0 votes 1;").tips(0), 0);

        s.says("LEAGUE with a MEMBER: the fewest MEMBERS, he among them, who have as many votes as quota tells, or more;"
                + " of like ones the least set as bits.");
        String four = "member a in minds 0 votes 2;member b in minds 0 votes 2;member c out minds 0 votes 3;member d out minds 0 votes 0;quota ";
        int[][] leagues = {{0, 1, 2, 4, 8}, {2, 1, 2, 4, 9}, {3, 3, 3, 4, 12}, {4, 3, 3, 5, 11}, {5, 5, 6, 5, 13}, {6, 7, 7, 7, 15}, {7, 7, 7, 7, 15}};
        for (int[] row : leagues) {
            BowHouse y = Houses.told(four + row[0] + ";");
            for (int i = 0; i < 4; i++) {
                s.due("with " + i + " of quota " + row[0], y.league(i, 1), row[1 + i]);
                s.due("how many", y.league(i, 0), Integer.bitCount(row[1 + i]));
            }
        }
        s.due("all seven", Houses.told(Houses.members(7, "out", 9) + "quota 63;").league(3, 1), 127);
    }

    private void two() {
        s.terms();
        s.says("DISARM of two who are OUT, within n: step by step one of both (whichever) has 1 NOTCH less, behind no step they differ by more than n,"
                + " till both have 0: how many steps.");
        int[][] rows = {{0, 0, 0, 0}, {1, 0, 0, 1}, {0, 1, 0, 1}, {1, 1, 0, -1}, {2, 1, 0, -1}, {2, 0, 0, -1}, {1, 1, 1, 2}, {2, 0, 1, 2},
            {3, 0, 1, -1}, {3, 0, 2, 3}, {0, 3, 1, -1}, {0, 3, 2, 3}, {0, 4, 2, -1}, {27, 26, 1, 53}, {27, 25, 1, 52}, {27, 24, 1, -1}, {27, 0, 26, 27},
            {27, 0, 25, -1}, {27, 0, 27, 27}, {27, 27, 99, 54}, {0, 0, 99, 0}};
        for (int[] row : rows) s.due(row[0] + " and " + row[1] + " within " + row[2], Houses.bows("0", "", row[0], row[1]).disarm(0, 1, row[2]), row[3]);

        s.says("TRUST of two who are OUT: each lets his BOW off, or not; who does has 3 less the NOTCHES of the other one, if that one does not (3, if he does);"
                + " who does not has 4, if the other one does, else 0; at RESTS neither, the other one's doing so, would have more by the other way.");
        String[] rests = {"0 0 2 0 1", "2 2 2 0 1", "3 3 3 0 0", "4 4 1 0 0", "2 4 1 0 1", "4 2 1 1 0", "3 4 2 0 0", "4 3 2 0 0", "2 3 2 0 1", "3 2 2 0 1",
            "27 0 1 1 0", "0 27 1 0 1", "27 27 1 0 0"};
        for (String row : rests) {
            String[] part = row.split(" ");
            BowHouse x = Houses.bows("0", "", Integer.parseInt(part[0]), Integer.parseInt(part[1]));
            s.due("rests of " + row, x.trust(0, 1), Integer.parseInt(part[2]));
            s.due("the first of " + row, lying(x), part[3] + " " + part[4]);
        }
    }

    private void readings() {
        s.terms();
        s.says("EDGE of a CLAUSE on a tone: the greatest sharpness (0 .. 20, in place of its own) by which it would be CARRIED, were it read now.");
        s.due("20", one("sharp/5", "", 3).edge(0, false), 20);
        s.due("0", one("sharp*5", "", 3).edge(0, false), 0);
        s.due("1, and not 0", one("5*(not sharp=1)", "", 3).edge(0, false), 1);
        s.due("19", one("sharp-15", "", 20).edge(0, false), 19);
        s.due("not 21", one("5*(sharp<21)", "", 3).edge(0, false), -1);
        s.due("not below 0", one("5*(sharp+1>0)", "", 3).edge(0, false), -1);
        s.due("with a gap", one("5*(not sharp=7)", "", 20).edge(0, false), 7);
        BowHouse minded = Houses.told("member a out minds 3 votes 1;clause p sharp 0;clause q sharp 0;winds sharp+minds-3*(read>0);");
        s.due("by what he minds", minded.edge(0, false), 1);
        minded.read(0, false);
        s.due("by what is wound already", minded.edge(1, false), 1);
        s.due("on a falling tone", one("sharp-falling*3", "", 20).edge(0, true), 7);
        s.due("on a plain one", one("sharp-falling*3", "", 20).edge(0, false), 4);

        s.says("USHER on a tone: the one who is OUT by whose OIL now (1 NOTCH less, 0 at least) most CLAUSES are CARRIED,"
                + " if all that are not READ are read so in order of their numbers; of like ones the first.");
        int[][] single = {{15, 3}, {14, 3}, {16, 0}, {0, 3}};
        for (int[] row : single) s.due("one of " + row[0], Houses.bows("0", row[0] > 0 ? "quota 1;" : "quota 0;", row[0]).usher(false, 1), row[1]);
        BowHouse none = one("5", "", 0);
        s.due("0 at least: not carried", none.usher(false, 1), 0);
        s.due("he all the same", none.usher(false, 0), 0);
        s.due("0 stays 0", one("4", "", 0).usher(false, 1), 1);
        s.due("by what he minds", Houses.told("member a out minds 5 votes 1;clause p sharp 0;winds minds;").usher(false, 1), 0);
        s.due("by how sharp each is", one("sharp", "", 0, 5, 0).usher(false, 1), 1);
        s.due("by how many are read", one("(read=1)*5-(read=2)*5", "", 0, 0, 0).usher(false, 1), 2);
        BowHouse last = one("(read=0)+4*(read>0)", "", 0, 0);
        last.read(0, false);
        s.due("1 becomes 0", last.usher(false, 1), 1);
        BowHouse x = Houses.bows("0", "quota 5;", 3, 15, 15, 3);
        s.due("of like ones the first", x.usher(false, 0), 1);
        s.due("three", x.usher(false, 1), 3);
        BowHouse y = Houses.bows("2*falling", "quota 5;", 13, 15);
        s.due("b on a plain tone, or a", y.usher(false, 0), 1);
        s.due("three", y.usher(false, 1), 3);
        s.due("none falling, so the first", y.usher(true, 0), 0);
        s.due("none", y.usher(true, 1), 0);
        BowHouse z = Houses.told("member a in minds 0 votes 0;member b out minds 0 votes 1;" + Houses.clauses(2, 0));
        s.due("the first who is out", z.usher(false, 0), 1);
        z.read(0, false);
        z.read(1, false);
        s.due("all read", z.usher(false, 0), 1);
        s.due("none left", z.usher(false, 1), 0);

        s.says("CREAK of a CLAUSE on a tone: by how many NOTCHES all wind at it now, together (those who would GO OFF, too; what it lets off is taken away).");
        BowHouse w = Houses.bows("9*(votes=1)-9*(votes=2)-9*(votes=0)+falling", "", 3, 6, 0);
        s.due("9 less 6 less 0", w.creak(3, false), 3);
        s.due("9 less 6 and 0, falling: 9 less 6", w.creak(3, true), 3);
        s.due("who goes off", one("9", "cock 9;", 0).creak(0, false), 9);
        s.due("below 0", Houses.bows("0-4", "", 3, 6).creak(5, false), -7);
        BowHouse tones = one("sharp-falling*3", "", 0, 5);
        s.due("of that clause", tones.creak(1, false), 5);
        s.due("on that tone", tones.creak(1, true), 2);
        s.due("who is in does not", Houses.told("member a in minds 9 votes 0;member b out minds 5 votes 0;clause p sharp 0;winds minds;").creak(0, false), 5);
        s.due("seven", Houses.told(Houses.members(7, "out", 0) + "clause p sharp 0;winds 99;").creak(0, true), 63);
        s.due("nobody", Houses.told(Houses.members(7, "in", 0) + "clause p sharp 0;winds 99;").creak(0, true), 0);

        s.says("OVER: how many CLAUSES are CARRIED, if the CHANGE is made now and all that are not READ are read then, on a plain tone, in order of their numbers.");
        BowHouse v = Houses.told("member a out minds 2 votes 1;member b in minds 1 votes 1;" + Houses.clauses(6, 0) + "winds minds;cock 9;quota 2;");
        s.due("b: 1 to 6, of which 4", v.over(), 4);
        v.read(0, false);
        s.due("b has a's 2: 3, 4, then too many", v.over(), 2);
        v.change();
        s.due("a has 2 again: 4, then 6, 8, off, 2", v.over(), 2);
        s.due("on a plain tone", Houses.told("member a in minds 0 votes 1;clause p sharp 0;winds 5-falling*5;").over(), 0);
        s.due("on a plain tone", Houses.told("member a in minds 0 votes 1;clause p sharp 0;winds falling*5;").over(), 1);
        s.due("nobody", Houses.told(Houses.clauses(6, 0) + "quota 0;").over(), 6);
        s.due("no clauses", Houses.told(Houses.members(7, "in", 9)).over(), 0);

        s.says("ODDS: that there is no pun in n READINGS, whatever the SEED is.");
        BowHouse u = Houses.told("puns 30;draw 5;" + Houses.clauses(1, 0));
        s.due("343", u.odds(3, 0), 343);
        s.due("of 1000", u.odds(3, 1), 1000);
        u.read(0, false);
        s.due("by another seed", u.odds(3, 0), 343);
    }

    private void wouldBe() {
        s.promise(14);
        s.says("1 if a CLAUSE that is not READ would be CARRIED, were it read now, FALLING or not, else 0;");
        BowHouse x = one("sharp-falling", "", 4, 5, 6, 0);
        int[][] rows = {{1, 1}, {0, 1}, {0, 0}, {1, 1}};
        for (int c = 0; c < 4; c++) for (int k = 0; k < 2; k++) s.due("clause " + c + " tone " + k, x.carries(c, k == 1), rows[c][k]);
        x.read(0, false);
        s.due("by what is wound", x.carries(1, true), 0);
        s.says("NONE if one can't be.");
        s.due("read", x.carries(0, false), -1);
        for (int c : Houses.wrong(4)) s.due("clause " + c, x.carries(c, false), -1);

        s.promise(15);
        s.says("Who would GO OFF at it, as bits;");
        BowHouse y = Houses.told(Houses.members(6, "out", 1) + "member z in minds 9 votes 1;" + Houses.clauses(1, 9) + "clause q sharp 8;winds sharp;cock 9;");
        s.due("all but one", y.shots(0, false), 63);
        s.due("nobody", y.shots(1, false), 0);
        BowHouse tones = one("sharp-falling*3", "cock 5;", 0, 5);
        s.due("at that clause", tones.shots(1, false), 1);
        s.due("at another", tones.shots(0, false), 0);
        s.due("on a falling tone", tones.shots(1, true), 0);
        s.says("NONE if one can't be.");
        for (int c : Houses.wrong(2)) s.due("clause " + c, y.shots(c, true), -1);
        s.due("of none", new BowHouse().shots(0, false), -1);

        s.promise(16);
        s.says("Who would be FOR it, as bits;");
        s.due("who is in", y.backers(0, false), 64);
        s.due("all seven", Houses.told(Houses.members(7, "out", 0) + Houses.clauses(1, 0)).backers(0, false), 127);
        s.due("nobody", one("5", "", 0).backers(0, false), 0);
        BowHouse half = one("sharp-falling*3", "", 0, 5);
        s.due("at that clause", half.backers(1, false), 0);
        s.due("at another", half.backers(0, false), 1);
        s.due("on a falling tone", half.backers(1, true), 1);
        BowHouse seven = Houses.told(Houses.members(7, "out", 1) + Houses.clauses(2, 0) + "winds 5*(read=0);");
        seven.read(0, false);
        s.due("none of seven", seven.backers(1, false), 0);
        seven.oil(6);
        s.due("the last of seven", seven.backers(1, false), 64);
        s.says("NONE if one can't be.");
        for (int c : Houses.wrong(2)) s.due("clause " + c, y.backers(c, true), -1);
        y.read(0, false);
        s.due("read", y.backers(0, false), -1);
        s.promise(15);
        s.says("NONE if one can't be.");
        s.due("read", y.shots(0, false), -1);
    }

    private void will() {
        s.promise(17);
        s.says("NOTCHES of a MEMBER behind the first n (0 .. 6) of the CLAUSES that are not READ (as many as there are), read plain in order of their numbers;");
        BowHouse x = one("sharp-falling", "cock 30;puns 100;", 1, 2, 3, 4, 5, 6);
        int[] want = {0, 1, 3, 6, 10, 15, 21};
        for (int n = 0; n <= 6; n++) s.due("behind " + n, x.will(0, n, 0), want[n]);
        x.read(1, true);
        int[] left = {2, 3, 6, 10, 15, 21, 21};
        for (int n = 0; n <= 6; n++) s.due("of those left behind " + n, x.will(0, n, 0), left[n]);
        BowHouse lost = one("sharp", "cock 30;quota 2;", 3, 4, 5);
        s.due("lost", lost.read(0, false), 0);
        s.due("what is read and lost is not read again", lost.will(0, 1, 0), 7);
        BowHouse mixed = Houses.told(MIXED);
        s.due("a", mixed.will(0, 2, 0), 2);
        s.due("b is in", mixed.will(1, 2, 0), 0);
        s.due("c", mixed.will(2, 2, 0), 6);
        s.due("no clauses", Houses.told("member a out minds 0 votes 0;").will(0, 6, 1), 0);
        s.due("in", Houses.told("member a in minds 0 votes 0;" + Houses.clauses(6, 20)).will(0, 6, 1), 0);
        s.says("puns as the SEED tells (what 1), none (0);");
        int[] punned = {2, 4, 8, 13, 19, 26, 26};
        for (int n = 0; n <= 6; n++) s.due("with puns behind " + n, x.will(0, n, 1), punned[n]);
        // 0: 71, 798, 397, 460, 91, 538: rests 71, 98, 97, 60, 91, 38
        BowHouse y = one("0", "cock 30;puns 71;", 0, 0, 0, 0, 0, 0);
        int[] some = {0, 0, 0, 0, 1, 1, 2};
        for (int n = 0; n <= 6; n++) s.due("by the seed behind " + n, y.will(0, n, 1), some[n]);
        s.due("the seed stays", y.about(4), 0);
        s.says("NONE if one can't be.");
        for (int i : Houses.wrong(1)) s.due("member " + i, x.will(i, 1, 0), -1);
        for (int n : Houses.wrong(7)) s.due("n " + n, x.will(0, n, 0), -1);
        for (int what : Houses.wrong(2)) s.due("what " + what, x.will(0, 1, what), -1);
    }

    private void orderAnswers() {
        s.promise(18);
        s.says("AGENDA: how many are CARRIED.");
        BowHouse x = one("sharp", "", 9, 0, 0);
        s.due("two", x.agenda(false), 2);
        s.due("none told", new BowHouse().agenda(true), 0);
        s.says("CLAUSES lie there then, in order.");
        s.due("three", x.about(11), 3);
        s.due("in order", lying(x), "1 2 0");
        for (int c = 0; c < 3; c++) x.read(c, false);
        s.due("all read", x.agenda(false), 0);
        s.due("nothing lies there", x.about(11), 0);

        s.promise(19);
        s.says("TONES what 0: how many are CARRIED, 1: which are read FALLING, as bits;");
        BowHouse y = one("5-falling*5", "", 0, 0);
        s.due("how many", y.tones(0), 2);
        s.due("which", y.tones(1), 3);
        s.due("none told", new BowHouse().tones(0), 0);
        s.due("none told", new BowHouse().tones(1), 0);
        s.says("NONE for another what.");
        for (int what : Houses.wrong(2)) s.due("what " + what, y.tones(what), -1);

        s.promise(20);
        s.says("LOST;");
        s.due("the first", y.lost(false), 0);
        s.says("NONE if all are CARRIED.");
        s.due("all are", y.lost(true), -1);
        s.due("none told", new BowHouse().lost(false), -1);
        s.due("all read", x.lost(false), -1);

        s.promise(21);
        s.says("TIPS;");
        BowHouse z = Houses.told(Houses.members(7, "in", 9) + "quota 63;");
        s.due("the last one", z.tips(6), 720);
        s.says("NONE if there is none such.");
        for (int i : Houses.wrong(7)) s.due("member " + i, z.tips(i), -1);
        s.due("of nobody", new BowHouse().tips(0), -1);

        s.promise(22);
        s.says("LEAGUE what 0: how many, 1: who, as bits;");
        s.due("how many", z.league(6, 0), 7);
        s.due("who", z.league(6, 1), 127);
        s.says("NONE if all together have not so many, there is none such, or for another what.");
        BowHouse w = Houses.told(Houses.members(7, "in", 9) + "quota 64;");
        for (int k = 0; k < 2; k++) s.due("64 of 63", w.league(0, k), -1);
        for (int i : Houses.wrong(7)) s.due("member " + i, z.league(i, 0), -1);
        for (int what : Houses.wrong(2)) s.due("what " + what, z.league(0, what), -1);
    }

    private void pairs() {
        s.promise(23);
        s.says("DISARM (n 0 .. 99);");
        BowHouse x = Houses.bows("0", "", 1, 0, 5);
        s.due("0", x.disarm(0, 1, 0), 1);
        s.due("99", x.disarm(2, 1, 99), 5);
        s.says("NONE if it can't be, both are one, one is not OUT, or can't be.");
        s.due("100", x.disarm(0, 1, 100), -1);
        s.due("-1", x.disarm(0, 1, -1), -1);
        s.due("-1, where nothing is to be done", Houses.bows("0", "", 0, 0).disarm(0, 1, -1), -1);
        s.due("the greatest", x.disarm(0, 1, Integer.MAX_VALUE), -1);
        s.due("it can't be", x.disarm(0, 2, 2), -1);
        s.due("it can", x.disarm(0, 2, 3), 6);
        for (int i = 0; i < 3; i++) s.due("one", x.disarm(i, i, 99), -1);
        for (int i : Houses.wrong(3)) {
            s.due("member " + i, x.disarm(i, 0, 9), -1);
            s.due("other " + i, x.disarm(0, i, 9), -1);
        }
        BowHouse y = Houses.told("member a out minds 0 votes 0;member b in minds 0 votes 0;member c out minds 0 votes 0;");
        s.due("both are out", y.disarm(2, 0, 0), 0);
        s.due("in", y.disarm(0, 1, 9), -1);
        s.due("in", y.disarm(1, 0, 9), -1);

        s.promise(24);
        s.says("TRUST: how many RESTS;");
        s.due("two", x.trust(0, 1), 2);
        s.says("NONE if both are one, one is not OUT, or can't be.");
        for (int i = 0; i < 3; i++) s.due("one", x.trust(i, i), -1);
        for (int i : Houses.wrong(3)) {
            s.due("member " + i, x.trust(i, 0), -1);
            s.due("other " + i, x.trust(0, i), -1);
        }
        s.due("both are out", y.trust(2, 0), 2);
        s.due("in", y.trust(0, 1), -1);
        s.due("in", y.trust(1, 0), -1);
        s.says("Whether both let go (1, 0) in the first of these lies there then (the first one's, the other one's; of like ones the least numbers;"
                + " behind 0, NONE: nothing).");
        y.trust(0, 2);
        s.due("the first of (0, 1), (1, 0)", lying(y), "0 1");
        y.trust(0, 1);
        s.due("nothing", y.about(11), 0);
        s.due("none such", y.lies(0), -2);
        x.trust(2, 0);
        s.due("5 against 1", lying(x), "1 0");
        x.trust(0, 2);
        s.due("1 against 5", lying(x), "0 1");
        x.trust(2, 2);
        s.due("nothing", x.about(11), 0);
        x.agenda(false);
        x.trust(3, 0);
        s.due("nothing of the agenda", x.about(11), 0);
    }

    private void readingAnswers() {
        s.promise(25);
        s.says("EDGE;");
        BowHouse x = one("sharp", "", 9, 9);
        s.due("4", x.edge(0, true), 4);
        s.says("NONE if by none, it is READ, or one can't be.");
        x.read(0, false);
        s.due("by none", x.edge(1, false), -1);
        s.due("read", x.edge(0, false), -1);
        for (int c : Houses.wrong(2)) s.due("clause " + c, x.edge(c, false), -1);
        BowHouse read = Houses.told("member a in minds 0 votes 1;clause p sharp 0;");
        s.due("20", read.edge(0, false), 20);
        read.read(0, false);
        s.due("read", read.edge(0, false), -1);

        s.promise(26);
        s.says("USHER what 0: who, 1: how many are CARRIED then;");
        BowHouse y = Houses.bows("0", "quota 5;", 0, 15);
        s.due("who", y.usher(true, 0), 1);
        s.due("how many", y.usher(true, 1), 3);
        s.says("NONE if nobody is OUT, or for another what.");
        for (int what : Houses.wrong(2)) s.due("what " + what, y.usher(true, what), -1);
        y.change();
        for (int k = 0; k < 2; k++) s.due("nobody is out", y.usher(true, k), -1);
        for (int k = 0; k < 2; k++) s.due("nobody at all", new BowHouse().usher(true, k), -1);

        s.promise(27);
        s.says("CREAK;");
        s.due("9 of one who has 9, read", x.creak(0, false), 9);
        s.says("-1000 if there is no such CLAUSE.");
        for (int c : Houses.wrong(2)) s.due("clause " + c, x.creak(c, false), -1000);
        s.due("of none", new BowHouse().creak(0, true), -1000);

        s.promise(28);
        s.says("OVER.");
        s.due("none told", new BowHouse().over(), 0);
        s.due("all six", Houses.told("member a out minds 0 votes 1;" + Houses.clauses(6, 0)).over(), 6);
        s.due("none of six", Houses.told("member a in minds 0 votes 1;" + Houses.clauses(6, 0) + "winds 5;cock 1;").over(), 0);
    }

    private void drops() {
        s.promise(29);
        s.says("The fewest NOTCHES to be let off by OIL by all who are OUT, together (by each no more than he has), so that a CLAUSE that is not READ"
                + " would be CARRIED, were it read then;");
        int[][] rows = {{0, 0}, {1, 2}, {5, 2}, {6, 4}, {10, 4}, {11, 7}, {16, 9}, {17, -1}};
        for (int[] row : rows) s.due("quota " + row[0], Houses.bows("0", "quota " + row[0] + ";", 19, 16, 16).drops(3, false), row[1]);
        int[][] cocks = {{20, 0}, {21, 1}, {22, 2}, {27, 7}};
        for (int[] row : cocks) s.due(row[0] + " and 9", Houses.bows("9", "quota 0;", row[0]).drops(3, false), row[1]);
        s.due("two of them", Houses.bows("9", "quota 0;", 21, 25).drops(4, false), 6);
        s.due("14 of 30 is less than half", Houses.bows("0", "quota 1;", 14).drops(3, false), 0);
        s.due("15 is not", Houses.bows("0", "quota 1;", 15).drops(3, false), 1);
        s.due("who has more winds more", Houses.bows("(notch>10)*9", "quota 1;", 20).drops(3, false), 10);
        s.due("who has less winds more", Houses.bows("(notch<20)*9", "quota 0;", 27).drops(3, false), 0);
        BowHouse last = one("3*(read=0)+9*(read>0)*(notch>0)", "", 0, 0);
        last.read(0, false);
        s.due("all he has: 1 and 9 would be off", last.drops(1, false), 3);
        s.due("18 less 9", Houses.bows("0-9", "quota 6;", 18).drops(3, false), 0);
        s.due("24 less 9", Houses.bows("0-9", "quota 6;", 24).drops(3, false), 1);
        s.due("falling", Houses.bows("0-9*falling", "quota 6;", 24).drops(3, true), 1);
        BowHouse sharp = one("sharp", "", 3, 4, 6);
        sharp.read(0, false);
        s.due("by how sharp that one is", sharp.drops(1, false), 3);
        String three = "member a in minds 0 votes 9;member b out minds 5 votes 1;member c out minds 6 votes 0;" + Houses.clauses(2, 0) + "winds minds;";
        BowHouse in = Houses.told(three + "quota 9;");
        in.read(0, false);
        s.due("1 by b, 3 by c, that they do not go off", in.drops(1, false), 4);
        BowHouse seven = Houses.told(Houses.members(7, "out", 1) + Houses.clauses(2, 0) + "winds 5*(read=0);quota 7;");
        seven.read(0, false);
        s.due("1 by each of seven", seven.drops(1, false), 7);
        s.due("plain", Houses.bows("0-9*falling", "quota 6;", 24).drops(3, false), 10);
        s.due("nobody out", Houses.told("member a in minds 0 votes 1;clause p sharp 0;").drops(0, false), 0);
        s.says("NONE if by none, or one can't be.");
        s.due("he goes off of 0", one("9", "cock 9;quota 0;", 0).drops(0, false), -1);
        s.due("he does not", one("8", "cock 9;quota 0;", 0).drops(0, false), 0);
        s.due("he can't be for it", one("5", "", 0).drops(0, false), -1);
        BowHouse never = Houses.told(three + "quota 10;");
        never.read(0, false);
        s.due("b can't be for it, whatever c does", never.drops(1, false), -1);
        String off = "member a out minds 9 votes 0;";
        String on = "member b out minds 8 votes 0;";
        s.due("the first of two goes off of 0", Houses.told(off + on + "clause p sharp 0;winds minds;cock 9;quota 0;").drops(0, false), -1);
        s.due("the second of two does", Houses.told(on + off + "clause p sharp 0;winds minds;cock 9;quota 0;").drops(0, false), -1);
        // a has 4 and winds 5: off, but for 1 less; b goes off of 0.
        BowHouse both = Houses.told("member a out minds 4 votes 0;member b out minds 9 votes 0;clause p sharp 0;clause q sharp 0;"
                + "winds minds*(read=0)+(read>0)*(5+(minds=9)*4);cock 9;quota 0;");
        both.read(0, false);
        s.due("what helps one of them", both.drops(1, false), -1);
        s.due("too few votes", Houses.told("member a in minds 0 votes 1;clause p sharp 0;quota 2;").drops(0, false), -1);
        BowHouse x = Houses.bows("0", "quota 0;", 5);
        s.due("read", x.drops(0, false), -1);
        for (int c : Houses.wrong(6)) s.due("clause " + c, x.drops(c, false), -1);
    }

    private void swaps() {
        s.promise(30);
        s.says("The two who are OUT by the exchange of whose BOWS now most CLAUSES are CARRIED, if all that are not READ are read so in order of their numbers,"
                + " if these are more than now;");
        // a alone has votes, and too many notches; whoever has his then winds 6 if he minds nothing, and goes off.
        BowHouse x = Houses.bows("(minds=0)*(votes=0)*6", "quota 6;", 18, 0, 1);
        s.due("now", x.law(0) * 10 + x.agenda(false), 0);
        s.due("a", x.swap(false, 0), 0);
        s.due("c, not b", x.swap(false, 1), 2);
        s.due("three", x.swap(false, 2), 3);
        BowHouse tones = Houses.bows("5*falling", "quota 6;", 0, 18);
        s.due("plain: all three", tones.swap(false, 2), 3);
        s.due("falling: 5, 10, then 15 is too many", tones.swap(true, 2), 2);
        BowHouse minds = Houses.bows("0-9*(not minds=2)", "quota 6;", 0, 20);
        s.due("by what they mind", minds.swap(false, 2), 3);
        BowHouse same = Houses.bows("0", "quota 1;", 3, 6);
        s.due("no more than now", same.swap(false, 0), -1);
        s.says("of like ones the first (the lesser number, then the other one):");
        BowHouse y = Houses.bows("0", "quota 6;", 0, 18, 1, 2);
        s.due("a", y.swap(true, 0), 0);
        s.due("b", y.swap(true, 1), 1);
        s.due("three", y.swap(true, 2), 3);
        BowHouse z = Houses.bows("0", "quota 6;", 18, 15, 1, 2);
        s.due("a", z.swap(true, 0), 0);
        s.due("c ahead of d", z.swap(true, 1), 2);
        s.says("what 0: the first one, 1: the other one, 2: how many;");
        BowHouse w = Houses.bows("4*falling", "quota 6;", 12, 12, 18, 0);
        s.due("on a plain tone: none, as both have votes enough", w.swap(false, 2), -1);
        s.due("on a falling one c and d: c has 4, 8, 12, at which d goes off", w.swap(true, 0) * 100 + w.swap(true, 1) * 10 + w.swap(true, 2), 232);
        s.says("NONE if there are none, or for another what.");
        for (int what : Houses.wrong(3)) s.due("what " + what, x.swap(false, what), -1);
        for (int k = 0; k < 3; k++) {
            s.due("one alone is out", Houses.bows("0", "quota 6;", 18).swap(false, k), -1);
            s.due("nobody", new BowHouse().swap(false, k), -1);
        }
        BowHouse in = Houses.bows("0", "quota 6;", 18, 0);
        s.due("both out", in.swap(false, 2), 3);
        in.change();
        s.due("nobody out", in.swap(false, 2), -1);
    }

    private void sets() {
        s.promise(31);
        s.says("In how many sets of other MEMBERS (of none, too) they have fewer votes than quota tells together, with him not;");
        String two = "member a in minds 0 votes 3;member b out minds 0 votes 2;quota ";
        int[][] tilts = {{0, 0, 0}, {1, 1, 1}, {2, 1, 1}, {3, 2, 0}, {4, 1, 1}, {5, 1, 1}, {6, 0, 0}};
        for (int[] row : tilts) {
            BowHouse x = Houses.told(two + row[0] + ";");
            s.due("a of quota " + row[0], x.tilts(0), row[1]);
            s.due("b of quota " + row[0], x.tilts(1), row[2]);
        }
        BowHouse seven = Houses.told(Houses.members(7, "out", 1) + "quota 4;");
        s.due("three of six", seven.tilts(6), 20);
        s.says("NONE if there is none such.");
        for (int i : Houses.wrong(7)) s.due("member " + i, seven.tilts(i), -1);
        s.due("of nobody", new BowHouse().tilts(0), -1);

        s.promise(32);
        s.says("How many sets of MEMBERS have as many votes as quota tells together, or more, and not without any one of them.");
        int[][] leagues = {{0, 1}, {1, 2}, {2, 2}, {3, 1}, {4, 1}, {5, 1}, {6, 0}};
        for (int[] row : leagues) s.due("quota " + row[0], Houses.told(two + row[0] + ";").leagues(), row[1]);
        s.due("four of seven", seven.leagues(), 35);
        s.due("nobody, quota 0", Houses.told("quota 0;").leagues(), 1);
        s.due("nobody, quota 1", new BowHouse().leagues(), 0);

        s.promise(39);
        s.says("MEMBERS without whom the votes of all others together are fewer than quota tells, as bits.");
        int[][] vetoes = {{0, 0}, {2, 0}, {3, 1}, {4, 3}, {5, 3}, {6, 3}};
        for (int[] row : vetoes) s.due("quota " + row[0], Houses.told(two + row[0] + ";").vetoes(), row[1]);
        s.due("six are enough", Houses.told(Houses.members(7, "out", 1) + "quota 6;").vetoes(), 0);
        s.due("all seven", Houses.told(Houses.members(7, "out", 1) + "quota 7;").vetoes(), 127);
        s.due("nobody", new BowHouse().vetoes(), 0);

        s.promise(37);
        s.says("Votes of all who are IN, together.");
        BowHouse y = Houses.told(two + "1;");
        s.due("a", y.strength(), 3);
        y.change();
        s.due("b", y.strength(), 2);
        s.due("63", Houses.told(Houses.members(7, "in", 9)).strength(), 63);
        s.due("nobody in", seven.strength(), 0);
        s.due("nobody", new BowHouse().strength(), 0);
    }

    private void looks() {
        s.promise(33);
        s.says("The CLAUSE that is not READ at which the CREAK on a FALLING tone is least; of like ones the first;");
        BowHouse x = one("sharp-falling*(sharp>8)*9", "cock 30;", 8, 7, 9, 9, 7, 7);
        s.due("least falling", x.softest(), 2);
        x.read(2, false);
        x.read(3, true);
        s.due("of like ones the first", x.softest(), 1);
        x.read(1, true);
        s.due("not what is read", x.softest(), 4);
        s.due("the first, all being above 0", one("sharp", "", 3, 3).softest(), 0);
        BowHouse below = one("9-9*(read>0)-sharp*(read>0)", "", 0, 3, 4, 4, 1);
        below.read(0, false);
        s.due("most let off", below.softest(), 2);
        s.due("one alone", one("9", "", 0).softest(), 0);
        s.due("nobody out", Houses.told("member a in minds 0 votes 0;" + Houses.clauses(2, 5)).softest(), 0);
        s.says("NONE if all are READ.");
        s.due("none told", new BowHouse().softest(), -1);
        BowHouse all = one("9", "", 0);
        all.read(0, false);
        s.due("all read", all.softest(), -1);

        s.promise(35);
        s.says("The CLAUSE that is not READ at which the CREAK (plain) is greatest; of like ones the first;");
        BowHouse y = one("sharp-(sharp=8)+falling*(sharp=7)*2", "cock 30;", 7, 8, 6, 9, 9);
        s.due("greatest", y.loudest(), 3);
        y.read(3, false);
        y.read(4, false);
        s.due("of like ones the first, plain", y.loudest(), 0);
        y.read(0, false);
        s.due("not what is read", y.loudest(), 1);
        BowHouse less = one("9*(read=0)-sharp*(read>0)", "cock 30;", 0, 3, 2, 2);
        less.read(0, false);
        s.due("least let off", less.loudest(), 2);
        s.due("nobody out", Houses.told("member a in minds 0 votes 0;" + Houses.clauses(2, 5)).loudest(), 0);
        s.says("NONE if all are READ.");
        s.due("none told", new BowHouse().loudest(), -1);
        s.due("all read", all.loudest(), -1);

        s.promise(34);
        s.says("Who is OUT, as bits.");
        s.due("nobody", new BowHouse().outs(), 0);
        BowHouse seven = Houses.told(Houses.members(7, "out", 1));
        s.due("all seven", seven.outs(), 127);
        seven.change();
        s.due("nobody", seven.outs(), 0);
        s.due("the last", Houses.told(Houses.members(6, "in", 1) + "member z out minds 0 votes 0;").outs(), 64);

        s.promise(36);
        s.says("The one who is OUT with most NOTCHES; of like ones the first;");
        s.due("b", Houses.bows("0", "", 1, 5, 5, 4).tensest(), 1);
        s.due("the last", Houses.bows("0", "", 1, 2, 3).tensest(), 2);
        s.due("all 0", Houses.bows("0", "", 0, 0, 0).tensest(), 0);
        s.due("the first who is out", Houses.told("member a in minds 0 votes 0;member b out minds 0 votes 0;").tensest(), 1);
        s.says("NONE if nobody is OUT.");
        s.due("nobody is out", seven.tensest(), -1);
        s.due("nobody", new BowHouse().tensest(), -1);

        s.promise(38);
        s.says("Who is OUT and has half of what cock tells (as it is, not cut) in NOTCHES, or more, as bits.");
        s.due("14, 15, 16 of 30", Houses.bows("0", "", 14, 15, 16, 0).cross(), 6);
        BowHouse odd = Houses.told("member a out minds 4 votes 0;member b out minds 5 votes 0;member c in minds 9 votes 0;clause p sharp 0;winds minds;cock 9;");
        odd.read(0, false);
        s.due("5 of 9, not 4", odd.cross(), 2);
        odd.change();
        s.due("c has 4", odd.cross(), 0);
        s.due("0 of 1", Houses.told("member a out minds 4 votes 0;cock 1;").cross(), 0);
        BowHouse second = Houses.told("member a in minds 9 votes 0;member b out minds 5 votes 0;clause p sharp 0;winds minds;");
        second.read(0, false);
        s.due("the second, the first being in", second.cross(), 2);
        BowHouse pun = one("0", "cock 1;puns 100;", 0);
        pun.read(0, false);
        s.due("1 of 1", pun.cross(), 1);
        s.due("nobody", new BowHouse().cross(), 0);
    }

    private void laws() {
        s.promise(40);
        s.says("How many CLAUSES are CARRIED, if all that are not READ are read plain in order of their numbers, were all who are OUT to mind n (0 .. 20);");
        BowHouse x = one("minds-15-falling*9", "", 0);
        s.due("0", x.law(0), 1);
        s.due("19", x.law(19), 1);
        s.due("20", x.law(20), 0);
        s.due("not 0", one("5*(minds=0)", "", 0).law(0), 0);
        s.due("but 1", one("5*(minds=0)", "", 0).law(1), 1);
        BowHouse two = Houses.told("member a out minds 9 votes 1;member b in minds 9 votes 1;member c out minds 9 votes 1;" + Houses.clauses(6, 0)
                + "winds minds;quota 3;");
        s.due("0: all", two.law(0), 6);
        s.due("1: 1 to 4", two.law(1), 4);
        s.due("2: 2, 4, then 6, 8, off, 2", two.law(2), 3);
        s.due("9", two.law(9), 0);
        s.due("they mind as before", two.member(0, 1), 9);
        s.due("by how sharp each is", one("sharp", "", 0, 5, 0).law(0), 1);
        s.due("by how many are read", one("(read=1)*5-(read=2)*5", "", 0, 0, 0).law(0), 2);
        s.says("NONE for another n.");
        for (int n : Houses.wrong(21)) s.due("n " + n, two.law(n), -1);
        s.due("none told", new BowHouse().law(20), 0);

        s.promise(41);
        s.says("How many READINGS of a CLAUSE (READ or not), again and again, FALLING or not, it takes till one who is OUT GOES OFF (1 .. 60;");
        s.due("at once", one("9", "cock 9;", 0).until(0, 0, false), 1);
        s.due("2", one("9", "cock 10;", 0).until(0, 0, false), 2);
        s.due("29 of 30", one("1", "cock 29;", 0).until(0, 0, false), 29);
        s.due("30", one("1", "cock 30;", 0).until(0, 0, false), 30);
        s.due("falling", one("5-falling*3", "cock 10;", 0).until(0, 0, true), 5);
        s.due("not falling", one("5-falling*3", "cock 10;", 0).until(0, 0, false), 2);
        s.due("not falling", one("5+falling*3", "cock 10;", 0).until(0, 0, false), 2);
        BowHouse y = one("3", "cock 10;", 0, 0);
        s.due("not read", y.until(0, 1, false), 4);
        y.read(1, false);
        s.due("read", y.until(0, 1, false), 3);
        BowHouse other = Houses.told("member a in minds 9 votes 1;member b out minds 2 votes 5;clause p sharp 0;clause q sharp 3;winds sharp*(minds=2)*(votes=5);cock 9;");
        s.due("3, 6, 9", other.until(1, 1, false), 3);
        s.due("0 each", other.until(1, 0, false), -1);
        other.read(1, false);
        s.due("6, 9", other.until(1, 1, false), 2);
        s.due("60", one("(read>29)", "cock 30;", 0).until(0, 0, false), 60);
        BowHouse full = one("4*(read=0)", "cock 5;puns 100;", 0, 0);
        full.read(0, false);
        s.due("at full cock already, winding nothing", full.until(0, 1, false), 1);
        s.says("read goes up by 1 with each;");
        s.due("the 60th", one("9*(read=59)", "cock 9;", 0).until(0, 0, false), 60);
        s.due("the second", one("9*(read=1)", "cock 9;", 0).until(0, 0, false), 2);
        BowHouse z = one("9*(read=60)", "cock 9;", 0);
        z.read(0, false);
        s.due("one being read already, the 60th", z.until(0, 0, false), 60);
        BowHouse lost = one("9*(read=2)", "cock 9;quota 2;", 0, 0);
        s.due("lost", lost.read(0, false), 0);
        s.due("what is lost is read, too", lost.until(0, 1, false), 2);
        s.says("nobody's NOTCHES are let off else than by winding);");
        s.due("up 3, down 2", one("3-5*(read%2)", "cock 9;", 0).until(0, 0, false), 13);
        s.due("down to 0 at the least", one("2-9*(read=1)+(read>1)", "cock 9;", 0).until(0, 0, false), 5);
        s.says("NONE if not in these, he is not OUT, or one can't be.");
        s.due("the 61st", one("9*(read=60)", "cock 9;", 0).until(0, 0, false), -1);
        s.due("never", one("0", "cock 1;", 0).until(0, 0, false), -1);
        BowHouse w = Houses.told(MIXED);
        s.due("in", w.until(1, 0, false), -1);
        for (int i : Houses.wrong(3)) s.due("member " + i, w.until(i, 0, false), -1);
        for (int c : Houses.wrong(3)) s.due("clause " + c, w.until(0, c, false), -1);
    }

    private void odds() {
        s.promise(42);
        s.says("ODDS (n 0 .. 4) the upper part (0), the lower part (1), in lowest terms (0 of 1);");
        int[][] rows = {{0, 4, 1, 1}, {1, 4, 96059601, 100000000}, {99, 4, 1, 100000000}, {100, 1, 0, 1}, {100, 4, 0, 1}, {100, 0, 1, 1}, {50, 4, 1, 16},
            {20, 2, 16, 25}, {37, 1, 63, 100}, {37, 0, 1, 1}, {4, 3, 13824, 15625}};
        for (int[] row : rows) {
            BowHouse x = Houses.told("puns " + row[0] + ";");
            s.due("upper of " + row[0] + ", " + row[1], x.odds(row[1], 0), row[2]);
            s.due("lower of " + row[0] + ", " + row[1], x.odds(row[1], 1), row[3]);
        }
        s.says("NONE if one can't be.");
        BowHouse y = Houses.told("puns 50;");
        for (int n : Houses.wrong(5)) s.due("n " + n, y.odds(n, 0), -1);
        for (int part : Houses.wrong(2)) s.due("part " + part, y.odds(1, part), -1);

        s.promise(43);
        s.says("The i-th number of what lies there;");
        BowHouse z = one("sharp", "", 9, 0, 0, 0, 0, 0);
        z.agenda(false);
        s.due("0", z.lies(0), 1);
        s.due("5", z.lies(5), 0);
        s.says("-2 if there is none such.");
        for (int i : Houses.wrong(6)) s.due("lies(" + i + ")", z.lies(i), -2);
        s.due("at first", new BowHouse().lies(0), -2);
        z.read(0, false);
        z.agenda(false);
        s.due("5 lie there then", z.lies(5), -2);
        BowHouse pair = Houses.bows("0", "", 1, 1);
        pair.agenda(false);
        pair.trust(0, 1);
        s.due("two lie there", pair.lies(2), -2);
        s.due("the second", pair.lies(1), 1);
    }

    public void ask() {
        nothingDone();
        orders();
        weights();
        two();
        readings();
        wouldBe();
        will();
        orderAnswers();
        pairs();
        readingAnswers();
        drops();
        swaps();
        sets();
        looks();
        laws();
        odds();
    }
}
