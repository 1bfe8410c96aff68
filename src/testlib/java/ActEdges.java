/** The boundaries of how the House stands and of what changes it: promises 6 to 13 and 50 to 52. */
public final class ActEdges {
    // Who minds so much winds so much at whatever is read.
    private static final String STEADY = "member a out minds 1 votes 1;member b in minds 2 votes 2;member c out minds 3 votes 4;"
            + "clause p sharp 0;clause q sharp 7;clause r sharp 20;winds minds;cock 30;";

    private final Sentences s;

    public ActEdges(Sentences s) {
        this.s = s;
    }

    private void value(String formula, int want) {
        s.due("winds " + formula, Houses.value(formula), want);
    }

    /** One who is out, of no votes, at six clauses. */
    private static BowHouse one(String winds, String more) {
        return Houses.told("member a out minds 0 votes 0;" + Houses.clauses(6, 0) + "winds " + winds + ";" + more);
    }

    private void sides() {
        s.terms();
        s.says("A MEMBER is IN or OUT (as told, at first).");
        BowHouse x = Houses.told("member a in minds 1 votes 2;member b out minds 3 votes 4;clause p sharp 5;clause q sharp 5;");
        s.due("in", x.member(0, 0), 0);
        s.due("out", x.member(1, 0), 1);
        s.due("outs", x.outs(), 2);
        s.says("Who is OUT has a BOW of so many NOTCHES (0 at first; who is IN has none, 0).");
        s.due("in", x.member(0, 3), 0);
        s.due("out", x.member(1, 3), 0);
        x.read(0, false);
        s.due("in", x.member(0, 3), 0);
        s.due("out", x.member(1, 3), 2);
        s.says("A CLAUSE is READ or not (not, at first), CARRIED or not.");
        s.due("not read", x.clause(1, 1), 0);
        s.due("not carried", x.clause(1, 2), 0);
        s.due("read", x.clause(0, 1), 1);
        s.due("carried", x.clause(0, 2), 1);
        BowHouse y = Houses.told("member a in minds 1 votes 2;clause p sharp 5;quota 3;");
        y.read(0, false);
        s.due("read", y.clause(0, 1), 1);
        s.due("lost", y.clause(0, 2), 0);
    }

    private void winding() {
        s.terms();
        s.says("He WINDS at a CLAUSE, on a tone plain or FALLING, by what comes of winds ((sharp + minds) / 3 - falling * 2, if it is not told)");
        BowHouse x = Houses.told("member a out minds 9 votes 0;member b out minds 2 votes 0;member c out minds 0 votes 0;"
                + "clause p sharp 20;clause q sharp 0;clause r sharp 1;cock 30;");
        s.due("29 / 3", x.winds(0, 0, false), 9);
        s.due("29 / 3 - 2", x.winds(0, 0, true), 7);
        s.due("9 / 3", x.winds(0, 1, false), 3);
        s.due("2 / 3", x.winds(1, 1, false), 0);
        s.due("3 / 3", x.winds(1, 2, false), 1);
        s.due("3 / 3 - 2 of 0", x.winds(1, 2, true), 0);
        x.read(0, false);
        s.due("3 / 3 - 2 of 7", x.winds(1, 2, true), -1);
        s.due("0 - 2 of 6", x.winds(2, 1, true), -2);
        BowHouse told = Houses.told("member a out minds 9 votes 0;clause p sharp 20;winds 0;");
        s.due("0, if told", told.winds(0, 0, false), 0);

        s.says("by sharp (of the CLAUSE), minds, votes (his), notch (his NOTCHES ahead of it), falling (1, or 0 of a plain tone),"
                + " read (how many are READ ahead of it;");
        String two = "member a out minds 1 votes 2;member b out minds 3 votes 4;clause p sharp 5;clause q sharp 6;cock 30;winds ";
        String[] inputs = {"sharp", "minds", "votes", "notch", "falling", "read"};
        int[][] plain = {{5, 6, 5, 6}, {1, 1, 3, 3}, {2, 2, 4, 4}, {0, 0, 0, 0}, {0, 0, 0, 0}, {0, 0, 0, 0}};
        for (int i = 0; i < inputs.length; i++) {
            BowHouse y = Houses.told(two + inputs[i] + ";");
            for (int k = 0; k < 4; k++) {
                s.due(inputs[i] + " " + k, y.winds(k / 2, k % 2, false), plain[i][k]);
                s.due(inputs[i] + " falling " + k, y.winds(k / 2, k % 2, true), i == 4 ? 1 : plain[i][k]);
            }
        }
        BowHouse y = Houses.told(two + "notch+minds;");
        y.read(0, false);
        s.due("notch of a", y.winds(0, 1, false), 2);
        s.due("notch of b", y.winds(1, 1, false), 6);
        y.read(1, false);
        s.due("notch ahead of it", y.member(1, 3), 9);
        BowHouse z = Houses.told(two + "read+1;");
        z.read(1, false);
        s.due("none read ahead of it", z.member(0, 3), 1);
        s.due("one read", z.winds(0, 0, false), 2);
        s.due("one read, it itself", z.winds(0, 1, false), 2);
        z.read(0, false);
        s.due("one read ahead of it", z.member(0, 3), 3);

        s.says("ints, wrapping;");
        value("8192*8192*32<0", 1);
        value("8192*8192*32-1>0", 1);
        value("8192*8192*64+3", 3);
        value("0-8192*8192*32<0", 1);
        value("8192*8192*32+8192*8192*32+4", 4);
        value("9999*9999*9999<0", 9999 * 9999 * 9999 < 0 ? 1 : 0);
        s.says("/ cut, % its rest, both by 0: 0;");
        value("7/2", 3);
        value("(0-7)/2", -3);
        value("7/(0-2)", -3);
        value("(0-7)/(0-2)", 3);
        value("7%4", 3);
        value("(0-7)%4", -3);
        value("7%(0-4)", 3);
        value("5/0", 0);
        value("5%0", 0);
        value("(0-5)/0", 0);
        value("0/0+0%0", 0);
        value("5/(minds-3)+1", 1);
        value("8192*8192*32/(0-1)<0", 1);
        value("8192*8192*32%(0-1)", 0);
        s.says("relations, and, or, not are 1 or 0, of what is not 0),");
        value("(5<9)*7", 7);
        value("(5>9)*7", 0);
        value("5<5", 0);
        value("5>5", 0);
        value("5=5", 1);
        value("5=6", 0);
        value("6<5", 0);
        value("6>5", 1);
        value("(0-1)<0", 1);
        value("8192*8192*32<1", 1);
        value("not 0", 1);
        s.due("winds not 0, and no more", one("not 0", "").winds(0, 0, false), 1);
        s.due("winds not 7, and no more", one("not 7", "").winds(0, 0, false), 0);
        value("not 5", 0);
        value("not (0-5)", 0);
        value("2 and 3", 1);
        value("(0-2) and (0-1)", 1);
        value("(0-1) and (0-1)", 1);
        value("0 and 5", 0);
        value("5 and 0", 0);
        value("2 or 3", 1);
        value("(0-2) or 0", 1);
        value("0 or (0-2)", 1);
        value("(0-1) or 0", 1);
        value("0 or 0", 0);
        s.says("-9 at least, 9 at most: his NOTCHES are more by that (0 at least).");
        value("8", 8);
        value("9", 9);
        value("10", 9);
        value("8192*8192*32-1", 9);
        value("0-8", -8);
        value("0-9", -9);
        value("0-10", -9);
        value("8192*8192*32", -9);
        int[][] off = {{0, 0}, {1, 0}, {8, 0}, {9, 0}, {10, 1}, {27, 18}};
        for (int[] pair : off) {
            BowHouse w = Houses.bows("0-9999", "", pair[0]);
            s.due("notches", w.member(0, 3), pair[0]);
            w.read(3, false);
            s.due("9 less", w.member(0, 3), pair[1]);
        }
        BowHouse v = Houses.bows("9999", "", 20);
        v.read(3, false);
        s.due("9 more", v.member(0, 3), 29);
    }

    private void reading() {
        s.terms();
        s.says("A READING of a CLAUSE that is not READ: MEMBER by MEMBER who is OUT WINDS;");
        BowHouse x = Houses.told(STEADY);
        s.due("read", x.read(2, false), 1);
        s.due("a", x.member(0, 3), 1);
        s.due("b is in", x.member(1, 3), 0);
        s.due("c", x.member(2, 3), 3);
        s.due("not again", x.read(2, true), -1);
        s.due("another", x.read(0, true), 1);
        s.due("a", x.member(0, 3), 2);
        s.due("c", x.member(2, 3), 6);

        s.says("who has as many NOTCHES then as cock tells, or more, GOES OFF: he has 0.");
        String pair = "member a out minds 7 votes 0;member b out minds 8 votes 0;member c out minds 9 votes 0;clause p sharp 0;winds minds;quota 0;cock ";
        int[][] offs = {{7, 7}, {8, 6}, {9, 4}, {10, 0}};
        for (int[] row : offs) {
            BowHouse y = Houses.told(pair + row[0] + ";");
            s.due("who goes off at cock " + row[0], y.shots(0, false), row[1]);
            s.due("carried", y.read(0, false), row[1] == 0 ? 1 : 0);
            for (int i = 0; i < 3; i++) s.due("notches of " + i, y.member(i, 3), (row[1] >> i & 1) == 1 ? 0 : 7 + i);
        }
        s.due("0 of cock 1", one("0", "cock 1;").shots(0, false), 0);
        s.due("1 of cock 1", one("1", "cock 1;").shots(0, false), 1);
        BowHouse full = one("4*(read=0)", "cock 5;puns 100;");
        full.read(0, false);
        s.due("at full cock by a pun", full.member(0, 3), 5);
        s.due("goes off, winding nothing", full.shots(1, false), 1);
        BowHouse less = one("4*(read=0)-(read=1)", "cock 5;puns 100;");
        less.read(0, false);
        s.due("at full cock by a pun", less.member(0, 3), 5);
        s.due("does not, letting off 1", less.shots(1, false), 0);

        s.says("A MEMBER is FOR it, if he is IN, or has less than half of what cock tells (as it is, not cut) in NOTCHES behind that and did not GO OFF.");
        String sides = "member a in minds 9 votes 0;member b out minds 0 votes 0;member c out minds 4 votes 0;member d out minds 5 votes 0;"
                + "member e out minds 9 votes 0;clause p sharp 0;winds minds;cock ";
        int[][] fors = {{1, 3}, {7, 3}, {8, 3}, {9, 7}, {10, 7}, {11, 15}, {18, 15}, {19, 31}, {30, 31}};
        for (int[] row : fors) s.due("who is for it at cock " + row[0], Houses.told(sides + row[0] + ";").backers(0, false), row[1]);
        BowHouse half = Houses.bows("0-1", "", 15, 16, 14);
        s.due("behind the winding", half.backers(3, false), 5);

        s.says("It is READ; it is CARRIED, if nobody GOES OFF and those who are FOR it have as many votes together as quota tells, or more.");
        String votes = "member a in minds 0 votes 3;member b out minds 0 votes 2;member c out minds 9 votes 9;clause p sharp 0;winds minds;";
        int[][] quotas = {{0, 1}, {4, 1}, {5, 1}, {6, 0}, {14, 0}};
        for (int[] row : quotas) {
            BowHouse z = Houses.told(votes + "cock 10;quota " + row[0] + ";");
            s.due("read, quota " + row[0], z.read(0, false), row[1]);
            s.due("is read", z.about(2), 1);
            s.due("is carried", z.about(3), row[1]);
        }
        BowHouse shot = Houses.told(votes + "cock 9;quota 0;");
        s.due("one goes off", shot.read(0, false), 0);
        s.due("is read", shot.about(2), 1);
        s.due("is lost", shot.about(3), 0);
        s.due("nobody for it, quota 0", one("5", "quota 0;").read(0, false), 1);
        s.due("nobody at all, quota 0", Houses.told("clause p sharp 1;quota 0;").read(0, false), 1);
        s.due("nobody at all, quota 1", Houses.told("clause p sharp 1;").read(0, false), 0);
        s.due("99 of 63", Houses.told(Houses.members(7, "in", 9) + "clause p sharp 1;quota 64;").read(0, false), 0);
        s.due("63 of 63", Houses.told(Houses.members(7, "in", 9) + "clause p sharp 1;quota 63;").read(0, false), 1);
    }

    private void puns() {
        s.terms();
        s.says("Then the SEED (draw, at first) becomes its 137-fold and 71 more, modulo 1,000,");
        int[][] seeds = {{0, 71}, {9, 304}, {999, 934}, {817, 0}, {744, 999}, {6, 893}, {7, 30}};
        for (int[] row : seeds) {
            BowHouse x = one("0", "draw " + row[0] + ";");
            s.due("draw", x.about(4), row[0]);
            x.read(0, true);
            s.due("of " + row[0], x.about(4), row[1]);
            x.read(1, false);
            s.due("once more", x.about(4), (row[1] * 137 + 71) % 1000);
        }
        s.says("and if its rest by 100 is less than puns tells, each who is OUT has 1 NOTCH more");
        int[][] rows = {{0, 71, 0}, {0, 72, 1}, {0, 70, 0}, {817, 0, 0}, {817, 1, 1}, {744, 99, 0}, {744, 100, 1}, {9, 4, 0}, {9, 5, 1}};
        for (int[] row : rows) {
            BowHouse y = Houses.told("member a out minds 0 votes 0;member b in minds 0 votes 0;member c out minds 0 votes 0;" + Houses.clauses(1, 0)
                    + "winds 3;draw " + row[0] + ";puns " + row[1] + ";");
            y.read(0, false);
            s.due("draw " + row[0] + " puns " + row[1], y.member(0, 3), 3 + row[2]);
            s.due("who is in", y.member(1, 3), 0);
            s.due("the other one", y.member(2, 3), 3 + row[2]);
        }
        s.says("(99 at most; none GOES OFF by that).");
        BowHouse z = one("0", "cock 1;quota 0;puns 100;");
        s.due("carried", z.read(0, false), 1);
        s.due("at full cock", z.member(0, 3), 1);
        // More than cock tells nobody can have: at the next reading he goes off. So 30 is the most there is.
        BowHouse w = one("8*(read<2)+9*(read=2)+(read=3)", "cock 30;quota 0;puns 100;");
        for (int c = 0; c < 3; c++) w.read(c, false);
        s.due("28", w.member(0, 3), 28);
        s.due("carried", w.read(3, false), 1);
        s.due("30 of 30", w.member(0, 3), 30);
        s.due("off", w.read(4, false), 0);
        s.due("0, and the pun", w.member(0, 3), 1);
    }

    private void acts() {
        s.terms();
        s.says("ACTS: a READING; OIL (one who is OUT has 1 NOTCH less);");
        BowHouse x = Houses.told(STEADY);
        s.due("none", x.about(5), 0);
        x.read(0, false);
        s.due("a reading", x.about(5), 1);
        x.oil(2);
        s.due("oil", x.about(5), 2);
        s.due("1 less", x.member(2, 3), 2);
        s.due("not the other one", x.member(0, 3), 1);
        s.says("a CHANGE: who is IN is OUT then, who is OUT is IN;");
        s.due("b", x.change(), 2);
        s.due("a change", x.about(5), 3);
        s.due("a and c", x.change(), 5);
        BowHouse seven = Houses.told(Houses.members(7, "out", 1));
        s.due("nobody", seven.change(), 0);
        s.due("all seven", seven.change(), 127);
        s.says("those who are OUT then have, in their order, the BOWS of those who were OUT, in theirs"
                + " (none is left for one: he has 0 NOTCHES; BOWS left over are let off).");
        handOver("as many", "iowo", new int[] {0, 2, 0, 4}, new int[] {2, 0, 4, 0});
        handOver("as many, the other way", "oiio", new int[] {1, 0, 0, 4}, new int[] {0, 1, 4, 0});
        handOver("too few", "iwoi", new int[] {0, 0, 3, 0}, new int[] {3, 0, 0, 0});
        handOver("too many", "ooio", new int[] {1, 2, 0, 4}, new int[] {0, 0, 1, 0});
        handOver("none", "iiwi", new int[] {0, 0, 0, 0}, new int[] {0, 0, 0, 0});
        handOver("all", "oooo", new int[] {1, 2, 3, 4}, new int[] {0, 0, 0, 0});
        BowHouse gone = Houses.told("member a out minds 5 votes 1;member b out minds 6 votes 1;member c in minds 0 votes 1;clause p sharp 0;winds minds;cock 30;");
        gone.read(0, false);
        gone.change();
        gone.change();
        s.due("a has his again", gone.member(0, 3), 5);
        s.due("what was left over is gone", gone.member(1, 3), 0);
    }

    /** Members (o: out, else in) who mind 1, 2, 3, 4 and wind by that, read one clause and change sides. */
    private void handOver(String what, String sides, int[] ahead, int[] behind) {
        StringBuilder b = new StringBuilder();
        int outs = 0;
        for (int i = 0; i < 4; i++) {
            boolean out = sides.charAt(i) == 'o';
            outs |= out ? 1 << i : 0;
            b.append("member m").append((char) ('a' + i)).append(out ? " out" : " in").append(" minds ").append(i + 1).append(" votes 0;");
        }
        BowHouse x = Houses.told(b + "clause p sharp 0;winds minds;cock 30;");
        x.read(0, false);
        for (int i = 0; i < 4; i++) s.due(what + ": ahead of it, " + i, x.member(i, 3), ahead[i]);
        s.due(what + ": who is out", x.change(), 15 - outs);
        for (int i = 0; i < 4; i++) s.due(what + ": behind it, " + i, x.member(i, 3), behind[i]);
    }

    private static int undoAll(BowHouse x) {
        int n = 0;
        while (n < 60 && x.undo()) n++;
        return n;
    }

    private static int redoAll(BowHouse x) {
        int n = 0;
        while (n < 60 && x.redo()) n++;
        return n;
    }

    private void undoing() {
        s.terms();
        s.says("UNDO takes back the latest ACT that was not, REDO does that again which was taken back last (till another ACT);");
        BowHouse x = Houses.told(STEADY + "draw 1;");
        x.read(0, false);
        x.read(1, true);
        x.oil(0);
        x.undo();
        s.due("the oil", x.member(0, 3), 2);
        x.undo();
        s.due("the second reading", x.about(2), 1);
        s.due("its seed", x.about(4), 208);
        s.due("its notches", x.member(2, 3), 3);
        x.redo();
        s.due("that reading again", x.about(2), 3);
        s.due("carried", x.about(3), 3);
        x.redo();
        s.due("the oil again", x.member(0, 3), 1);
        x.undo();
        x.undo();
        x.change();
        s.due("another act", x.redo(), false);
        s.due("two acts", x.about(5), 2);
        x.undo();
        s.due("the change", x.outs(), 5);
        x.redo();
        s.due("the change again", x.outs(), 2);
        s.due("b has a's", x.member(1, 3), 1);

        BowHouse lost = Houses.told(STEADY + "quota 9;");
        s.due("lost", lost.read(0, false), 0);
        lost.change();
        lost.undo();
        s.due("lost still", lost.about(3), 0);
        s.due("read still", lost.about(2), 1);
        BowHouse seven = Houses.told(Houses.members(7, "out", 1) + "clause p sharp 0;winds 5;");
        seven.read(0, false);
        seven.oil(6);
        seven.undo();
        s.due("the last of seven", seven.member(6, 3), 5);

        s.says("40 at most are kept, the oldest go.");
        for (int n = 39; n <= 42; n++) {
            BowHouse y = Houses.told(STEADY);
            y.read(0, false);
            y.read(1, false);
            for (int i = 2; i < n; i++) y.change();
            s.due("acts kept of " + n, y.about(5), Math.min(n, 40));
            s.due("acts undone of " + n, undoAll(y), Math.min(n, 40));
            s.due("what is left of " + n, y.about(2), n <= 40 ? 0 : n == 41 ? 1 : 3);
            s.due("to be redone of " + n, y.about(6), Math.min(n, 40));
            s.due("acts redone of " + n, redoAll(y), Math.min(n, 40));
            s.due("all read again", y.about(2), 3);
        }
        BowHouse z = Houses.told(STEADY);
        for (int i = 0; i < 83; i++) {
            if (i == 0 || i == 44 || i == 80) z.read(i / 40, false);
            else z.change();
        }
        s.due("83 acts: 40 undone", undoAll(z), 40);
        s.due("the first is done still", z.about(2), 1);
        s.due("40 redone", redoAll(z), 40);
        s.due("all three", z.about(2), 7);
    }

    private void standing() {
        s.promise(6);
        s.says("Of a MEMBER what 0: 1 if OUT, else 0, 1: minds, 2: votes, 3: NOTCHES;");
        BowHouse x = Houses.told(Houses.members(6, "in", 3) + "member z out minds 9 votes 8;" + Houses.clauses(6, 20));
        x.read(5, true);
        int[] last = {1, 9, 8, 7};
        int[] first = {0, 0, 3, 0};
        for (int k = 0; k < 4; k++) {
            s.due("member(6, " + k + ")", x.member(6, k), last[k]);
            s.due("member(0, " + k + ")", x.member(0, k), first[k]);
        }
        s.says("NONE if there is none such, or for another what.");
        for (int i : Houses.wrong(7)) for (int k = 0; k < 4; k++) s.due("member(" + i + ", " + k + ")", x.member(i, k), -1);
        for (int k : Houses.wrong(4)) s.due("member(0, " + k + ")", x.member(0, k), -1);
        s.due("of nobody", new BowHouse().member(0, 0), -1);

        s.promise(7);
        s.says("Of a CLAUSE what 0: how sharp, 1: 1 if READ, else 0, 2: 1 if CARRIED, else 0;");
        int[] fifth = {20, 1, 1};
        int[] zeroth = {20, 0, 0};
        for (int k = 0; k < 3; k++) {
            s.due("clause(5, " + k + ")", x.clause(5, k), fifth[k]);
            s.due("clause(0, " + k + ")", x.clause(0, k), zeroth[k]);
        }
        s.says("NONE if there is none such, or for another what.");
        for (int c : Houses.wrong(6)) for (int k = 0; k < 3; k++) s.due("clause(" + c + ", " + k + ")", x.clause(c, k), -1);
        for (int k : Houses.wrong(3)) s.due("clause(5, " + k + ")", x.clause(5, k), -1);
        s.due("of none", new BowHouse().clause(0, 0), -1);

        s.promise(8);
        s.says("By how many NOTCHES a MEMBER winds at a CLAUSE now (READ or not; below 0: he lets off, no more than he has), FALLING or not;");
        s.due("not read", x.winds(6, 0, false), 9);
        s.due("read", x.winds(6, 5, false), 9);
        s.due("read, falling", x.winds(6, 5, true), 7);
        for (int n : new int[] {0, 1, 4, 5, 6, 20}) {
            BowHouse y = Houses.bows("0-5+falling", "", n);
            s.due("5 off of " + n, y.winds(0, 3, false), -Math.min(5, n));
            s.due("4 off of " + n + ", read", y.winds(0, 0, true), -Math.min(4, n));
        }
        s.says("-100 if he is not OUT, or one can't be.");
        s.due("in", x.winds(0, 0, false), -100);
        for (int i : Houses.wrong(7)) s.due("member " + i, x.winds(i, 0, true), -100);
        for (int c : Houses.wrong(6)) s.due("clause " + c, x.winds(6, c, true), -100);
        s.due("of nobody", new BowHouse().winds(0, 0, false), -100);
    }

    /** One who has an act to undo and one to redo. */
    private static BowHouse between() {
        BowHouse x = Houses.told(STEADY + "draw 1;");
        x.read(0, false);
        x.oil(0);
        x.oil(2);
        x.undo();
        x.agenda(true);
        return x;
    }

    private void doing() {
        s.promise(9);
        s.says("A READING: 1 if it is CARRIED, else 0;");
        s.due("carried", Houses.told(STEADY + "quota 7;").read(2, false), 1);
        s.due("lost", Houses.told(STEADY + "quota 8;").read(2, false), 0);
        s.says("NONE, doing nothing, if it is READ, or there is none such.");
        BowHouse y = between();
        String before = Houses.all(y);
        s.due("read", y.read(0, false), -1);
        s.due("read", y.read(0, true), -1);
        for (int c : Houses.wrong(3)) s.due("clause " + c, y.read(c, false), -1);
        s.due("nothing done", Houses.all(y), before);
        s.due("what was undone", y.redo(), true);
        s.due("of none", new BowHouse().read(0, false), -1);
        s.says("(An ACT.)");
        s.due("acts", y.about(5), 3);
        y.read(1, false);
        s.due("one more", y.about(5), 4);
        y.undo();
        y.read(2, false);
        s.due("none to redo", y.about(6), 0);

        s.promise(10);
        s.says("OIL: NOTCHES then;");
        BowHouse z = Houses.bows("0", "", 0, 1, 2, 27);
        s.due("1 of 2", z.oil(2), 1);
        s.due("26 of 27", z.oil(3), 26);
        s.due("the last", z.oil(1), 0);
        s.says("NONE, doing nothing, if he has none, or there is none such.");
        s.due("0 of 0", z.oil(0), -1);
        s.due("no more", z.oil(1), -1);
        BowHouse w = between();
        String still = Houses.all(w);
        s.due("no notches", w.oil(0), -1);
        s.due("no bow", w.oil(1), -1);
        for (int i : Houses.wrong(3)) s.due("member " + i, w.oil(i), -1);
        s.due("nothing done", Houses.all(w), still);
        s.due("what was undone", w.redo(), true);
        s.due("of nobody", new BowHouse().oil(0), -1);
        s.says("(An ACT.)");
        s.due("acts", w.about(5), 3);
        w.oil(2);
        s.due("one more", w.about(5), 4);
        w.undo();
        w.oil(2);
        s.due("none to redo", w.about(6), 0);

        s.promise(11);
        s.says("A CHANGE: who is OUT then, as bits;");
        BowHouse v = Houses.told("member a out minds 1 votes 1;");
        s.due("nobody", v.change(), 0);
        s.due("a", v.change(), 1);
        s.due("all seven", Houses.told(Houses.members(7, "in", 1)).change(), 127);
        s.due("b", Houses.told(STEADY).change(), 2);
        s.says("NONE, doing nothing, without MEMBERS.");
        BowHouse u = Houses.told(Houses.clauses(2, 1) + "quota 0;");
        u.read(0, false);
        u.read(1, false);
        u.undo();
        String none = Houses.all(u);
        s.due("change", u.change(), -1);
        s.due("nothing done", Houses.all(u), none);
        s.due("what was undone", u.redo(), true);
        s.due("at first", new BowHouse().change(), -1);
        s.says("(An ACT.)");
        s.due("acts", v.about(5), 2);
        v.undo();
        v.change();
        s.due("acts", v.about(5), 2);
        s.due("none to redo", v.about(6), 0);
    }

    private void backAndForth() {
        s.promise(12);
        s.says("UNDO: true;");
        BowHouse x = Houses.told(STEADY + "puns 100;");
        x.read(1, false);
        String first = Houses.all(x);
        x.read(0, false);
        s.due("undo", x.undo(), true);
        s.due("all as it was, and one to be redone", Houses.all(x), first.replaceFirst("^3 3 2 2 71 1 0", "3 3 2 2 71 1 1"));
        s.due("undo", x.undo(), true);
        s.says("false if there is none.");
        String none = Houses.all(x);
        s.due("no more", x.undo(), false);
        s.due("nothing done", Houses.all(x), none);
        s.due("at first", new BowHouse().undo(), false);

        s.promise(13);
        s.says("REDO: true;");
        BowHouse y = Houses.told(STEADY + "puns 100;draw 3;");
        y.read(1, true);
        y.change();
        String last = Houses.all(y);
        y.undo();
        y.undo();
        s.due("redo", y.redo(), true);
        s.due("redo", y.redo(), true);
        s.due("all as it was", Houses.all(y), last);
        s.says("false if there is none.");
        s.due("no more", y.redo(), false);
        s.due("nothing done", Houses.all(y), last);
        y.undo();
        y.read(0, false);
        s.due("another act", y.redo(), false);
        s.due("at first", new BowHouse().redo(), false);
    }

    private void boxes() {
        s.promise(50);
        s.says("NOTCHES, who is OUT, what is READ, what is CARRIED, the SEED are kept in a BOX 0 .. 2: how many are READ;");
        BowHouse x = Houses.told(STEADY + "puns 100;draw 3;quota 6;");
        s.due("box 0", x.image(0), 0);
        x.read(0, false);
        x.read(2, false);
        s.due("box 1", x.image(1), 2);
        x.change();
        x.read(1, false);
        s.due("box 2", x.image(2), 3);
        s.due("an image is no act", x.about(5), 4);
        s.says("NONE if there is none such.");
        String before = Houses.all(x);
        for (int box : Houses.wrong(3)) s.due("box " + box, x.image(box), -1);
        s.due("nothing done", Houses.all(x), before);

        s.promise(51);
        s.says("All is as it was kept (no ACTS are kept then): how many are READ;");
        s.due("box 1", x.back(1), 2);
        int[] want = {3, 3, 5, 5, 105, 0, 0};
        for (int i = 0; i < want.length; i++) s.due("about(" + i + ")", x.about(i), want[i]);
        s.due("outs", x.outs(), 5);
        s.due("a", x.member(0, 3), 4);
        s.due("b", x.member(1, 3), 0);
        s.due("c", x.member(2, 3), 8);
        s.due("undo", x.undo(), false);
        s.due("redo", x.redo(), false);
        s.due("box 0", x.back(0), 0);
        s.due("nothing read", x.about(2), 0);
        s.due("the seed", x.about(4), 3);
        s.due("c", x.member(2, 3), 0);
        s.due("box 2", x.back(2), 3);
        s.due("b is out", x.outs(), 2);
        s.due("b", x.member(1, 3), 7);
        x.image(0);
        s.due("kept anew", x.back(0), 3);
        s.due("box 1 still", x.back(1), 2);
        x.oil(0);
        s.due("what is done then is not in the box", x.back(1), 2);
        s.due("a", x.member(0, 3), 4);
        BowHouse lost = Houses.told(STEADY + "quota 9;");
        lost.read(1, false);
        s.due("read, though lost", lost.image(0), 1);
        s.due("read, though lost", lost.back(0), 1);
        s.due("lost", lost.about(3), 0);
        s.says("NONE, doing nothing, if nothing was.");
        for (int box = 0; box < 3; box++) {
            BowHouse y = between();
            for (int other = 0; other < 3; other++) if (other != box) y.image(other);
            String still = Houses.all(y);
            s.due("an empty box " + box, y.back(box), -1);
            for (int wrong : Houses.wrong(3)) s.due("box " + wrong, y.back(wrong), -1);
            s.due("nothing done", Houses.all(y), still);
        }
        s.due("at first", new BowHouse().back(0), -1);
    }

    private void about() {
        s.promise(52);
        s.says("What 0: MEMBERS, 1: CLAUSES, 2: READ ones, 3: CARRIED ones, both as bits, 4: the SEED, 5: ACTS that can be undone, 6: redone,"
                + " 7: what is HEARD, 8: the TIME, 9: bytes on the TAPE, 10: units, 11: numbers that lie there, 12: cock, 13: quota, 14: puns in 100.");
        BowHouse x = Houses.told(STEADY + "quota 4;puns 17;draw 11;");
        x.read(1, false);
        x.oil(2);
        x.oil(2);
        x.change();
        x.undo();
        x.later(6);
        x.heard(0, 0, true);
        x.heard(1, 0, true);
        x.untell(0);
        x.agenda(false);
        x.feed(1, 2, 3, 4, 5);
        int[] want = {3, 3, 2, 2, 578, 3, 1, 2, 6, 20, 1, 2, 30, 4, 17};
        for (int i = 0; i < want.length; i++) s.due("about(" + i + ")", x.about(i), want[i]);
        BowHouse full = Houses.told(Houses.members(7, "in", 1) + Houses.clauses(6, 0));
        for (int c = 0; c < 6; c++) full.read(c, false);
        s.due("all seven", full.about(0), 7);
        s.due("all six", full.about(1), 6);
        s.due("all read", full.about(2), 63);
        s.due("all carried", full.about(3), 63);
        s.says("NONE for another what.");
        for (int what : Houses.wrong(15)) s.due("about(" + what + ")", x.about(what), -1);

        s.terms();
        s.says("The constants: `NONE = -1`: There is none.");
        s.due("NONE", BowHouse.NONE, -1);
    }

    public void ask() {
        sides();
        winding();
        reading();
        puns();
        acts();
        undoing();
        standing();
        doing();
        backAndForth();
        boxes();
        about();
    }
}
