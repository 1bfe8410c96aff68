/** Each promise by answers worked out by hand: ordinary inputs, the edges the document names, wrong inputs. */
public final class PromiseTest {
    private static final Checks T = new Checks();

    // a winds 2 and b winds 4 at every plain clause; c is in.
    private static final String STEADY = "member a out minds 1 votes 1;member b out minds 2 votes 2;"
            + "member c in minds 3 votes 3;clause p sharp 1;clause q sharp 2;"
            + "winds minds*2-falling;cock 6;quota 3;";

    private static void newObject() {
        BowHouse x = new BowHouse();
        int[] want = {0, 0, 0, 0, 0, 0, 0, 0, 0, 0, 0, 0, 10, 1, 0};
        for (int i = 0; i < want.length; i++) T.due("1 about(" + i + ")", x.about(i), want[i]);
        T.due("1 odds", x.odds(3, 0), 1);
        T.due("1 lies", x.lies(0), -2);
        T.due("1 leagues", x.leagues(), 0);
        T.due("1 undo", x.undo(), false);
        T.due("1 redo", x.redo(), false);
        T.due("1 back", x.back(0), -1);
        T.due("1 change", x.change(), -1);
        T.due("NONE", BowHouse.NONE, -1);
    }

    private static void tape() {
        BowHouse x = new BowHouse();
        for (int i = 1; i <= 80; i++) T.due("2 feed " + i, x.feed(0x20202020, 0x0a0a0a0a, 0x20202020, 0x20202020, 0x20202020), 20 * i);
        T.due("2 feed beyond", x.feed(0x20202020, 0x20202020, 0x20202020, 0x20202020, 0x20202020), -1);
        T.due("2 nothing came", x.about(9), 1600);
        T.due("3 end too many", x.end(1601), -1);
        T.due("3 end below 0", x.end(-1), -1);
        T.due("3 nothing done", x.about(9), 1600);
        T.due("3 end all", x.end(1600), 1600);
        T.due("3 end", x.end(1581), 1581);
        T.due("2 feed past 1600", x.feed(0, 0, 0, 0, 0), -1);
        T.due("3 end", x.end(1580), 1580);
        T.due("3 end no more", x.end(1581), -1);
        T.due("2 feed up to 1600", x.feed(0x20202020, 0x20202020, 0x20202020, 0x20202020, 0x20202020), 1600);
        T.due("4 blanks are an empty house", x.house(), 0);
        T.due("4 the tape is empty then", x.about(9), 0);
        T.due("3 end 0", x.end(0), 0);
        // "cock 7;" and what the numbers' order of bytes would break
        T.due("2 bytes, the highest first", x.feed(0x636f636b, 0x20373b00, 0x80ffffff, 0, 0), 20);
        x.end(7);
        x.house();
        T.due("2 as fed", x.about(12), 7);
    }

    private static void house() {
        BowHouse x = Checks.told(STEADY + "puns 100;draw 5;");
        T.due("4 members", x.about(0), 3);
        x.later(7);
        x.image(0);
        x.read(0, false);
        x.agenda(false);
        T.due("4 a fault", Checks.tell(x, "cock 3;cock"), -1);
        T.due("4 the tape is empty", x.about(9), 0);
        T.due("4 cock stays", x.about(12), 6);
        T.due("4 read stays", x.about(2), 1);
        T.due("4 lies stay", x.about(11), 1);
        T.due("4 acts stay", x.about(5), 1);
        T.due("4 the box stays", x.back(0), 0);
        T.due("5 fault", x.fault(0), 2);
        T.due("5 place", x.fault(1), 7);
        T.due("5 other", x.fault(2), -1);
        T.due("5 other", x.fault(-1), -1);
        x.read(0, false);
        BowHouse y = Checks.told(STEADY + "draw 5;member z out minds 1 votes 1;");
        y.later(7);
        y.heard(1, 1, true);
        y.image(1);
        y.read(1, true);
        y.agenda(true);
        y.undo();
        T.due("4 told anew", Checks.tell(y, "member k out minds 0 votes 0;clause l sharp 3;draw 44;"), 1);
        int[] want = {1, 1, 0, 0, 44, 0, 0, 0, 7, 0, 0, 0, 10, 1, 0};
        for (int i = 0; i < want.length; i++) T.due("4 about(" + i + ")", y.about(i), want[i]);
        T.due("4 boxes are empty", y.back(1), -1);
        T.due("4 redo", y.redo(), false);
        T.due("5 no fault", y.fault(0), 0);
        T.due("5 no place", y.fault(1), -1);
        T.due("4 an empty text", Checks.tell(y, ""), 0);
        T.due("4 no members", y.about(0), 0);
    }

    private static void membersAndClauses() {
        BowHouse x = Checks.told(STEADY);
        int[][] members = {{1, 1, 1, 0}, {1, 2, 2, 0}, {0, 3, 3, 0}};
        for (int i = 0; i < 3; i++) for (int k = 0; k < 4; k++) T.due("6 member " + i + " " + k, x.member(i, k), members[i][k]);
        T.due("6 none such", x.member(3, 0), -1);
        T.due("6 none such", x.member(-1, 0), -1);
        T.due("6 none such", x.member(Integer.MIN_VALUE, 3), -1);
        T.due("6 other what", x.member(0, 4), -1);
        T.due("6 other what", x.member(0, -1), -1);
        T.due("7 sharp", x.clause(0, 0), 1);
        T.due("7 sharp", x.clause(1, 0), 2);
        T.due("7 not read", x.clause(0, 1), 0);
        T.due("7 not carried", x.clause(0, 2), 0);
        x.read(0, false);
        x.read(1, false);
        T.due("7 read", x.clause(0, 1), 1);
        T.due("7 carried", x.clause(0, 2), 1);
        T.due("7 read", x.clause(1, 1), 1);
        T.due("7 lost", x.clause(1, 2), 0);
        T.due("7 none such", x.clause(2, 0), -1);
        T.due("7 none such", x.clause(-1, 1), -1);
        T.due("7 other what", x.clause(0, 3), -1);
        T.due("7 other what", x.clause(0, -1), -1);
    }

    private static int windsBy(String formula) {
        BowHouse x = Checks.told("member a out minds 3 votes 2;clause p sharp 7;clause q sharp 1;cock 30;winds " + formula + ";");
        return x.winds(0, 0, true);
    }

    private static void winds() {
        BowHouse x = Checks.told("member a out minds 4 votes 1;member b in minds 9 votes 1;clause p sharp 9;clause q sharp 0;cock 30;");
        T.due("8 (9 + 4) / 3", x.winds(0, 0, false), 4);
        T.due("8 less 2", x.winds(0, 0, true), 2);
        T.due("8 (0 + 4) / 3", x.winds(0, 1, false), 1);
        T.due("8 lets off what he has, nothing", x.winds(0, 1, true), 0);
        T.due("8 he is in", x.winds(1, 0, false), -100);
        T.due("8 none such", x.winds(2, 0, false), -100);
        T.due("8 none such", x.winds(-1, 0, false), -100);
        T.due("8 none such", x.winds(0, 2, false), -100);
        T.due("8 none such", x.winds(0, -1, false), -100);
        x.read(0, false);
        T.due("8 lets off", x.winds(0, 1, true), -1);
        T.due("8 read or not", x.winds(0, 0, false), 4);
        String[] formulas = {"8", "9999", "sharp", "minds", "votes", "falling", "read", "notch", "7/2", "7%4", "5/0", "5%0",
            "(0-7)/2+9", "(0-7)%4+9", "1<2", "2<1", "2>1", "1>1", "3=3", "3=4", "not 0", "not 5", "not not 5", "2 and 3", "2 and 0",
            "0 or 7", "0 or 0", "1 or 0 and 0", "not 1 or 1", "not 1=2", "1+1=2", "2+3*2", "(2+3)*2-3", "9-3-2", "8/2/2", "7-(3-2)",
            "9999*9999*9999*9999>0", "not(1 and 0)", "sharp+minds>9 and falling", "1=1+0", "2*(notch=0)+4*(read=0)", "0003"};
        int[] want = {8, 9, 7, 3, 2, 1, 0, 0, 3, 3, 0, 0,
            6, 6, 1, 0, 1, 0, 1, 0, 1, 0, 1, 1, 0,
            1, 0, 1, 1, 1, 1, 8, 7, 4, 2, 6,
            9999 * 9999 * 9999 * 9999 > 0 ? 1 : 0, 1, 1, 1, 6, 3};
        for (int i = 0; i < want.length; i++) T.due("8 winds " + formulas[i], windsBy(formulas[i]), want[i]);
        BowHouse y = Checks.told("member a out minds 0 votes 0;clause p sharp 12;clause q sharp 3;winds sharp-(sharp<5)*99;cock 30;");
        T.due("8 9 at most", y.winds(0, 0, false), 9);
        y.read(0, false);
        T.due("8 -9 at least", y.winds(0, 1, false), -9);
        BowHouse z = Checks.told("member a out minds 0 votes 0;clause p sharp 9;clause q sharp 3;winds notch+read*10-5*(read=0)+sharp*(read=0);cock 30;");
        T.due("8 notch 0, read 0", z.winds(0, 0, false), 4);
        z.read(0, false);
        T.due("8 notch 4, read 1", z.winds(0, 1, false), 9);
    }

    private static void read() {
        BowHouse x = Checks.told(STEADY + "draw 9;puns 5;");
        T.due("9 carried", x.read(0, false), 1);
        // 9 * 137 + 71 = 1304: 304, its rest 4 is less than 5
        T.due("9 the seed", x.about(4), 304);
        T.due("9 a pun winds a", x.member(0, 3), 3);
        T.due("9 a pun winds b", x.member(1, 3), 5);
        T.due("9 none in", x.member(2, 3), 0);
        T.due("9 read already", x.read(0, true), -1);
        T.due("9 none such", x.read(2, true), -1);
        T.due("9 none such", x.read(-1, true), -1);
        T.due("9 nothing done", x.about(5), 1);
        T.due("9 b goes off: lost", x.read(1, true), 0);
        T.due("9 a 3 + 1", x.member(0, 3), 4);
        T.due("9 b let off", x.member(1, 3), 0);
        // 304 * 137 + 71 = 41719
        T.due("9 the seed", x.about(4), 719);
        T.due("9 what is read", x.about(2), 3);
        T.due("9 what is carried", x.about(3), 1);
        BowHouse y = Checks.told("member a out minds 0 votes 0;clause p sharp 0;clause q sharp 0;winds 1-read;cock 1;quota 0;puns 100;");
        T.due("9 goes off at cock", y.read(0, false), 0);
        T.due("9 1 by a pun, which lets none off", y.member(0, 3), 1);
        T.due("9 at full cock by the pun, goes off now", y.read(1, false), 0);
        BowHouse z = Checks.told("member a out minds 0 votes 1;clause p sharp 0;winds 4;cock 9;");
        T.due("9 4 is less than half of 9", z.read(0, false), 1);
        BowHouse w = Checks.told("member a out minds 0 votes 1;clause p sharp 0;winds 4;cock 8;");
        T.due("9 4 is not less than half of 8", w.read(0, false), 0);
        BowHouse v = Checks.told("member a in minds 0 votes 4;clause p sharp 0;quota 4;");
        T.due("9 as many as quota", v.read(0, false), 1);
        BowHouse u = Checks.told("member a in minds 0 votes 4;clause p sharp 0;quota 5;");
        T.due("9 fewer than quota", u.read(0, false), 0);
        BowHouse t = Checks.told("member a out minds 0 votes 0;clause p sharp 0;quota 0;puns 71;");
        t.read(0, false);
        T.due("9 71 is not less than 71", t.member(0, 3), 0);
    }

    private static void oilAndChange() {
        BowHouse x = Checks.told(STEADY);
        T.due("10 none to let off", x.oil(0), -1);
        x.read(0, false);
        T.due("10 oil", x.oil(1), 3);
        T.due("10 oil", x.oil(0), 1);
        T.due("10 oil", x.oil(0), 0);
        T.due("10 no more", x.oil(0), -1);
        T.due("10 in", x.oil(2), -1);
        T.due("10 none such", x.oil(3), -1);
        T.due("10 none such", x.oil(-1), -1);
        T.due("10 acts", x.about(5), 4);
        x.undo();
        x.undo();
        T.due("11 a has 2, b 3: c has the first one's", x.change(), 4);
        T.due("11 c", x.member(2, 3), 2);
        T.due("11 a", x.member(0, 3), 0);
        T.due("11 b", x.member(1, 3), 0);
        T.due("11 and over again: b's bow is none", x.change(), 3);
        T.due("11 a", x.member(0, 3), 2);
        T.due("11 b", x.member(1, 3), 0);
        T.due("11 c", x.member(2, 3), 0);
        BowHouse y = Checks.told("member a out minds 0 votes 1;");
        T.due("11 nobody out", y.change(), 0);
        T.due("11 and back", y.change(), 1);
        T.due("11 no members", Checks.told("clause p sharp 1;").change(), -1);
        // bows go by their order, not by their place
        BowHouse z = Checks.told("member a in minds 1 votes 0;member b out minds 2 votes 0;member c in minds 3 votes 0;"
                + "member d out minds 4 votes 0;clause p sharp 0;winds minds;cock 30;");
        z.read(0, false);
        T.due("11 change", z.change(), 5);
        T.due("11 a has b's", z.member(0, 3), 2);
        T.due("11 c has d's", z.member(2, 3), 4);
        T.due("11 d", z.member(3, 3), 0);
    }

    private static void undoRedo() {
        BowHouse x = Checks.told(STEADY + "draw 3;");
        x.read(0, false);
        x.oil(1);
        x.change();
        T.due("12 acts", x.about(5), 3);
        T.due("12 undo", x.undo(), true);
        T.due("12 out", x.outs(), 3);
        T.due("12 b", x.member(1, 3), 3);
        T.due("12 undo", x.undo(), true);
        T.due("12 b", x.member(1, 3), 4);
        T.due("12 undo", x.undo(), true);
        T.due("12 nothing read", x.about(2), 0);
        T.due("12 nothing carried", x.about(3), 0);
        T.due("12 the seed", x.about(4), 3);
        T.due("12 no more", x.undo(), false);
        T.due("13 redoable", x.about(6), 3);
        T.due("13 redo", x.redo(), true);
        T.due("13 carried", x.about(3), 1);
        T.due("13 the seed", x.about(4), 482);
        T.due("13 redo", x.redo(), true);
        T.due("13 b", x.member(1, 3), 3);
        T.due("13 what does nothing is no act", x.oil(2), -1);
        T.due("13 still", x.about(6), 1);
        x.oil(0);
        T.due("13 till another act", x.redo(), false);
        T.due("13 acts", x.about(5), 3);
        for (int i = 0; i < 45; i++) x.change();
        T.due("12 40 are kept", x.about(5), 40);
        int undone = 0;
        while (undone < 60 && x.undo()) undone++;
        T.due("12 40 at most", undone, 40);
        T.due("12 as behind the 5th change", x.outs(), 4);
        T.due("13 40", x.about(6), 40);
        int redone = 0;
        while (redone < 60 && x.redo()) redone++;
        T.due("13 40 at most", redone, 40);
        T.due("13 as behind the last", x.outs(), 4);
        T.due("12 lies are no act's", x.about(11), 0);
    }

    /** Each act brings another state, so that a row kept at a wrong place is seen. */
    private static void manyActs() {
        BowHouse x = Checks.told("member a out minds 0 votes 0;member b out minds 0 votes 0;member c out minds 0 votes 0;"
                + "clause p sharp 9;clause q sharp 9;clause r sharp 9;winds sharp;cock 30;draw 1;");
        for (int c = 0; c < 3; c++) x.read(c, false);
        for (int i = 0; i < 81; i++) {
            T.due("10 oil " + i, x.oil(i % 3), 26 - i / 3);
            if (i > 30 && i < 45) T.due("12 kept behind " + i, x.about(5), Math.min(40, 4 + i));
        }
        int all = 0;
        for (int i = 1; i <= 40; i++) {
            T.due("12 undo " + i, x.undo(), true);
            T.due("12 notches", x.member(0, 3) + x.member(1, 3) + x.member(2, 3), all + i);
            if (i % 5 == 0) T.due("12 left", x.about(5), 40 - i);
            if (i % 5 == 0) T.due("13 to redo", x.about(6), i);
        }
        T.due("12 the oldest are gone", x.undo(), false);
        for (int i = 39; i >= 20; i--) {
            T.due("13 redo " + i, x.redo(), true);
            T.due("13 notches", x.member(0, 3) + x.member(1, 3) + x.member(2, 3), all + i);
        }
        T.due("11 another act", x.change(), 0);
        T.due("13 nothing to redo", x.redo(), false);
        T.due("12 undoable", x.about(5), 21);
        for (int i = 0; i < 21; i++) T.due("12 undo", x.undo(), true);
        T.due("12 as 40 acts ago", x.member(0, 3) + x.member(1, 3) + x.member(2, 3), all + 40);
        T.due("12 no more", x.undo(), false);
    }

    private static void wouldBe() {
        BowHouse x = Checks.told(STEADY);
        T.due("14 carries", x.carries(0, false), 1);
        T.due("15 shots", x.shots(0, false), 0);
        T.due("16 backers", x.backers(0, false), 5);
        T.due("16 b at 3 is not less than half of 6", x.backers(0, true), 5);
        x.read(0, false);
        T.due("14 b would go off", x.carries(1, false), 0);
        T.due("15 b", x.shots(1, false), 2);
        T.due("16 c alone", x.backers(1, false), 4);
        T.due("16 nobody", x.member(1, 3), 4);
        for (int c : new int[] {0, 2, -1}) {
            T.due("14 can't be " + c, x.carries(c, false), -1);
            T.due("15 can't be " + c, x.shots(c, false), -1);
            T.due("16 can't be " + c, x.backers(c, false), -1);
        }
        T.due("14 nothing done", x.about(2), 1);
    }

    private static void will() {
        BowHouse x = Checks.told(STEADY + "clause r sharp 0;draw 9;puns 5;");
        T.due("17 none", x.will(1, 0, 0), 0);
        T.due("17 one", x.will(1, 1, 0), 4);
        T.due("17 off", x.will(1, 2, 0), 0);
        T.due("17 again", x.will(1, 3, 0), 4);
        T.due("17 as many as there are", x.will(1, 6, 0), 4);
        T.due("17 by the seed", x.will(1, 1, 1), 5);
        // 304, a pun; 719, none; 719 * 137 + 71 = 98574, none: a 2 + 1, + 2, + 2 is off
        T.due("17 a", x.will(0, 2, 1), 5);
        T.due("17 a", x.will(0, 3, 1), 0);
        T.due("17 in", x.will(2, 3, 1), 0);
        x.read(1, false);
        T.due("17 the first not read is p now", x.will(0, 1, 0), 5);
        T.due("17 n", x.will(0, 7, 0), -1);
        T.due("17 n", x.will(0, -1, 0), -1);
        T.due("17 what", x.will(0, 1, 2), -1);
        T.due("17 what", x.will(0, 1, -1), -1);
        T.due("17 none such", x.will(3, 1, 0), -1);
        T.due("17 none such", x.will(-1, 1, 0), -1);
    }

    private static void agendaAndTones() {
        // a winds what is sharp: 5 (lost), 1 (carried), 0 (carried); off at 8.
        BowHouse x = Checks.told("member a out minds 0 votes 1;clause p sharp 5;clause q sharp 1;clause r sharp 0;"
                + "winds sharp-falling*4;cock 8;");
        T.due("18 agenda", x.agenda(false), 2);
        T.due("18 q", x.lies(0), 1);
        T.due("18 r", x.lies(1), 2);
        T.due("18 p", x.lies(2), 0);
        T.due("43 no more", x.lies(3), -2);
        T.due("43 none", x.lies(-1), -2);
        T.due("18 falling", x.agenda(true), 3);
        T.due("18 of like ones the first", x.lies(0) * 100 + x.lies(1) * 10 + x.lies(2), 12);
        T.due("19 p falling: 1, 2, 2", x.tones(0), 3);
        T.due("19 p", x.tones(1), 1);
        T.due("19 what", x.tones(2), -1);
        T.due("19 what", x.tones(-1), -1);
        T.due("20 p is lost", x.lost(false), 0);
        T.due("20 none", x.lost(true), -1);
        // p and q falling (1, 2, 4) or r falling (2, 4, 3): all are carried; one is fewer than two
        BowHouse y = Checks.told("member a out minds 0 votes 1;clause p sharp 3;clause q sharp 3;clause r sharp 4;"
                + "winds (sharp=3)*2-(sharp=3)*falling+(sharp=4)*(2-falling*3);cock 9;");
        T.due("19 r alone", y.tones(1), 4);
        T.due("19 all three", y.tones(0), 3);
        x.read(0, true);
        T.due("18 of those read alone", x.agenda(false), 2);
        T.due("18 q", x.lies(0), 1);
        T.due("18 r", x.lies(1), 2);
        T.due("18 two", x.about(11), 2);
        T.due("19 none falling", x.tones(1), 0);
        T.due("19 two", x.tones(0), 2);
        x.read(1, true);
        x.read(2, true);
        T.due("18 none left", x.agenda(false), 0);
        T.due("18 nothing lies", x.about(11), 0);
        T.due("20 none left", x.lost(false), -1);
        T.due("19 none left", x.tones(0), 0);
    }

    private static void votes() {
        // votes 4, 2, 1, 1; quota 5
        BowHouse x = Checks.told("member a in minds 0 votes 4;member b out minds 0 votes 2;member c in minds 0 votes 1;"
                + "member d out minds 0 votes 1;quota 5;");
        // a with any one; b, c, d together have 4: a tips unless he is first: 18 of 24; each other 2 (a first, he second).
        T.due("21 a", x.tips(0), 18);
        T.due("21 b", x.tips(1), 2);
        T.due("21 c", x.tips(2), 2);
        T.due("21 d", x.tips(3), 2);
        T.due("21 none such", x.tips(4), -1);
        T.due("21 none such", x.tips(-1), -1);
        T.due("22 a and b", x.league(0, 1), 3);
        T.due("22 two", x.league(0, 0), 2);
        T.due("22 a and d", x.league(3, 1), 9);
        T.due("22 what", x.league(0, 2), -1);
        T.due("22 what", x.league(0, -1), -1);
        T.due("22 none such", x.league(4, 0), -1);
        T.due("31 a: sets of the others but none", x.tilts(0), 7);
        T.due("31 b: with a alone", x.tilts(1), 1);
        T.due("31 none such", x.tilts(4), -1);
        T.due("31 none such", x.tilts(-1), -1);
        T.due("32 a with each other", x.leagues(), 3);
        T.due("37 a and c", x.strength(), 5);
        T.due("39 a", x.vetoes(), 1);
        T.due("34 b and d", x.outs(), 10);
        BowHouse y = Checks.told("member a in minds 0 votes 4;member b out minds 0 votes 2;quota 7;");
        T.due("22 all have not so many", y.league(0, 0), -1);
        T.due("22 all have not so many", y.league(1, 1), -1);
        T.due("21 never", y.tips(0), 0);
        T.due("32 none", y.leagues(), 0);
        T.due("39 each", y.vetoes(), 3);
        BowHouse z = Checks.told("member a in minds 0 votes 4;member b out minds 0 votes 0;quota 0;");
        T.due("22 he alone", z.league(1, 1), 2);
        T.due("32 the empty one", z.leagues(), 1);
        T.due("39 none", z.vetoes(), 0);
        T.due("31 none", z.tilts(0), 0);
        BowHouse w = Checks.told("member a in minds 0 votes 0;member b out minds 0 votes 3;member c in minds 0 votes 3;quota 6;");
        T.due("32 a is not needed", w.leagues(), 1);
        T.due("22 a with both", w.league(0, 0), 3);
        T.due("21 7 members", Checks.told("member a in minds 0 votes 1;member b in minds 0 votes 0;member c in minds 0 votes 0;"
                + "member d in minds 0 votes 0;member e in minds 0 votes 0;member f in minds 0 votes 0;member g in minds 0 votes 0;").tips(0), 5040);
    }

    /** a has so many notches, b so many, c is in. */
    private static BowHouse bows(int a, int b, String more) {
        BowHouse x = Checks.told("member a out minds " + a + " votes 1;member b out minds " + b + " votes 1;"
                + "member c in minds 0 votes 1;clause p sharp 0;clause q sharp 1;clause r sharp 2;winds minds*(read=0)-falling*2;cock 30;" + more);
        x.read(0, false);
        return x;
    }

    private static void two() {
        T.due("23 both 0", bows(0, 0, "").disarm(0, 1, 0), 0);
        T.due("23 1 and 0 within 0", bows(1, 0, "").disarm(0, 1, 0), 1);
        T.due("23 0 and 1 within 0", bows(0, 1, "").disarm(0, 1, 0), 1);
        T.due("23 1 and 1 within 0", bows(1, 1, "").disarm(0, 1, 0), -1);
        T.due("23 2 and 1 within 0", bows(2, 1, "").disarm(0, 1, 0), -1);
        T.due("23 1 and 1 within 1", bows(1, 1, "").disarm(0, 1, 1), 2);
        T.due("23 5 and 3 within 1", bows(5, 3, "").disarm(0, 1, 1), 8);
        T.due("23 6 and 3 within 1", bows(6, 3, "").disarm(0, 1, 1), -1);
        T.due("23 3 and 6 within 2", bows(3, 6, "").disarm(1, 0, 2), 9);
        T.due("23 9 and 0 within 99", bows(9, 0, "").disarm(1, 0, 99), 9);
        T.due("23 n", bows(9, 0, "").disarm(1, 0, 100), -1);
        T.due("23 n", bows(0, 0, "").disarm(1, 0, -1), -1);
        T.due("23 one", bows(0, 0, "").disarm(1, 1, 5), -1);
        T.due("23 in", bows(0, 0, "").disarm(1, 2, 5), -1);
        T.due("23 none such", bows(0, 0, "").disarm(3, 1, 5), -1);
        T.due("23 none such", bows(0, 0, "").disarm(0, -1, 5), -1);

        // At 3 notches and 3: letting go against one who does not has 0, as not doing so: three rests.
        BowHouse x = bows(3, 3, "");
        T.due("24 3 and 3", x.trust(0, 1), 3);
        T.due("24 neither", x.lies(0) * 10 + x.lies(1), 0);
        T.due("24 two lie", x.about(11), 2);
        T.due("24 in", x.trust(0, 2), -1);
        T.due("24 nothing lies", x.about(11), 0);
        T.due("24 one", x.trust(0, 0), -1);
        T.due("24 none such", x.trust(0, 3), -1);
        T.due("24 none such", x.trust(-1, 0), -1);
        // a has 5, b has 1: b does not let go against a's bow; a, against b's, does (2): one rest.
        BowHouse y = bows(5, 1, "");
        T.due("24 5 and 1", y.trust(0, 1), 1);
        T.due("24 a lets go", y.lies(0), 1);
        T.due("24 b does not", y.lies(1), 0);
        T.due("24 the other way", y.trust(1, 0), 1);
        T.due("24 b does not", y.lies(0), 0);
        T.due("24 a lets go", y.lies(1), 1);
        T.due("24 0 and 0", bows(0, 0, "").trust(0, 1), 2);
        T.due("24 4 and 4", bows(4, 4, "").trust(0, 1), 1);
    }

    private static void edgeUsherCreak() {
        BowHouse x = Checks.told("member a out minds 3 votes 1;member b in minds 3 votes 1;clause p sharp 9;clause q sharp 3;quota 2;");
        // (s + 3) / 3 < 5: s at most 11; falling: (s + 3) / 3 - 2 < 5: s up to 17
        T.due("25 edge", x.edge(0, false), 11);
        T.due("25 falling", x.edge(0, true), 17);
        T.due("25 none such", x.edge(2, false), -1);
        T.due("25 none such", x.edge(-1, false), -1);
        x.read(0, false);
        T.due("25 read", x.edge(0, false), -1);
        T.due("25 4 already: by none", x.edge(1, false), -1);
        T.due("25 falling: s + 3 < 9", x.edge(1, true), 5);
        BowHouse z = Checks.told("member a in minds 0 votes 1;clause p sharp 0;");
        T.due("25 20 at most", z.edge(0, false), 20);

        // a has 2, b 3; then each clause winds both by 2, 5 is too many of cock 10, quota 3 needs both.
        BowHouse y = bows(4, 5, "");
        T.due("26 nobody out", Checks.told("member a in minds 0 votes 0;").usher(false, 0), -1);
        T.due("26 nobody out", Checks.told("member a in minds 0 votes 0;").usher(false, 1), -1);
        T.due("26 of like ones the first", y.usher(false, 0), 0);
        T.due("26 both", y.usher(false, 1), 2);
        T.due("26 what", y.usher(false, 2), -1);
        T.due("26 what", y.usher(false, -1), -1);
        BowHouse w = Checks.told("member a out minds 1 votes 1;member b out minds 5 votes 1;clause p sharp 0;clause q sharp 1;clause r sharp 1;"
                + "winds minds*(read=0);quota 2;");
        w.read(0, false);
        T.due("26 b", w.usher(true, 0), 1);
        T.due("26 by b's both", w.usher(true, 1), 2);
        T.due("26 nothing done", w.member(1, 3), 5);

        T.due("27 read or not", y.creak(0, false), 0);
        T.due("27 2 each off", y.creak(1, true), -4);
        T.due("27 none such", y.creak(3, true), -1000);
        T.due("27 none such", y.creak(-1, true), -1000);
        BowHouse v = bows(1, 7, "");
        T.due("27 no more than he has", v.creak(1, true), -3);
        BowHouse u = Checks.told(STEADY);
        T.due("27 both", u.creak(0, false), 6);
        u.read(0, false);
        T.due("27 who would go off, too", u.creak(1, false), 6);
        T.due("27 falling", u.creak(1, true), 4);
    }

    private static void over() {
        // c (minds 3) winds 6 of cock 6: goes off at each.
        BowHouse x = Checks.told(STEADY);
        T.due("28 none", x.over(), 0);
        T.due("28 nothing done", x.outs(), 3);
        BowHouse y = Checks.told("member a out minds 2 votes 1;member b in minds 1 votes 1;clause p sharp 0;clause q sharp 0;clause r sharp 0;winds minds;cock 9;quota 2;");
        y.read(0, false);
        // b takes over 2: 3 (carried), 4 (carried)
        T.due("28 two of those left", y.over(), 2);
        T.due("28 no members", Checks.told("clause p sharp 1;quota 0;").over(), 1);
    }

    private static void drops() {
        BowHouse x = bows(7, 9, "quota 3;");
        // cock 30: both are for it
        T.due("29 0", x.drops(1, false), 0);
        String two = "member a out minds 6 votes 2;member b out minds 8 votes 1;member c in minds 0 votes 1;clause p sharp 0;clause q sharp 1;"
                + "winds minds*(read=0)+(read=1)*2;cock 10;";
        BowHouse y = Checks.told(two + "quota 3;");
        y.read(0, false);
        // a 6 + 2 = 8 stays; b 8 + 2 goes off: 1 at least. Quota 3: a to 2 (4 + ) and b to 7.
        T.due("29 4 by a and 1 by b", y.drops(1, false), 5);
        y.undo();
        BowHouse z = Checks.told(two + "quota 4;");
        z.read(0, false);
        T.due("29 both below 5", z.drops(1, false), 10);
        BowHouse w = Checks.told(two + "quota 5;");
        w.read(0, false);
        T.due("29 by none", w.drops(1, false), -1);
        T.due("29 read", w.drops(0, false), -1);
        T.due("29 none such", w.drops(2, false), -1);
        T.due("29 none such", w.drops(-1, false), -1);
        BowHouse v = Checks.told("member a out minds 0 votes 0;clause p sharp 0;winds 9;cock 9;quota 0;");
        T.due("29 he goes off from 0, too", v.drops(0, false), -1);
        BowHouse t = Checks.told("member b out minds 4 votes 0;member a out minds 9 votes 0;clause p sharp 0;clause q sharp 0;"
                + "winds minds*(read=0)+(read=1)*(minds=9)*9+(read=1)*(minds=4)*5;cock 9;quota 0;");
        t.read(0, false);
        T.due("29 b could, a goes off all the same", t.drops(1, false), -1);
        // who has less may wind more: 3 notches wind 0, fewer wind 9
        BowHouse u = Checks.told("member a out minds 0 votes 0;clause p sharp 3;clause q sharp 0;winds (read=0)*3+(read>0)*(notch<3)*9;cock 9;quota 0;");
        u.read(0, false);
        T.due("29 none needed", u.drops(1, false), 0);
    }

    private static void swap() {
        // a winds 3, b 1 at first; later a (votes 1, minds 3) nothing, b 4: b with a's 3 would be at 7.
        String text = "member a out minds 3 votes 1;member b out minds 1 votes 1;member c in minds 0 votes 1;clause p sharp 0;clause q sharp 1;"
                + "winds minds*(read=0)+(read>0)*(minds=3)*2;cock 10;quota 3;";
        BowHouse x = Checks.told(text);
        x.read(0, false);
        T.due("30 a 5 now, 3 with b's bow", x.swap(false, 0), 0);
        T.due("30 b", x.swap(false, 1), 1);
        T.due("30 one", x.swap(false, 2), 1);
        T.due("30 what", x.swap(false, 3), -1);
        T.due("30 what", x.swap(false, -1), -1);
        T.due("30 nothing done", x.member(0, 3), 3);
        BowHouse y = Checks.told(STEADY);
        T.due("30 no more than now", y.swap(false, 0), -1);
        T.due("30 no more than now", y.swap(true, 2), -1);
    }

    private static void quickOnes() {
        BowHouse x = Checks.told("member a out minds 4 votes 1;member b out minds 4 votes 1;member c in minds 9 votes 7;"
                + "clause p sharp 6;clause q sharp 0;clause r sharp 2;clause s sharp 8;cock 9;");
        T.due("33 q, 0 on a falling tone; r the same", x.softest(), 1);
        T.due("35 s", x.loudest(), 3);
        T.due("36 of like ones the first", x.tensest(), 0);
        T.due("38 none", x.cross(), 0);
        x.read(3, false);
        // (6 + 4) / 3 = 3 is the most left
        T.due("35 p", x.loudest(), 0);
        T.due("38 4 is not half of 9", x.cross(), 0);
        x.oil(0);
        T.due("36 b", x.tensest(), 1);
        x.undo();
        x.read(1, false);
        T.due("38 5 is more", x.cross(), 3);
        T.due("33 r", x.softest(), 2);
        x.read(0, false);
        x.read(2, false);
        T.due("33 all read", x.softest(), -1);
        T.due("35 all read", x.loudest(), -1);
        x.change();
        T.due("37 a and b", x.strength(), 2);
        T.due("34 c", x.outs(), 4);
        BowHouse y = Checks.told("member a out minds 5 votes 1;clause p sharp 0;winds minds;");
        y.read(0, false);
        T.due("38 5 is half of 10", y.cross(), 1);
        y.change();
        T.due("36 nobody out", y.tensest(), -1);
        T.due("38 nobody out", y.cross(), 0);
    }

    private static void law() {
        BowHouse x = Checks.told("member a out minds 9 votes 1;member b in minds 9 votes 1;clause p sharp 0;clause q sharp 0;winds minds;cock 10;quota 2;");
        T.due("40 0", x.law(0), 2);
        T.due("40 2: 2, 4", x.law(2), 2);
        T.due("40 3: 3, 6", x.law(3), 1);
        T.due("40 5", x.law(5), 0);
        T.due("40 20: 9, off", x.law(20), 0);
        T.due("40 21", x.law(21), -1);
        T.due("40 -1", x.law(-1), -1);
        x.read(0, false);
        T.due("40 9 already, and 0", x.law(0), 0);
        T.due("40 nothing done", x.member(0, 1), 9);
    }

    private static void until() {
        BowHouse x = Checks.told(STEADY);
        T.due("41 2, 4, 6", x.until(0, 0, false), 3);
        T.due("41 1 each", x.until(0, 0, true), 6);
        T.due("41 4, 8", x.until(1, 0, false), 2);
        x.read(0, false);
        T.due("41 read or not", x.until(0, 0, false), 2);
        T.due("41 in", x.until(2, 0, false), -1);
        T.due("41 none such", x.until(3, 0, false), -1);
        T.due("41 none such", x.until(-1, 0, false), -1);
        T.due("41 none such", x.until(0, 2, false), -1);
        T.due("41 none such", x.until(0, -1, false), -1);
        String late = "member a out minds 0 votes 0;clause p sharp 0;cock 9;winds 9*(read=";
        T.due("41 the 60th", Checks.told(late + "59);").until(0, 0, false), 60);
        T.due("41 the 61st", Checks.told(late + "60);").until(0, 0, false), -1);
        T.due("41 the first", Checks.told(late + "0);").until(0, 0, false), 1);
    }

    private static void odds() {
        BowHouse x = Checks.told("puns 30;");
        int[][] want = {{1, 1}, {7, 10}, {49, 100}, {343, 1000}, {2401, 10000}};
        for (int n = 0; n <= 4; n++) for (int k = 0; k < 2; k++) T.due("42 odds " + n + " " + k, x.odds(n, k), want[n][k]);
        T.due("42 n", x.odds(5, 0), -1);
        T.due("42 n", x.odds(-1, 0), -1);
        T.due("42 part", x.odds(1, 2), -1);
        T.due("42 part", x.odds(1, -1), -1);
        BowHouse y = Checks.told("puns 99;");
        T.due("42 1", y.odds(4, 0), 1);
        T.due("42 of a hundred million", y.odds(4, 1), 100000000);
        BowHouse z = Checks.told("puns 100;");
        T.due("42 0", z.odds(2, 0), 0);
        T.due("42 of 1", z.odds(2, 1), 1);
        T.due("42 1 of 1", z.odds(0, 0), 1);
        T.due("42 no puns", Checks.told("").odds(4, 1), 1);
    }

    private static void hearsay() {
        // z winds (minds + sharp) / 4: sharp 3, then 9; off at 7.
        BowHouse x = Checks.told("member a in minds 0 votes 0;member z out minds 3 votes 0;clause p sharp 3;clause q sharp 9;"
                + "winds (minds+sharp)/4;cock 7;");
        T.due("47 all", x.fits(0), 21);
        T.due("48 least", x.sure(0, 0), 0);
        T.due("48 greatest", x.sure(1, 0), 20);
        T.due("48 what", x.sure(2, 0), -1);
        T.due("48 what", x.sure(-1, 0), -1);
        // behind p: 0 (0), 1 (1 .. 4), 2 (5 .. 8), 3 (9 .. 12), 4 (13 .. 16), 5 (17 .. 20)
        // behind q: 0 + 2 (0), 1 + 2 (1, 2), 1 + 3 (3, 4), 2 + 3 (5, 6), 2 + 4 (7, 8), then off (9 .. 20)
        T.due("49 behind p", x.ask(0, 0), 1);
        T.due("49 4 at the most", x.ask(1, 0), 4);
        T.due("44 at least 2 behind p", x.heard(1, 2, true), 0);
        T.due("47 5 .. 20", x.fits(0), 16);
        T.due("48 5", x.sure(0, 0), 5);
        T.due("46 later", x.later(5), 5);
        T.due("44 less than 4 behind p", x.heard(1, 4, false), 1);
        T.due("47 as known at 4", x.fits(4), 16);
        T.due("47 as known at 5: 5 .. 12", x.fits(5), 8);
        T.due("48 12", x.sure(1, 5), 12);
        T.due("49 behind p", x.ask(0, 5), 1);
        T.due("49 4", x.ask(1, 5), 4);
        T.due("44 behind q at least 1", x.heard(2, 1, true), 2);
        T.due("47 5 .. 8", x.fits(5), 4);
        T.due("49 behind q", x.ask(0, 9), 2);
        T.due("49 2", x.ask(1, 9), 2);
        T.due("49 what", x.ask(2, 9), -1);
        T.due("49 what", x.ask(-1, 9), -1);
        x.later(1);
        T.due("45 untell", x.untell(0), true);
        T.due("45 already", x.untell(0), false);
        T.due("45 none such", x.untell(3), false);
        T.due("45 none such", x.untell(-1), false);
        T.due("47 as known at 5", x.fits(5), 4);
        T.due("47 as known at 6: 0 .. 8", x.fits(6), 9);
        T.due("47 before all", x.fits(-1), 21);
        T.due("44 as many as there are", x.heard(6, 1, false), 3);
        T.due("47 none", x.fits(6), 0);
        T.due("48 none", x.sure(0, 6), -1);
        T.due("49 none", x.ask(0, 6), -1);
        T.due("45 at the same time", x.untell(3), true);
        T.due("47 it does not count", x.fits(6), 9);
        T.due("44 n", x.heard(7, 0, true), -1);
        T.due("44 n", x.heard(-1, 0, true), -1);
        T.due("44 notches", x.heard(0, 100, true), -1);
        T.due("44 notches", x.heard(0, -1, true), -1);
        T.due("44 nothing done", x.about(7), 4);
        for (int i = 4; i < 30; i++) T.due("44 the next", x.heard(0, 99, false), i);
        T.due("44 there are 30", x.heard(0, 99, false), -1);
        T.due("44 30", x.about(7), 30);
        x.change();
        x.read(0, true);
        T.due("47 of the house as told", x.fits(6), 9);
        BowHouse y = Checks.told("member z out minds 3 votes 0;member a in minds 0 votes 0;clause p sharp 3;");
        T.due("44 the last was in", y.heard(0, 0, true), -1);
        T.due("47 the last was in", y.fits(0), 0);
        T.due("49 the last was in", y.ask(0, 0), -1);
        y.change();
        T.due("44 as told", y.heard(0, 0, true), -1);
        // only the sixth clause tells what he minds
        BowHouse w = Checks.told("member z out minds 3 votes 0;clause p sharp 0;clause q sharp 0;clause r sharp 0;clause s sharp 0;"
                + "clause t sharp 0;clause u sharp 1;winds sharp*minds;cock 30;");
        T.due("49 behind all six", w.ask(0, 0), 6);
        T.due("49 9 .. 20 wind 9", w.ask(1, 0), 12);
        BowHouse v = Checks.told("member z out minds 3 votes 0;clause p sharp 0;winds minds>19;");
        v.heard(1, 1, true);
        T.due("47 20 alone", v.fits(0), 1);
        T.due("48 20", v.sure(0, 0), 20);
        T.due("49 one is left", v.ask(1, 0), 1);
        T.due("49 no clauses: nothing to be learnt", Checks.told("member z out minds 3 votes 0;").ask(1, 0), 21);
        T.due("49 the least n", Checks.told("member z out minds 3 votes 0;").ask(0, 0), 0);
    }

    private static void later() {
        BowHouse x = new BowHouse();
        T.due("46 0", x.later(0), 0);
        T.due("46 1001", x.later(1001), -1);
        T.due("46 -1", x.later(-1), -1);
        T.due("46 nothing done", x.about(8), 0);
        for (int i = 1; i < 100; i++) T.due("46 later", x.later(1000), 1000 * i);
        T.due("46 999", x.later(999), 99999);
        T.due("46 above", x.later(2), -1);
        T.due("46 100000", x.later(1), 100000);
        T.due("46 above", x.later(1), -1);
        T.due("46 0", x.later(0), 100000);
        Checks.tell(x, "member z out minds 1 votes 1;clause p sharp 8;");
        T.due("44 at the last time", x.heard(1, 9, true), 0);
        T.due("47 counts then", x.fits(100000), 2);
        T.due("45 untold then", x.untell(0), true);
        T.due("47 not then", x.fits(100000), 21);
        T.due("47 nor ever behind", x.fits(Integer.MAX_VALUE), 21);
    }

    private static void images() {
        BowHouse x = Checks.told(STEADY + "draw 9;puns 5;");
        T.due("51 nothing was", x.back(0), -1);
        T.due("50 image", x.image(1), 0);
        x.read(0, false);
        T.due("50 image", x.image(2), 1);
        T.due("50 none such", x.image(3), -1);
        T.due("50 none such", x.image(-1), -1);
        T.due("51 none such", x.back(3), -1);
        T.due("51 none such", x.back(-1), -1);
        T.due("51 nothing was", x.back(0), -1);
        T.due("51 nothing done", x.about(5), 1);
        x.change();
        T.due("51 back", x.back(1), 0);
        T.due("51 out", x.outs(), 3);
        T.due("51 read", x.about(2), 0);
        T.due("51 carried", x.about(3), 0);
        T.due("51 seed", x.about(4), 9);
        T.due("51 notches", x.member(1, 3), 0);
        T.due("51 no acts", x.about(5), 0);
        T.due("51 no undo", x.undo(), false);
        x.read(1, false);
        x.undo();
        T.due("51 back", x.back(2), 1);
        T.due("51 no redo", x.redo(), false);
        T.due("51 notches", x.member(1, 3), 5);
        T.due("51 carried", x.about(3), 1);
        T.due("51 seed", x.about(4), 304);
        x.oil(1);
        T.due("51 again", x.back(2), 1);
        T.due("51 as kept", x.member(1, 3), 5);
    }

    private static void about() {
        BowHouse x = Checks.told("member a out minds 1 votes 1;member b out minds 2 votes 2;clause p sharp 1;clause q sharp 2;clause r sharp 2;"
                + "winds (minds)+(2*(sharp-1))-not 1;");
        T.due("52 the first fault is 'not' behind -", x.fault(0), 2);
        Checks.tell(x, "member a out minds 1 votes 1;member b out minds 2 votes 2;clause p sharp 1;clause q sharp 2;clause r sharp 2;"
                + "winds not (minds)+(2*(sharp-1));cock 12;quota 2;puns 3;draw 77;");
        x.read(1, false);
        x.read(2, false);
        x.undo();
        x.later(3);
        x.heard(1, 1, true);
        x.agenda(false);
        x.feed(1, 2, 3, 4, 5);
        // units: (..), minds, (..), 2, (..), sharp, 1
        int[] want = {2, 3, 2, 2, (77 * 137 + 71) % 1000, 1, 1, 1, 3, 20, 7, 2, 12, 2, 3};
        for (int i = 0; i < want.length; i++) T.due("52 about(" + i + ")", x.about(i), want[i]);
        T.due("52 other", x.about(15), -1);
        T.due("52 other", x.about(-1), -1);
        T.due("52 other", x.about(Integer.MIN_VALUE), -1);
    }

    public static void main(String[] args) {
        newObject();
        tape();
        house();
        membersAndClauses();
        winds();
        read();
        oilAndChange();
        undoRedo();
        manyActs();
        wouldBe();
        will();
        agendaAndTones();
        votes();
        two();
        edgeUsherCreak();
        over();
        drops();
        swap();
        quickOnes();
        law();
        until();
        odds();
        hearsay();
        later();
        images();
        about();
        T.close();
    }
}
