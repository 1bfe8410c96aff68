/** The boundaries of what is heard of the last member, and of the time: promises 44 to 49. */
public final class HearsayEdges {
    // Behind the clause he has a third of what he minds: 0 (0 .. 2), 1 (3 .. 5), to 6 (18 .. 20).
    private static final String THIRDS = "member a in minds 0 votes 0;member z out minds 5 votes 0;clause p sharp 0;winds minds/3;cock 30;";

    private final Sentences s;

    public HearsayEdges(Sentences s) {
        this.s = s;
    }

    /** How many fit, in a new house, if that alone is heard. */
    private static int fitsBy(String text, int n, int notches, boolean is) {
        BowHouse x = Houses.told(text);
        x.heard(n, notches, is);
        return x.fits(0);
    }

    private void times() {
        s.terms();
        s.says("HEARD, 30 at most, is TOLD at a TIME (0 at first, goes on), UNTOLD at a later one or the same,");
        BowHouse x = Houses.told(THIRDS);
        s.due("the time at first", x.about(8), 0);
        for (int i = 0; i < 30; i++) s.due("heard " + i, x.heard(1, 9, false), i);
        s.due("30", x.about(7), 30);
        s.due("the 31st", x.heard(1, 9, false), -1);
        s.due("30 still", x.about(7), 30);
        s.due("untold at the same time", x.untell(0), true);
        x.later(1);
        s.due("untold at a later one", x.untell(29), true);
        s.due("the time goes on", x.about(8), 1);

        s.says("As known at k that counts that was TOLD at k or before, not UNTOLD at k or before.");
        BowHouse y = Houses.told(THIRDS);
        y.later(5);
        y.heard(1, 2, true);
        s.due("ahead of it", y.fits(4), 21);
        s.due("at it", y.fits(5), 15);
        s.due("behind it", y.fits(6), 15);
        y.later(4);
        s.due("untold", y.untell(0), true);
        s.due("ahead of all", y.fits(4), 21);
        s.due("told", y.fits(5), 15);
        s.due("the last time it counts", y.fits(8), 15);
        s.due("untold at it", y.fits(9), 21);
        s.due("behind it", y.fits(10), 21);
        y.heard(1, 2, false);
        y.untell(1);
        s.due("told and untold at one time", y.fits(9), 21);
        y.heard(1, 4, false);
        s.due("this alone counts", y.fits(9), 12);
        s.due("the first alone", y.fits(8), 15);
        s.due("the least time", y.fits(Integer.MIN_VALUE), 21);
        s.due("-1", y.fits(-1), 21);
        s.due("the greatest", y.fits(Integer.MAX_VALUE), 12);
        BowHouse z = Houses.told(THIRDS);
        z.heard(1, 2, true);
        s.due("at the first time", z.fits(0), 15);
        s.due("ahead of that", z.fits(-1), 21);
    }

    private void whatIsHeard() {
        s.terms();
        s.says("of the house as it was told (if the last MEMBER was OUT; nothing READ, no puns), but for what the last MEMBER minds, which is not known:");
        BowHouse x = Houses.told("member a in minds 0 votes 0;member z out minds 5 votes 0;clause p sharp 0;clause q sharp 0;winds minds/3*(read=0);cock 30;");
        x.read(1, false);
        x.read(0, false);
        x.change();
        s.due("heard, though he is in now", x.heard(1, 2, true), 0);
        s.due("6 to 20, nothing being read", x.fits(0), 15);
        s.due("what he minds does not matter", fitsBy(THIRDS.replace("minds 5", "minds 0"), 1, 2, true), 15);
        s.due("no puns", fitsBy(THIRDS + "puns 100;", 1, 1, false), 3);
        s.due("the last of two who are out", fitsBy("member a out minds 9 votes 0;" + THIRDS.substring(THIRDS.indexOf("member z")), 1, 2, true), 15);
        BowHouse y = Houses.told("member z out minds 5 votes 0;member a in minds 0 votes 0;clause p sharp 0;winds minds/3;cock 30;");
        y.change();
        s.due("the last was in, though he is out now", y.heard(1, 2, true), -1);

        s.says("that behind the READING of the first n CLAUSES (0 .. 6, as many as there are; plain, in order of their numbers) he had so many NOTCHES at least, or had not.");
        s.due("0 notches behind none", fitsBy(THIRDS, 0, 0, true), 21);
        s.due("1 notch behind none", fitsBy(THIRDS, 0, 1, true), 0);
        s.due("not 1 behind none", fitsBy(THIRDS, 0, 1, false), 21);
        s.due("not 0 behind none", fitsBy(THIRDS, 0, 0, false), 0);
        int[] atLeast = {21, 18, 15, 12, 9, 6, 3, 0};
        for (int notches = 0; notches < 8; notches++) {
            s.due("at least " + notches, fitsBy(THIRDS, 1, notches, true), atLeast[notches]);
            s.due("not " + notches, fitsBy(THIRDS, 1, notches, false), 21 - atLeast[notches]);
            s.due("behind all there are", fitsBy(THIRDS, 6, notches, true), atLeast[notches]);
        }
        String sixth = "member z out minds 5 votes 0;" + Houses.clauses(5, 0) + "clause z sharp 1;winds minds*sharp;cock 30;";
        s.due("five of six", fitsBy(sixth, 5, 1, true), 0);
        s.due("all six", fitsBy(sixth, 6, 1, true), 20);
        s.due("9 at most", fitsBy(sixth, 6, 9, true), 12);
        s.due("no more", fitsBy(sixth, 6, 10, true), 0);
        s.due("plain", fitsBy("member z out minds 5 votes 0;clause p sharp 0;winds minds*falling;", 1, 1, true), 0);
        s.due("plain: 1", fitsBy("member z out minds 5 votes 0;clause p sharp 0;winds 1+falling;", 1, 1, true), 21);
        s.due("plain: not 2", fitsBy("member z out minds 5 votes 0;clause p sharp 0;winds 1+falling;", 1, 2, true), 0);
        s.due("no clauses", fitsBy("member z out minds 5 votes 0;", 6, 0, true), 21);
        String off = "member z out minds 0 votes 0;clause p sharp 0;clause q sharp 0;winds minds;cock 5;";
        s.due("off at 5: 1 to 4", fitsBy(off, 1, 1, true), 4);
        s.due("off, behind two: 1 and 2", fitsBy(off, 2, 1, true), 2);
        s.due("by read and notch", fitsBy("member z out minds 0 votes 0;" + Houses.clauses(2, 0) + "winds (read=0)*minds+(read=1)*notch;cock 30;", 2, 8, true), 17);
    }

    private void fitsAndAsk() {
        s.terms();
        s.says("FITS: what he may mind (0 .. 20) by which all that counts is so.");
        BowHouse x = Houses.told(THIRDS);
        s.due("all", x.fits(0), 21);
        s.due("from 0", x.sure(0, 0), 0);
        s.due("to 20", x.sure(1, 0), 20);
        x.heard(1, 2, true);
        x.heard(1, 3, false);
        s.due("both", x.fits(0), 3);
        s.due("from 6", x.sure(0, 0), 6);
        s.due("to 8", x.sure(1, 0), 8);
        x.heard(1, 3, true);
        s.due("what can't be", x.fits(0), 0);

        s.says("ASK: the n of which to know how many NOTCHES he had behind these would leave the fewest of these at the most; of like ones the least.");
        BowHouse y = Houses.told(THIRDS);
        s.due("behind one", y.ask(0, 0), 1);
        s.due("three", y.ask(1, 0), 3);
        y.heard(1, 6, true);
        s.due("nothing more to be learnt: the least", y.ask(0, 0), 0);
        s.due("three", y.ask(1, 0), 3);
        BowHouse six = Houses.told("member z out minds 5 votes 0;" + Houses.clauses(6, 0) + "winds minds/3;cock 30;");
        s.due("behind one as well as behind two", six.ask(0, 0), 1);
        s.due("three", six.ask(1, 0), 3);
        BowHouse last = Houses.told("member z out minds 5 votes 0;" + Houses.clauses(5, 0) + "clause z sharp 1;winds sharp*minds;cock 30;");
        s.due("behind all six", last.ask(0, 0), 6);
        s.due("9 to 20", last.ask(1, 0), 12);
        // Behind one: 0 to 8 are told apart, 9 to 20 are not. Behind two: 9 to 17, too; 18 to 20 are not.
        BowHouse two = Houses.told("member z out minds 5 votes 0;" + Houses.clauses(2, 0) + "winds (read=0)*minds+(read=1)*(minds>9)*(minds-9);cock 30;");
        s.due("behind two", two.ask(0, 0), 2);
        s.due("18 to 20", two.ask(1, 0), 3);
        BowHouse none = Houses.told("member z out minds 5 votes 0;");
        s.due("no clauses", none.ask(0, 0), 0);
        s.due("all are left", none.ask(1, 0), 21);
    }

    private void hearing() {
        s.promise(44);
        s.says("A HEARD (n 0 .. 6, NOTCHES 0 .. 99): its number;");
        BowHouse x = Houses.told(THIRDS);
        s.due("the first", x.heard(0, 0, true), 0);
        s.due("the second", x.heard(6, 99, false), 1);
        s.due("two", x.about(7), 2);
        s.says("NONE, doing nothing, if one can't be, there are 30, or the last MEMBER was not told as OUT (or there are none).");
        String before = Houses.all(x);
        for (int n : Houses.wrong(7)) s.due("n " + n, x.heard(n, 0, false), -1);
        for (int notches : new int[] {-1, 100, 101, Integer.MIN_VALUE, Integer.MAX_VALUE}) s.due("notches " + notches, x.heard(0, notches, true), -1);
        s.due("nothing done", Houses.all(x), before);
        for (int i = 2; i < 30; i++) x.heard(0, 0, true);
        s.due("30", x.about(7), 30);
        s.due("one more", x.heard(1, 9, true), -1);
        s.due("nothing done", x.fits(0), 21);
        x.untell(3);
        s.due("nor behind an untelling", x.heard(1, 9, true), -1);
        BowHouse y = Houses.told("member z out minds 5 votes 0;member a in minds 0 votes 0;clause p sharp 0;");
        s.due("the last is in", y.heard(0, 0, true), -1);
        s.due("nothing is heard", y.about(7), 0);
        s.due("nobody", new BowHouse().heard(0, 0, true), -1);

        s.promise(45);
        s.says("It is UNTOLD: true;");
        BowHouse z = Houses.told(THIRDS);
        z.heard(1, 2, true);
        z.heard(1, 9, true);
        s.due("none fits", z.fits(0), 0);
        s.due("untell", z.untell(1), true);
        s.due("the first counts", z.fits(0), 15);
        s.says("false if it is so already, or there is none such.");
        s.due("already", z.untell(1), false);
        z.later(3);
        s.due("already", z.untell(1), false);
        s.due("not untold anew", z.fits(0), 15);
        for (int i : Houses.wrong(2)) s.due("heard " + i, z.untell(i), false);
        s.due("the first counts still", z.fits(3), 15);
        s.due("of none", new BowHouse().untell(0), false);
    }

    private void later() {
        s.promise(46);
        s.says("So much later (0 .. 1000): the TIME;");
        BowHouse x = new BowHouse();
        s.due("0", x.later(0), 0);
        s.due("1", x.later(1), 1);
        s.due("1000", x.later(1000), 1001);
        s.due("about", x.about(8), 1001);
        s.says("NONE, doing nothing, for another number, or if it would be above 100,000.");
        for (int by : new int[] {-1, 1001, 1002, Integer.MAX_VALUE, Integer.MIN_VALUE}) s.due("by " + by, x.later(by), -1);
        s.due("nothing done", x.about(8), 1001);
        for (int time = 99999; time <= 100000; time++) {
            BowHouse late = Houses.told(THIRDS);
            for (int i = 0; i < 99; i++) late.later(1000);
            late.later(time - 99000);
            late.heard(1, 2, true);
            s.due("told at " + time, late.fits(time), 15);
            s.due("untold at " + time, late.untell(0), true);
            s.due("already at " + time, late.untell(0), false);
            s.due("counts no more at " + time, late.fits(time), 21);
        }
        for (int i = 0; i < 98; i++) x.later(1000);
        s.due("99,001", x.about(8), 99001);
        s.due("100,001", x.later(1000), -1);
        s.due("nothing done", x.about(8), 99001);
        s.due("100,000", x.later(999), 100000);
        s.due("1 more", x.later(1), -1);
        s.due("0 more", x.later(0), 100000);
        Checks.tell(x, THIRDS);
        x.heard(1, 2, true);
        s.due("told at the last time", x.fits(100000), 15);
        s.due("not ahead of it", x.fits(99999), 21);
        s.due("behind it", x.fits(100001), 15);
        s.due("untold at the last time", x.untell(0), true);
        s.due("already", x.untell(0), false);
        s.due("counts no more", x.fits(100000), 21);
    }

    private void answers() {
        s.promise(47);
        s.says("FITS: how many (0 if the last MEMBER was not told as OUT, or there are none).");
        BowHouse in = Houses.told("member z out minds 5 votes 0;member a in minds 0 votes 0;clause p sharp 0;");
        s.due("the last was in", in.fits(0), 0);
        in.change();
        s.due("as told", in.fits(0), 0);
        s.due("nobody", new BowHouse().fits(0), 0);
        BowHouse x = Houses.told(THIRDS);
        s.due("all", x.fits(0), 21);
        x.change();
        s.due("as told", x.fits(0), 21);

        s.promise(48);
        s.says("The least of FITS (what 0), the greatest (1);");
        x.heard(1, 1, true);
        x.heard(1, 6, false);
        s.due("least", x.sure(0, 0), 3);
        s.due("greatest", x.sure(1, 0), 17);
        BowHouse y = Houses.told("member z out minds 5 votes 0;clause p sharp 0;winds minds=20;cock 30;");
        y.heard(1, 1, true);
        s.due("20", y.sure(0, 0), 20);
        s.due("20", y.sure(1, 0), 20);
        BowHouse z = Houses.told("member z out minds 5 votes 0;clause p sharp 0;winds minds=0;cock 30;");
        z.heard(1, 1, true);
        s.due("0", z.sure(0, 0), 0);
        s.due("0", z.sure(1, 0), 0);
        BowHouse w = Houses.told(THIRDS);
        w.later(7);
        w.heard(1, 2, true);
        w.heard(1, 4, false);
        for (int k = 6; k <= 8; k++) {
            s.due("least at " + k, w.sure(0, k), k < 7 ? 0 : 6);
            s.due("greatest at " + k, w.sure(1, k), k < 7 ? 20 : 11);
        }
        s.says("NONE if none FITS, or for another what.");
        for (int what : Houses.wrong(2)) s.due("what " + what, x.sure(what, 0), -1);
        x.heard(1, 6, true);
        for (int k = 0; k < 2; k++) {
            s.due("none fits", x.sure(k, 0), -1);
            s.due("the last was in", in.sure(k, 0), -1);
            s.due("nobody", new BowHouse().sure(k, 0), -1);
        }

        s.promise(49);
        s.says("ASK what 0: n (0 .. 6), 1: how many are left at the most;");
        BowHouse later = Houses.told(THIRDS);
        later.later(2);
        later.heard(1, 6, true);
        s.due("n as known ahead of it", later.ask(0, 1), 1);
        s.due("left", later.ask(1, 1), 3);
        s.due("n as known at it", later.ask(0, 2), 0);
        s.due("left", later.ask(1, 2), 3);
        s.due("one is left of one", y.ask(1, 0), 1);
        s.due("n", y.ask(0, 0), 0);
        s.due("one is left, 0", z.ask(1, 0), 1);
        s.due("n", z.ask(0, 0), 0);
        s.says("NONE if none FITS, or for another what.");
        for (int what : Houses.wrong(2)) s.due("what " + what, later.ask(what, 0), -1);
        for (int k = 0; k < 2; k++) {
            s.due("none fits", x.ask(k, 0), -1);
            s.due("the last was in", in.ask(k, 0), -1);
            s.due("nobody", new BowHouse().ask(k, 0), -1);
        }
    }

    public void ask() {
        times();
        whatIsHeard();
        fitsAndAsk();
        hearing();
        later();
        answers();
    }
}
