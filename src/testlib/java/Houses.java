/** Houses that the tests of boundaries share, and all that can be seen of one. */
public final class Houses {
    private Houses() { }

    /** A new object with this house: a text with a fault would let tests pass for nothing. */
    public static BowHouse told(String text) {
        BowHouse x = Checks.told(text);
        if (x.fault(0) != 0) throw new IllegalArgumentException("fault " + x.fault(0) + " at " + x.fault(1) + " of " + text);
        return x;
    }

    /** So many members "ma", "mb", ..., all on that side, of so many votes each. */
    public static String members(int n, String side, int votes) {
        StringBuilder b = new StringBuilder();
        for (int i = 0; i < n; i++) {
            b.append("member m").append((char) ('a' + i)).append(' ').append(side).append(" minds 0 votes ").append(votes).append(';');
        }
        return b.toString();
    }

    /** So many clauses "ca", "cb", ..., each so sharp. */
    public static String clauses(int n, int sharp) {
        StringBuilder b = new StringBuilder();
        for (int i = 0; i < n; i++) b.append("clause c").append((char) ('a' + i)).append(" sharp ").append(sharp).append(';');
        return b.toString();
    }

    /**
     * Members who are out, with so many notches each (0 .. 27), three clauses being read and three not; at
     * what is read then they wind by what is told. Cock is 30; a member has a third of his notches as votes.
     */
    public static BowHouse bows(String winds, String more, int... notches) {
        StringBuilder b = new StringBuilder();
        for (int i = 0; i < notches.length; i++) {
            int votes = notches[i] / 3;
            b.append("member m").append((char) ('a' + i)).append(" out minds ").append(notches[i] % 3).append(" votes ").append(votes).append(';');
        }
        b.append(clauses(6, 0)).append("cock 30;winds (read<3)*(votes+(minds>read))+(read>2)*(")
                .append(winds).append(");").append(more);
        BowHouse x = told(b.toString());
        for (int c = 0; c < 3; c++) x.read(c, false);
        return x;
    }

    /** By how much one of 20 notches, 3 clauses being read, winds at a plain clause by this formula. */
    public static int value(String formula) {
        BowHouse x = told("member a out minds 3 votes 2;member b in minds 4 votes 5;clause p sharp 9;clause q sharp 9;clause r sharp 9;"
                + "clause s sharp 7;cock 30;winds (read<2)*9+(read=2)*2+(read=3)*(" + formula + ");");
        for (int c = 0; c < 3; c++) x.read(c, false);
        return x.winds(0, 3, false);
    }

    /** Numbers that are no number of anything of which there are n. */
    public static int[] wrong(int n) {
        return new int[] {-1, n, n + 1, 31, 32, 33, 64, Integer.MAX_VALUE, Integer.MIN_VALUE, Integer.MIN_VALUE + 1};
    }

    /** All that can be seen without doing anything (some 110 calls). */
    public static String all(BowHouse x) {
        StringBuilder b = new StringBuilder();
        for (int i = 0; i < 15; i++) b.append(x.about(i)).append(' ');
        b.append("| ").append(x.fault(0)).append(' ').append(x.fault(1));
        for (int i = 0; i < x.about(0); i++) {
            b.append(" | ");
            for (int k = 0; k < 4; k++) b.append(x.member(i, k)).append(' ');
        }
        for (int c = 0; c < x.about(1); c++) {
            b.append(" | ");
            for (int k = 0; k < 3; k++) b.append(x.clause(c, k)).append(' ');
            b.append(x.creak(c, false)).append(' ').append(x.creak(c, true));
        }
        b.append(" | ");
        for (int i = 0; i < 7; i++) b.append(x.lies(i)).append(' ');
        b.append("| ").append(x.fits(x.about(8))).append(' ').append(x.fits(0));
        return b.toString();
    }
}
