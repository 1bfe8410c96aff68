/** The FAULTS of a text and their places. */
public final class FaultTest {
    private static final Checks T = new Checks();
    private static final String[] LETTERS = {"a", "b", "c", "d", "e", "f", "g"};

    private static void fault(String text, int which, int place) {
        BowHouse x = new BowHouse();
        int members = Checks.tell(x, text);
        T.due("fault of " + text, x.fault(0), which);
        T.due("place of " + text, x.fault(1), place);
        T.due("house of " + text, members == -1, which != 0);
    }

    private static void fine(String text) {
        fault(text, 0, -1);
    }

    private static String times(String part, int n) {
        StringBuilder b = new StringBuilder();
        for (int i = 0; i < n; i++) b.append(part);
        return b.toString();
    }

    private static void tokens() {
        fault("$", 1, 0);
        fault("cock 5\t;", 1, 6);
        fault("cock 5;\r", 1, 7);
        fault("Cock 5;", 1, 0);
        fault("cock 5;" + (char) 0, 1, 7);
        fault("cock 5;" + (char) 233, 1, 7);
        fault("cock 5;_", 1, 7);
        fine(" \n cock\n5 ; ");
        fine("cock5;quota6;");
        fine("cock 0005;");
        fault("cock 00005;", 1, 5);
        fault("cock 5a;", 1, 5);
        fault("cock 5cock", 1, 5);
        fault("memberx y in", 2, 0);
        fault("membership", 1, 0);
        fine("member abcdefgh in minds 0 votes 0;");
        fault("member abcdefghi in minds 0 votes 0;", 1, 7);
        fault("member abcdefgh1 in", 2, 15);
        fault("winds 12345;", 1, 6);
        fine("winds 9999;");
        fault("winds 1<=2;", 2, 8);
        fault("winds sharpminds;", 1, 6);
        fault("winds sharpx;", 2, 6);
        fault("winds 1 or1;", 0, -1);
        fault("winds 1or 1;", 1, 6);
    }

    private static void places() {
        fine("");
        fine("  \n ");
        fault(";", 2, 0);
        fault("5", 2, 0);
        fault("cock", 2, 4);
        fault("cock  ", 2, 6);
        fault("cock 5", 2, 6);
        fault("cock 5 \n", 2, 8);
        fault("cock 5 5;", 2, 7);
        fault("cock five;", 2, 5);
        fault("cock ;", 2, 5);
        fault("cock -5;", 2, 5);
        fault("member 5", 2, 7);
        fault("member minds", 2, 7);
        fault("member a", 2, 8);
        fault("member a not", 2, 9);
        fault("member a in votes", 2, 12);
        fault("member a in minds x", 2, 18);
        fault("member a in minds 5;", 2, 19);
        fault("member a in minds 5 votes;", 2, 25);
        fault("member a in minds 5 votes 5 clause", 2, 28);
        fault("clause a minds", 2, 9);
        fault("clause a sharp;", 2, 14);
        fault("clause sharp sharp 5;", 2, 7);
        fault("house", 2, 0);
        fine("member house in minds 0 votes 0;member one out minds 0 votes 0;clause sum sharp 0;clause e sharp 0;");
        for (String word : new String[] {"member", "in", "out", "minds", "votes", "clause", "sharp", "winds", "cock", "quota", "puns",
            "draw", "or", "and", "not", "notch", "falling", "read"}) {
            fault("member " + word + " in", 2, 7);
            fault("clause " + word + " sharp", 2, 7);
        }
    }

    /** What was fed and cut off again is no part of the text. */
    private static void cut(String text, int length, int which, int place) {
        BowHouse x = new BowHouse();
        byte[] bytes = text.getBytes(java.nio.charset.StandardCharsets.ISO_8859_1);
        int[] f = Checks.fiveNumbers(bytes, 0);
        x.feed(f[0], f[1], f[2], f[3], f[4]);
        x.end(length);
        x.house();
        T.due("fault of " + text + " cut", x.fault(0), which);
        T.due("place of " + text + " cut", x.fault(1), place);
    }

    private static void cutTexts() {
        cut("cock 55", 6, 2, 6);
        cut("cock 5a", 6, 2, 6);
        cut("cock 5;", 3, 2, 0);
        cut("cock 5;cockcockco", 7, 0, -1);
        cut("quota 1;abcdefghij", 11, 2, 8);
    }

    private static void numbers() {
        fine("member a in minds 0 votes 0;member b out minds 9 votes 9;clause p sharp 0;clause q sharp 20;cock 1;quota 0;puns 0;draw 0;");
        fine("cock 30;quota 99;puns 100;draw 999;");
        fault("member a in minds 10 $", 4, 18);
        fault("member a in minds 9 votes 10;", 4, 26);
        fault("clause a sharp 21;", 4, 15);
        fault("cock 0;", 4, 5);
        fault("cock 31;", 4, 5);
        fault("quota 100;", 4, 6);
        fault("puns 101;", 4, 5);
        fault("draw 1000;", 4, 5);
        fault("draw 9999$", 4, 5);
    }

    private static void names() {
        fault("member a in minds 0 votes 0;member a", 3, 35);
        fine("member a in minds 0 votes 0;clause a sharp 0;");
        fault("clause a sharp 0;clause b sharp 0;clause a sharp 0;", 3, 41);
        fine("clause a sharp 0;clause aa sharp 0;clause b sharp 0;clause ab sharp 0;clause ba sharp 0;");
        fine("member abcdefgh in minds 0 votes 0;member abcdefgi in minds 0 votes 0;member bbcdefgh in minds 0 votes 0;");
        fault("member abcdefgh in minds 0 votes 0;member abcdefgh", 3, 42);
    }

    private static void tooMany() {
        StringBuilder members = new StringBuilder();
        StringBuilder clauses = new StringBuilder();
        for (int i = 0; i < 7; i++) members.append("member ").append(LETTERS[i]).append(" in minds 0 votes 0;");
        for (int i = 0; i < 6; i++) clauses.append("clause ").append(LETTERS[i]).append(" sharp 0;");
        fine(members.toString() + clauses);
        fault(members + "member", 2, members.length());
        fault(members + " member a", 2, members.length() + 1);
        fault(clauses + "clause", 2, clauses.length());
        fault("cock 5;cock", 2, 7);
        fault("quota 5;quota", 2, 8);
        fault("puns 5;puns", 2, 7);
        fault("draw 5;draw", 2, 7);
        fault("winds 5;winds", 2, 8);
        fault("cock 5;quota 5;puns 5;draw 5;winds 5;cock", 2, 37);
    }

    private static void formulas() {
        fault("winds", 2, 5);
        fault("winds;", 2, 5);
        fault("winds -1;", 2, 6);
        fault("winds 1+;", 2, 8);
        fault("winds 1 1;", 2, 8);
        fault("winds (1;", 2, 8);
        fault("winds 1);", 2, 7);
        fault("winds ();", 2, 7);
        fault("winds 1<2<3;", 2, 9);
        fault("winds 1=2>3;", 2, 9);
        fine("winds (1<2)<3;");
        fault("winds 1+not 2;", 2, 8);
        fine("winds 1+(not 2);");
        fault("winds 1<not 2;", 2, 8);
        fine("winds not 1<2 and not 3 or not not 4;");
        fault("winds not;", 2, 9);
        fault("winds 1 and;", 2, 11);
        fault("winds 1 or and 2;", 2, 11);
        fault("winds out;", 2, 6);
        fault("winds x;", 2, 6);
        // within 6 others at most
        fine("winds (((((((1)))))));");
        fault("winds ((((((((1))))))));", 2, 13);
        fine("winds " + times("not ", 7) + "1;");
        fault("winds " + times("not ", 8) + "1;", 2, 34);
        fine("winds (not (not (not (1))));");
        fault("winds (not (not (not (not 1))));", 2, 22);
        fault("winds ((((((not not 1))))));", 2, 16);
        fault("winds not not not not not not not (1);", 2, 34);
        fine("winds (((((((1)))))))+(((((((1)))))));");
        fine("winds not not not not not not not 1 and not not not not not not not 1;");
        // 30 units at most; what stands in ( ) is a unit, and so is what ( ) make of it
        fine("winds 1" + times("+1", 29) + ";");
        fault("winds 1" + times("+1", 30) + ";", 2, 66);
        fault("winds 1" + times("+1", 29) + "+$", 1, 66);
        fault("winds 1" + times("+1", 29) + "+;", 2, 66);
        fault("winds 1" + times("+1", 28) + "+(1)", 2, 65);
        fine("winds 1" + times("+1", 27) + "+(1);");
        fault("winds 1" + times("+1", 29) + "+(", 2, 66);
        fine("winds " + times("not not not not not not not 1 and ", 29) + "not not not not not not not 1;");
    }

    public static void main(String[] args) {
        tokens();
        places();
        cutTexts();
        numbers();
        names();
        tooMany();
        formulas();
        T.close();
    }
}
