import java.nio.charset.StandardCharsets;

/** The boundaries of a text: its tokens, its limits, its faults; and promises 1 to 5. */
public final class TextEdges {
    private static final String WORDS = "member in out minds votes clause sharp winds cock quota puns draw or and not notch falling read";
    private static final String[][] LINES = {
        {"member", "m", "in", "minds", "1", "votes", "2", ";"},
        {"member", "m", "out", "minds", "1", "votes", "2", ";"},
        {"clause", "c", "sharp", "3", ";"},
        {"winds", "4", ";"},
        {"cock", "5", ";"},
        {"quota", "6", ";"},
        {"puns", "7", ";"},
        {"draw", "8", ";"},
    };

    private final Sentences s;

    public TextEdges(Sentences s) {
        this.s = s;
    }

    private void fault(String text, int which, int place) {
        BowHouse x = new BowHouse();
        int answer = Checks.tell(x, text);
        s.due("house() is refused or not: " + text, answer == -1, which != 0);
        s.due("fault(0) of " + text, x.fault(0), which);
        s.due("fault(1) of " + text, x.fault(1), place);
    }

    private void fine(String text) {
        fault(text, 0, -1);
    }

    private static String joined(String[] tokens, int n) {
        StringBuilder b = new StringBuilder();
        for (int i = 0; i < n; i++) b.append(i == 0 ? "" : " ").append(tokens[i]);
        return b.toString();
    }

    private void formula(String formula, int want) {
        s.due("winds " + formula, Houses.value(formula), want);
    }

    private void lines() {
        s.terms();
        s.says("A HOUSE is a text of at most 1,600 bytes (empty at first): house = {line}.");
        BowHouse x = new BowHouse();
        s.due("members at first", x.about(0), 0);
        s.due("clauses at first", x.about(1), 0);
        s.due("no line at all", Checks.tell(x, ""), 0);
        s.due("1,600 bytes", Checks.tell(x, " ".repeat(1593) + "cock 7;"), 0);
        s.due("to the last byte", x.about(12), 7);
        s.due("1,600 bytes, a word the last", Checks.tell(x, " ".repeat(1596) + "cock"), -1);
        s.due("its place, the end", x.fault(1), 1600);
        s.due("1,600 bytes, a number the last", Checks.tell(x, " ".repeat(1594) + "cock 7"), -1);
        s.due("its place, the end", x.fault(1), 1600);
        s.due("1,600 bytes, the last of which is wrong", Checks.tell(x, " ".repeat(1592) + "cock 7;$"), -1);
        s.due("its place", x.fault(1), 1599);
        s.due("lines in any order, mixed", Checks.tell(x, "draw 1;clause a sharp 1;member a in minds 1 votes 1;puns 1;clause b sharp 1;"
                + "member b in minds 1 votes 1;quota 1;cock 1;winds 1;clause c sharp 1;"), 2);
        s.due("clauses of these", x.about(1), 3);

        s.says("line = member NAME (in | out) minds N votes N ;  |  clause NAME sharp N ;  |  winds e ;  |  cock N ;  |  quota N ;"
                + "  |  puns N ;  |  draw N ;.");
        for (String[] line : LINES) {
            fine(joined(line, line.length));
            for (int k = 1; k < line.length; k++) {
                String head = joined(line, k);
                fault(head, 2, head.length());
                fault(head + " )", 2, head.length() + 1);
                fault(head + " $", 1, head.length() + 1);
            }
        }
        fault(";", 2, 0);
        fault("cock 5;;", 2, 7);
        fault("m", 2, 0);
        fault("member m in out", 2, 12);
        fault("member m or", 2, 9);
    }

    private void grammar() {
        s.terms();
        s.says("e = both {or both}.");
        formula("0", 0);
        formula("0 or 3", 1);
        formula("0 or 0 or 3", 1);
        fault("winds 1 or", 2, 10);
        fault("winds or 1;", 2, 6);
        s.says("both = one {and one}.");
        formula("5", 5);
        formula("5 and 3", 1);
        formula("5 and 3 and 0", 0);
        formula("1 or 0 and 0", 1);
        formula("0 and 0 or 1", 1);
        fault("winds 1 and", 2, 11);
        fault("winds and 1;", 2, 6);
        s.says("one = not one | sum [(< | > | =) sum].");
        formula("not 0", 1);
        formula("not not 0", 0);
        formula("not 1 = 2", 1);
        formula("not 0 and 0", 0);
        formula("3 < 4", 1);
        formula("3 > 4", 0);
        formula("4 = 1 + 3", 1);
        formula("1 + 3 = 4", 1);
        fault("winds 1 < 2 < 3;", 2, 12);
        fault("winds 1 = 2 > 3;", 2, 12);
        fault("winds 1 >", 2, 9);
        fault("winds < 1;", 2, 6);
        fault("winds 1 = not 1;", 2, 10);
        fault("winds not", 2, 9);
        s.says("sum = term {(+ | -) term}.");
        formula("7", 7);
        formula("7 - 3", 4);
        formula("7 - 3 - 2", 2);
        formula("7 - 3 + 2", 6);
        formula("2 + 3 * 2", 8);
        fault("winds 1 +", 2, 9);
        fault("winds + 1;", 2, 6);
        fault("winds - 1;", 2, 6);
        fault("winds 1 + - 1;", 2, 10);
        fault("winds 1 + not 1;", 2, 10);
        s.says("term = unit {(* | / | %) unit}.");
        formula("6", 6);
        formula("8 / 2 / 2", 2);
        formula("8 / 2 * 2", 8);
        formula("9 % 5 * 2", 8);
        formula("9 * 2 % 5", 3);
        fault("winds 1 *", 2, 9);
        fault("winds * 1;", 2, 6);
        fault("winds 2 * - 1;", 2, 10);
        s.says("unit = N | sharp | minds | notch | falling | read | votes | ( e ).");
        formula("0", 0);
        formula("sharp", 7);
        formula("minds", 3);
        formula("notch - 15", 5);
        formula("falling", 0);
        formula("read", 3);
        formula("votes", 2);
        formula("(1 or 0) + 1", 2);
        formula("((4))", 4);
        fault("winds ();", 2, 7);
        fault("winds (1", 2, 8);
        fault("winds (1;", 2, 8);
        fault("winds 1);", 2, 7);
        fault("winds 1 1;", 2, 8);
        fault("winds (1) (1);", 2, 10);
        for (String word : "member clause winds cock quota puns draw in out or and m".split(" ")) fault("winds " + word + ";", 2, 6);
    }

    private static boolean isSign(int b) {
        return b > 32 && b < 127 && ";()<>=+-*/%".indexOf(b) >= 0;
    }

    private void tokens() {
        s.terms();
        s.says("TOKENS: words (a .. z, 8 at most),");
        fine("member a in minds 1 votes 1;member z in minds 1 votes 1;member azazazaz in minds 1 votes 1;");
        fault("member azazazaza in minds 1 votes 1;", 1, 7);
        fault("membermember", 1, 0);
        for (char c : new char[] {'a' - 1, 'z' + 1, 'A', 'Z'}) {
            fault("member " + c + " in", 1, 7);
            fault("member b" + c + " in", 1, 8);
        }
        s.says("N (1 to 4 digits),");
        fine("draw 0;");
        fine("draw 0009;");
        fault("draw 00009;", 1, 5);
        fault("draw ;", 2, 5);
        fault("draw :", 1, 5);
        fault("draw 1:", 1, 6);
        BowHouse x = Houses.told("draw 0998;");
        s.due("four digits, 0 the first", x.about(4), 998);
        formula("9999 - 9990", 9);
        s.says("signs ; ( ) < > = + - * / %;");
        for (int b = 0; b < 256; b++) {
            boolean blank = b == 32 || b == 10;
            boolean token = isSign(b) || b >= '0' && b <= '9' || b >= 'a' && b <= 'z';
            fault("cock 5;" + (char) b, blank ? 0 : token ? 2 : 1, blank ? -1 : 7);
        }
        formula("(1<2)+(2>1)+(3=3)+4*2/2%3-1", 3);
        fault("winds 1<=2;", 2, 8);
        s.says("blanks (32, 10) part them or not;");
        fine("\n \n cock \n\n 5 ; \n");
        fine("cock5;quota6;member a in minds1 votes2;");
        fine("winds(1)and(2)or not(3);");
        fault("cock\t5;", 1, 4);
        fault("cock\r5;", 1, 4);
        fault("cock" + (char) 160 + "5;", 1, 4);
        fault("co ck 5;", 2, 0);
        s.says("each is as long as can be;");
        fault("membera in minds 1 votes 1;", 2, 0);
        fine("member inn in minds 1 votes 1;member notin in minds 1 votes 1;");
        fault("winds sharpx;", 2, 6);
        fault("winds notnot 1;", 2, 6);
        fine("draw 12;");
        fault("draw 1 2;", 2, 7);
        s.says("no letter directly behind an N.");
        fault("member a in minds 1votes 1;", 1, 18);
        fault("winds 1or 1;", 1, 6);
        fine("winds 1 or 1;");
        fine("winds 1\nor 1;");
        fine("winds(1)or 1;");
        fault("member a1 in", 2, 8);
        s.says("Words that stand for themselves here are no NAMES.");
        for (String word : WORDS.split(" ")) {
            fault("member " + word + " in", 2, 7);
            fault("clause " + word + " sharp", 2, 7);
        }
        for (String word : "house line e both one sum term unit bolt reads".split(" ")) {
            fine("member " + word + " in minds 1 votes 1;clause " + word + " sharp 1;");
        }
    }

    /** A line of one number: the least and the most that are taken, and the number if it is not told. */
    private void once(String word, int about, int least, int most, int untold) {
        s.due(word + " untold", Houses.told("").about(about), untold);
        s.due(word + " " + least, Houses.told(word + " " + least + ";").about(about), least);
        s.due(word + " " + most, Houses.told(word + " " + most + ";").about(about), most);
        if (least > 0) fault(word + " " + (least - 1) + ";", 4, word.length() + 1);
        fault(word + " " + (most + 1) + ";", 4, word.length() + 1);
        fault(word + " 9999;", 4, word.length() + 1);
        String line = word + " " + least + ";";
        fault(line + " " + line, 2, line.length() + 1);
        fault(line + word, 2, line.length());
        BowHouse x = Houses.told(line);
        s.due(word + " in the next text", Checks.tell(x, word + " " + most + ";"), 0);
        s.due(word + " of the next text", x.about(about), most);
    }

    private void limits() {
        s.terms();
        s.says("At most 7 MEMBERS (minds 0 .. 9; votes 0 .. 9),");
        String seven = Houses.members(7, "out", 1);
        s.due("7", Checks.tell(new BowHouse(), seven), 7);
        fault(seven + "member h in minds 0 votes 0;", 2, seven.length());
        BowHouse x = Houses.told("member a in minds 0 votes 9;member b in minds 9 votes 0;");
        s.due("minds 0", x.member(0, 1), 0);
        s.due("minds 9", x.member(1, 1), 9);
        s.due("votes 9", x.member(0, 2), 9);
        s.due("votes 0", x.member(1, 2), 0);
        fault("member a in minds 10 votes 0;", 4, 18);
        fault("member a in minds 9 votes 10;", 4, 26);
        s.says("6 CLAUSES (sharp 0 .. 20), numbered as told, each sort by itself;");
        String six = Houses.clauses(6, 20);
        BowHouse y = Houses.told(six);
        s.due("6", y.about(1), 6);
        s.due("sharp 20", y.clause(5, 0), 20);
        fault(six + "clause g sharp 0;", 2, six.length());
        fault("clause a sharp 21;", 4, 15);
        BowHouse z = Houses.told("clause a sharp 0;member a in minds 7 votes 1;clause b sharp 5;member b in minds 8 votes 2;");
        s.due("clause 0", z.clause(0, 0), 0);
        s.due("clause 1", z.clause(1, 0), 5);
        s.due("member 0", z.member(0, 1), 7);
        s.due("member 1", z.member(1, 1), 8);
        s.due("7 and 6 together", Checks.tell(new BowHouse(), seven + six), 7);
        s.says("winds, cock (1 .. 30; 10), quota (0 .. 99; 1), puns (0 .. 100 of 100; 0), draw (0 .. 999; 0) once each;");
        once("cock", 12, 1, 30, 10);
        once("quota", 13, 0, 99, 1);
        once("puns", 14, 0, 100, 0);
        once("draw", 4, 0, 999, 0);
        fault("winds 1;winds 1;", 2, 8);
        fault("winds 1;cock 1;winds", 2, 15);
        s.due("winds in the next text", Checks.tell(Houses.told("winds 1;"), "winds 2;"), 0);
    }

    private void units() {
        s.terms();
        s.says("60 units in all, 30 in one e");
        String thirty = "winds 1" + "+1".repeat(29);
        s.due("30 units", Houses.told(thirty + ";").about(10), 30);
        fault(thirty + "+1;", 2, thirty.length() + 1);
        fault(thirty + "*sharp;", 2, thirty.length() + 1);
        fault(thirty + " or not 1;", 2, thirty.length() + 8);
        String braced = "winds 1" + "+1".repeat(27) + "+(1";
        s.due("30 units, a ( e ) and what is in it among them", Houses.told(braced + ");").about(10), 30);
        fault(braced + "+1);", 2, braced.length() + 1);
        s.due("30 units count, the last one too", Houses.told("member a out minds 0 votes 0;clause p sharp 0;winds 0" + "+0".repeat(28)
                + "+7;").winds(0, 0, false), 7);
        // 7 times not of 0 is 1, of 1 is 0: no formula has more to be done.
        String nots = "not ".repeat(7);
        String longest = "winds " + (nots + "0 and ").repeat(29) + nots;
        s.due("the longest formula of all", Houses.told("member a out minds 0 votes 0;clause p sharp 0;" + longest + "0;").winds(0, 0, false), 1);
        s.due("its last unit", Houses.told("member a out minds 0 votes 0;clause p sharp 0;" + longest + "1;").winds(0, 0, false), 0);
        s.due("no units without winds", Houses.told("cock 5;").about(10), 0);
        s.due("one", Houses.told("winds not not 1;").about(10), 1);
        s.due("signs are no units", Houses.told("winds 1<2 and 3>4 or not 5=6;").about(10), 6);
        s.says("(a unit ( e ), or a one behind not, within 6 others at most).");
        formula("(((((9))))) - 4", 5);
        s.due("7 ( e )", Houses.told("winds (((((((9)))))));").about(10), 8);
        s.due("7 not", Houses.told("winds not not not not not not not 9;").about(10), 1);
        fault("winds ((((((((9))))))));", 2, 13);
        fault("winds not not not not not not not not 9;", 2, 34);
        fine("winds not (not (not (not 9)));");
        fault("winds not (not (not (not (9))));", 2, 25);
        fine("winds (not (not (not (9))));");
        fault("winds (not (not (not (not 9))));", 2, 22);
        fine("winds (((((((1)))))))+(((((((1)))))));");
        for (String sign : "or and < > = + - * / %".split(" ")) {
            fine("winds (((((((1 " + sign + " 1)))))));");
            fault("winds (((((((1 " + sign + " (1))))))));", 2, 16 + sign.length());
        }
        fault("winds (((((((1 and not 1)))))));", 2, 19);
        fine("winds (((((((1)))))) or not not not not not not 1);");
        fault("winds (((((((1)))))) or not not not not not not not 1);", 2, 48);
    }

    private void faults() {
        s.terms();
        s.says("FAULTS, the first by its place (bytes from 0; the end: the text's length), at one place the least:");
        fault("$", 1, 0);
        fault("cock 0;$", 4, 5);
        fault("cock 5 $ cock 0;", 1, 7);
        fault("cock 5;cock 0;", 2, 7);
        fault("cock", 2, 4);
        fault("cock \n ", 2, 7);
        fault("cock 5", 2, 6);
        fault("cock 99999;", 1, 5);
        fault("cock 5 99999;", 1, 7);
        fault("cock 5 99;", 2, 7);
        fault("member abcdefgh in minds 1 votes 1;member abcdefghi in", 1, 42);
        s.says("1 no TOKEN;");
        fault("cock ?;", 1, 5);
        fault("cock 5;" + (char) 0, 1, 7);
        fault("cock 5;" + (char) 255, 1, 7);
        s.says("2 one that can't stand there");
        fault("cock cock;", 2, 5);
        fault("5;", 2, 0);
        s.says("(one of a sort too many or a second time: at the line's first word;");
        String seven = Houses.members(7, "in", 0);
        fault(seven + "  member ma in", 2, seven.length() + 2);
        fault(seven + "member", 2, seven.length());
        String six = Houses.clauses(6, 0);
        fault(six + "\nclause ca sharp 99;", 2, six.length() + 1);
        fault("draw 1; draw 9999;", 2, 8);
        fault("winds 1; winds $;", 2, 9);
        s.says("a unit too many, what is within 7 others: at its first TOKEN, or the not);");
        String thirty = "winds 1" + "+1".repeat(29);
        fault(thirty + "+(1);", 2, thirty.length() + 1);
        fault(thirty + "+$", 1, thirty.length() + 1);
        fault(thirty + "+9999;", 2, thirty.length() + 1);
        fault("winds (((((((not 1)))))));", 2, 13);
        fault("winds (((((((  not 1)))))));", 2, 15);
        fault("winds not not not not not not not  (1);", 2, 35);
        s.says("3 a NAME told already (of its sort);");
        fault("member a in minds 1 votes 1;member b in minds 1 votes 1;member a in", 3, 63);
        fault("member a in minds 1 votes 1;member b in minds 1 votes 1;member b", 3, 63);
        fault("clause a sharp 1;clause b sharp 1;clause a sharp 99;", 3, 41);
        fine("member a in minds 1 votes 1;clause a sharp 1;");
        fine("member a in minds 1 votes 1;member aa in minds 1 votes 1;member aaaaaaaa in minds 1 votes 1;member aaaaaaab in minds 1 votes 1;");
        fault("member abcdefgh in minds 1 votes 1;member abcdefgh", 3, 42);
        fine("clause p sharp 1;clause ap sharp 1;clause pa sharp 1;clause aap sharp 1;clause bpaaaaaa sharp 1;clause apaaaaaa sharp 1;");
        s.due("in the next text", Checks.tell(Houses.told("member a in minds 1 votes 1;"), "member a in minds 1 votes 1;"), 1);
        s.says("4 a number that can't be.");
        fault("cock 0000;", 4, 5);
        fault("quota 100", 4, 6);
        fault("puns 0101;", 4, 5);
        fault("clause a sharp 21 $", 4, 15);
        fault("member a in minds 10 minds", 4, 18);
    }

    /** A text of which the end is cut off again: nothing of that counts. */
    private void cutOff(String text, int n, int which, int place) {
        BowHouse x = new BowHouse();
        int[] five = Checks.fiveNumbers(text.getBytes(StandardCharsets.ISO_8859_1), 0);
        x.feed(five[0], five[1], five[2], five[3], five[4]);
        x.end(n);
        x.house();
        s.due("fault(0) of " + text + " cut to " + n, x.fault(0), which);
        s.due("fault(1) of " + text + " cut to " + n, x.fault(1), place);
    }

    private void tape() {
        s.promise(1);
        s.says("`BowHouse()`: An empty HOUSE (cock 10, quota 1).");
        BowHouse x = new BowHouse();
        int[] want = {0, 0, 0, 0, 0, 0, 0, 0, 0, 0, 0, 0, 10, 1, 0};
        for (int i = 0; i < want.length; i++) s.due("about(" + i + ")", x.about(i), want[i]);
        s.due("outs()", x.outs(), 0);
        s.due("no box is full", x.back(0) + x.back(1) + x.back(2), -3);

        s.promise(2);
        s.says("Twenty bytes come behind those on the TAPE, of each number the highest first: how many there are;");
        s.due("feed", x.feed(0x636f636b, 0x20373b71, 0x756f7461, 0x2038393b, 0x20202020), 20);
        s.due("feed", x.feed(0x70756e73, 0x2036353b, 0x20202020, 0x64726177, 0x20343332), 40);
        s.due("feed", x.feed(0x3b202020, 0x20202020, 0x20202020, 0x20202020, 0x202020ff), 60);
        s.due("end", x.end(59), 59);
        s.due("house", x.house(), 0);
        s.due("cock 7", x.about(12), 7);
        s.due("quota 89", x.about(13), 89);
        s.due("puns 65", x.about(14), 65);
        s.due("draw 432", x.about(4), 432);
        x.feed(-1, -1, -1, -1, -1);
        s.due("255 is no token", x.house(), -1);
        s.due("fault", x.fault(0), 1);
        s.says("NONE, and nothing comes, if there would be more than 1,600.");
        BowHouse y = new BowHouse();
        for (int i = 1; i <= 79; i++) s.due("feed " + i, y.feed(0x20202020, 0x20202020, 0x20202020, 0x20202020, 0x20202020), 20 * i);
        s.due("1,600", y.feed(0x20202020, 0x20202020, 0x20202020, 0x20202020, 0x20202020), 1600);
        s.due("more", y.feed(0x20202020, 0x20202020, 0x20202020, 0x20202020, 0x20202020), -1);
        s.due("still", y.about(9), 1600);
        y.end(1581);
        s.due("1,601", y.feed(0x3b3b3b3b, 0x3b3b3b3b, 0x3b3b3b3b, 0x3b3b3b3b, 0x3b3b3b3b), -1);
        s.due("nothing came", y.about(9), 1581);
        s.due("blanks as before", y.house(), 0);

        s.promise(3);
        s.says("The TAPE has its first n bytes: n;");
        BowHouse z = new BowHouse();
        s.due("0 of 0", z.end(0), 0);
        z.feed(0x636f636b, 0x20373b63, 0x6f636b20, 0x383b2020, 0x20202020);
        s.due("all", z.end(20), 20);
        s.due("7", z.end(7), 7);
        s.due("about(9)", z.about(9), 7);
        s.due("what comes then comes behind", z.feed(0x71756f74, 0x6120393b, 0x20202020, 0x20202020, 0x20202020), 27);
        s.due("house", z.house(), 0);
        s.due("cock 7", z.about(12), 7);
        s.due("quota 9", z.about(13), 9);
        z.feed(0x636f636b, 0x20373b63, 0x6f636b20, 0x383b2020, 0x20202020);
        s.due("none", z.end(0), 0);
        s.due("an empty text", z.house(), 0);
        cutOff("cock 55;", 6, 2, 6);
        cutOff("cock 5a;", 6, 2, 6);
        cutOff("cock 5;quotaquota", 12, 2, 12);
        cutOff("cock 5;abcdefghi", 15, 2, 7);
        cutOff("cock 5;$", 7, 0, -1);
        s.due("cock", z.about(12), 10);
        s.says("NONE, doing nothing, if it has not so many, or n is below 0.");
        z.feed(0x636f636b, 0x20373b63, 0x6f636b20, 0x383b2020, 0x20202020);
        s.due("21 of 20", z.end(21), -1);
        s.due("-1", z.end(-1), -1);
        s.due("the least number", z.end(Integer.MIN_VALUE), -1);
        s.due("the greatest number", z.end(Integer.MAX_VALUE), -1);
        s.due("still", z.about(9), 20);
        z.end(7);
        s.due("what is cut off is gone", z.end(8), -1);
        s.due("still", z.about(9), 7);
        s.due("house", z.house(), 0);
        s.due("cock 7", z.about(12), 7);
        s.due("1 of 0", z.end(1), -1);
    }

    /** Something of all that a house() ends: acts done and undone, heard, lying, boxes, the time. */
    private static BowHouse busy() {
        BowHouse x = Houses.told("member a out minds 3 votes 1;member b out minds 6 votes 2;" + Houses.clauses(3, 3) + "cock 9;quota 2;puns 100;draw 5;");
        x.read(0, false);
        x.image(0);
        x.read(1, true);
        x.oil(1);
        x.undo();
        x.later(4);
        x.heard(1, 2, true);
        x.agenda(false);
        return x;
    }

    private void house() {
        s.promise(4);
        s.says("The TAPE (empty then) is the HOUSE (all as told, nothing READ, no ACTS are kept, nothing is HEARD, nothing lies there,"
                + " BOXES are empty then; the TIME stays): how many MEMBERS;");
        BowHouse x = busy();
        x.image(2);
        s.due("acts, so that none of it is for nothing", x.about(5) * 10 + x.about(6), 21);
        s.due("house", Checks.tell(x, "member z out minds 8 votes 7;clause y sharp 6;draw 44;"), 1);
        int[] want = {1, 1, 0, 0, 44, 0, 0, 0, 4, 0, 0, 0, 10, 1, 0};
        for (int i = 0; i < want.length; i++) s.due("about(" + i + ")", x.about(i), want[i]);
        s.due("undo", x.undo(), false);
        s.due("redo", x.redo(), false);
        for (int box = 0; box < 3; box++) s.due("box " + box, x.back(box), -1);
        s.due("lies", x.lies(0), -2);
        s.due("nothing is heard", x.fits(4), 21);
        s.due("untell", x.untell(0), false);
        s.due("out", x.member(0, 0), 1);
        s.due("minds", x.member(0, 1), 8);
        s.due("votes", x.member(0, 2), 7);
        s.due("notches", x.member(0, 3), 0);
        s.due("sharp", x.clause(0, 0), 6);
        s.due("the default formula is back", x.winds(0, 0, false), 4);
        s.due("an empty text", x.house(), 0);
        s.due("no members", x.about(0), 0);
        s.due("7 members", Checks.tell(x, Houses.members(7, "in", 0)), 7);

        // The text ahead of the last one counts no more than that one.
        String one = "member a out minds 0 votes 0;clause p sharp 9;";
        BowHouse again = Houses.told(one + "member b out minds 9 votes 9;clause q sharp 9;winds not 9;cock 3;quota 4;puns 5;draw 6;");
        Checks.tell(again, one + "winds not not 9;");
        Checks.tell(again, one);
        int[] plain = {1, 1, 0, 0, 0, 0, 0, 0, 0, 0, 0, 0, 10, 1, 0};
        for (int i = 0; i < plain.length; i++) s.due("the third text's about(" + i + ")", again.about(i), plain[i]);
        s.due("the third text's winds", again.winds(0, 0, false), 3);
        Checks.tell(again, one + "winds not 9;");
        Checks.tell(again, one);
        Checks.tell(again, one + "winds 7;");
        s.due("the sixth text's winds", again.winds(0, 0, false), 7);
        Checks.tell(again, "member a in minds 0 votes 0;");
        Checks.tell(again, "member a in minds 0 votes 0;");
        s.due("who is out", again.outs(), 0);
        BowHouse refused = Houses.told(one + "cock 3;");
        Checks.tell(refused, one + "winds 5;member b in minds 1 votes 1;quota 7;puns 8;draw 9;$");
        Checks.tell(refused, one);
        for (int i = 0; i < plain.length; i++) s.due("behind a refused text about(" + i + ")", refused.about(i), plain[i]);
        s.due("behind a refused text winds", refused.winds(0, 0, false), 3);

        s.says("NONE: a FAULT (all stays).");
        BowHouse y = busy();
        String before = Houses.all(y);
        s.due("house", Checks.tell(y, "member q in minds 9 votes 9;clause q sharp 20;cock 3;quota 3;puns 3;draw 3;winds 3;cock"), -1);
        s.due("the tape", y.about(9), 0);
        s.due("all but the fault", Houses.all(y).replace("| 2 83", "| 0 -1"), before);
        s.due("the box", y.image(1), 2);
        s.due("redo", y.redo(), true);
        s.due("back", y.back(0), 1);
        s.due("seed as kept", y.about(4), 756);

        s.promise(5);
        s.says("Of the latest house() what 0: its FAULT (0), 1: its place (NONE).");
        BowHouse z = new BowHouse();
        s.due("none yet", z.fault(0), 0);
        s.due("no place yet", z.fault(1), -1);
        Checks.tell(z, "cock 31;");
        s.due("fault", z.fault(0), 4);
        s.due("place", z.fault(1), 5);
        Checks.tell(z, "!");
        s.due("the latest", z.fault(0), 1);
        s.due("place 0", z.fault(1), 0);
        Checks.tell(z, "cock 30;");
        s.due("none", z.fault(0), 0);
        s.due("no place", z.fault(1), -1);
        s.says("NONE for another what.");
        Checks.tell(z, "cock 31;");
        for (int what : new int[] {-1, 2, Integer.MIN_VALUE, Integer.MAX_VALUE}) s.due("what " + what, z.fault(what), -1);
    }

    public void ask() {
        lines();
        grammar();
        tokens();
        limits();
        units();
        faults();
        tape();
        house();
    }
}
