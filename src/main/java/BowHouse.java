import java.util.Arrays;

/**
 * A House whose Opposition keeps its crossbows strung: members wind at the reading of a clause,
 * go off at full cock, and the clause is carried or lost. The document's promises 1 to 52.
 */
public final class BowHouse {
    public static final int NONE = -1;

    private static final int NOBODY_WINDS = -100;
    private static final int NO_CREAK = -1000;
    private static final int NOTHING_LIES = -2;

    private static final int MOST_BYTES = 1600;
    private static final int MOST_MEMBERS = 7;
    private static final int MOST_CLAUSES = 6;
    private static final int MOST_NOTCHES = 99;
    private static final int MOST_MINDS = 20;
    private static final int MOST_SHARP = 20;
    private static final int MOST_READINGS = 60;
    private static final int MOST_ODDS = 4;
    private static final int MOST_HEARD = 30;
    private static final int MOST_TIME = 100000;
    private static final int MOST_LATER = 1000;
    private static final int ACTS_KEPT = 40;
    private static final int BOXES = 3;
    private static final int MOST_UNITS = 30;
    private static final int DEEPEST = 7;
    // 30 units, 29 signs between them, 7 times "not" ahead of each: no formula has more steps.
    private static final int MOST_STEPS = MOST_UNITS * (2 + DEEPEST);

    // The kinds of TOKENS: a sign's is its own byte, a word's is FIRST_WORD and its place in WORDS.
    private static final int NO_TOKEN = 0;
    private static final int TEXT_END = 1;
    private static final int NUMBER = 2;
    private static final int NAME = 3;
    private static final int FIRST_WORD = 100;
    private static final int MEMBER = 100;
    private static final int CLAUSE = 101;
    private static final int WINDS = 102;
    private static final int COCK = 103;
    private static final int QUOTA = 104;
    private static final int PUNS = 105;
    private static final int DRAW = 106;
    private static final int IN = 107;
    private static final int OUT = 108;
    private static final int OR = 109;
    private static final int AND = 110;
    private static final int NOT = 111;
    private static final int SHARP = 112;
    private static final int MINDS = 113;
    private static final int VOTES = 114;
    private static final int NOTCH = 115;
    private static final int FALLING = 116;
    private static final int READ = 117;
    private static final int WORD_COUNT = 18;
    private static final int WORD_LENGTH = 8;
    private static final int MOST_DIGITS = 4;
    // The five low bits tell the letters apart, so a long holds a word of eight whole.
    private static final int LETTER_BITS = 5;
    private static final int LETTER_MASK = 31;
    private static final String WORDS = "member  clause  winds   cock    quota   puns    draw    in      out     or      and     not     sharp   minds   votes   notch   falling read    ";
    private static final String SIGNS = ";()<>=+-*/%";

    private static final int[] FACTORIALS = {1, 1, 2, 6, 24, 120, 720, 5040};

    private final Parser parser = new Parser();
    private House told = new House();
    // The next text is told into this one, so that a FAULT leaves the other as it is.
    private House draft = new House();
    private final State now = new State();
    private final State trial = new State();
    private final History history = new History();
    private final Agenda orders = new Agenda();
    private final Hearsay hearsay = new Hearsay();
    private final State[] boxes = new State[BOXES];
    private int boxesFilled;
    private final int[] lying = new int[MOST_CLAUSES];
    private int lyingCount;
    private final int[] dropsToStay = new int[MOST_MEMBERS];
    private final int[] dropsToBack = new int[MOST_MEMBERS];

    public BowHouse() {
        for (int i = 0; i < BOXES; i++) {
            boxes[i] = new State();
        }
    }

    public int feed(int a, int b, int c, int d, int e) {
        if (parser.length + 20 > MOST_BYTES) {
            return NONE;
        }
        parser.put(a);
        parser.put(b);
        parser.put(c);
        parser.put(d);
        parser.put(e);
        return parser.length;
    }

    public int end(int n) {
        if (n < 0 || n > parser.length) {
            return NONE;
        }
        parser.length = n;
        return n;
    }

    public int house() {
        draft.clear();
        boolean isTold = parser.tell(draft);
        parser.length = 0;
        if (!isTold) {
            return NONE;
        }
        House old = told;
        told = draft;
        draft = old;
        now.begin(told);
        history.clear();
        hearsay.restart(told);
        boxesFilled = 0;
        lyingCount = 0;
        return told.members;
    }

    public int fault(int what) {
        return what == 0 ? parser.fault : what == 1 ? parser.place : NONE;
    }

    public int member(int member, int what) {
        if (!isMember(member)) {
            return NONE;
        }
        switch (what) {
            case 0: return has(now.out, member) ? 1 : 0;
            case 1: return told.minds[member];
            case 2: return told.votes[member];
            case 3: return now.notches[member];
            default: return NONE;
        }
    }

    public int clause(int clause, int what) {
        if (!isClause(clause)) {
            return NONE;
        }
        switch (what) {
            case 0: return told.sharp[clause];
            case 1: return has(now.read, clause) ? 1 : 0;
            case 2: return has(now.carried, clause) ? 1 : 0;
            default: return NONE;
        }
    }

    public int winds(int member, int clause, boolean falling) {
        if (!isOut(member) || !isClause(clause)) {
            return NOBODY_WINDS;
        }
        return windNow(member, told.sharp[clause], now.notches[member], falling);
    }

    public int read(int clause, boolean falling) {
        if (!isUnread(clause)) {
            return NONE;
        }
        history.keep(now);
        boolean passed = now.sit(told, clause, falling);
        now.drawPun(told);
        return passed ? 1 : 0;
    }

    public int oil(int member) {
        if (!isOut(member) || now.notches[member] <= 0) {
            return NONE;
        }
        history.keep(now);
        now.notches[member]--;
        return now.notches[member];
    }

    public int change() {
        if (told.members == 0) {
            return NONE;
        }
        history.keep(now);
        now.handOver(told);
        return now.out;
    }

    public boolean undo() {
        return history.takeBack(now);
    }

    public boolean redo() {
        return history.doAgain(now);
    }

    public int carries(int clause, boolean falling) {
        if (!isUnread(clause)) {
            return NONE;
        }
        return trialFromNow().sit(told, clause, falling) ? 1 : 0;
    }

    public int shots(int clause, boolean falling) {
        if (!isUnread(clause)) {
            return NONE;
        }
        trialFromNow().sit(told, clause, falling);
        return trial.wentOff;
    }

    public int backers(int clause, boolean falling) {
        if (!isUnread(clause)) {
            return NONE;
        }
        trialFromNow().sit(told, clause, falling);
        return trial.wereFor;
    }

    public int will(int member, int n, int what) {
        if (!isMember(member) || n < 0 || n > MOST_CLAUSES || what < 0 || what > 1) {
            return NONE;
        }
        trialFromNow();
        int left = n;
        for (int clause = 0; clause < told.clauses && left > 0; clause++) {
            if (!has(now.read, clause)) {
                trial.sit(told, clause, false);
                if (what == 1) {
                    trial.drawPun(told);
                }
                left--;
            }
        }
        return trial.notches[member];
    }

    public int agenda(boolean falling) {
        orders.seek(told, now, falling);
        lyingCount = Math.min(told.clauses - Integer.bitCount(now.read), MOST_CLAUSES);
        for (int i = 0; i < lyingCount; i++) {
            lying[i] = orders.best[i];
        }
        return orders.most;
    }

    public int tones(int what) {
        if (what != 0 && what != 1) {
            return NONE;
        }
        int most = NONE;
        int fewest = 0;
        int best = 0;
        // Sets go up, so of like ones the least stays.
        for (int set = 0; set < 1 << told.clauses; set++) {
            if ((set & now.read) == 0) {
                int carried = carriedByTones(set);
                int size = Integer.bitCount(set);
                if (carried > most || carried == most && size < fewest) {
                    most = carried;
                    fewest = size;
                    best = set;
                }
            }
        }
        return what == 0 ? most : best;
    }

    public int lost(boolean falling) {
        trialFromNow();
        for (int clause = 0; clause < told.clauses; clause++) {
            if (!has(now.read, clause) && !trial.sit(told, clause, falling)) {
                return clause;
            }
        }
        return NONE;
    }

    public int tips(int member) {
        return isMember(member) ? told.ordersTipped(member) : NONE;
    }

    public int league(int member, int what) {
        if (!isMember(member) || what < 0 || what > 1) {
            return NONE;
        }
        int set = told.leastLeague(member);
        return set == NONE || what == 1 ? set : Integer.bitCount(set);
    }

    public int disarm(int member, int other, int n) {
        if (!areTwoOut(member, other) || n < 0 || n > MOST_NOTCHES) {
            return NONE;
        }
        int one = now.notches[member];
        int two = now.notches[other];
        int apart = Math.abs(one - two);
        if (apart > n + 1) {
            return NONE;
        }
        // Within 0, a step is only borne where it is the last one and ends at 0 and 0.
        if (n == 0 && one + two > 1) {
            return NONE;
        }
        return one + two;
    }

    public int trust(int member, int other) {
        lyingCount = 0;
        if (!areTwoOut(member, other)) {
            return NONE;
        }
        int rests = 0;
        for (int ways = 0; ways < 4; ways++) {
            int one = ways >> 1;
            int two = ways & 1;
            if (staysWith(one, two, now.notches[other]) && staysWith(two, one, now.notches[member])) {
                if (rests == 0) {
                    lying[0] = one;
                    lying[1] = two;
                    lyingCount = 2;
                }
                rests++;
            }
        }
        return rests;
    }

    public int edge(int clause, boolean falling) {
        if (!isUnread(clause)) {
            return NONE;
        }
        for (int sharp = MOST_SHARP; sharp >= 0; sharp--) {
            if (trialFromNow().sitAs(told, clause, sharp, NONE, falling)) {
                return sharp;
            }
        }
        return NONE;
    }

    public int usher(boolean falling, int what) {
        if (what != 0 && what != 1) {
            return NONE;
        }
        int most = NONE;
        int best = NONE;
        for (int member = 0; member < told.members; member++) {
            if (has(now.out, member)) {
                trialFromNow();
                trial.notches[member] = Math.max(0, trial.notches[member] - 1);
                int carried = trial.sitAll(told, NONE, falling);
                if (carried > most) {
                    most = carried;
                    best = member;
                }
            }
        }
        return what == 0 ? best : most;
    }

    public int creak(int clause, boolean falling) {
        return isClause(clause) ? creakAt(clause, falling) : NO_CREAK;
    }

    public int over() {
        trialFromNow().handOver(told);
        return trial.sitAll(told, NONE, false);
    }

    public int drops(int clause, boolean falling) {
        if (!isUnread(clause) || !countDrops(told.sharp[clause], falling)) {
            return NONE;
        }
        int fewest = NONE;
        for (int set = 0; set < 1 << told.members; set++) {
            if ((set & ~now.out) == 0) {
                int dropped = dropsWith(set);
                if (dropped != NONE && (fewest == NONE || dropped < fewest)) {
                    fewest = dropped;
                }
            }
        }
        return fewest;
    }

    public int swap(boolean falling, int what) {
        int most = trialFromNow().sitAll(told, NONE, falling);
        int first = NONE;
        int second = NONE;
        for (int one = 0; one < told.members; one++) {
            for (int two = one + 1; two < told.members; two++) {
                if (areTwoOut(one, two)) {
                    trialFromNow();
                    trial.notches[one] = now.notches[two];
                    trial.notches[two] = now.notches[one];
                    int carried = trial.sitAll(told, NONE, falling);
                    if (carried > most) {
                        most = carried;
                        first = one;
                        second = two;
                    }
                }
            }
        }
        if (first == NONE) {
            return NONE;
        }
        switch (what) {
            case 0: return first;
            case 1: return second;
            case 2: return most;
            default: return NONE;
        }
    }

    public int tilts(int member) {
        return isMember(member) ? told.setsTilted(member) : NONE;
    }

    public int leagues() {
        return told.countLeagues();
    }

    public int softest() {
        int best = NONE;
        int least = 0;
        for (int clause = 0; clause < told.clauses; clause++) {
            if (!has(now.read, clause)) {
                int noise = creakAt(clause, true);
                if (best == NONE || noise < least) {
                    best = clause;
                    least = noise;
                }
            }
        }
        return best;
    }

    public int outs() {
        return now.out;
    }

    public int loudest() {
        int best = NONE;
        int greatest = 0;
        for (int clause = 0; clause < told.clauses; clause++) {
            if (!has(now.read, clause)) {
                int noise = creakAt(clause, false);
                if (best == NONE || noise > greatest) {
                    best = clause;
                    greatest = noise;
                }
            }
        }
        return best;
    }

    public int tensest() {
        int best = NONE;
        int most = NONE;
        for (int member = 0; member < told.members; member++) {
            if (has(now.out, member) && now.notches[member] > most) {
                most = now.notches[member];
                best = member;
            }
        }
        return best;
    }

    public int strength() {
        return told.votesOf(told.everyone() & ~now.out);
    }

    public int cross() {
        int set = 0;
        for (int member = 0; member < told.members; member++) {
            if (has(now.out, member) && 2 * now.notches[member] >= told.cock) {
                set |= 1 << member;
            }
        }
        return set;
    }

    public int vetoes() {
        int set = 0;
        for (int member = 0; member < told.members; member++) {
            if (told.votesOf(told.everyone() & ~(1 << member)) < told.quota) {
                set |= 1 << member;
            }
        }
        return set;
    }

    public int law(int n) {
        if (n < 0 || n > MOST_MINDS) {
            return NONE;
        }
        return trialFromNow().sitAll(told, n, false);
    }

    public int until(int member, int clause, boolean falling) {
        if (!isOut(member) || !isClause(clause)) {
            return NONE;
        }
        int sharp = told.sharp[clause];
        int minds = told.minds[member];
        int alreadyRead = Integer.bitCount(now.read);
        int notch = now.notches[member];
        for (int i = 0; i < MOST_READINGS; i++) {
            notch += told.windOf(member, sharp, minds, notch, falling ? 1 : 0, alreadyRead + i);
            if (notch >= told.cock) {
                return i + 1;
            }
        }
        return NONE;
    }

    public int odds(int n, int part) {
        if (n < 0 || n > MOST_ODDS || part < 0 || part > 1) {
            return NONE;
        }
        int upper = 1;
        int lower = 1;
        for (int i = 0; i < n; i++) {
            upper *= 100 - told.puns;
            lower *= 100;
        }
        int common = commonDivisor(upper, lower);
        return (part == 0 ? upper : lower) / Math.max(1, common);
    }

    public int lies(int i) {
        return i >= 0 && i < lyingCount ? lying[i] : NOTHING_LIES;
    }

    public int heard(int n, int notches, boolean is) {
        return hearsay.tell(n, notches, is);
    }

    public boolean untell(int heard) {
        return hearsay.takeBack(heard);
    }

    public int later(int by) {
        if (by < 0 || by > MOST_LATER || hearsay.time + by > MOST_TIME) {
            return NONE;
        }
        hearsay.time += by;
        return hearsay.time;
    }

    public int fits(int k) {
        return Integer.bitCount(hearsay.fitting(k));
    }

    public int sure(int what, int k) {
        if (what != 0 && what != 1) {
            return NONE;
        }
        int fitting = hearsay.fitting(k);
        int best = NONE;
        for (int minds = 0; minds <= MOST_MINDS; minds++) {
            if (has(fitting, minds) && (what == 1 || best == NONE)) {
                best = minds;
            }
        }
        return best;
    }

    public int ask(int what, int k) {
        int fitting = hearsay.fitting(k);
        if (fitting == 0 || what < 0 || what > 1) {
            return NONE;
        }
        int best = 0;
        int fewest = hearsay.leftAtMost(0, fitting);
        for (int n = 1; n <= MOST_CLAUSES; n++) {
            int left = hearsay.leftAtMost(n, fitting);
            if (left < fewest) {
                fewest = left;
                best = n;
            }
        }
        return what == 0 ? best : fewest;
    }

    public int image(int box) {
        if (box < 0 || box >= BOXES) {
            return NONE;
        }
        boxes[box].copy(now);
        boxesFilled |= 1 << box;
        return Integer.bitCount(now.read);
    }

    public int back(int box) {
        if (box < 0 || box >= BOXES || !has(boxesFilled, box)) {
            return NONE;
        }
        now.copy(boxes[box]);
        history.clear();
        return Integer.bitCount(now.read);
    }

    public int about(int what) {
        switch (what) {
            case 0: return told.members;
            case 1: return told.clauses;
            case 2: return now.read;
            case 3: return now.carried;
            case 4: return now.seed;
            case 5: return history.done;
            case 6: return history.undone;
            case 7: return hearsay.count;
            case 8: return hearsay.time;
            case 9: return parser.length;
            case 10: return told.formula.units;
            case 11: return lyingCount;
            case 12: return told.cock;
            case 13: return told.quota;
            case 14: return told.puns;
            default: return NONE;
        }
    }

    private boolean isMember(int member) {
        return member >= 0 && member < told.members;
    }

    private boolean isOut(int member) {
        return isMember(member) && has(now.out, member);
    }

    private boolean areTwoOut(int member, int other) {
        return member != other && isOut(member) && isOut(other);
    }

    private boolean isClause(int clause) {
        return clause >= 0 && clause < told.clauses;
    }

    private boolean isUnread(int clause) {
        return isClause(clause) && !has(now.read, clause);
    }

    private State trialFromNow() {
        trial.copy(now);
        return trial;
    }

    private int windNow(int member, int sharp, int notch, boolean falling) {
        int alreadyRead = Integer.bitCount(now.read);
        return told.windOf(member, sharp, told.minds[member], notch, falling ? 1 : 0, alreadyRead);
    }

    private int creakAt(int clause, boolean falling) {
        int sum = 0;
        for (int member = 0; member < told.members; member++) {
            if (has(now.out, member)) {
                sum += windNow(member, told.sharp[clause], now.notches[member], falling);
            }
        }
        return sum;
    }

    private int carriedByTones(int fallingOnes) {
        trialFromNow();
        int carried = 0;
        for (int clause = 0; clause < told.clauses; clause++) {
            if (!has(now.read, clause) && trial.sit(told, clause, has(fallingOnes, clause))) {
                carried++;
            }
        }
        return carried;
    }

    /** Whether one who goes this way has no more by the other way, the other one's way being as it is. */
    private static boolean staysWith(int way, int otherWay, int otherNotches) {
        return gain(1 - way, otherWay, otherNotches) <= gain(way, otherWay, otherNotches);
    }

    private static int gain(int way, int otherWay, int otherNotches) {
        if (way == 1) {
            return otherWay == 1 ? 3 : 3 - otherNotches;
        }
        return otherWay == 1 ? 4 : 0;
    }

    /**
     * For each who is OUT the fewest NOTCHES to let off so that he does not GO OFF, and so that he is
     * FOR it (NONE if by none); false if one GOES OFF whatever is let off. No one's winding depends
     * on another's NOTCHES, so each can be looked at by himself.
     */
    private boolean countDrops(int sharp, boolean falling) {
        for (int member = 0; member < told.members; member++) {
            if (has(now.out, member)) {
                dropsToStay[member] = NONE;
                dropsToBack[member] = NONE;
                for (int notch = now.notches[member]; notch >= 0; notch--) {
                    int dropped = now.notches[member] - notch;
                    int behind = notch + windNow(member, sharp, notch, falling);
                    if (behind < told.cock && dropsToStay[member] == NONE) {
                        dropsToStay[member] = dropped;
                    }
                    if (2 * behind < told.cock && dropsToBack[member] == NONE) {
                        dropsToBack[member] = dropped;
                    }
                }
                if (dropsToStay[member] == NONE) {
                    return false;
                }
            }
        }
        return true;
    }

    /** The fewest NOTCHES by which these, of those who are OUT, are FOR it and it is CARRIED. */
    private int dropsWith(int backing) {
        if (told.votesOf(backing | told.everyone() & ~now.out) < told.quota) {
            return NONE;
        }
        int sum = 0;
        for (int member = 0; member < told.members; member++) {
            if (has(backing, member)) {
                if (dropsToBack[member] == NONE) {
                    return NONE;
                }
                sum += dropsToBack[member];
            } else if (has(now.out, member)) {
                sum += dropsToStay[member];
            }
        }
        return sum;
    }

    private static boolean has(int set, int i) {
        return (set >> i & 1) != 0;
    }

    private static int commonDivisor(int a, int b) {
        int greater = a;
        int lesser = b;
        for (int i = 0; i < 100 && lesser != 0; i++) {
            int rest = greater % lesser;
            greater = lesser;
            lesser = rest;
        }
        return greater;
    }

    /** What winds tells, as steps over a stack: a number is itself, all else less than 0, its TOKEN's kind. */
    private static final class Formula {
        int length;
        int units;
        // What sharp, minds, votes, notch, falling, read are, in this order.
        final int[] given = new int[READ - SHARP + 1];
        private final int[] steps = new int[MOST_STEPS];
        private final int[] stack = new int[MOST_UNITS];

        void clear() {
            length = 0;
            units = 0;
        }

        void addStep(int step) {
            if (length < MOST_STEPS) {
                steps[length] = step;
                length++;
            }
        }

        int value() {
            int top = 0;
            for (int i = 0; i < length; i++) {
                int step = steps[i];
                int kind = -step;
                if (step >= 0 && top < MOST_UNITS) {
                    stack[top] = step;
                    top++;
                } else if (kind >= SHARP && kind <= READ && top < MOST_UNITS) {
                    stack[top] = given[kind - SHARP];
                    top++;
                } else if (kind == NOT && top >= 1) {
                    stack[top - 1] = stack[top - 1] == 0 ? 1 : 0;
                } else if (top >= 2) {
                    top--;
                    stack[top - 1] = joined(kind, stack[top - 1], stack[top]);
                }
            }
            return stack[0];
        }

        private static int joined(int kind, int a, int b) {
            switch (kind) {
                case OR: return a != 0 || b != 0 ? 1 : 0;
                case AND: return a != 0 && b != 0 ? 1 : 0;
                case '<': return a < b ? 1 : 0;
                case '>': return a > b ? 1 : 0;
                case '=': return a == b ? 1 : 0;
                case '+': return a + b;
                case '-': return a - b;
                case '*': return a * b;
                case '/': return b == 0 ? 0 : a / b;
                case '%': return b == 0 ? 0 : a % b;
                default: return 0;
            }
        }
    }

    /** What a text tells, and what follows from that alone. */
    private static final class House {
        int members;
        int out;
        final int[] minds = new int[MOST_MEMBERS];
        final int[] votes = new int[MOST_MEMBERS];
        int clauses;
        final int[] sharp = new int[MOST_CLAUSES];
        int cock;
        int quota;
        int puns;
        int draw;
        final Formula formula = new Formula();

        House() {
            clear();
        }

        void clear() {
            members = 0;
            out = 0;
            clauses = 0;
            cock = 10;
            quota = 1;
            puns = 0;
            draw = 0;
            formula.clear();
        }

        void addMember(boolean isOut, int hisMinds, int hisVotes) {
            if (members < MOST_MEMBERS) {
                out |= isOut ? 1 << members : 0;
                minds[members] = hisMinds;
                votes[members] = hisVotes;
                members++;
            }
        }

        void addClause(int howSharp) {
            if (clauses < MOST_CLAUSES) {
                sharp[clauses] = howSharp;
                clauses++;
            }
        }

        int everyone() {
            return (1 << members) - 1;
        }

        int votesOf(int set) {
            int sum = 0;
            for (int member = 0; member < members; member++) {
                if (has(set, member)) {
                    sum += votes[member];
                }
            }
            return sum;
        }

        /** By how much he winds who has so many NOTCHES: no more is let off than he has. */
        int windOf(int member, int howSharp, int hisMinds, int notch, int falling, int alreadyRead) {
            int wind;
            if (formula.length == 0) {
                wind = (howSharp + hisMinds) / 3 - falling * 2;
            } else {
                formula.given[0] = howSharp;
                formula.given[MINDS - SHARP] = hisMinds;
                formula.given[VOTES - SHARP] = votes[member];
                formula.given[NOTCH - SHARP] = notch;
                formula.given[FALLING - SHARP] = falling;
                formula.given[READ - SHARP] = alreadyRead;
                wind = formula.value();
            }
            return Math.max(Math.max(-9, -notch), Math.min(9, wind));
        }

        /** Whether these have fewer votes than quota tells, and with him, who is not of them, not. */
        private boolean tipsOver(int set, int member) {
            int sum = votesOf(set);
            return !has(set, member) && sum < quota && sum + votes[member] >= quota;
        }

        int ordersTipped(int member) {
            int sum = 0;
            for (int ahead = 0; ahead < 1 << members; ahead++) {
                if (tipsOver(ahead, member)) {
                    int size = Integer.bitCount(ahead);
                    int behind = Math.max(0, members - 1 - size);
                    sum += FACTORIALS[Math.min(size, MOST_MEMBERS)] * FACTORIALS[Math.min(behind, MOST_MEMBERS)];
                }
            }
            return sum;
        }

        int setsTilted(int member) {
            int sum = 0;
            for (int set = 0; set < 1 << members; set++) {
                if (tipsOver(set, member)) {
                    sum++;
                }
            }
            return sum;
        }

        int leastLeague(int member) {
            int best = NONE;
            // Sets go up, so of like ones the least stays.
            for (int set = 0; set < 1 << members; set++) {
                if (has(set, member) && votesOf(set) >= quota
                        && (best == NONE || Integer.bitCount(set) < Integer.bitCount(best))) {
                    best = set;
                }
            }
            return best;
        }

        int countLeagues() {
            int sum = 0;
            for (int set = 0; set < 1 << members; set++) {
                if (votesOf(set) >= quota && needsEach(set)) {
                    sum++;
                }
            }
            return sum;
        }

        private boolean needsEach(int set) {
            for (int member = 0; member < members; member++) {
                if (has(set, member) && votesOf(set & ~(1 << member)) >= quota) {
                    return false;
                }
            }
            return true;
        }
    }

    /** Has the TAPE and tells a House what stands there; of the latest text it knows the first FAULT and its place. */
    private static final class Parser {
        int length;
        int fault;
        int place = NONE;
        private final byte[] tape = new byte[MOST_BYTES];
        private final long[] memberNames = new long[MOST_MEMBERS];
        private final long[] clauseNames = new long[MOST_CLAUSES];
        private int toldOnce;
        // The TOKEN that is looked at: nothing behind it has been looked at yet, so that the first
        // FAULT that is found is the first by its place.
        private int kind;
        private int start;
        private int behind;
        private int number;
        private long name;
        private final long[] wordCodes = new long[WORD_COUNT];

        Parser() {
            for (int i = 0; i < WORD_COUNT * WORD_LENGTH; i++) {
                char letter = WORDS.charAt(i);
                if (letter != ' ') {
                    wordCodes[i / WORD_LENGTH] = wordCodes[i / WORD_LENGTH] << LETTER_BITS | letter & LETTER_MASK;
                }
            }
        }

        void put(int number) {
            for (int shift = 24; shift >= 0 && length < MOST_BYTES; shift -= 8) {
                tape[length] = (byte) (number >>> shift);
                length++;
            }
        }

        boolean tell(House into) {
            fault = 0;
            place = NONE;
            toldOnce = 0;
            behind = 0;
            advance();
            for (int i = 0; i <= MOST_BYTES && fault == 0 && kind != TEXT_END; i++) {
                switch (kind) {
                    case MEMBER: memberLine(into); break;
                    case CLAUSE: clauseLine(into); break;
                    case WINDS: formulaLine(into.formula); break;
                    case COCK: into.cock = numberLine(1, 30); break;
                    case QUOTA: into.quota = numberLine(0, 99); break;
                    case PUNS: into.puns = numberLine(0, 100); break;
                    case DRAW: into.draw = numberLine(0, 999); break;
                    default: refuse(); break;
                }
            }
            return fault == 0;
        }

        private void memberLine(House into) {
            if (into.members >= MOST_MEMBERS) {
                fail(2);
                return;
            }
            advance();
            takeName(memberNames, into.members);
            boolean isOut = kind == OUT;
            take(isOut ? OUT : IN);
            take(MINDS);
            int minds = takeNumber(0, 9);
            take(VOTES);
            int votes = takeNumber(0, 9);
            take(';');
            if (fault == 0) {
                into.addMember(isOut, minds, votes);
            }
        }

        private void clauseLine(House into) {
            if (into.clauses >= MOST_CLAUSES) {
                fail(2);
                return;
            }
            advance();
            takeName(clauseNames, into.clauses);
            take(SHARP);
            int sharp = takeNumber(0, MOST_SHARP);
            take(';');
            if (fault == 0) {
                into.addClause(sharp);
            }
        }

        private int numberLine(int least, int most) {
            takeOnce();
            int told = takeNumber(least, most);
            take(';');
            return told;
        }

        private void formulaLine(Formula into) {
            takeOnce();
            either(into, 0);
            take(';');
        }

        private void either(Formula into, int depth) {
            both(into, depth);
            for (int i = 0; i < MOST_BYTES && fault == 0 && kind == OR; i++) {
                advance();
                both(into, depth);
                into.addStep(-OR);
            }
        }

        private void both(Formula into, int depth) {
            one(into, depth);
            for (int i = 0; i < MOST_BYTES && fault == 0 && kind == AND; i++) {
                advance();
                one(into, depth);
                into.addStep(-AND);
            }
        }

        private void one(Formula into, int depth) {
            if (fault == 0 && kind == NOT) {
                if (depth >= DEEPEST) {
                    fail(2);
                    return;
                }
                advance();
                one(into, depth + 1);
                into.addStep(-NOT);
                return;
            }
            sum(into, depth);
            if (fault == 0 && (kind == '<' || kind == '>' || kind == '=')) {
                int relation = kind;
                advance();
                sum(into, depth);
                into.addStep(-relation);
            }
        }

        private void sum(Formula into, int depth) {
            term(into, depth);
            for (int i = 0; i < MOST_BYTES && fault == 0 && (kind == '+' || kind == '-'); i++) {
                int sign = kind;
                advance();
                term(into, depth);
                into.addStep(-sign);
            }
        }

        private void term(Formula into, int depth) {
            unit(into, depth);
            for (int i = 0; i < MOST_BYTES && fault == 0 && (kind == '*' || kind == '/' || kind == '%'); i++) {
                int sign = kind;
                advance();
                unit(into, depth);
                into.addStep(-sign);
            }
        }

        private void unit(Formula into, int depth) {
            if (fault != 0) {
                return;
            }
            boolean isInput = kind >= SHARP && kind <= READ;
            boolean tooDeep = kind == '(' && depth >= DEEPEST;
            if (kind != NUMBER && kind != '(' && !isInput || tooDeep || into.units >= MOST_UNITS) {
                refuse();
                return;
            }
            into.units++;
            if (kind == '(') {
                advance();
                either(into, depth + 1);
                take(')');
                return;
            }
            into.addStep(isInput ? -kind : number);
            advance();
        }

        /** The first word of a line that stands once at most. */
        private void takeOnce() {
            int bit = 1 << (kind - FIRST_WORD);
            if ((toldOnce & bit) != 0) {
                fail(2);
                return;
            }
            toldOnce |= bit;
            advance();
        }

        private void take(int wanted) {
            if (fault != 0) {
                return;
            }
            if (kind != wanted) {
                refuse();
                return;
            }
            advance();
        }

        private int takeNumber(int least, int most) {
            if (fault != 0) {
                return least;
            }
            if (kind != NUMBER) {
                refuse();
                return least;
            }
            if (number < least || number > most) {
                fail(4);
                return least;
            }
            int told = number;
            advance();
            return told;
        }

        private void takeName(long[] names, int count) {
            if (kind != NAME) {
                refuse();
                return;
            }
            for (int i = 0; i < count && i < names.length; i++) {
                if (names[i] == name) {
                    fail(3);
                    return;
                }
            }
            if (count >= 0 && count < names.length) {
                names[count] = name;
            }
            advance();
        }

        private void refuse() {
            fail(kind == NO_TOKEN ? 1 : 2);
        }

        private void fail(int which) {
            if (fault == 0) {
                fault = which;
                place = start;
            }
        }

        private void advance() {
            start = behind;
            while (start < length && (tape[start] == ' ' || tape[start] == '\n')) {
                start++;
            }
            behind = start;
            if (start >= length) {
                kind = TEXT_END;
            } else if (isLetter(tape[start])) {
                scanWord();
            } else if (isDigit(tape[start])) {
                scanNumber();
            } else {
                char sign = (char) (tape[start] & 255);
                kind = SIGNS.indexOf(sign) >= 0 ? sign : NO_TOKEN;
                behind = start + 1;
            }
        }

        private void scanWord() {
            name = 0;
            while (behind < length && isLetter(tape[behind])) {
                name = name << LETTER_BITS | tape[behind] & LETTER_MASK;
                behind++;
            }
            kind = behind - start > WORD_LENGTH ? NO_TOKEN : NAME;
            for (int word = 0; word < WORD_COUNT && kind == NAME; word++) {
                if (wordCodes[word] == name) {
                    kind = FIRST_WORD + word;
                }
            }
        }

        private void scanNumber() {
            number = 0;
            while (behind < length && isDigit(tape[behind])) {
                number = number * 10 + tape[behind] - '0';
                behind++;
            }
            boolean letterBehind = behind < length && isLetter(tape[behind]);
            kind = behind - start > MOST_DIGITS || letterBehind ? NO_TOKEN : NUMBER;
        }

        private static boolean isLetter(byte sign) {
            return sign >= 'a' && sign <= 'z';
        }

        private static boolean isDigit(byte sign) {
            return sign >= '0' && sign <= '9';
        }
    }

    /** How the House stands: what ACTS change, and what the latest reading brought. */
    private static final class State {
        final int[] notches = new int[MOST_MEMBERS];
        int out;
        int read;
        int carried;
        int seed;
        int wentOff;
        int wereFor;

        void begin(House house) {
            Arrays.fill(notches, 0);
            out = house.out;
            read = 0;
            carried = 0;
            seed = house.draw;
        }

        void copy(State from) {
            System.arraycopy(from.notches, 0, notches, 0, MOST_MEMBERS);
            out = from.out;
            read = from.read;
            carried = from.carried;
            seed = from.seed;
        }

        boolean sit(House house, int clause, boolean falling) {
            return sitAs(house, clause, house.sharp[clause], NONE, falling);
        }

        /** A READING without its draw, as if the CLAUSE were so sharp and all who are OUT minded that (NONE: their own). */
        boolean sitAs(House house, int clause, int sharp, int minds, boolean falling) {
            int alreadyRead = Integer.bitCount(read);
            wentOff = 0;
            wereFor = house.everyone() & ~out;
            for (int member = 0; member < house.members; member++) {
                if (has(out, member)) {
                    int his = minds == NONE ? house.minds[member] : minds;
                    int notch = notches[member];
                    notch += house.windOf(member, sharp, his, notch, falling ? 1 : 0, alreadyRead);
                    if (notch >= house.cock) {
                        wentOff |= 1 << member;
                        notch = 0;
                    } else if (2 * notch < house.cock) {
                        wereFor |= 1 << member;
                    }
                    notches[member] = notch;
                }
            }
            read |= 1 << clause;
            boolean passed = wentOff == 0 && house.votesOf(wereFor) >= house.quota;
            carried |= passed ? 1 << clause : 0;
            return passed;
        }

        /** Reads all that are not READ, in order of their numbers, without puns: how many are CARRIED. */
        int sitAll(House house, int minds, boolean falling) {
            int passed = 0;
            for (int clause = 0; clause < house.clauses; clause++) {
                if (!has(read, clause) && sitAs(house, clause, house.sharp[clause], minds, falling)) {
                    passed++;
                }
            }
            return passed;
        }

        void drawPun(House house) {
            seed = (seed * 137 + 71) % 1000;
            if (seed % 100 < house.puns) {
                for (int member = 0; member < house.members; member++) {
                    if (has(out, member)) {
                        notches[member] = Math.min(MOST_NOTCHES, notches[member] + 1);
                    }
                }
            }
        }

        /** A CHANGE. Who takes a bow was IN and who gives it was OUT, so it can be done in place. */
        void handOver(House house) {
            int giver = 0;
            for (int taker = 0; taker < house.members; taker++) {
                if (!has(out, taker)) {
                    while (giver < house.members && !has(out, giver)) {
                        giver++;
                    }
                    notches[taker] = giver < house.members ? notches[giver] : 0;
                    giver++;
                }
            }
            for (int member = 0; member < house.members; member++) {
                if (has(out, member)) {
                    notches[member] = 0;
                }
            }
            out = house.everyone() & ~out;
        }
    }

    /**
     * The ACTS that are kept. The row of one that is done holds the state ahead of it, the row of one
     * that was taken back the state behind it: so a row and the state of now change places each time.
     */
    private static final class History {
        int done;
        int undone;
        private int oldest;
        private final State[] rows = new State[ACTS_KEPT];
        private final State spare = new State();

        History() {
            for (int i = 0; i < ACTS_KEPT; i++) {
                rows[i] = new State();
            }
        }

        void clear() {
            done = 0;
            undone = 0;
        }

        void keep(State now) {
            undone = 0;
            if (done >= ACTS_KEPT) {
                oldest = (oldest + 1) % ACTS_KEPT;
                done = ACTS_KEPT - 1;
            }
            row(done).copy(now);
            done++;
        }

        boolean takeBack(State now) {
            if (done <= 0) {
                return false;
            }
            done--;
            undone++;
            exchange(now, row(done));
            return true;
        }

        boolean doAgain(State now) {
            if (undone <= 0) {
                return false;
            }
            exchange(now, row(done));
            done++;
            undone--;
            return true;
        }

        private State row(int act) {
            return rows[Math.floorMod(oldest + act, ACTS_KEPT)];
        }

        private void exchange(State a, State b) {
            spare.copy(a);
            a.copy(b);
            b.copy(spare);
        }
    }

    /** The search for the order by which most are CARRIED. */
    private static final class Agenda {
        int most;
        final int[] best = new int[MOST_CLAUSES];
        private final int[] order = new int[MOST_CLAUSES];
        private final State[] stages = new State[MOST_CLAUSES + 1];

        Agenda() {
            for (int i = 0; i <= MOST_CLAUSES; i++) {
                stages[i] = new State();
            }
        }

        void seek(House house, State now, boolean falling) {
            most = NONE;
            stages[0].copy(now);
            goOn(house, 0, 0, falling);
        }

        /** Orders come by their numbers and only a better one is taken, so of like ones the first stays. */
        private void goOn(House house, int depth, int passed, boolean falling) {
            State here = stages[depth];
            int left = house.clauses - Integer.bitCount(here.read);
            if (passed + left <= most) {
                return;
            }
            if (left == 0) {
                most = passed;
                System.arraycopy(order, 0, best, 0, MOST_CLAUSES);
                return;
            }
            for (int clause = 0; clause < house.clauses && depth < MOST_CLAUSES; clause++) {
                if (!has(here.read, clause)) {
                    State next = stages[depth + 1];
                    next.copy(here);
                    order[depth] = clause;
                    int more = next.sit(house, clause, falling) ? 1 : 0;
                    goOn(house, depth + 1, passed + more, falling);
                }
            }
        }
    }

    /** What is HEARD of the last MEMBER, and the TIME. */
    private static final class Hearsay {
        private static final int LENGTHS = MOST_CLAUSES + 1;
        private static final int NEVER = MOST_TIME + 1;

        int count;
        int time;
        private boolean open;
        private final int[] lengths = new int[MOST_HEARD];
        private final int[] bounds = new int[MOST_HEARD];
        private final boolean[] reached = new boolean[MOST_HEARD];
        private final int[] toldAt = new int[MOST_HEARD];
        private final int[] untoldAt = new int[MOST_HEARD];
        // NOTCHES of the last MEMBER by what he may mind, behind 0 .. 6 READINGS.
        private final int[] tracks = new int[(MOST_MINDS + 1) * LENGTHS];

        void restart(House house) {
            count = 0;
            int last = house.members - 1;
            open = last >= 0 && has(house.out, last);
            for (int minds = 0; minds <= MOST_MINDS && open; minds++) {
                track(house, last, minds);
            }
        }

        /** No one's winding depends on another's, so the last MEMBER's bow is followed alone. */
        private void track(House house, int last, int minds) {
            int notch = 0;
            for (int n = 0; n < LENGTHS; n++) {
                tracks[minds * LENGTHS + n] = notch;
                if (n < house.clauses && n < MOST_CLAUSES) {
                    notch += house.windOf(last, house.sharp[n], minds, notch, 0, n);
                    notch = notch >= house.cock ? 0 : notch;
                }
            }
        }

        int tell(int n, int notches, boolean is) {
            boolean canBe = n >= 0 && n <= MOST_CLAUSES && notches >= 0 && notches <= MOST_NOTCHES;
            if (!open || !canBe || count >= MOST_HEARD) {
                return NONE;
            }
            lengths[count] = n;
            bounds[count] = notches;
            reached[count] = is;
            toldAt[count] = time;
            untoldAt[count] = NEVER;
            count++;
            return count - 1;
        }

        boolean takeBack(int which) {
            if (which < 0 || which >= count || untoldAt[which] != NEVER) {
                return false;
            }
            untoldAt[which] = time;
            return true;
        }

        /** What he may mind by all that counts as known at k, as bits. */
        int fitting(int k) {
            int set = 0;
            for (int minds = 0; minds <= MOST_MINDS && open; minds++) {
                if (isBorneOut(minds, k)) {
                    set |= 1 << minds;
                }
            }
            return set;
        }

        private boolean isBorneOut(int minds, int k) {
            for (int i = 0; i < count; i++) {
                boolean counts = toldAt[i] <= k && (untoldAt[i] == NEVER || untoldAt[i] > k);
                boolean atLeast = tracks[minds * LENGTHS + lengths[i]] >= bounds[i];
                if (counts && atLeast != reached[i]) {
                    return false;
                }
            }
            return true;
        }

        /** How many of these are left at the most, once it is known how many NOTCHES he had behind n. */
        int leftAtMost(int n, int fitting) {
            int most = 0;
            for (int minds = 0; minds <= MOST_MINDS; minds++) {
                int alike = 0;
                for (int other = 0; other <= MOST_MINDS; other++) {
                    boolean same = tracks[minds * LENGTHS + n] == tracks[other * LENGTHS + n];
                    if (same && has(fitting, minds) && has(fitting, other)) {
                        alike++;
                    }
                }
                most = Math.max(most, alike);
            }
            return most;
        }
    }
}
