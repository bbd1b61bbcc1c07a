// Three to send on: a match by periods, a bench of three, and what each change is worth.
// The promises are numbered in ../shared/DOC.md; README.md tells how the parts hang together.
public final class ThreeToSend {
    public static final int NONE = -1;

    private static final int NEVER = -2;
    private static final int NOT_LOGGED = -1000;
    private static final int TOO_FAR = -2;
    private static final int TOO_FEW = -2;
    private static final long FARTHEST = 2000000000L;
    private static final long NO_PACE = -1000000000000000000L;
    private static final int SEEDS = 65536;

    private final Squad squad;
    private final Tape tape;
    private final Odds odds;
    private final Reader reader;
    private final Best bench;
    private final Walk walk;
    private final Log log;
    private final Season weeks;
    private int x;

    public ThreeToSend() {
        squad = new Squad();
        tape = new Tape();
        odds = new Odds(squad);
        reader = new Reader(tape.bytes);
        bench = new Best(squad, odds);
        walk = new Walk(squad, odds);
        log = new Log(squad);
        weeks = new Season(squad);
        x = 1;
    }

    public boolean match(int n, int changes, int once) {
        if (n < 1 || n > Squad.MOST_PERIODS || changes < 0 || changes > 3 || once < 1 || once > 2) {
            return false;
        }
        squad.periods = n;
        squad.changes = changes;
        squad.once = once;
        log.length = 0;
        forgetMatch();
        return true;
    }

    public boolean player(int i, int back, int front, int legs, int loss) {
        if (!isPlayer(i) || !isDigit(back) || !isDigit(front)) {
            return false;
        }
        if (legs < 0 || legs > 2 || loss < 0 || loss > 2) {
            return false;
        }
        squad.setPlayer(i, back, front, legs, loss);
        log.length = 0;
        forgetMatch();
        weeks.forget();
        return true;
    }

    public boolean pair(int x, int y, int much) {
        if (!isPlayer(x) || !isPlayer(y) || x == y || !isDigit(much)) {
            return false;
        }
        squad.setPair(x, y, much);
        forgetMatch();
        weeks.forget();
        return true;
    }

    public boolean worth(int won, int drawn, int lost) {
        if (won < 0 || won > 1000 || drawn < 0 || drawn > 1000 || lost < 0 || lost > 1000) {
            return false;
        }
        squad.won = won;
        squad.drawn = drawn;
        squad.lost = lost;
        forgetMatch();
        return true;
    }

    public int feed(int a, int b, int c, int d, int e) {
        if (tape.length + 20 > Tape.MOST) {
            return NONE;
        }
        tape.write(a);
        tape.write(b);
        tape.write(c);
        tape.write(d);
        tape.write(e);
        return tape.length;
    }

    public int law(int n) {
        return readText(Odds.LAW, n, "gah");
    }

    public int other(int k, int n) {
        return isOther(k) ? readText(Odds.OTHER + k, n, "o") : NONE;
    }

    public int rule(int k, int n) {
        return isRule(k) ? readText(Odds.RULE + k, n, "c") : NONE;
    }

    public int may(int period, int code, int action) {
        if (!isState(period, 0, code) || !isAction(action)) {
            return NONE;
        }
        return Squad.mayBe(code, action, squad.changes, squad.once) ? 1 : 0;
    }

    public int after(int period, int code, int action) {
        return isLegal(period, 0, code, action) ? squad.codeAfter(code, action) : NONE;
    }

    public int chance(int period, int score, int code, int action, int other, int what) {
        if (!isLegal(period, score, code, action) || !isOther(other) || what < 0 || what > 4) {
            return NONE;
        }
        int strong = odds.strongOf(other, period, score);
        int then = squad.codeAfter(code, action);
        int shares = odds.shares(period, score, then, Squad.changesOf(action), strong, squad.changes, 0);
        return Odds.shareOf(shares, what == 4 ? Squad.NOTHING : what + 1);
    }

    public long best(int period, int score, int code, int other, int what) {
        if (!isOther(other) || what < 0 || what > 1) {
            return -1;
        }
        if (isEnd(period, score, code)) {
            return what == 0 ? squad.worthOf(score) : NONE;
        }
        if (!isState(period, score, code)) {
            return -1;
        }
        bench.against(other);
        return what == 0 ? bench.valueOf(period, score, code) : bench.actionOf(period, score, code);
    }

    public long by(int k, int period, int score, int code, int other, int what) {
        if (!isRule(k) || !odds.isTold(Odds.RULE + k) || !isOther(other) || what < 0 || what > 3) {
            return -1;
        }
        if (!isState(period, score, code) && !isEnd(period, score, code)) {
            return -1;
        }
        walk.from(k, period, score, code, other);
        return what == 0 ? walk.value() : walk.likely(what - 1);
    }

    public int says(int k, int period, int score, int code, int other) {
        if (!isRule(k) || !odds.isTold(Odds.RULE + k) || !isState(period, score, code) || !isOther(other)) {
            return NONE;
        }
        return odds.ruleAction(k, period, score, code, odds.strongOf(other, period, score));
    }

    public int edge(int score, int other) {
        if (!isScore(score) || !isOther(other)) {
            return NONE;
        }
        bench.against(other);
        for (int period = 0; period < squad.periods; period++) {
            if (bench.actionOf(period, score, Squad.FIRST_CODE) != 0) {
                return period;
            }
        }
        return NEVER;
    }

    public long kept(int other) {
        if (!isOther(other) || squad.changes == 0) {
            return -1;
        }
        int most = squad.changes;
        return bench.first(other, most, squad.once, 0) - bench.first(other, most - 1, squad.once, 0);
    }

    public long together(int other) {
        if (!isOther(other)) {
            return -1;
        }
        return bench.first(other, squad.changes, 2, 0) - bench.first(other, squad.changes, 1, 0);
    }

    public long slower(int other) {
        if (!isOther(other)) {
            return NO_PACE;
        }
        int most = squad.changes;
        return bench.first(other, most, squad.once, 1) - bench.first(other, most, squad.once, 0);
    }

    public long game(int what) {
        if (what < 0 || what > 3) {
            return -1;
        }
        return what < 2 ? gameLow(what) : gameHigh(what - 2);
    }

    public long mixed(int i, int j, int x, int y, int what) {
        if (!isTwo(i, j, Odds.RULE, Odds.RULES) || !isTwo(x, y, Odds.OTHER, Odds.OTHERS)) {
            return -1;
        }
        if (what < 0 || what > 2) {
            return -1;
        }
        return mixedOf(walk.first(i, x), walk.first(i, y), walk.first(j, x), walk.first(j, y), what);
    }

    public int happens(int action, int what) {
        if (!isAction(action) || what < 0 || what > 4) {
            return NONE;
        }
        return log.tell(action, what) ? log.length : NONE;
    }

    public int undo() {
        if (log.length == 0) {
            return NONE;
        }
        log.length--;
        return log.length;
    }

    public int logged(int i, int what) {
        if (i < 0 || i > log.length || what < 0 || what > 3) {
            return NOT_LOGGED;
        }
        switch (what) {
            case 0: return log.codeBehind(i);
            case 1: return log.scoreBehind(i);
            case 2: return i == 0 ? NONE : log.actionIn(i - 1);
            default: return i == 0 ? NONE : log.eventIn(i - 1);
        }
    }

    public long wrong(int period, int other) {
        if (period < 0 || period >= log.length || !isOther(other)) {
            return -1;
        }
        bench.against(other);
        return wrongIn(period);
    }

    public long worst(int other, int what) {
        if (log.length == 0 || !isOther(other) || what < 0 || what > 1) {
            return -1;
        }
        bench.against(other);
        int worstPeriod = 0;
        long most = wrongIn(0);
        for (int period = 1; period < log.length; period++) {
            long much = wrongIn(period);
            if (much > most) {
                most = much;
                worstPeriod = period;
            }
        }
        return what == 0 ? worstPeriod : most;
    }

    public boolean seed(int x) {
        if (x < 0 || x >= SEEDS) {
            return false;
        }
        this.x = x;
        return true;
    }

    public int draw(int k, int other) {
        if (!isRule(k) || !odds.isTold(Odds.RULE + k) || !isOther(other)) {
            return NOT_LOGGED;
        }
        log.length = 0;
        for (int period = 0; period < squad.periods; period++) {
            drawPeriod(k, other, period);
        }
        return log.scoreBehind(log.length);
    }

    public boolean fresh(int i, int much) {
        if (!isPlayer(i) || much < 0 || much > 3) {
            return false;
        }
        squad.setFreshness(i, much);
        return true;
    }

    public int season(int weeks, int what) {
        if (weeks < 1 || weeks > Season.MOST_WEEKS || what < NONE || what >= weeks) {
            return NONE;
        }
        return what == NONE ? this.weeks.planWorth(weeks) : this.weeks.planRow(weeks, what);
    }

    public int check(int n) {
        if (n < 0 || n > Tape.MOST / 8 || 8 * n > tape.length) {
            return TOO_FEW;
        }
        int place = NONE;
        for (int i = 0; i < 2 * n && place == NONE; i++) {
            if (!log.isBehind(i / 2 + 1, i % 2, tape.numberAt(4 * i))) {
                place = i;
            }
        }
        if (place == NONE && n < log.length) {
            place = 2 * n;
        }
        tape.length = 0;
        return place;
    }

    public int count(int what) {
        switch (what) {
            case 0: return squad.periods;
            case 1: return squad.changes;
            case 2: return squad.once;
            case 3: return x;
            case 4: return odds.clausesOf(Odds.LAW);
            case 5: return tape.length;
            case 6: return log.length;
            default: break;
        }
        if (what >= 10 && isOther(what - 10)) {
            return odds.clausesOf(Odds.OTHER + what - 10);
        }
        if (what >= 20 && isRule(what - 20)) {
            return odds.clausesOf(Odds.RULE + what - 20);
        }
        return what >= 30 && isPlayer(what - 30) ? squad.legsAtFirst(what - 30) : NONE;
    }

    private static boolean isPlayer(int i) {
        return i >= 0 && i < Squad.PLAYERS;
    }

    private static boolean isDigit(int much) {
        return much >= 0 && much <= 9;
    }

    private static boolean isOther(int k) {
        return k >= 0 && k < Odds.OTHERS;
    }

    private static boolean isRule(int k) {
        return k >= 0 && k < Odds.RULES;
    }

    private static boolean isScore(int score) {
        return score >= -2 && score <= 2;
    }

    private static boolean isAction(int action) {
        return action >= 0 && action < Squad.ACTION_NUMBERS;
    }

    private boolean isState(int period, int score, int code) {
        return period >= 0 && period < squad.periods && isScore(score) && squad.isCode(code);
    }

    // Behind the last PERIOD: a VALUE is told there, but there is no break.
    private boolean isEnd(int period, int score, int code) {
        return period == squad.periods && isScore(score) && squad.isCode(code);
    }

    private boolean isLegal(int period, int score, int code, int action) {
        return isState(period, score, code) && isAction(action)
                && Squad.mayBe(code, action, squad.changes, squad.once);
    }

    // Two different texts of one kind, both told.
    private boolean isTwo(int one, int two, int kind, int many) {
        if (one < 0 || one >= many || two < 0 || two >= many || one == two) {
            return false;
        }
        return odds.isTold(kind + one) && odds.isTold(kind + two);
    }

    private void forgetMatch() {
        bench.forget();
        walk.forget();
    }

    private int readText(int slot, int n, String heads) {
        if (n < 1 || n > Text.MOST_BYTES || n > tape.length) {
            return NONE;
        }
        int answer = reader.read(n, heads);
        tape.length = 0;
        if (answer > 0) {
            reader.text = odds.tell(slot, reader.text);
            walk.forget();
            if (slot < Odds.RULE) {
                bench.forget();
            }
        }
        return answer;
    }

    private long gameLow(int what) {
        long low = -1;
        int lowRule = -1;
        for (int k = 0; k < Odds.RULES; k++) {
            long least = -1;
            for (int other = 0; other < Odds.OTHERS; other++) {
                long value = isMet(k, other) ? walk.first(k, other) : -1;
                least = value >= 0 && (least < 0 || value < least) ? value : least;
            }
            if (least > low) {
                low = least;
                lowRule = k;
            }
        }
        return what == 0 ? low : lowRule;
    }

    private long gameHigh(int what) {
        long high = -1;
        int highOther = -1;
        for (int other = 0; other < Odds.OTHERS; other++) {
            long most = -1;
            for (int k = 0; k < Odds.RULES; k++) {
                most = isMet(k, other) ? Math.max(most, walk.first(k, other)) : most;
            }
            if (most >= 0 && (high < 0 || most < high)) {
                high = most;
                highOther = other;
            }
        }
        return what == 0 ? high : highOther;
    }

    private boolean isMet(int k, int other) {
        return odds.isTold(Odds.RULE + k) && odds.isTold(Odds.OTHER + other);
    }

    // A and b are of the one rule, c and d of the other one.
    private static long mixedOf(long a, long b, long c, long d, int what) {
        long least = Math.min(Math.min(a, b), Math.min(c, d));
        long most = Math.max(Math.max(a, b), Math.max(c, d));
        if (most - least > FARTHEST) {
            return TOO_FAR;
        }
        long low = Math.max(Math.min(a, b), Math.min(c, d));
        long high = Math.min(Math.max(a, c), Math.max(b, d));
        if (what == 0) {
            return low;
        }
        long below = a + d - b - c;
        if (low == high || below == 0) {
            return what == 1 ? 0 : 1;
        }
        // All less LOW, so that the products stay within 64 bits.
        long above = (a - low) * (d - low) - (b - low) * (c - low);
        long both = greatestDivisor(Math.abs(above), Math.abs(below));
        if (both < 1) {
            return what == 1 ? 0 : 1;
        }
        return what == 1 ? Math.abs(above) / both : Math.abs(below) / both;
    }

    private static long greatestDivisor(long a, long b) {
        long one = a;
        long two = b;
        // Two steps halve the greater one at least: 64 bits are through long before 200.
        for (int turn = 0; turn < 200 && two != 0; turn++) {
            long rest = one % two;
            one = two;
            two = rest;
        }
        return one;
    }

    private long wrongIn(int period) {
        int score = log.scoreBehind(period);
        int code = log.codeBehind(period);
        long lost = bench.valueOf(period, score, code) - bench.valueBy(period, score, code, log.actionIn(period));
        for (int i = 0; i < period; i++) {
            lost *= 100;
        }
        return lost;
    }

    private void drawPeriod(int k, int other, int period) {
        int score = log.scoreBehind(period);
        int code = log.codeBehind(period);
        int strong = odds.strongOf(other, period, score);
        int action = odds.ruleAction(k, period, score, code, strong);
        int then = squad.codeAfter(code, action);
        int shares = odds.shares(period, score, then, Squad.changesOf(action), strong, squad.changes, 0);
        x = (25173 * x + 13849) % SEEDS;
        int left = x % 100;
        int event = Squad.NOTHING;
        for (int i = Squad.GOAL; i <= Squad.HURT + 1 && event == Squad.NOTHING; i++) {
            int share = Odds.shareOf(shares, i);
            if (left < share) {
                event = i;
            }
            left -= share;
        }
        log.tell(action, event);
    }

    // Rows of numbers, touched only where they are.
    private static final class Rows {
        static int at(int[] row, int i) {
            return row != null && i >= 0 && i < row.length ? row[i] : 0;
        }

        static void put(int[] row, int i, int value) {
            if (row != null && i >= 0 && i < row.length) {
                row[i] = value;
            }
        }

        static long longAt(long[] row, int i) {
            return row != null && i >= 0 && i < row.length ? row[i] : 0;
        }

        static void putLong(long[] row, int i, long value) {
            if (row != null && i >= 0 && i < row.length) {
                row[i] = value;
            }
        }

        static void clear(long[] row) {
            if (row == null) {
                return;
            }
            for (int i = 0; i < row.length; i++) {
                row[i] = 0;
            }
        }
    }

    // Bytes that wait to be read, and numbers of four of them.
    private static final class Tape {
        static final int MOST = 220;

        int length;
        final int[] bytes;

        Tape() {
            bytes = new int[MOST];
        }

        void write(int word) {
            for (int shift = 24; shift >= 0; shift -= 8) {
                Rows.put(bytes, length, word >> shift & 255);
                length++;
            }
        }

        int byteAt(int i) {
            return Rows.at(bytes, i);
        }

        int numberAt(int i) {
            return byteAt(i) << 24 | byteAt(i + 1) << 16 | byteAt(i + 2) << 8 | byteAt(i + 3);
        }
    }

    // The terms of the match, the five players, and what a CODE says of them.
    private static final class Squad {
        static final int PLAYERS = 5;
        static final int MOST_PERIODS = 5;
        static final int FIRST_CODE = 3000;
        static final int ACTION_NUMBERS = 49;
        static final int NOTHING = 0;
        static final int GOAL = 1;
        static final int LET_IN = 2;
        // That one at PLACE 1 is hurt is the next number.
        static final int HURT = 3;
        private static final int OFF = 7;

        int periods;
        int changes;
        int once;
        int won;
        int drawn;
        int lost;
        private final int[] good;
        private final int[] legs;
        private final int[] loss;
        private final int[] pairs;
        private final int[] freshness;

        Squad() {
            periods = 4;
            changes = 3;
            once = 2;
            won = 3;
            drawn = 1;
            good = new int[2 * PLAYERS];
            legs = new int[PLAYERS];
            loss = new int[PLAYERS];
            pairs = new int[PLAYERS * PLAYERS];
            freshness = new int[] {3, 3, 3, 3, 3};
        }

        void setPlayer(int i, int back, int front, int legsThen, int lossThen) {
            Rows.put(good, 2 * i, back);
            Rows.put(good, 2 * i + 1, front);
            Rows.put(legs, i, legsThen);
            Rows.put(loss, i, lossThen);
        }

        void setPair(int one, int two, int much) {
            Rows.put(pairs, PLAYERS * one + two, much);
            Rows.put(pairs, PLAYERS * two + one, much);
        }

        void setFreshness(int i, int much) {
            Rows.put(freshness, i, much);
        }

        int goodAt(int player, int place) {
            return Rows.at(good, 2 * player + place);
        }

        int legsAtFirst(int player) {
            return Rows.at(legs, player);
        }

        int pairOf(int one, int two) {
            return Rows.at(pairs, PLAYERS * one + two);
        }

        int freshnessOf(int player) {
            return Rows.at(freshness, player);
        }

        int worthOf(int score) {
            return score > 0 ? won : score < 0 ? lost : drawn;
        }

        static int scoreBehind(int score, int event) {
            if (event == GOAL) {
                return Math.min(2, score + 1);
            }
            return event == LET_IN ? Math.max(-2, score - 1) : score;
        }

        // Of PLAYERS 2 to 4 alone.
        static int digit(int code, int player) {
            return player == 2 ? code % 10 : player == 3 ? code / 10 % 10 : code / 100 % 10;
        }

        private static int unit(int player) {
            return player == 2 ? 1 : player == 3 ? 10 : 100;
        }

        private static boolean isOn(int digit) {
            return digit >= 1 && digit < OFF;
        }

        static int whoIsAt(int code, int place) {
            if ((code / 1000 & place + 1) != 0) {
                return place;
            }
            for (int player = 2; player < PLAYERS; player++) {
                int digit = digit(code, player);
                if (isOn(digit) && (digit - 1) / 3 == place) {
                    return player;
                }
            }
            return NONE;
        }

        private static int howManyAt(int code, int place) {
            int many = (code / 1000 & place + 1) != 0 ? 1 : 0;
            for (int player = 2; player < PLAYERS; player++) {
                int digit = digit(code, player);
                many += isOn(digit) && (digit - 1) / 3 == place ? 1 : 0;
            }
            return many;
        }

        static int changesMade(int code) {
            int made = 0;
            for (int player = 2; player < PLAYERS; player++) {
                made += digit(code, player) != 0 ? 1 : 0;
            }
            return made;
        }

        // A CODE that can be at all, whatever CHANGES the match has.
        static boolean isWellFormed(int code) {
            if (code < 0 || code > 3777) {
                return false;
            }
            for (int player = 2; player < PLAYERS; player++) {
                if (digit(code, player) > OFF) {
                    return false;
                }
            }
            return howManyAt(code, 0) <= 1 && howManyAt(code, 1) <= 1;
        }

        boolean isCode(int code) {
            return isWellFormed(code) && changesMade(code) <= changes;
        }

        private static int lossOf(int lossThen, int pace) {
            return Math.max(0, lossThen - pace);
        }

        int legsOf(int player, int period, int code, int pace) {
            if (player < 2) {
                return Math.max(0, Rows.at(legs, player) - period * lossOf(Rows.at(loss, player), pace));
            }
            int digit = digit(code, player);
            return isOn(digit) ? (digit - 1) % 3 : 0;
        }

        private static int playerOf(int change) {
            return 2 + (change - 1) / 2;
        }

        private static int placeOf(int change) {
            return (change - 1) % 2;
        }

        static int changesOf(int action) {
            return (action % 7 != 0 ? 1 : 0) + (action / 7 != 0 ? 1 : 0);
        }

        static boolean mayBe(int code, int action, int most, int atOnce) {
            if (action < 0 || action >= ACTION_NUMBERS) {
                return false;
            }
            int one = action % 7;
            int two = action / 7;
            int these = changesOf(action);
            if (these > atOnce || changesMade(code) + these > most) {
                return false;
            }
            if (two != 0 && (one == 0 || playerOf(one) >= playerOf(two) || placeOf(one) == placeOf(two))) {
                return false;
            }
            return isWaiting(code, one) && isWaiting(code, two);
        }

        private static boolean isWaiting(int code, int change) {
            return change == 0 || digit(code, playerOf(change)) == 0;
        }

        int codeAfter(int code, int action) {
            return sendOn(sendOn(code, action % 7), action / 7);
        }

        private int sendOn(int code, int change) {
            if (change <= 0) {
                return code;
            }
            int player = playerOf(change);
            int place = placeOf(change);
            int rest = takeOff(code, whoIsAt(code, place));
            return rest + unit(player) * (1 + 3 * place + legsAtFirst(player));
        }

        private static int takeOff(int code, int player) {
            if (player < 0) {
                return code;
            }
            if (player < 2) {
                return code - 1000 * (player + 1);
            }
            return code + unit(player) * (OFF - digit(code, player));
        }

        // What a PERIOD leaves of the CODE behind its ACTION.
        int codeBehind(int code, int event, int pace) {
            int rest = event >= HURT ? takeOff(code, whoIsAt(code, event - HURT)) : code;
            for (int player = 2; player < PLAYERS; player++) {
                int digit = digit(rest, player);
                if (isOn(digit)) {
                    rest -= unit(player) * Math.min((digit - 1) % 3, lossOf(Rows.at(loss, player), pace));
                }
            }
            return rest;
        }
    }

    // A TEXT as it is reckoned: numbers and letters first, then what is done with them.
    private static final class Text {
        static final int MOST_BYTES = 200;
        static final int MOST_CLAUSES = 14;
        static final int NUMBER = 0;
        static final int LETTER = 1;
        static final int PLUS = 2;
        static final int MINUS = 3;
        static final int TIMES = 4;
        static final int DIVIDED = 5;
        static final int REST = 6;
        static final int LESS = 7;
        static final int MORE = 8;
        static final int LIKE = 9;
        static final int NOT = 10;
        // These two leap over what no longer matters.
        static final int AND = 11;
        static final int OR = 12;

        int clauses;
        private int length;
        // No byte makes more than one step.
        final int[] steps;
        private final int[] heads;
        private final int[] sums;
        private final int[] conditions;
        private final int[] ends;

        Text() {
            steps = new int[MOST_BYTES];
            heads = new int[MOST_CLAUSES];
            sums = new int[MOST_CLAUSES];
            conditions = new int[MOST_CLAUSES];
            ends = new int[MOST_CLAUSES];
        }

        void empty() {
            clauses = 0;
            length = 0;
        }

        void beginClause(int head) {
            Rows.put(heads, clauses, head);
            Rows.put(sums, clauses, length);
        }

        void beginCondition() {
            Rows.put(conditions, clauses, length);
        }

        void endClause() {
            Rows.put(ends, clauses, length);
            clauses++;
        }

        int add(int kind, int number) {
            Rows.put(steps, length, kind | number << 4);
            length++;
            return length - 1;
        }

        // The leap at a step goes to what comes next.
        void landHere(int step) {
            Rows.put(steps, step, Rows.at(steps, step) & 15 | length << 4);
        }

        int headOf(int clause) {
            return Rows.at(heads, clause);
        }

        int sumOf(int clause) {
            return Rows.at(sums, clause);
        }

        int conditionOf(int clause) {
            return Rows.at(conditions, clause);
        }

        int endOf(int clause) {
            return Rows.at(ends, clause);
        }
    }

    // Reads a TEXT from the tape, from the left, up to its first fault.
    private static final class Reader {
        static final String LETTERS = "tnsbflmexuqoypkj";
        private static final String DIGITS = "0123456789";
        private static final int STRANGE = 1;
        private static final int SIXTH_DIGIT = 2;
        private static final int FIFTEENTH = 4;
        private static final int TOO_DEEP = 5;
        private static final int DEEPEST = 6;
        private static final int THE_END = -1;
        private static final int AT_FAULT = -2;

        // What is read goes here, so that a TEXT with a FAULT leaves the one before as it was.
        Text text;
        private final int[] bytes;
        private String heads;
        private int end;
        private int at;
        // Behind a fault no sign fits any more, so that all who read come back at once.
        private int sign;
        private int open;
        private int fault;

        Reader(int[] bytes) {
            this.bytes = bytes;
            text = new Text();
            heads = "";
        }

        // How many CLAUSES, or the FAULT as the face tells it.
        int read(int n, String headLetters) {
            heads = headLetters;
            text.empty();
            end = n;
            open = 0;
            fault = 0;
            at = -1;
            move();
            clause();
            for (int turn = 0; turn < end && sign >= 0; turn++) {
                expect(';');
                clause();
            }
            return fault != 0 ? -1000 * fault - at : text.clauses;
        }

        private void move() {
            at++;
            sign = at >= 0 && at < end && at < bytes.length ? bytes[at] : THE_END;
        }

        private void fail(int number) {
            if (fault == 0) {
                fault = number;
                sign = AT_FAULT;
            }
        }

        private boolean isOneOf(String signs) {
            return sign >= 0 && signs.indexOf((char) sign) >= 0;
        }

        private void expect(int due) {
            if (sign == due) {
                move();
            } else {
                fail(STRANGE);
            }
        }

        private void enter() {
            if (open >= DEEPEST) {
                fail(TOO_DEEP);
            } else {
                open++;
                move();
            }
        }

        private void clause() {
            if (!isOneOf(heads)) {
                fail(STRANGE);
            } else if (text.clauses >= Text.MOST_CLAUSES) {
                fail(FIFTEENTH);
            } else {
                text.beginClause(sign);
                move();
                sum();
                text.beginCondition();
                inRound();
                text.endClause();
            }
        }

        private void inRound() {
            if (sign == '(') {
                enter();
                parts();
                expect(')');
                open--;
            } else {
                fail(STRANGE);
            }
        }

        private void parts() {
            part();
            for (int turn = 0; turn < end && sign == '|'; turn++) {
                move();
                int leap = text.add(Text.OR, 0);
                part();
                text.landHere(leap);
            }
        }

        private void part() {
            piece();
            for (int turn = 0; turn < end && sign == '&'; turn++) {
                move();
                int leap = text.add(Text.AND, 0);
                piece();
                text.landHere(leap);
            }
        }

        private void piece() {
            if (sign == '(') {
                inRound();
                return;
            }
            if (sign == '!') {
                enter();
                piece();
                text.add(Text.NOT, 0);
                open--;
                return;
            }
            sum();
            int kind = sign == '<' ? Text.LESS : sign == '>' ? Text.MORE : Text.LIKE;
            if (!isOneOf("<>=")) {
                fail(STRANGE);
                return;
            }
            move();
            sum();
            text.add(kind, 0);
        }

        private void sum() {
            term();
            for (int turn = 0; turn < end && isOneOf("+-"); turn++) {
                int kind = sign == '+' ? Text.PLUS : Text.MINUS;
                move();
                term();
                text.add(kind, 0);
            }
        }

        private void term() {
            factor();
            for (int turn = 0; turn < end && isOneOf("*/%"); turn++) {
                int kind = sign == '*' ? Text.TIMES : sign == '/' ? Text.DIVIDED : Text.REST;
                move();
                factor();
                text.add(kind, 0);
            }
        }

        private void factor() {
            if (sign == '[') {
                enter();
                sum();
                expect(']');
                open--;
            } else if (isOneOf(DIGITS)) {
                text.add(Text.NUMBER, number());
            } else if (isOneOf(LETTERS)) {
                text.add(Text.LETTER, LETTERS.indexOf((char) sign));
                move();
            } else {
                fail(STRANGE);
            }
        }

        private int number() {
            int value = 0;
            for (int digits = 0; digits < 6 && isOneOf(DIGITS); digits++) {
                if (digits == 5) {
                    fail(SIXTH_DIGIT);
                } else {
                    value = 10 * value + sign - '0';
                    move();
                }
            }
            return value;
        }
    }

    // Reckons TEXTS by what the letters are just now.
    private static final class Reckoner {
        private final int[] letters;
        // Six that are open leave some twenty numbers waiting at most.
        private final int[] stack;
        private int height;
        private boolean refused;

        Reckoner() {
            letters = new int[16];
            stack = new int[40];
        }

        void set(int letter, int value) {
            if (letter >= 0 && letter < letters.length) {
                letters[letter] = value;
            }
        }

        // E of the first CLAUSE of a letter whose C holds; 0 if there is none.
        int ask(Text text, int head) {
            if (text == null) {
                return 0;
            }
            for (int i = 0; i < text.clauses; i++) {
                if (text.headOf(i) == head && run(text, text.conditionOf(i), text.endOf(i)) != 0) {
                    return run(text, text.sumOf(i), text.conditionOf(i));
                }
            }
            return 0;
        }

        // What is REFUSED is 0: a C that does not hold, an E of 0.
        private int run(Text text, int from, int to) {
            height = 0;
            refused = false;
            for (int i = from; i < to && !refused; i++) {
                int step = Rows.at(text.steps, i);
                int kind = step & 15;
                int number = step >> 4;
                if (kind == Text.NUMBER) {
                    push(number);
                } else if (kind == Text.LETTER) {
                    push(Rows.at(letters, number));
                } else if (kind == Text.NOT) {
                    push(1 - pop());
                } else if (kind == Text.AND || kind == Text.OR) {
                    int held = pop();
                    if (held == 0 == (kind == Text.AND)) {
                        push(held);
                        i = Math.max(i, number - 1);
                    }
                } else {
                    int right = pop();
                    push(both(kind, pop(), right));
                }
            }
            return refused ? 0 : pop();
        }

        private void push(int value) {
            if (height >= 0 && height < stack.length) {
                stack[height] = value;
                height++;
            }
        }

        private int pop() {
            if (height <= 0 || height > stack.length) {
                return 0;
            }
            height--;
            return stack[height];
        }

        private int both(int kind, int left, int right) {
            switch (kind) {
                case Text.PLUS: return left + right;
                case Text.MINUS: return left - right;
                case Text.TIMES: return left * right;
                case Text.LESS: return left < right ? 1 : 0;
                case Text.MORE: return left > right ? 1 : 0;
                case Text.LIKE: return left == right ? 1 : 0;
                default: break;
            }
            if (right == 0) {
                refused = true;
                return 0;
            }
            return kind == Text.DIVIDED ? left / right : left % right;
        }
    }

    // What THE LAW, the OTHERS and the RULES say of a STATE.
    private static final class Odds {
        static final int LAW = 0;
        static final int OTHER = 1;
        static final int OTHERS = 3;
        static final int RULE = 4;
        static final int RULES = 4;
        // The letters by their places in Reader.LETTERS.
        private static final int T = 0;
        private static final int N = 1;
        private static final int S = 2;
        private static final int B = 3;
        private static final int F = 4;
        private static final int L = 5;
        private static final int M = 6;
        private static final int E = 7;
        private static final int X = 8;
        private static final int U = 9;
        private static final int Q = 10;
        private static final int O = 11;
        private static final int Y = 12;
        private static final int P = 13;
        private static final int K = 14;
        private static final int J = 15;

        private final Squad squad;
        private final Reckoner reckoner;
        private final Text[] texts;

        Odds(Squad squad) {
            this.squad = squad;
            reckoner = new Reckoner();
            texts = new Text[RULE + RULES];
            for (int i = 0; i < texts.length; i++) {
                texts[i] = new Text();
            }
        }

        private Text textAt(int slot) {
            return slot >= 0 && slot < texts.length ? texts[slot] : null;
        }

        // The TEXT that stood there before, to be written over.
        Text tell(int slot, Text text) {
            Text before = textAt(slot);
            if (before == null) {
                return text;
            }
            texts[slot] = text;
            return before;
        }

        int clausesOf(int slot) {
            Text text = textAt(slot);
            return text == null ? 0 : text.clauses;
        }

        boolean isTold(int slot) {
            return clausesOf(slot) > 0;
        }

        // All others are 0 then.
        private void setMoment(int period, int score) {
            for (int letter = B; letter <= J; letter++) {
                reckoner.set(letter, 0);
            }
            reckoner.set(T, period);
            reckoner.set(N, squad.periods);
            reckoner.set(S, score);
        }

        private void setPlaces(int period, int code, int pace) {
            int back = Squad.whoIsAt(code, 0);
            int front = Squad.whoIsAt(code, 1);
            if (back >= 0) {
                reckoner.set(B, squad.goodAt(back, 0));
                reckoner.set(L, squad.legsOf(back, period, code, pace));
            }
            if (front >= 0) {
                reckoner.set(F, squad.goodAt(front, 1));
                reckoner.set(M, squad.legsOf(front, period, code, pace));
            }
            reckoner.set(E, (back < 0 ? 1 : 0) + (front < 0 ? 1 : 0));
            reckoner.set(Q, back < 0 || front < 0 ? 0 : squad.pairOf(back, front));
        }

        int strongOf(int other, int period, int score) {
            setMoment(period, score);
            return within(reckoner.ask(textAt(OTHER + other), 'o'), 99);
        }

        int ruleAction(int k, int period, int score, int code, int strong) {
            setMoment(period, score);
            setPlaces(period, code, 0);
            reckoner.set(U, squad.changes - Squad.changesMade(code));
            reckoner.set(O, strong);
            int action = reckoner.ask(textAt(RULE + k), 'c');
            return Squad.mayBe(code, action, squad.changes, squad.once) ? action : 0;
        }

        // Hundredths of a goal, of one let in and of both hurts, seven bits each, by the CODE behind the ACTION.
        int shares(int period, int score, int code, int made, int strong, int most, int pace) {
            setMoment(period, score);
            setPlaces(period, code, pace);
            reckoner.set(X, made);
            reckoner.set(U, most - Squad.changesMade(code));
            reckoner.set(O, strong);
            reckoner.set(Y, pace);
            Text law = textAt(LAW);
            int goal = within(reckoner.ask(law, 'g'), 100);
            int letIn = within(reckoner.ask(law, 'a'), 100 - goal);
            int shares = goal | letIn << 7;
            int left = 100 - goal - letIn;
            for (int place = 0; place < 2; place++) {
                int who = Squad.whoIsAt(code, place);
                if (who >= 0) {
                    reckoner.set(P, place);
                    reckoner.set(K, who);
                    reckoner.set(J, squad.legsOf(who, period, code, pace));
                    int hurt = within(reckoner.ask(law, 'h'), left);
                    left -= hurt;
                    shares |= hurt << 14 + 7 * place;
                }
            }
            return shares;
        }

        static int shareOf(int shares, int event) {
            if (event != Squad.NOTHING) {
                return shares >> 7 * (event - 1) & 127;
            }
            return 100 - (shares & 127) - (shares >> 7 & 127) - (shares >> 14 & 127) - (shares >> 21 & 127);
        }

        private static int within(int value, int most) {
            return value < 0 ? 0 : value > most ? most : value;
        }
    }

    // BEST, kept by STATES for one OTHER, one C, one M and one PACE at a time.
    private static final class Best {
        // CODES that can be at all; with OCTAL numbers of them a row of ranks finds each.
        private static final int CODES = 284;
        private static final int OCTAL = 2048;
        private static final int SCORES = 5;
        private static final int[] ACTIONS = {0, 1, 2, 3, 4, 5, 6, 23, 29, 37, 39, 43, 45};

        private final Squad squad;
        private final Odds odds;
        private final int[] ranks;
        // 64 times the VALUE, and 1 more than the ACTION; 0: not reckoned yet.
        private final long[] memo;
        // 1 more than VALUES of the first STATE; 0: not reckoned yet.
        private final long[] firsts;
        private int key;
        private int other;
        private int most;
        private int atOnce;
        private int pace;

        Best(Squad squad, Odds odds) {
            this.squad = squad;
            this.odds = odds;
            ranks = new int[OCTAL];
            memo = new long[Squad.MOST_PERIODS * SCORES * CODES];
            firsts = new long[48];
            key = NONE;
            int rank = 0;
            for (int i = 0; i < OCTAL; i++) {
                ranks[i] = rank;
                int code = 1000 * (i >> 9) + 100 * (i >> 6 & 7) + 10 * (i >> 3 & 7) + (i & 7);
                rank += Squad.isWellFormed(code) ? 1 : 0;
            }
        }

        void forget() {
            key = NONE;
            Rows.clear(firsts);
        }

        void against(int otherThen) {
            tune(otherThen, squad.changes, squad.once, 0);
        }

        private static int keyOf(int otherThen, int mostThen, int atOnceThen, int paceThen) {
            return otherThen + 3 * (mostThen + 4 * (atOnceThen - 1 + 2 * paceThen));
        }

        private void tune(int otherThen, int mostThen, int atOnceThen, int paceThen) {
            int keyThen = keyOf(otherThen, mostThen, atOnceThen, paceThen);
            if (keyThen == key) {
                return;
            }
            key = keyThen;
            other = otherThen;
            most = mostThen;
            atOnce = atOnceThen;
            pace = paceThen;
            Rows.clear(memo);
        }

        long first(int otherThen, int mostThen, int atOnceThen, int paceThen) {
            int keyThen = keyOf(otherThen, mostThen, atOnceThen, paceThen);
            long held = Rows.longAt(firsts, keyThen);
            if (held == 0) {
                tune(otherThen, mostThen, atOnceThen, paceThen);
                held = (held(0, 0, Squad.FIRST_CODE) >> 6) + 1;
                Rows.putLong(firsts, keyThen, held);
            }
            return held - 1;
        }

        long valueOf(int period, int score, int code) {
            return held(period, score, code) >> 6;
        }

        int actionOf(int period, int score, int code) {
            return (int) (held(period, score, code) & 63) - 1;
        }

        // With one ACTION now, and BEST behind it.
        long valueBy(int period, int score, int code, int action) {
            return sumOf(period, score, code, action, odds.strongOf(other, period, score));
        }

        private int slotOf(int period, int score, int code) {
            int octal = code / 1000 << 9 | code / 100 % 10 << 6 | code / 10 % 10 << 3 | code % 10;
            return (period * SCORES + score + 2) * CODES + Rows.at(ranks, octal);
        }

        // Goes no deeper than there are PERIODS, five at most.
        private long held(int period, int score, int code) {
            if (period >= squad.periods) {
                return 64L * squad.worthOf(score);
            }
            int slot = slotOf(period, score, code);
            long known = Rows.longAt(memo, slot);
            if (known == 0) {
                known = search(period, score, code);
                Rows.putLong(memo, slot, known);
            }
            return known;
        }

        private long search(int period, int score, int code) {
            int strong = odds.strongOf(other, period, score);
            long greatest = -1;
            int bestAction = 0;
            for (int action : ACTIONS) {
                if (Squad.mayBe(code, action, most, atOnce)) {
                    long sum = sumOf(period, score, code, action, strong);
                    if (sum > greatest) {
                        greatest = sum;
                        bestAction = action;
                    }
                }
            }
            return 64 * greatest + bestAction + 1;
        }

        private long sumOf(int period, int score, int code, int action, int strong) {
            int then = squad.codeAfter(code, action);
            int shares = odds.shares(period, score, then, Squad.changesOf(action), strong, most, pace);
            long sum = 0;
            for (int event = Squad.NOTHING; event <= Squad.HURT + 1; event++) {
                int share = Odds.shareOf(shares, event);
                if (share > 0) {
                    int nextScore = Squad.scoreBehind(score, event);
                    sum += share * (held(period + 1, nextScore, squad.codeBehind(then, event, pace)) >> 6);
                }
            }
            return sum;
        }
    }

    // BY A RULE: all ways that a match can go, and how likely each is.
    private static final class Walk {
        private final Squad squad;
        private final Odds odds;
        // Won, drawn, lost.
        private final long[] ends;
        // 1 more than VALUES of the first STATE, by RULES and OTHERS; 0: not reckoned yet.
        private final long[] firsts;

        Walk(Squad squad, Odds odds) {
            this.squad = squad;
            this.odds = odds;
            ends = new long[3];
            firsts = new long[Odds.RULES * Odds.OTHERS];
        }

        void forget() {
            Rows.clear(firsts);
        }

        long first(int k, int other) {
            int slot = Odds.OTHERS * k + other;
            long held = Rows.longAt(firsts, slot);
            if (held == 0) {
                Rows.clear(ends);
                go(k, other, 0, 0, Squad.FIRST_CODE, 1);
                held = value() + 1;
                Rows.putLong(firsts, slot, held);
            }
            return held - 1;
        }

        void from(int k, int period, int score, int code, int other) {
            Rows.clear(ends);
            go(k, other, period, score, code, 1);
        }

        long value() {
            return likely(0) * squad.won + likely(1) * squad.drawn + likely(2) * squad.lost;
        }

        long likely(int end) {
            return Rows.longAt(ends, end);
        }

        // Goes no deeper than there are PERIODS, five at most.
        private void go(int k, int other, int period, int score, int code, long weight) {
            if (period >= squad.periods) {
                int end = score > 0 ? 0 : score == 0 ? 1 : 2;
                Rows.putLong(ends, end, likely(end) + weight);
                return;
            }
            int strong = odds.strongOf(other, period, score);
            int action = odds.ruleAction(k, period, score, code, strong);
            int then = squad.codeAfter(code, action);
            int shares = odds.shares(period, score, then, Squad.changesOf(action), strong, squad.changes, 0);
            for (int event = Squad.NOTHING; event <= Squad.HURT + 1; event++) {
                int share = Odds.shareOf(shares, event);
                if (share > 0) {
                    int next = squad.codeBehind(then, event, 0);
                    go(k, other, period + 1, Squad.scoreBehind(score, event), next, weight * share);
                }
            }
        }
    }

    // A match of old, by PERIODS.
    private static final class Log {
        int length;
        private final Squad squad;
        private final int[] codes;
        private final int[] scores;
        private final int[] actions;
        private final int[] events;

        Log(Squad squad) {
            this.squad = squad;
            codes = new int[Squad.MOST_PERIODS + 1];
            scores = new int[Squad.MOST_PERIODS + 1];
            actions = new int[Squad.MOST_PERIODS];
            events = new int[Squad.MOST_PERIODS];
            codes[0] = Squad.FIRST_CODE;
        }

        // False if it may not be, or if the match has no PERIOD left.
        boolean tell(int action, int event) {
            int code = codeBehind(length);
            if (length >= squad.periods || !Squad.mayBe(code, action, squad.changes, squad.once)) {
                return false;
            }
            int then = squad.codeAfter(code, action);
            if (event >= Squad.HURT && Squad.whoIsAt(then, event - Squad.HURT) < 0) {
                return false;
            }
            Rows.put(actions, length, action);
            Rows.put(events, length, event);
            Rows.put(codes, length + 1, squad.codeBehind(then, event, 0));
            Rows.put(scores, length + 1, Squad.scoreBehind(scoreBehind(length), event));
            length++;
            return true;
        }

        int codeBehind(int periods) {
            return Rows.at(codes, periods);
        }

        int scoreBehind(int periods) {
            return Rows.at(scores, periods);
        }

        int actionIn(int period) {
            return Rows.at(actions, period);
        }

        int eventIn(int period) {
            return Rows.at(events, period);
        }

        // Whether a number is the CODE (what 0) or the SCORE (what 1) behind so many PERIODS.
        boolean isBehind(int periods, int what, int number) {
            if (periods > length) {
                return false;
            }
            return number == (what == 0 ? codeBehind(periods) : scoreBehind(periods));
        }
    }

    // THE PLAN of a SEASON, by how FRESH all are: a number of five twos of bits.
    private static final class Season {
        static final int MOST_WEEKS = 8;
        private static final int STATES = 1024;
        private static final int ROWS = Squad.PLAYERS * Squad.PLAYERS;

        // 7 WEEKS are worth 441 at most.
        private static final int BITS = 9;
        private static final int MASK = 511;

        private final Squad squad;
        // For 1 to 7 WEEKS left, nine bits each, to keep the row short: 1 more than the most that they are worth;
        // 0: not reckoned yet. It holds for all states, so that telling who is FRESH changes nothing in it.
        private final long[] memo;
        private boolean stale;

        Season(Squad squad) {
            this.squad = squad;
            memo = new long[STATES];
        }

        void forget() {
            stale = true;
        }

        int planWorth(int weeks) {
            return most(weeks, begin());
        }

        int planRow(int weeks, int week) {
            int state = begin();
            for (int i = 0; i < week; i++) {
                state = next(state, leastRow(weeks - i, state));
            }
            return leastRow(weeks - week, state);
        }

        private int begin() {
            if (stale) {
                Rows.clear(memo);
                stale = false;
            }
            int state = 0;
            for (int player = 0; player < Squad.PLAYERS; player++) {
                state |= squad.freshnessOf(player) << 2 * player;
            }
            return state;
        }

        // Goes no deeper than there are WEEKS, eight at most.
        private int most(int left, int state) {
            if (left <= 0 || left > MOST_WEEKS) {
                return 0;
            }
            boolean isKept = left < MOST_WEEKS;
            int shift = BITS * (left - 1);
            int known = isKept ? (int) (Rows.longAt(memo, state) >> shift) & MASK : 0;
            if (known == 0) {
                known = search(left, state) + 1;
                if (isKept) {
                    Rows.putLong(memo, state, Rows.longAt(memo, state) | (long) known << shift);
                }
            }
            return known - 1;
        }

        private int search(int left, int state) {
            int greatest = 0;
            for (int row = 0; row < ROWS; row++) {
                if (isRow(row)) {
                    greatest = Math.max(greatest, worthOf(left, state, row));
                }
            }
            return greatest;
        }

        private int leastRow(int left, int state) {
            int due = most(left, state);
            for (int row = 0; row < ROWS; row++) {
                if (isRow(row) && worthOf(left, state, row) == due) {
                    return row;
                }
            }
            return NONE;
        }

        private static boolean isRow(int row) {
            return row / Squad.PLAYERS != row % Squad.PLAYERS;
        }

        // Of a row now, and of the most behind it.
        private int worthOf(int left, int state, int row) {
            int back = row / Squad.PLAYERS;
            int front = row % Squad.PLAYERS;
            int worth = squad.goodAt(back, 0) * (state >> 2 * back & 3)
                    + squad.goodAt(front, 1) * (state >> 2 * front & 3) + squad.pairOf(back, front);
            return worth + most(left - 1, next(state, row));
        }

        private static int next(int state, int row) {
            int then = 0;
            for (int player = 0; player < Squad.PLAYERS; player++) {
                boolean plays = player == row / Squad.PLAYERS || player == row % Squad.PLAYERS;
                int much = state >> 2 * player & 3;
                then |= (plays ? Math.max(0, much - 1) : Math.min(3, much + 1)) << 2 * player;
            }
            return then;
        }
    }
}
