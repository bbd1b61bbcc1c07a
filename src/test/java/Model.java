import java.math.BigInteger;
import java.util.ArrayDeque;
import java.util.ArrayList;
import java.util.Arrays;
import java.util.Deque;
import java.util.HashMap;
import java.util.List;
import java.util.Map;

/**
 * The document once more, by other means than the program's: players with places instead of codes, texts cut
 * into strings, faults by a machine with a stack of its own. It is slow and throws as it likes.
 */
final class Model {
    private static final int GONE = 9;
    private static final int BENCH = -1;

    /** Who is where, ahead of a period. */
    private static final class Side {
        final int[] where = new int[5];
        final int[] legs = new int[5];

        Side copy() {
            Side other = new Side();
            System.arraycopy(where, 0, other.where, 0, 5);
            System.arraycopy(legs, 0, other.legs, 0, 5);
            return other;
        }

        int at(int place) {
            for (int i = 0; i < 5; i++) {
                if (where[i] == place) {
                    return i;
                }
            }
            return -1;
        }

        int made() {
            int made = 0;
            for (int i = 2; i < 5; i++) {
                made += where[i] == BENCH ? 0 : 1;
            }
            return made;
        }

        int code() {
            int code = (where[0] == 0 ? 1000 : 0) + (where[1] == 1 ? 2000 : 0);
            for (int i = 2, unit = 1; i < 5; i++, unit *= 10) {
                int digit = where[i] == BENCH ? 0 : where[i] == GONE ? 7 : 1 + 3 * where[i] + legs[i];
                code += digit * unit;
            }
            return code;
        }
    }

    private static final class Refused extends RuntimeException {
        Refused() {
            super(null, null, false, false);
        }
    }

    private interface Number {
        int of(int[] letters);
    }

    private interface Test {
        boolean of(int[] letters);
    }

    private record Clause(char head, Number number, Test test) { }

    private record Told(int action, int event, int code, int score) { }

    private int n = 4;
    private int most = 3;
    private int once = 2;
    private final int[] worths = {3, 1, 0};
    private final int[][] good = new int[5][2];
    private final int[] legs = new int[5];
    private final int[] loss = new int[5];
    private final int[][] pairs = new int[5][5];
    private final int[] fresh = {3, 3, 3, 3, 3};
    private int x = 1;
    private List<Clause> law = List.of();
    private final List<List<Clause>> others = new ArrayList<>(List.of(List.of(), List.of(), List.of()));
    private final List<List<Clause>> rules = new ArrayList<>(List.of(List.of(), List.of(), List.of(), List.of()));
    private final List<Integer> tape = new ArrayList<>();
    private final List<Told> log = new ArrayList<>();

    // ---- the texts

    private static int[] faultIn(String text, String heads) {
        Deque<Character> open = new ArrayDeque<>();
        String mode = "head";
        boolean inCondition = false;
        boolean second = false;
        int clauses = 0;
        int digits = 0;
        int i = 0;
        while (true) {
            char c = i < text.length() ? text.charAt(i) : 0xffff;
            boolean isDigit = c >= '0' && c <= '9';
            boolean again = false;
            switch (mode) {
                case "head":
                    if (heads.indexOf(c) < 0) {
                        return new int[] {1, i};
                    }
                    if (clauses == 14) {
                        return new int[] {4, i};
                    }
                    clauses++;
                    inCondition = false;
                    mode = "operand";
                    break;
                case "operand":
                    if (isDigit) {
                        digits = 1;
                        mode = "digits";
                    } else if (c == '[') {
                        if (open.size() == 6) {
                            return new int[] {5, i};
                        }
                        open.push(c);
                    } else if ("tnsbflmexuqoypkj".indexOf(c) >= 0) {
                        mode = "behind";
                    } else {
                        return new int[] {1, i};
                    }
                    break;
                case "digits":
                    if (!isDigit) {
                        mode = "behind";
                        again = true;
                    } else if (++digits == 6) {
                        return new int[] {2, i};
                    }
                    break;
                case "behind":
                    boolean inEdged = !open.isEmpty() && open.peek() == '[';
                    if ("+-*/%".indexOf(c) >= 0) {
                        mode = "operand";
                    } else if (inEdged && c == ']') {
                        open.pop();
                    } else if (!inEdged && !inCondition && c == '(') {
                        open.push(c);
                        inCondition = true;
                        mode = "piece";
                    } else if (!inEdged && inCondition && !second && "<>=".indexOf(c) >= 0) {
                        second = true;
                        mode = "operand";
                    } else if (!inEdged && inCondition && second) {
                        endPiece(open);
                        mode = "behind piece";
                        again = true;
                    } else {
                        return new int[] {1, i};
                    }
                    break;
                case "piece":
                    second = false;
                    if (c == '!' || c == '(') {
                        if (open.size() == 6) {
                            return new int[] {5, i};
                        }
                        open.push(c);
                    } else {
                        mode = "operand";
                        again = true;
                    }
                    break;
                case "behind piece":
                    if (c == '&' || c == '|') {
                        mode = "piece";
                    } else if (c == ')') {
                        open.pop();
                        endPiece(open);
                        mode = open.isEmpty() ? "behind clause" : mode;
                    } else {
                        return new int[] {1, i};
                    }
                    break;
                default:
                    if (i == text.length()) {
                        return null;
                    }
                    if (c != ';') {
                        return new int[] {1, i};
                    }
                    mode = "head";
                    break;
            }
            i += again ? 0 : 1;
        }
    }

    private static void endPiece(Deque<Character> open) {
        while (!open.isEmpty() && open.peek() == '!') {
            open.pop();
        }
    }

    private static List<String> cut(String text, char by) {
        List<String> parts = new ArrayList<>();
        int depth = 0;
        int from = 0;
        for (int i = 0; i < text.length(); i++) {
            char c = text.charAt(i);
            depth += "([".indexOf(c) >= 0 ? 1 : ")]".indexOf(c) >= 0 ? -1 : 0;
            if (c == by && depth == 0) {
                parts.add(text.substring(from, i));
                from = i + 1;
            }
        }
        parts.add(text.substring(from));
        return parts;
    }

    /** The last place of one of the signs outside all brackets, or -1. */
    private static int last(String text, String signs) {
        int depth = 0;
        int found = -1;
        for (int i = 0; i < text.length(); i++) {
            char c = text.charAt(i);
            depth += "([".indexOf(c) >= 0 ? 1 : ")]".indexOf(c) >= 0 ? -1 : 0;
            if (depth == 0 && signs.indexOf(c) >= 0) {
                found = i;
            }
        }
        return found;
    }

    private static List<Clause> parse(String text) {
        List<Clause> clauses = new ArrayList<>();
        for (String clause : cut(text, ';')) {
            int round = clause.indexOf('(');
            clauses.add(new Clause(clause.charAt(0), number(clause.substring(1, round)),
                    test(clause.substring(round + 1, clause.length() - 1))));
        }
        return clauses;
    }

    private static Test test(String text) {
        List<List<Test>> parts = new ArrayList<>();
        for (String part : cut(text, '|')) {
            parts.add(cut(part, '&').stream().map(Model::piece).toList());
        }
        return letters -> parts.stream().anyMatch(part -> part.stream().allMatch(piece -> piece.of(letters)));
    }

    private static Test piece(String text) {
        if (text.startsWith("!")) {
            Test inner = piece(text.substring(1));
            return letters -> !inner.of(letters);
        }
        if (text.startsWith("(")) {
            return test(text.substring(1, text.length() - 1));
        }
        int sign = last(text, "<>=");
        Number left = number(text.substring(0, sign));
        Number right = number(text.substring(sign + 1));
        switch (text.charAt(sign)) {
            case '<': return letters -> left.of(letters) < right.of(letters);
            case '>': return letters -> left.of(letters) > right.of(letters);
            default: return letters -> left.of(letters) == right.of(letters);
        }
    }

    private static Number number(String text) {
        int sign = last(text, "+-");
        sign = sign < 0 ? last(text, "*/%") : sign;
        if (sign >= 0) {
            Number left = number(text.substring(0, sign));
            Number right = number(text.substring(sign + 1));
            switch (text.charAt(sign)) {
                case '+': return letters -> left.of(letters) + right.of(letters);
                case '-': return letters -> left.of(letters) - right.of(letters);
                case '*': return letters -> left.of(letters) * right.of(letters);
                case '/': return letters -> left.of(letters) / divisor(right.of(letters));
                default: return letters -> left.of(letters) % divisor(right.of(letters));
            }
        }
        if (text.startsWith("[")) {
            return number(text.substring(1, text.length() - 1));
        }
        char c = text.charAt(0);
        if (Character.isDigit(c)) {
            int value = Integer.parseInt(text);
            return letters -> value;
        }
        return letters -> letters[c];
    }

    private static int divisor(int value) {
        if (value == 0) {
            throw new Refused();
        }
        return value;
    }

    private static int ask(List<Clause> text, char head, int[] letters) {
        for (Clause clause : text) {
            if (clause.head != head) {
                continue;
            }
            try {
                if (!clause.test.of(letters)) {
                    continue;
                }
            } catch (Refused refused) {
                continue;
            }
            try {
                return clause.number.of(letters);
            } catch (Refused refused) {
                return 0;
            }
        }
        return 0;
    }

    // ---- states and actions

    private Side side(int code, int period, int pace) {
        if (code < 0 || code > 3999) {
            return null;
        }
        Side side = new Side();
        int[] onPlace = new int[2];
        for (int i = 0; i < 2; i++) {
            boolean on = (code / 1000 >> i & 1) == 1;
            side.where[i] = on ? i : GONE;
            onPlace[i] += on ? 1 : 0;
            side.legs[i] = legs[i];
            for (int p = 0; p < period; p++) {
                side.legs[i] = Math.max(0, side.legs[i] - lossOf(i, pace));
            }
        }
        String digits = String.format("%03d", code % 1000);
        for (int i = 2; i < 5; i++) {
            int digit = digits.charAt(4 - i) - '0';
            if (digit > 7) {
                return null;
            }
            side.where[i] = digit == 0 ? BENCH : digit == 7 ? GONE : digit <= 3 ? 0 : 1;
            side.legs[i] = digit >= 1 && digit <= 3 ? digit - 1 : digit >= 4 && digit <= 6 ? digit - 4 : legs[i];
            if (digit >= 1 && digit <= 6) {
                onPlace[side.where[i]]++;
            }
        }
        return onPlace[0] > 1 || onPlace[1] > 1 || side.made() > most ? null : side;
    }

    private int lossOf(int player, int pace) {
        return Math.max(0, loss[player] - pace);
    }

    /** The side behind an action, or null if it may not be. */
    private Side act(Side side, int action, int atMost, int atOnce) {
        if (action < 0) {
            return null;
        }
        List<Integer> changes = new ArrayList<>();
        if (action >= 1 && action <= 6) {
            changes.add(action);
        } else if (action > 6) {
            for (int one = 1; one <= 6; one++) {
                for (int two = 1; two <= 6; two++) {
                    int playerOne = (one + 1) / 2;
                    int playerTwo = (two + 1) / 2;
                    if (one + 7 * two == action && playerOne < playerTwo && one % 2 != two % 2) {
                        changes.add(one);
                        changes.add(two);
                    }
                }
            }
            if (changes.isEmpty()) {
                return null;
            }
        }
        if (changes.size() > atOnce || side.made() + changes.size() > atMost) {
            return null;
        }
        Side then = side.copy();
        for (int change : changes) {
            int player = 2 + (change - 1) / 2;
            int place = (change - 1) % 2;
            if (side.where[player] != BENCH) {
                return null;
            }
            int who = then.at(place);
            if (who >= 0) {
                then.where[who] = GONE;
            }
            then.where[player] = place;
            then.legs[player] = legs[player];
        }
        return then;
    }

    private Side behind(Side side, int event, int pace) {
        Side then = side.copy();
        if (event >= 3) {
            then.where[side.at(event - 3)] = GONE;
        }
        for (int i = 0; i < 5; i++) {
            if (then.where[i] == 0 || then.where[i] == 1) {
                then.legs[i] = Math.max(0, then.legs[i] - lossOf(i, pace));
            }
        }
        return then;
    }

    private static int scoreBehind(int score, int event) {
        return event == 1 && score < 2 ? score + 1 : event == 2 && score > -2 ? score - 1 : score;
    }

    private int[] lettersOf(int period, int score) {
        int[] letters = new int[128];
        letters['t'] = period;
        letters['n'] = n;
        letters['s'] = score;
        return letters;
    }

    private int strong(int other, int period, int score) {
        return Math.max(0, Math.min(99, ask(others.get(other), 'o', lettersOf(period, score))));
    }

    private int[] lettersOf(int period, int score, Side side, int strong, int left) {
        int[] letters = lettersOf(period, score);
        int back = side.at(0);
        int front = side.at(1);
        letters['b'] = back < 0 ? 0 : good[back][0];
        letters['f'] = front < 0 ? 0 : good[front][1];
        letters['l'] = back < 0 ? 0 : side.legs[back];
        letters['m'] = front < 0 ? 0 : side.legs[front];
        letters['e'] = (back < 0 ? 1 : 0) + (front < 0 ? 1 : 0);
        letters['q'] = back < 0 || front < 0 ? 0 : pairs[back][front];
        letters['o'] = strong;
        letters['u'] = left;
        return letters;
    }

    /** By events: nothing, a goal, one let in, hurt at 0, at 1. */
    private int[] hundredths(int period, int score, Side before, Side side, int strong, int atMost, int pace) {
        int[] letters = lettersOf(period, score, side, strong, atMost - side.made());
        letters['x'] = side.made() - before.made();
        letters['y'] = pace;
        int[] shares = new int[5];
        int left = 100;
        for (int event = 1; event <= 4; event++) {
            int who = event < 3 ? -1 : side.at(event - 3);
            if (event >= 3 && who < 0) {
                continue;
            }
            if (event >= 3) {
                letters['p'] = event - 3;
                letters['k'] = who;
                letters['j'] = side.legs[who];
            }
            int asked = ask(law, "-gahh".charAt(event), letters);
            shares[event] = Math.max(0, Math.min(left, asked));
            left -= shares[event];
        }
        shares[0] = left;
        return shares;
    }

    private int says(int k, int period, int score, Side side, int strong) {
        int action = ask(rules.get(k), 'c', lettersOf(period, score, side, strong, most - side.made()));
        return act(side, action, most, once) == null ? 0 : action;
    }

    private long worthOf(int score) {
        return worths[score > 0 ? 0 : score == 0 ? 1 : 2];
    }

    // ---- the values

    private final class Search {
        private final int other;
        private final int atMost;
        private final int atOnce;
        private final int pace;
        private final Map<String, long[]> known = new HashMap<>();

        Search(int other, int atMost, int atOnce, int pace) {
            this.other = other;
            this.atMost = atMost;
            this.atOnce = atOnce;
            this.pace = pace;
        }

        long by(int period, int score, Side side, Side then) {
            int[] shares = hundredths(period, score, side, then, strong(other, period, score), atMost, pace);
            long sum = 0;
            for (int event = 0; event < 5; event++) {
                if (shares[event] > 0) {
                    sum += shares[event] * of(period + 1, scoreBehind(score, event), behind(then, event, pace))[0];
                }
            }
            return sum;
        }

        long[] of(int period, int score, Side side) {
            if (period == n) {
                return new long[] {worthOf(score), -1};
            }
            String key = period + " " + score + " " + side.code();
            long[] found = known.get(key);
            if (found == null) {
                for (int action = 0; action < 49; action++) {
                    Side then = act(side, action, atMost, atOnce);
                    long value = then == null ? -1 : by(period, score, side, then);
                    if (then != null && (found == null || value > found[0])) {
                        found = new long[] {value, action};
                    }
                }
                known.put(key, found);
            }
            return found;
        }

        long first() {
            return of(0, 0, side(3000, 0, pace))[0];
        }
    }

    private Map<Integer, Long> walk(int k, int period, int score, Side side, int other) {
        if (period == n) {
            return Map.of(Integer.signum(score), 1L);
        }
        int strong = strong(other, period, score);
        Side then = act(side, says(k, period, score, side, strong), most, once);
        int[] shares = hundredths(period, score, side, then, strong, most, 0);
        Map<Integer, Long> all = new HashMap<>();
        for (int event = 0; event < 5; event++) {
            int share = shares[event];
            if (share > 0) {
                walk(k, period + 1, scoreBehind(score, event), behind(then, event, 0), other)
                        .forEach((end, weight) -> all.merge(end, share * weight, Long::sum));
            }
        }
        return all;
    }

    private long walkValue(int k, int other) {
        return valueOf(walk(k, 0, 0, side(3000, 0, 0), other));
    }

    private long valueOf(Map<Integer, Long> ends) {
        return ends.entrySet().stream().mapToLong(e -> e.getValue() * worthOf(e.getKey())).sum();
    }

    // ---- the face

    private static boolean in(int value, int low, int high) {
        return value >= low && value <= high;
    }

    boolean match(int periods, int changes, int atOnce) {
        if (!in(periods, 1, 5) || !in(changes, 0, 3) || !in(atOnce, 1, 2)) {
            return false;
        }
        n = periods;
        most = changes;
        once = atOnce;
        log.clear();
        return true;
    }

    boolean player(int i, int back, int front, int legsThen, int lossThen) {
        if (!in(i, 0, 4) || !in(back, 0, 9) || !in(front, 0, 9) || !in(legsThen, 0, 2) || !in(lossThen, 0, 2)) {
            return false;
        }
        good[i][0] = back;
        good[i][1] = front;
        legs[i] = legsThen;
        loss[i] = lossThen;
        log.clear();
        return true;
    }

    boolean pair(int one, int two, int much) {
        if (!in(one, 0, 4) || !in(two, 0, 4) || one == two || !in(much, 0, 9)) {
            return false;
        }
        pairs[one][two] = much;
        pairs[two][one] = much;
        return true;
    }

    boolean worth(int won, int drawn, int lost) {
        if (!in(won, 0, 1000) || !in(drawn, 0, 1000) || !in(lost, 0, 1000)) {
            return false;
        }
        worths[0] = won;
        worths[1] = drawn;
        worths[2] = lost;
        return true;
    }

    int feed(int... words) {
        if (tape.size() > 200) {
            return -1;
        }
        for (int word : words) {
            for (byte b : BigInteger.valueOf(word & 0xffffffffL | 1L << 40).toByteArray()) {
                tape.add(b & 255);
            }
            // The bit ahead of the four bytes made two bytes too many.
            tape.remove(tape.size() - 6);
            tape.remove(tape.size() - 5);
        }
        return tape.size();
    }

    private String taken(int bytes) {
        if (!in(bytes, 1, 200) || bytes > tape.size()) {
            return null;
        }
        StringBuilder text = new StringBuilder();
        tape.subList(0, bytes).forEach(b -> text.append((char) (int) b));
        tape.clear();
        return text.toString();
    }

    int law(int bytes) {
        String text = taken(bytes);
        int[] fault = text == null ? null : faultIn(text, "gah");
        if (text == null || fault != null) {
            return text == null ? -1 : -1000 * fault[0] - fault[1];
        }
        law = parse(text);
        return law.size();
    }

    private int put(List<List<Clause>> texts, int k, int bytes, String heads) {
        String text = in(k, 0, texts.size() - 1) ? taken(bytes) : null;
        int[] fault = text == null ? null : faultIn(text, heads);
        if (text == null || fault != null) {
            return text == null ? -1 : -1000 * fault[0] - fault[1];
        }
        texts.set(k, parse(text));
        return texts.get(k).size();
    }

    int other(int k, int bytes) {
        return put(others, k, bytes, "o");
    }

    int rule(int k, int bytes) {
        return put(rules, k, bytes, "c");
    }

    private Side known(int period, int score, int code) {
        return in(period, 0, n - 1) && in(score, -2, 2) ? side(code, period, 0) : null;
    }

    int may(int period, int code, int action) {
        Side side = known(period, 0, code);
        if (side == null || !in(action, 0, 48)) {
            return -1;
        }
        return act(side, action, most, once) == null ? 0 : 1;
    }

    int after(int period, int code, int action) {
        return may(period, code, action) == 1 ? act(known(period, 0, code), action, most, once).code() : -1;
    }

    int chance(int period, int score, int code, int action, int other, int what) {
        Side side = known(period, score, code);
        if (side == null || may(period, code, action) != 1 || !in(other, 0, 2) || !in(what, 0, 4)) {
            return -1;
        }
        Side then = act(side, action, most, once);
        int[] shares = hundredths(period, score, side, then, strong(other, period, score), most, 0);
        return shares[(what + 1) % 5];
    }

    long best(int period, int score, int code, int other, int what) {
        if (!in(period, 0, n) || !in(score, -2, 2) || !in(other, 0, 2) || !in(what, 0, 1)) {
            return -1;
        }
        Side side = side(code, period, 0);
        return side == null ? -1 : new Search(other, most, once, 0).of(period, score, side)[what];
    }

    private boolean told(int k) {
        return in(k, 0, 3) && !rules.get(k).isEmpty();
    }

    long by(int k, int period, int score, int code, int other, int what) {
        Side side = in(period, 0, n) && in(score, -2, 2) ? side(code, period, 0) : null;
        if (!told(k) || side == null || !in(other, 0, 2) || !in(what, 0, 3)) {
            return -1;
        }
        Map<Integer, Long> ends = walk(k, period, score, side, other);
        return what == 0 ? valueOf(ends) : ends.getOrDefault(2 - what, 0L);
    }

    int says(int k, int period, int score, int code, int other) {
        Side side = known(period, score, code);
        if (!told(k) || side == null || !in(other, 0, 2)) {
            return -1;
        }
        return says(k, period, score, side, strong(other, period, score));
    }

    int edge(int score, int other) {
        if (!in(score, -2, 2) || !in(other, 0, 2)) {
            return -1;
        }
        for (int period = 0; period < n; period++) {
            if (best(period, score, 3000, other, 1) > 0) {
                return period;
            }
        }
        return -2;
    }

    long kept(int other) {
        if (!in(other, 0, 2) || most == 0) {
            return -1;
        }
        return new Search(other, most, once, 0).first() - new Search(other, most - 1, once, 0).first();
    }

    long together(int other) {
        if (!in(other, 0, 2)) {
            return -1;
        }
        return new Search(other, most, 2, 0).first() - new Search(other, most, 1, 0).first();
    }

    long slower(int other) {
        if (!in(other, 0, 2)) {
            return -1000000000000000000L;
        }
        return new Search(other, most, once, 1).first() - new Search(other, most, once, 0).first();
    }

    long game(int what) {
        List<Integer> rows = new ArrayList<>();
        List<Integer> columns = new ArrayList<>();
        for (int i = 0; i < 4; i++) {
            if (told(i)) {
                rows.add(i);
            }
            if (i < 3 && !others.get(i).isEmpty()) {
                columns.add(i);
            }
        }
        if (!in(what, 0, 3) || rows.isEmpty() || columns.isEmpty()) {
            return -1;
        }
        long[] leasts = rows.stream().mapToLong(k -> columns.stream().mapToLong(o -> walkValue(k, o)).min().getAsLong())
                .toArray();
        long[] mosts = columns.stream().mapToLong(o -> rows.stream().mapToLong(k -> walkValue(k, o)).max().getAsLong())
                .toArray();
        long low = Arrays.stream(leasts).max().getAsLong();
        long high = Arrays.stream(mosts).min().getAsLong();
        int lowAt = 0;
        while (leasts[lowAt] != low) {
            lowAt++;
        }
        int highAt = 0;
        while (mosts[highAt] != high) {
            highAt++;
        }
        return what == 0 ? low : what == 1 ? rows.get(lowAt) : what == 2 ? high : columns.get(highAt);
    }

    long mixed(int i, int j, int one, int two, int what) {
        if (!told(i) || !told(j) || i == j || !in(one, 0, 2) || !in(two, 0, 2) || one == two || !in(what, 0, 2)) {
            return -1;
        }
        if (others.get(one).isEmpty() || others.get(two).isEmpty()) {
            return -1;
        }
        return mixedOf(walkValue(i, one), walkValue(i, two), walkValue(j, one), walkValue(j, two), what);
    }

    private static long mixedOf(long a, long b, long c, long d, int what) {
        long[] all = {a, b, c, d};
        Arrays.sort(all);
        if (all[3] - all[0] > 2000000000L) {
            return -2;
        }
        long low = Math.max(Math.min(a, b), Math.min(c, d));
        long high = Math.min(Math.max(a, c), Math.max(b, d));
        if (what == 0 || low == high) {
            return what == 0 ? low : what - 1;
        }
        BigInteger below = BigInteger.valueOf(a).add(BigInteger.valueOf(d)).subtract(BigInteger.valueOf(b))
                .subtract(BigInteger.valueOf(c));
        BigInteger above = BigInteger.valueOf(a).multiply(BigInteger.valueOf(d))
                .subtract(BigInteger.valueOf(b).multiply(BigInteger.valueOf(c)))
                .subtract(below.multiply(BigInteger.valueOf(low)));
        if (below.signum() < 0) {
            below = below.negate();
            above = above.negate();
        }
        BigInteger both = above.gcd(below);
        return (what == 1 ? above : below).divide(both).longValueExact();
    }

    private Side ahead(int period) {
        return side(period == 0 ? 3000 : log.get(period - 1).code, period, 0);
    }

    private int scoreAhead(int period) {
        return period == 0 ? 0 : log.get(period - 1).score;
    }

    int happens(int action, int what) {
        if (log.size() == n || !in(action, 0, 48) || !in(what, 0, 4)) {
            return -1;
        }
        Side then = act(ahead(log.size()), action, most, once);
        if (then == null || what >= 3 && then.at(what - 3) < 0) {
            return -1;
        }
        log.add(new Told(action, what, behind(then, what, 0).code(), scoreBehind(scoreAhead(log.size()), what)));
        return log.size();
    }

    int undo() {
        if (log.isEmpty()) {
            return -1;
        }
        log.remove(log.size() - 1);
        return log.size();
    }

    int logged(int i, int what) {
        if (!in(i, 0, log.size()) || !in(what, 0, 3)) {
            return -1000;
        }
        if (i == 0) {
            return what == 0 ? 3000 : what == 1 ? 0 : -1;
        }
        Told told = log.get(i - 1);
        return what == 0 ? told.code : what == 1 ? told.score : what == 2 ? told.action : told.event;
    }

    long wrong(int period, int other) {
        if (!in(period, 0, log.size() - 1) || !in(other, 0, 2)) {
            return -1;
        }
        Search search = new Search(other, most, once, 0);
        Side side = ahead(period);
        int score = scoreAhead(period);
        Side then = act(side, log.get(period).action, most, once);
        long lost = search.of(period, score, side)[0] - search.by(period, score, side, then);
        return BigInteger.valueOf(100).pow(period).multiply(BigInteger.valueOf(lost)).longValueExact();
    }

    long worst(int other, int what) {
        if (log.isEmpty() || !in(other, 0, 2) || !in(what, 0, 1)) {
            return -1;
        }
        int at = 0;
        for (int period = 0; period < log.size(); period++) {
            at = wrong(period, other) > wrong(at, other) ? period : at;
        }
        return what == 0 ? at : wrong(at, other);
    }

    boolean seed(int number) {
        if (!in(number, 0, 65535)) {
            return false;
        }
        x = number;
        return true;
    }

    int draw(int k, int other) {
        if (!told(k) || !in(other, 0, 2)) {
            return -1000;
        }
        log.clear();
        for (int period = 0; period < n; period++) {
            Side side = ahead(period);
            int score = scoreAhead(period);
            int strong = strong(other, period, score);
            int action = says(k, period, score, side, strong);
            int[] shares = hundredths(period, score, side, act(side, action, most, once), strong, most, 0);
            x = (int) ((25173L * x + 13849) % 65536);
            List<Integer> hundred = new ArrayList<>();
            for (int event : new int[] {1, 2, 3, 4, 0}) {
                for (int i = 0; i < shares[event]; i++) {
                    hundred.add(event);
                }
            }
            happens(action, hundred.get(x % 100));
        }
        return scoreAhead(n);
    }

    boolean fresh(int i, int much) {
        if (!in(i, 0, 4) || !in(much, 0, 3)) {
            return false;
        }
        fresh[i] = much;
        return true;
    }

    /** The worth, then the rows of the plan. */
    private int[] plan(int weeks, int[] state, Map<String, int[]> plans) {
        if (weeks == 0) {
            return new int[1];
        }
        String key = weeks + Arrays.toString(state);
        int[] found = plans.get(key);
        for (int row = 0; found == null && row < 1; row++) {
            for (int back = 0; back < 5; back++) {
                for (int front = 0; front < 5; front++) {
                    if (back == front) {
                        continue;
                    }
                    int[] then = new int[5];
                    for (int i = 0; i < 5; i++) {
                        boolean plays = i == back || i == front;
                        then[i] = plays ? Math.max(0, state[i] - 1) : Math.min(3, state[i] + 1);
                    }
                    int[] rest = plan(weeks - 1, then, plans);
                    int worth = good[back][0] * state[back] + good[front][1] * state[front] + pairs[back][front];
                    if (found == null || worth + rest[0] > found[0]) {
                        found = new int[weeks + 1];
                        found[0] = worth + rest[0];
                        found[1] = 5 * back + front;
                        System.arraycopy(rest, 1, found, 2, weeks - 1);
                    }
                }
            }
            plans.put(key, found);
        }
        return found;
    }

    int season(int weeks, int what) {
        if (!in(weeks, 1, 8) || !in(what, -1, weeks - 1)) {
            return -1;
        }
        return plan(weeks, fresh.clone(), new HashMap<>())[what + 1];
    }

    int check(int twos) {
        if (twos < 0 || twos * 8L > tape.size()) {
            return -2;
        }
        List<Integer> numbers = new ArrayList<>();
        for (int i = 0; i < 2 * twos; i++) {
            int number = 0;
            for (int b : tape.subList(4 * i, 4 * i + 4)) {
                number = number * 256 + b;
            }
            numbers.add(number);
        }
        tape.clear();
        List<Integer> right = new ArrayList<>();
        log.forEach(told -> right.addAll(List.of(told.code, told.score)));
        if (numbers.equals(right)) {
            return -1;
        }
        int place = 0;
        while (place < numbers.size() && place < right.size() && numbers.get(place).equals(right.get(place))) {
            place++;
        }
        return place;
    }

    int count(int what) {
        int[] plain = {n, most, once, x, law.size(), tape.size(), log.size()};
        if (in(what, 0, 6)) {
            return plain[what];
        }
        if (in(what, 10, 12)) {
            return others.get(what - 10).size();
        }
        if (in(what, 20, 23)) {
            return rules.get(what - 20).size();
        }
        return in(what, 30, 34) ? legs[what - 30] : -1;
    }
}
