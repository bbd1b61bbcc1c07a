/** The boundaries of promises 17 to 21: KEPT, TOGETHER, SLOWER, GAME, MIXED. */
public final class WorthBoundsTest extends Named {
    public static void main(String[] args) throws ReflectiveOperationException {
        run(WorthBoundsTest.class);
    }

    /** One PERIOD, only a match that is won is worth something: 1. */
    private void onePeriod(int changes, int once) {
        x.match(1, changes, once);
        x.worth(1, 0, 0);
    }

    // ---- 17, kept

    void promise17_othersFromNoughtToTwo() {
        onePeriod(1, 1);
        Due.law(x, "go*x(1=1)");
        for (int other = 0; other <= 2; other++) {
            is(x.kept(other), 0);
            Due.other(x, other, "o" + (other + 7) + "(1=1)");
            is(x.kept(other), other + 7);
        }
        for (int far : beside(0, 2)) {
            is(x.kept(far), -1);
        }
    }

    void promise17_noChangesAreNone() {
        x.match(4, 0, 1);
        for (int other = 0; other <= 2; other++) {
            is(x.kept(other), -1);
        }
        x.match(4, 0, 2);
        is(x.kept(0), -1);
        is(x.kept(3), -1);
    }

    void promise17_oneChangeIsTheFirstThatCounts() {
        onePeriod(1, 1);
        is(x.kept(0), 0);
        Due.law(x, "g30*x(1=1)");
        is(x.kept(0), 30);
    }

    void promise17_eachChangeInItsTurn() {
        x.worth(1, 0, 0);
        x.player(2, 0, 5, 2, 1);
        x.player(3, 7, 0, 0, 0);
        x.player(4, 0, 9, 2, 2);
        Due.law(x, "gb+f*m(1=1)");
        // None: 0. One: PLAYER 4 in front at once, 18 and 0 hundredths: 1800. Two: PLAYER 3 at the back, too: 25 and 7
        // make 2500 + 75 * 7 = 3025. Three: then PLAYER 2 in front: 25 and 17 make 2500 + 75 * 17 = 3775.
        int[] values = {0, 1800, 3025, 3775};
        for (int changes = 1; changes <= 3; changes++) {
            x.match(2, changes, 2);
            is(x.best(0, 0, 3000, 0, 0), values[changes]);
            is(x.kept(0), values[changes] - values[changes - 1]);
        }
    }

    void promise17_whatIsLeftIsLessByOne() {
        for (int changes = 1; changes <= 3; changes++) {
            onePeriod(changes, 2);
            Due.law(x, "g20*u(x=0)");
            is(x.kept(0), 20);
        }
    }

    void promise17_itMayBeWorse() {
        onePeriod(2, 2);
        Due.law(x, "g50-20*u(x=0)");
        is(x.kept(0), 10 - 30);
    }

    void promise17_theMatchStaysAsItIs() {
        ThreeToSend y = rich();
        String before = seen(y);
        for (int other = -1; other <= 3; other++) {
            y.kept(other);
            y.together(other);
            y.slower(other);
        }
        same(seen(y), before);
        is(y.count(1), 2);
        is(y.count(2), 2);
    }

    void promises17to19_askedOneBehindAnother() {
        for (int changes = 0; changes <= 3; changes++) {
            for (int once = 1; once <= 2; once++) {
                ThreeToSend y = new ThreeToSend();
                Model model = new Model();
                tellBoth(y, model, changes, once);
                for (int turn = 0; turn < 2; turn++) {
                    for (int other = 2; other >= 0; other--) {
                        is(y.kept(other), model.kept(other));
                        is(y.together(other), model.together(other));
                        is(y.slower(other), model.slower(other));
                        is(y.best(0, 0, 3000, other, 0), model.best(0, 0, 3000, other, 0));
                        is(y.best(0, 0, 3000, other, 1), model.best(0, 0, 3000, other, 1));
                    }
                }
            }
        }
    }

    /** A match of two PERIODS in which C, M, THE PACE and the OTHERS count. */
    private void tellBoth(ThreeToSend y, Model model, int changes, int once) {
        is(y.match(2, changes, once), model.match(2, changes, once));
        is(y.worth(100, 30, 1), model.worth(100, 30, 1));
        int[][] players = {{3, 0, 2, 1}, {0, 4, 2, 2}, {5, 6, 2, 1}, {9, 1, 1, 0}, {2, 8, 0, 2}};
        for (int i = 0; i < 5; i++) {
            int[] p = players[i];
            is(y.player(i, p[0], p[1], p[2], p[3]), model.player(i, p[0], p[1], p[2], p[3]));
        }
        String law = "g[20*x+b*3+f*2+o+u*y*5]%90(t=0);a[u*7+o*t+11]%40(t=1);g[b+f*2+m*9+3*x](1=1);h9(1=1)";
        is(y.law(Due.feed(y, model, law)), 4);
        is(model.law(law.length()), 4);
        String[] others = {"o5(1=1)", "o33-9*t(1=1)", "o61+7*s(1=1)"};
        for (int k = 0; k < 3; k++) {
            is(y.other(k, Due.feed(y, model, others[k])), 1);
            is(model.other(k, others[k].length()), 1);
        }
    }

    // ---- 18, together

    void promise18_othersFromNoughtToTwo() {
        onePeriod(2, 1);
        Due.law(x, "go(x=2)");
        for (int other = 0; other <= 2; other++) {
            is(x.together(other), 0);
            Due.other(x, other, "o" + (other + 7) + "(1=1)");
            is(x.together(other), other + 7);
        }
        for (int far : beside(0, 2)) {
            is(x.together(far), -1);
        }
    }

    void promise18_itIsAlikeWhateverMIs() {
        Due.law(x, "g10*x+x/2*5(1=1)");
        for (int once = 1; once <= 2; once++) {
            onePeriod(2, once);
            is(x.together(0), 25 - 10);
            onePeriod(3, once);
            is(x.together(0), 25 - 10);
        }
    }

    void promise18_fewerThanTwoInAllAreNoughtTogether() {
        Due.law(x, "g10*x+7(1=1)");
        onePeriod(1, 2);
        is(x.together(0), 0);
        onePeriod(0, 2);
        is(x.together(0), 0);
        is(x.together(3), -1);
    }

    // ---- 19, slower

    void promise19_othersFromNoughtToTwo() {
        onePeriod(0, 1);
        Due.law(x, "go*y(1=1)");
        for (int other = 0; other <= 2; other++) {
            is(x.slower(other), 0);
            Due.other(x, other, "o" + (other + 7) + "(1=1)");
            is(x.slower(other), other + 7);
        }
        for (int far : beside(0, 2)) {
            is(x.slower(far), NO_PACE);
        }
    }

    void promise19_itMayBeBelowNought() {
        onePeriod(0, 1);
        Due.law(x, "g30-30*y(1=1)");
        is(x.slower(0), -30);
        x.match(5, 3, 2);
        x.worth(1000, 0, 0);
        Due.law(x, "g100-100*y(1=1)");
        is(x.slower(0), -10000000000000L);
        x.worth(0, 0, 1000);
        Due.law(x, "a100*y(1=1)");
        is(x.slower(0), 10000000000000L);
    }

    void promise19_eachLossIsLessByOneNotBelowNought() {
        x.worth(1, 0, 0);
        x.match(2, 0, 1);
        int[] want = {0, 1, 1};
        for (int loss = 0; loss <= 2; loss++) {
            x.player(0, 0, 0, 2, loss);
            x.player(1, 0, 0, 0, 0);
            Due.law(x, "gl(t=1)");
            is(x.slower(0), 100 * want[loss]);
            x.player(0, 0, 0, 0, 0);
            x.player(1, 0, 0, 2, loss);
            Due.law(x, "gm(t=1)");
            is(x.slower(0), 100 * want[loss]);
        }
    }

    void promise19_whoComesOnLosesLessToo() {
        x.worth(1, 0, 0);
        x.match(2, 1, 1);
        for (int i = 2; i < 5; i++) {
            for (int loss = 0; loss <= 2; loss++) {
                x.player(i, 7, 0, 2, loss);
                // He comes on ahead of PERIOD 0 and is there in PERIOD 1.
                Due.law(x, "h100(t=0&b=0&p=0);gl(t=1&b=7&x=0)");
                is(x.slower(0), loss == 0 ? 0 : 100);
            }
            x.player(i, 0, 0, 0, 0);
        }
    }

    void promise19_aHurtKnowsTheLegsThatAreLeftThen() {
        x.worth(1, 0, 0);
        x.match(3, 0, 1);
        x.player(0, 0, 0, 2, 2);
        Due.law(x, "h10*j(t=1&p=0);g50*e(t=2)");
        is(x.slower(0), 10 * 50 * 100);
    }

    void promise19_allElseIsAskedAtPaceNought() {
        x.worth(1, 0, 0);
        x.match(2, 0, 1);
        x.player(0, 0, 0, 2, 2);
        Due.rule(x, 0, "c0(1=1)");
        Due.law(x, "g10*l+5*y(t=1)");
        for (int turn = 0; turn < 2; turn++) {
            is(x.best(0, 0, 3000, 0, 0), 0);
            is(x.by(0, 0, 0, 3000, 0, 0), 0);
            is(x.chance(1, 0, 3000, 0, 0, 0), 0);
            is(x.slower(0), 1500);
        }
    }

    // ---- 20, game

    /** A RULE for each ACTION: 0 none, 1 and 2 PLAYER 2, 3 PLAYER 3; an OTHER is as strong as its number and 1. */
    private void table(int[][] hundredths) {
        onePeriod(1, 1);
        x.player(2, 1, 2, 0, 0);
        x.player(3, 3, 0, 0, 0);
        StringBuilder law = new StringBuilder();
        for (int row = 0; row < hundredths.length; row++) {
            for (int column = 0; column < hundredths[row].length; column++) {
                law.append(law.length() == 0 ? "g" : ";g").append(hundredths[row][column]);
                law.append("(b+f=").append(row).append("&o=").append(column + 1).append(")");
            }
        }
        is(Due.law(x, law.toString()) > 0, true);
    }

    private void rule(int k, int action) {
        Due.rule(x, k, "c" + action + "(1=1)");
    }

    private void other(int k, int strong) {
        Due.other(x, k, "o" + strong + "(1=1)");
    }

    private void game(long low, int rule, long high, int other) {
        is(x.game(0), low);
        is(x.game(1), rule);
        is(x.game(2), high);
        is(x.game(3), other);
    }

    void promise20_whatFromNoughtToThree() {
        table(new int[][] {{40, 20}, {10, 30}});
        rule(0, 0);
        rule(1, 1);
        other(0, 1);
        other(1, 2);
        game(20, 0, 30, 1);
        for (int far : beside(0, 3)) {
            is(x.game(far), -1);
        }
    }

    void promise20_noRuleOrNoOtherIsNone() {
        table(new int[][] {{40, 20}, {10, 30}});
        game(-1, -1, -1, -1);
        rule(3, 0);
        game(-1, -1, -1, -1);
        other(2, 1);
        game(40, 3, 40, 2);
        ThreeToSend y = new ThreeToSend();
        Due.other(y, 0, "o1(1=1)");
        for (int what = 0; what <= 3; what++) {
            is(y.game(what), -1);
        }
    }

    void promise20_oneOfEachIsEnough() {
        for (int k = 0; k < 4; k++) {
            for (int other = 0; other < 3; other++) {
                ThreeToSend y = new ThreeToSend();
                y.match(1, 0, 1);
                Due.rule(y, k, "c0(1=1)");
                Due.other(y, other, "o1(1=1)");
                is(y.game(0), 100);
                is(y.game(1), k);
                is(y.game(2), 100);
                is(y.game(3), other);
            }
        }
    }

    void promise20_whatIsNotToldIsNoPartOfIt() {
        table(new int[][] {{40, 20}, {10, 30}});
        // Those not told would be the least of all: 0.
        rule(1, 0);
        rule(2, 1);
        other(1, 1);
        other(2, 2);
        game(20, 1, 30, 2);
    }

    void promise20_whatIsWorthNothingIsTheLeast() {
        table(new int[][] {{0, 20}, {10, 30}});
        rule(0, 0);
        rule(1, 1);
        other(0, 1);
        other(1, 2);
        game(10, 1, 10, 0);
        table(new int[][] {{20, 0}, {30, 10}});
        game(10, 1, 10, 1);
        table(new int[][] {{0, 20}, {0, 30}});
        game(0, 0, 0, 0);
        table(new int[][] {{20, 0}, {30, 0}});
        game(0, 0, 0, 1);
    }

    void promise20_ofLikeRulesTheLowest() {
        table(new int[][] {{40, 20}, {20, 30}});
        rule(1, 1);
        rule(3, 0);
        other(0, 1);
        other(1, 2);
        game(20, 1, 30, 1);
        rule(0, 0);
        game(20, 0, 30, 1);
    }

    void promise20_ofLikeOthersTheLowest() {
        table(new int[][] {{30, 20}, {10, 30}});
        rule(0, 0);
        rule(1, 1);
        other(1, 2);
        other(2, 1);
        game(20, 0, 30, 1);
        other(0, 1);
        game(20, 0, 30, 0);
    }

    void promise20_allAreNought() {
        table(new int[][] {{0, 0}, {0, 0}});
        rule(1, 0);
        rule(2, 1);
        other(1, 1);
        other(2, 2);
        game(0, 1, 0, 1);
    }

    void promise20_allFourAgainstAllThree() {
        table(new int[][] {{11, 25, 30}, {28, 12, 33}, {20, 24, 16}, {40, 9, 50}});
        for (int k = 0; k < 4; k++) {
            rule(k, k);
        }
        for (int other = 0; other < 3; other++) {
            other(other, other + 1);
        }
        // The least of the RULES are 11, 12, 16, 9; the most of the OTHERS are 40, 25, 50.
        game(16, 2, 25, 1);
    }

    // ---- 21, mixed

    private void twoByTwo(int a, int b, int c, int d) {
        table(new int[][] {{a, b}, {c, d}});
        rule(0, 0);
        rule(3, 1);
        other(0, 1);
        other(2, 2);
    }

    private void mixed(long low, long above, long below) {
        int[][] ways = {{0, 3, 0, 2}, {3, 0, 0, 2}, {0, 3, 2, 0}, {3, 0, 2, 0}};
        for (int[] w : ways) {
            is(x.mixed(w[0], w[1], w[2], w[3], 0), low);
            is(x.mixed(w[0], w[1], w[2], w[3], 1), above);
            is(x.mixed(w[0], w[1], w[2], w[3], 2), below);
        }
    }

    void promise21_rulesFromNoughtToThree() {
        twoByTwo(40, 20, 10, 30);
        is(x.mixed(0, 3, 0, 2, 0), 20);
        for (int far : beside(0, 3)) {
            is(x.mixed(far, 3, 0, 2, 0), -1);
            is(x.mixed(0, far, 0, 2, 0), -1);
        }
    }

    void promise21_othersFromNoughtToTwo() {
        twoByTwo(40, 20, 10, 30);
        for (int far : beside(0, 2)) {
            is(x.mixed(0, 3, far, 2, 0), -1);
            is(x.mixed(0, 3, 0, far, 0), -1);
        }
    }

    void promise21_oneTwiceIsNone() {
        twoByTwo(40, 20, 10, 30);
        is(x.mixed(0, 0, 0, 2, 0), -1);
        is(x.mixed(3, 3, 0, 2, 0), -1);
        is(x.mixed(0, 3, 0, 0, 0), -1);
        is(x.mixed(0, 3, 2, 2, 0), -1);
    }

    void promise21_oneThatIsNotToldIsNone() {
        twoByTwo(40, 20, 10, 30);
        for (int k = 1; k <= 2; k++) {
            is(x.mixed(0, k, 0, 2, 0), -1);
            is(x.mixed(k, 3, 0, 2, 0), -1);
        }
        is(x.mixed(0, 3, 0, 1, 0), -1);
        is(x.mixed(0, 3, 1, 2, 0), -1);
        rule(1, 0);
        other(1, 1);
        is(x.mixed(1, 3, 1, 2, 0), 20);
    }

    void promise21_whatFromNoughtToTwo() {
        twoByTwo(40, 20, 10, 30);
        mixed(20, 5, 1);
        for (int far : beside(0, 2)) {
            is(x.mixed(0, 3, 0, 2, far), -1);
        }
    }

    void promise21_noCommonDivisor() {
        // (7 * 9 - 2 * 3) / 11 is 57 / 11, less 3: 24 / 11.
        twoByTwo(7, 2, 3, 9);
        mixed(3, 24, 11);
        // (10 * 8 - 2 * 4) / 12 is 6, less 4: 2.
        twoByTwo(10, 2, 4, 8);
        mixed(4, 2, 1);
        // (9 * 7 - 1 * 3) / 12 is 5, less 3: 2; (8 * 7 - 1 * 2) / 12 is 9 / 2, less 2: 5 / 2.
        twoByTwo(8, 1, 2, 7);
        mixed(2, 5, 2);
        twoByTwo(1, 0, 0, 1);
        mixed(0, 1, 2);
        twoByTwo(0, 100, 100, 0);
        mixed(0, 50, 1);
    }

    void promise21_nothingMoreIfLowIsHigh() {
        twoByTwo(40, 20, 30, 10);
        mixed(20, 0, 1);
        twoByTwo(10, 20, 5, 40);
        mixed(10, 0, 1);
        twoByTwo(5, 5, 5, 5);
        mixed(5, 0, 1);
        twoByTwo(0, 0, 0, 0);
        mixed(0, 0, 1);
        twoByTwo(20, 30, 20, 10);
        mixed(20, 0, 1);
        twoByTwo(20, 20, 10, 30);
        mixed(20, 0, 1);
        twoByTwo(20, 20, 20, 30);
        mixed(20, 0, 1);
        twoByTwo(20, 10, 30, 20);
        mixed(20, 0, 1);
    }

    /** RULE 1 sends PLAYER 2 on, who is GOOD at 0 by 1; OTHER 1 is as strong as 1; hundredths in the first of five. */
    private void far(String law, int worth) {
        x.match(5, 1, 1);
        x.player(2, 1, 0, 0, 0);
        x.worth(worth, 0, 0);
        is(Due.law(x, law) > 0, true);
        rule(0, 0);
        rule(1, 1);
        other(0, 0);
        other(1, 1);
    }

    private static final String[] CELLS = {"o=0&b=0", "o=1&b=0", "o=0&b=1", "o=1&b=1"};

    void promise21_asFarApartAsMayBe() {
        for (String cell : CELLS) {
            far("g20(t=0&" + cell + ")", 1);
            is(x.mixed(0, 1, 0, 1, 0), 0);
            is(x.mixed(0, 1, 0, 1, 1), 0);
            is(x.mixed(0, 1, 0, 1, 2), 1);
            far("g0(t=0&" + cell + ");g20(t=0)", 1);
            is(x.mixed(0, 1, 0, 1, 0) >= 0, true);
        }
        far("g20(t=0&o=b)", 1);
        is(x.mixed(0, 1, 0, 1, 0), 0);
        is(x.mixed(0, 1, 0, 1, 1), 1000000000);
        is(x.mixed(0, 1, 0, 1, 2), 1);
    }

    void promise21_oneFartherIsTooFar() {
        // Hurt, hurt, one let in, a goal, a goal, one in a hundred each: one way of 100 to the fifth.
        String once = "h1(t=0&p=0&o=1&b=1|t=1&e=1);a1(t=2&e=2);a100(t=3&e=2&s=0);g1(t=3&s=0-1|t=4&e=2&s=0)";
        far(once, 1);
        is(x.by(1, 0, 0, 3000, 1, 0), 1);
        is(x.mixed(0, 1, 0, 1, 0), 0);
        far(once + ";g20(t=0&o=1&b=1)", 1);
        is(x.by(1, 0, 0, 3000, 1, 0), 2000000001);
        is(x.by(1, 0, 0, 3000, 0, 0), 0);
        for (int what = 0; what <= 2; what++) {
            is(x.mixed(0, 1, 0, 1, what), -2);
            is(x.mixed(1, 0, 1, 0, what), -2);
        }
    }

    void promise21_anyTwoOfTheFourMayBeTooFar() {
        for (String cell : CELLS) {
            far("g21(t=0&" + cell + ")", 1);
            for (int what = 0; what <= 2; what++) {
                is(x.mixed(0, 1, 0, 1, what), -2);
            }
            far("g0(t=0&" + cell + ");g21(t=0)", 1);
            is(x.mixed(0, 1, 0, 1, 0), -2);
        }
    }

    void promise21_farFromNoughtIsNotFarApart() {
        far("g50(1=1)", 1000);
        is(x.mixed(0, 1, 0, 1, 0) > 2000000000L, true);
        is(x.mixed(0, 1, 0, 1, 1), 0);
        is(x.mixed(0, 1, 0, 1, 2), 1);
        far("g100(t=0&o+b=1);g99(t=0)", 1);
        is(x.mixed(0, 1, 0, 1, 0), 9900000000L);
        is(x.mixed(0, 1, 0, 1, 1), 50000000);
        is(x.mixed(0, 1, 0, 1, 2), 1);
    }

    void promise21_whatIsNoneIsNoneThoughTooFar() {
        far("g21(t=0&o=b)", 1);
        is(x.mixed(0, 1, 0, 1, 2), -2);
        is(x.mixed(0, 1, 0, 1, 3), -1);
        is(x.mixed(0, 1, 0, 1, -1), -1);
        is(x.mixed(0, 0, 0, 1, 0), -1);
        is(x.mixed(0, 1, 0, 2, 0), -1);
    }

    void promise21_productsOfTheFarthestAreRight() {
        // The products of numbers like 2000000000 go far beyond 32 bits.
        far("g20(t=0&o=b);g19(t=0&o>b)", 1);
        // Rows 20 and 0, 19 and 20, times 100000000: 400 / 21, less 19 as LOW; 1 / 21 hundred millions.
        is(x.mixed(0, 1, 0, 1, 0), 1900000000);
        is(x.mixed(0, 1, 0, 1, 1), 100000000);
        is(x.mixed(0, 1, 0, 1, 2), 21);
    }
}
