/** The boundaries of promises 1 to 6, 27 and 29: a new object, and what is told by numbers. */
public final class SettingBoundsTest extends Named {
    public static void main(String[] args) throws ReflectiveOperationException {
        run(SettingBoundsTest.class);
    }

    // ---- 1, a new object

    void promise01_noneIsBelowZeroByOne() {
        is(ThreeToSend.NONE, -1);
    }

    void promise01_fourPeriods() {
        is(x.count(0), 4);
        is(x.may(3, 3000, 0), 1);
        is(x.may(4, 3000, 0), NONE);
        is(x.best(4, 0, 3000, 0, 0), 1);
        is(x.best(5, 0, 3000, 0, 0), -1);
    }

    void promise01_threeChangesInAll() {
        is(x.count(1), 3);
        is(x.may(0, 77, 5), 1);
        is(x.may(0, 777, 0), 1);
    }

    void promise01_twoChangesAtOneBreak() {
        is(x.count(2), 2);
        is(x.may(0, 3000, 29), 1);
    }

    void promise01_worthIsThreeOneAndNought() {
        is(x.best(4, 1, 3000, 0, 0), 3);
        is(x.best(4, 0, 3000, 0, 0), 1);
        is(x.best(4, -1, 3000, 0, 0), 0);
    }

    void promise01_allPlayersAreGoodAtNothing() {
        Due.law(x, "gb+f(1=1)");
        for (int action : ACTIONS) {
            is(x.chance(0, 0, 3000, action, 0, 0), 0);
        }
    }

    void promise01_allPlayersHaveNoLegs() {
        Due.law(x, "gl+m(1=1)");
        for (int action : ACTIONS) {
            is(x.chance(0, 0, 3000, action, 0, 0), 0);
        }
        for (int i = 0; i < 5; i++) {
            is(x.count(30 + i), 0);
        }
        is(x.after(0, 3000, 1), 2001);
        is(x.after(0, 3000, 2), 1004);
    }

    void promise01_noPairDoesWell() {
        Due.law(x, "gq(1=1)");
        for (int action : ACTIONS) {
            is(x.chance(0, 0, 3000, action, 0, 0), 0);
        }
    }

    void promise01_noTextsAreTold() {
        for (int what : new int[] {4, 10, 11, 12, 20, 21, 22, 23}) {
            is(x.count(what), 0);
        }
        is(x.chance(0, 0, 3000, 0, 0, 4), 100);
        for (int k = 0; k < 4; k++) {
            is(x.by(k, 0, 0, 3000, 0, 0), -1);
            is(x.says(k, 0, 0, 3000, 0), NONE);
            is(x.draw(k, 0), -1000);
            is(x.game(k), -1);
        }
        is(x.mixed(0, 1, 0, 1, 0), -1);
    }

    void promise01_theLogIsEmpty() {
        is(x.count(6), 0);
        is(x.undo(), NONE);
        is(x.logged(1, 0), -1000);
        is(x.wrong(0, 0), -1);
        is(x.worst(0, 0), -1);
        is(x.check(0), NONE);
    }

    void promise01_theMatchBeginsWithTheFirstTwo() {
        is(x.logged(0, 0), 3000);
        is(x.logged(0, 1), 0);
        is(x.logged(0, 2), NONE);
        is(x.logged(0, 3), NONE);
    }

    void promise01_theSeedIsOne() {
        is(x.count(3), 1);
        x.match(1, 3, 2);
        Due.rule(x, 0, "c0(1=1)");
        x.draw(0, 0);
        is(x.count(3), 25173 + 13849);
    }

    void promise01_theTapeIsEmpty() {
        is(x.count(5), 0);
        is(x.law(1), NONE);
        is(x.check(1), -2);
    }

    void promise01_allAreFreshByThree() {
        for (int i = 0; i < 5; i++) {
            ThreeToSend one = new ThreeToSend();
            one.player(i, 1, 0, 0, 0);
            is(one.season(1, NONE), 3);
            one.player(i, 0, 1, 0, 0);
            is(one.season(1, NONE), 3);
        }
    }

    void promise01_objectsShareNothing() {
        String before = seen(new ThreeToSend());
        rich();
        same(seen(new ThreeToSend()), before);
        ThreeToSend y = rich();
        String then = seen(y);
        new ThreeToSend();
        same(seen(y), then);
    }

    // ---- 2, match

    void promise02_onePeriodIsTaken() {
        is(x.match(1, 3, 2), true);
        is(x.count(0), 1);
        is(x.may(0, 3000, 0), 1);
        is(x.may(1, 3000, 0), NONE);
    }

    void promise02_fivePeriodsAreTaken() {
        is(x.match(5, 3, 2), true);
        is(x.count(0), 5);
        is(x.may(4, 3000, 0), 1);
        is(x.may(5, 3000, 0), NONE);
    }

    void promise02_eachNumberOfPeriodsBetweenIsTaken() {
        for (int n = 1; n <= 5; n++) {
            is(x.match(n, 3, 2), true);
            is(x.count(0), n);
        }
    }

    void promise02_noPeriodIsRefused() {
        is(x.match(0, 3, 2), false);
        is(x.count(0), 4);
    }

    void promise02_sixPeriodsAreRefused() {
        is(x.match(6, 3, 2), false);
        is(x.count(0), 4);
    }

    void promise02_noChangesAreTaken() {
        is(x.match(4, 0, 2), true);
        is(x.count(1), 0);
        is(x.may(0, 3000, 1), 0);
    }

    void promise02_threeChangesAreTaken() {
        x.match(4, 0, 2);
        is(x.match(4, 3, 2), true);
        is(x.count(1), 3);
        is(x.may(0, 77, 5), 1);
    }

    void promise02_changesBelowNoughtAreRefused() {
        is(x.match(4, -1, 2), false);
        is(x.count(1), 3);
    }

    void promise02_fourChangesAreRefused() {
        is(x.match(4, 4, 2), false);
        is(x.count(1), 3);
    }

    void promise02_oneAtABreakIsTaken() {
        is(x.match(4, 3, 1), true);
        is(x.count(2), 1);
        is(x.may(0, 3000, 1), 1);
        is(x.may(0, 3000, 29), 0);
    }

    void promise02_twoAtABreakAreTaken() {
        x.match(4, 3, 1);
        is(x.match(4, 3, 2), true);
        is(x.count(2), 2);
        is(x.may(0, 3000, 29), 1);
    }

    void promise02_noneAtABreakIsRefused() {
        is(x.match(4, 3, 0), false);
        is(x.count(2), 2);
    }

    void promise02_threeAtABreakAreRefused() {
        is(x.match(4, 3, 3), false);
        is(x.count(2), 2);
    }

    void promise02_farBesideIsRefused() {
        for (int far : new int[] {MIN, MAX, -1, 7, 256, 65536}) {
            is(x.match(far, 3, 2), false);
            is(x.match(4, far, 2), false);
            is(x.match(4, 3, far), false);
        }
    }

    void promise02_theLogFalls() {
        ThreeToSend y = rich();
        is(y.count(6), 2);
        is(y.match(3, 2, 2), true);
        is(y.count(6), 0);
        is(y.logged(1, 0), -1000);
        is(y.happens(0, 0), 1);
    }

    void promise02_nothingFallsButTheLog() {
        ThreeToSend y = rich();
        y.undo();
        y.undo();
        String before = seen(y);
        is(y.match(3, 2, 2), true);
        same(seen(y), before);
        tapeIsAsItWas(y);
    }

    void promise02_aRefusedCallLeavesAllAsItWas() {
        ThreeToSend y = rich();
        String before = seen(y);
        int[][] wrongs = {{0, 1, 1}, {6, 1, 1}, {4, -1, 1}, {4, 4, 1}, {4, 1, 0}, {4, 1, 3}, {MIN, 1, 1}, {4, MAX, 1}};
        for (int[] w : wrongs) {
            is(y.match(w[0], w[1], w[2]), false);
        }
        same(seen(y), before);
        tapeIsAsItWas(y);
    }

    // ---- 3, player

    void promise03_theFirstAndTheLastPlayerAreTaken() {
        is(x.player(0, 1, 1, 1, 1), true);
        is(x.count(30), 1);
        is(x.player(4, 1, 1, 1, 1), true);
        is(x.count(34), 1);
    }

    void promise03_eachPlayerIsHimself() {
        for (int i = 0; i < 5; i++) {
            ThreeToSend one = new ThreeToSend();
            is(one.player(i, 1, 1, 2, 1), true);
            for (int j = 0; j < 5; j++) {
                is(one.count(30 + j), i == j ? 2 : 0);
            }
        }
    }

    void promise03_aPlayerBelowNoughtIsRefused() {
        is(x.player(-1, 1, 1, 1, 1), false);
    }

    void promise03_aSixthPlayerIsRefused() {
        is(x.player(5, 1, 1, 1, 1), false);
    }

    void promise03_goodAtTheBackFromNoughtToNine() {
        Due.law(x, "gb(1=1)");
        is(x.player(0, 9, 0, 0, 0), true);
        is(x.chance(0, 0, 3000, 0, 0, 0), 9);
        is(x.player(0, 10, 0, 0, 0), false);
        is(x.player(0, -1, 0, 0, 0), false);
        is(x.chance(0, 0, 3000, 0, 0, 0), 9);
        is(x.player(0, 0, 0, 0, 0), true);
        is(x.chance(0, 0, 3000, 0, 0, 0), 0);
    }

    void promise03_goodInFrontFromNoughtToNine() {
        Due.law(x, "gf(1=1)");
        is(x.player(1, 0, 9, 0, 0), true);
        is(x.chance(0, 0, 3000, 0, 0, 0), 9);
        is(x.player(1, 0, 10, 0, 0), false);
        is(x.player(1, 0, -1, 0, 0), false);
        is(x.chance(0, 0, 3000, 0, 0, 0), 9);
        is(x.player(1, 0, 0, 0, 0), true);
        is(x.chance(0, 0, 3000, 0, 0, 0), 0);
    }

    void promise03_legsFromNoughtToTwo() {
        is(x.player(3, 0, 0, 2, 0), true);
        is(x.count(33), 2);
        is(x.player(3, 0, 0, 3, 0), false);
        is(x.player(3, 0, 0, -1, 0), false);
        is(x.count(33), 2);
        is(x.player(3, 0, 0, 0, 0), true);
        is(x.count(33), 0);
    }

    void promise03_lossFromNoughtToTwo() {
        Due.law(x, "gl(1=1)");
        is(x.player(0, 0, 0, 2, 0), true);
        is(x.chance(1, 0, 3000, 0, 0, 0), 2);
        is(x.player(0, 0, 0, 2, 2), true);
        is(x.chance(1, 0, 3000, 0, 0, 0), 0);
        is(x.player(0, 0, 0, 2, 3), false);
        is(x.player(0, 0, 0, 2, -1), false);
        is(x.chance(1, 0, 3000, 0, 0, 0), 0);
    }

    void promise03_farBesideIsRefused() {
        for (int far : new int[] {MIN, MAX, -1, 10, 256, 65536}) {
            is(x.player(far, 1, 1, 1, 1), false);
            is(x.player(1, far, 1, 1, 1), false);
            is(x.player(1, 1, far, 1, 1), false);
            is(x.player(1, 1, 1, far, 1), false);
            is(x.player(1, 1, 1, 1, far), false);
        }
    }

    void promise03_theLogFalls() {
        for (int i = 0; i < 5; i++) {
            ThreeToSend y = rich();
            is(y.count(6), 2);
            is(y.player(i, 1, 1, 1, 1), true);
            is(y.count(6), 0);
        }
    }

    void promise03_nothingFallsButTheLog() {
        ThreeToSend y = rich();
        y.undo();
        y.undo();
        String before = seen(y);
        is(y.player(1, 0, 4, 2, 2), true);
        same(seen(y), before);
        tapeIsAsItWas(y);
    }

    void promise03_freshnessStays() {
        x.fresh(2, 1);
        x.player(2, 7, 0, 0, 0);
        is(x.season(1, NONE), 7);
    }

    void promise03_aRefusedCallLeavesAllAsItWas() {
        ThreeToSend y = rich();
        String before = seen(y);
        int[][] wrongs = {{-1, 1, 1, 1, 1}, {5, 1, 1, 1, 1}, {4, -1, 1, 1, 1}, {4, 10, 1, 1, 1}, {3, 1, -1, 1, 1},
            {3, 1, 10, 1, 1}, {2, 1, 1, -1, 1}, {2, 1, 1, 3, 1}, {0, 1, 1, 1, -1}, {1, 1, 1, 1, 3}};
        for (int[] w : wrongs) {
            is(y.player(w[0], w[1], w[2], w[3], w[4]), false);
        }
        same(seen(y), before);
        tapeIsAsItWas(y);
    }

    // ---- 4, pair

    void promise04_eachPairOfTwoIsTaken() {
        for (int one = 0; one < 5; one++) {
            for (int two = 0; two < 5; two++) {
                is(x.pair(one, two, 5), one != two);
            }
        }
    }

    void promise04_oneTwiceIsRefused() {
        for (int i = 0; i < 5; i++) {
            is(x.pair(i, i, 0), false);
        }
    }

    void promise04_playersBesideAreRefused() {
        for (int far : beside(0, 4)) {
            is(x.pair(far, 1, 5), false);
            is(x.pair(1, far, 5), false);
        }
    }

    void promise04_noughtAndNineAreTaken() {
        Due.law(x, "gq(1=1)");
        is(x.pair(0, 1, 9), true);
        is(x.chance(0, 0, 3000, 0, 0, 0), 9);
        is(x.pair(0, 1, 0), true);
        is(x.chance(0, 0, 3000, 0, 0, 0), 0);
    }

    void promise04_tenAndBelowNoughtAreRefused() {
        Due.law(x, "gq(1=1)");
        x.pair(0, 1, 4);
        for (int far : beside(0, 9)) {
            is(x.pair(0, 1, far), false);
        }
        is(x.chance(0, 0, 3000, 0, 0, 0), 4);
    }

    void promise04_aPairIsTheSameBothWays() {
        x.pair(1, 0, 3);
        Due.law(x, "gq(1=1)");
        is(x.chance(0, 0, 3000, 0, 0, 0), 3);
        x.pair(0, 1, 6);
        is(x.chance(0, 0, 3000, 0, 0, 0), 6);
    }

    void promise04_eachPairIsItself() {
        // Who is at 0 and at 1 behind an ACTION; the two of a pair find each other in either order.
        int[][] pairs = {{0, 1, 0}, {2, 1, 1}, {0, 2, 2}, {3, 1, 3}, {0, 3, 4}, {4, 1, 5}, {0, 4, 6}, {3, 2, 23},
            {2, 3, 29}, {4, 2, 37}, {4, 3, 39}, {2, 4, 43}, {3, 4, 45}};
        for (int[] told : pairs) {
            ThreeToSend y = new ThreeToSend();
            Due.law(y, "gq(1=1)");
            y.pair(told[0], told[1], 7);
            for (int[] asked : pairs) {
                boolean isIt = told[0] == asked[0] && told[1] == asked[1]
                        || told[0] == asked[1] && told[1] == asked[0];
                is("pair " + told[2] + " by " + asked[2], y.chance(0, 0, 3000, asked[2], 0, 0), isIt ? 7 : 0);
            }
        }
    }

    void promise04_nothingFalls() {
        ThreeToSend y = rich();
        String before = seen(y);
        is(y.pair(1, 0, 4), true);
        same(seen(y), before);
        tapeIsAsItWas(y);
    }

    void promise04_aRefusedCallLeavesAllAsItWas() {
        ThreeToSend y = rich();
        String before = seen(y);
        int[][] wrongs = {{-1, 1, 5}, {5, 1, 5}, {0, -1, 5}, {0, 5, 5}, {0, 0, 5}, {3, 3, 5}, {0, 1, -1}, {0, 1, 10}};
        for (int[] w : wrongs) {
            is(y.pair(w[0], w[1], w[2]), false);
        }
        same(seen(y), before);
        tapeIsAsItWas(y);
    }

    // ---- 5, worth

    private void worthIs(int won, int drawn, int lost) {
        is(x.best(4, 1, 3000, 0, 0), won);
        is(x.best(4, 0, 3000, 0, 0), drawn);
        is(x.best(4, -1, 3000, 0, 0), lost);
    }

    void promise05_noughtIsTaken() {
        is(x.worth(0, 0, 0), true);
        worthIs(0, 0, 0);
    }

    void promise05_aThousandIsTaken() {
        is(x.worth(1000, 1000, 1000), true);
        worthIs(1000, 1000, 1000);
    }

    void promise05_eachIsItself() {
        is(x.worth(1000, 0, 1), true);
        worthIs(1000, 0, 1);
        is(x.worth(0, 1000, 999), true);
        worthIs(0, 1000, 999);
        is(x.worth(5, 6, 1000), true);
        worthIs(5, 6, 1000);
    }

    void promise05_besideIsRefused() {
        for (int far : beside(0, 1000)) {
            is(x.worth(far, 5, 5), false);
            is(x.worth(5, far, 5), false);
            is(x.worth(5, 5, far), false);
        }
        worthIs(3, 1, 0);
    }

    void promise05_nothingFalls() {
        ThreeToSend y = rich();
        String before = seen(y);
        is(y.worth(700, 50, 3), true);
        same(seen(y), before);
        tapeIsAsItWas(y);
    }

    void promise05_aRefusedCallLeavesAllAsItWas() {
        ThreeToSend y = rich();
        String before = seen(y);
        int[][] wrongs = {{-1, 1, 1}, {1001, 1, 1}, {1, -1, 1}, {1, 1001, 1}, {1, 1, -1}, {1, 1, 1001}};
        for (int[] w : wrongs) {
            is(y.worth(w[0], w[1], w[2]), false);
        }
        same(seen(y), before);
        tapeIsAsItWas(y);
    }

    // ---- 6, feed

    void promise06_anEmptyTapeTakesTwenty() {
        is(x.feed(0, 0, 0, 0, 0), 20);
        is(x.count(5), 20);
    }

    void promise06_theEleventhFillsIt() {
        for (int i = 1; i <= 11; i++) {
            is(x.feed(0, 0, 0, 0, 0), 20 * i);
        }
        is(x.count(5), 220);
    }

    void promise06_theTwelfthIsRefused() {
        for (int i = 1; i <= 11; i++) {
            x.feed(0, 0, 0, 0, 0);
        }
        is(x.feed(0, 0, 0, 0, 0), NONE);
        is(x.feed(MIN, MAX, -1, 1, 0), NONE);
        is(x.count(5), 220);
    }

    void promise06_aRefusedCallLeavesTheTapeAsItWas() {
        Due.feed(x, "g5(1=1)" + ".".repeat(213));
        is(x.count(5), 220);
        is(x.feed(0x61392831, 0x3d312961, 0x61392831, 0x3d312961, 0x61392831), NONE);
        is(x.law(7), 1);
        is(x.chance(0, 0, 3000, 0, 0, 0), 5);
        is(x.chance(0, 0, 3000, 0, 0, 1), 0);
    }

    void promise06_whatIsReadIsEmptyThenAndTakesTwentyAgain() {
        for (int i = 1; i <= 11; i++) {
            x.feed(0, 0, 0, 0, 0);
        }
        x.check(0);
        is(x.feed(0, 0, 0, 0, 0), 20);
    }

    void promise06_theHighestByteComesFirst() {
        // g5(1 =1)
        is(x.feed(0x67352831, 0x3d312900, 0, 0, 0), 20);
        is(x.law(7), 1);
    }

    void promise06_allFiveCome() {
        // g5+1 +1+1 +1+1 +1+1 (1=1
        x.feed(0x67352b31, 0x2b312b31, 0x2b312b31, 0x2b312b31, 0x28313d31);
        x.feed(0x29000000, 0, 0, 0, 0);
        is(x.law(21), 1);
        is(x.chance(0, 0, 3000, 0, 0, 0), 12);
    }

    void promise06_bytesAreNotSigned() {
        x.happens(0, 2);
        x.happens(0, 2);
        // A number below 0 is four bytes of 0 to 255: it comes back as it was.
        x.feed(3000, -1, 3000, -2, MIN);
        is(x.check(2), NONE);
        x.feed(3000, 255, 0, 0, 0);
        is(x.check(1), 1);
        x.feed(3000, 0x00ffffff, 0, 0, 0);
        is(x.check(1), 1);
    }

    void promise06_eachByteOfANumberCounts() {
        x.happens(0, 2);
        for (int shift = 0; shift < 32; shift++) {
            x.feed(3000 ^ 1 << shift, -1, 0, 0, 0);
            is(x.check(1), 0);
            x.feed(3000, -1 ^ 1 << shift, 0, 0, 0);
            is(x.check(1), 1);
        }
    }

    void promise06_theLastNumberOfAFullTapeIsRight() {
        x.match(5, 3, 2);
        for (int i = 0; i < 5; i++) {
            x.happens(0, 2);
        }
        x.feed(3000, -1, 3000, -2, 3000);
        x.feed(-2, 3000, -2, 3000, -2);
        for (int i = 2; i < 11; i++) {
            x.feed(1, 2, 3, 4, 5);
        }
        is(x.check(5), NONE);
    }

    void promise06_nothingElseChanges() {
        ThreeToSend y = rich();
        y.check(0);
        String before = seen(y);
        is(y.feed(1, 2, 3, 4, 5), 20);
        y.check(0);
        same(seen(y), before);
    }

    // ---- 27, seed

    void promise27_noughtIsTaken() {
        is(x.seed(0), true);
        is(x.count(3), 0);
    }

    void promise27_theHighestIsTaken() {
        is(x.seed(65535), true);
        is(x.count(3), 65535);
    }

    void promise27_belowNoughtIsRefused() {
        is(x.seed(-1), false);
        is(x.count(3), 1);
    }

    void promise27_oneMoreIsRefused() {
        is(x.seed(65536), false);
        is(x.count(3), 1);
    }

    void promise27_farBesideIsRefused() {
        is(x.seed(MIN), false);
        is(x.seed(MAX), false);
        is(x.count(3), 1);
    }

    void promise27_aSeedToldAnewStartsAnew() {
        Due.rule(x, 0, "c0(1=1)");
        Due.law(x, "g30(1=1);a30(1=1)");
        x.seed(4711);
        int score = x.draw(0, 0);
        int then = x.count(3);
        x.seed(4711);
        is(x.draw(0, 0), score);
        is(x.count(3), then);
    }

    void promise27_nothingFalls() {
        ThreeToSend y = rich();
        String before = seen(y);
        is(y.seed(777), true);
        same(seen(y), before);
        tapeIsAsItWas(y);
    }

    void promise27_aRefusedCallLeavesAllAsItWas() {
        ThreeToSend y = rich();
        String before = seen(y);
        is(y.seed(-1), false);
        is(y.seed(65536), false);
        same(seen(y), before);
        tapeIsAsItWas(y);
    }

    // ---- 29, fresh

    void promise29_theFirstAndTheLastPlayerAreTaken() {
        for (int i = 0; i < 5; i++) {
            ThreeToSend one = new ThreeToSend();
            one.player(i, 1, 0, 0, 0);
            is(one.fresh(i, 2), true);
            is(one.season(1, NONE), 2);
        }
    }

    void promise29_playersBesideAreRefused() {
        for (int far : beside(0, 4)) {
            is(x.fresh(far, 1), false);
        }
    }

    void promise29_fromNoughtToThree() {
        x.player(0, 1, 0, 0, 0);
        for (int much = 0; much <= 3; much++) {
            is(x.fresh(0, much), true);
            is(x.season(1, NONE), much);
        }
    }

    void promise29_besideIsRefused() {
        x.player(0, 1, 0, 0, 0);
        x.fresh(0, 2);
        for (int far : beside(0, 3)) {
            is(x.fresh(0, far), false);
        }
        is(x.season(1, NONE), 2);
    }

    void promise29_aSeasonTiresNobody() {
        x.player(0, 9, 0, 0, 0);
        x.season(8, NONE);
        x.season(8, 7);
        is(x.season(1, NONE), 27);
    }

    void promise29_nothingFalls() {
        ThreeToSend y = rich();
        String before = seen(y);
        is(y.fresh(1, 2), true);
        same(seen(y), before);
        tapeIsAsItWas(y);
    }

    void promise29_aRefusedCallLeavesAllAsItWas() {
        ThreeToSend y = rich();
        String before = seen(y);
        int[][] wrongs = {{-1, 1}, {5, 1}, {0, -1}, {0, 4}, {MIN, 0}, {0, MAX}};
        for (int[] w : wrongs) {
            is(y.fresh(w[0], w[1]), false);
        }
        same(seen(y), before);
        tapeIsAsItWas(y);
    }
}
