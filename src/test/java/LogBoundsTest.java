/** The boundaries of promises 22 to 26, 28 and 31: the LOG, how WRONG it went, matches DRAWN, the CHECK. */
public final class LogBoundsTest extends Named {
    public static void main(String[] args) throws ReflectiveOperationException {
        run(LogBoundsTest.class);
    }

    private void happen(int... actionsAndWhat) {
        for (int i = 0; i < actionsAndWhat.length; i += 2) {
            is(x.happens(actionsAndWhat[i], actionsAndWhat[i + 1]), x.count(6));
        }
        is(x.count(6), actionsAndWhat.length / 2);
    }

    // ---- 22, happens

    void promise22_anEmptyLogTakesOne() {
        is(x.happens(0, 0), 1);
        is(x.count(6), 1);
    }

    void promise22_aLogOfAllPeriodsTakesNoMore() {
        for (int n = 1; n <= 5; n++) {
            x.match(n, 3, 2);
            for (int period = 1; period <= n; period++) {
                is(x.happens(0, 0), period);
            }
            is(x.happens(0, 0), NONE);
            is(x.count(6), n);
        }
    }

    void promise22_whatFromNoughtToFour() {
        x.match(5, 3, 2);
        for (int what = 0; what <= 4; what++) {
            is(x.happens(0, what), what + 1);
            is(x.logged(what + 1, 3), what);
        }
        x.undo();
        for (int far : beside(0, 4)) {
            is(x.happens(0, far), NONE);
        }
        is(x.count(6), 4);
    }

    void promise22_actionsThatMayNotBeAreNone() {
        for (int action : new int[] {MIN, -1, 7, 8, 10, 22, 24, 46, 48, 49, MAX}) {
            is(x.happens(action, 0), NONE);
        }
        is(x.count(6), 0);
        is(x.happens(45, 0), 1);
        is(x.happens(45, 0), NONE);
        is(x.happens(3, 0), NONE);
        is(x.happens(5, 0), NONE);
        is(x.happens(1, 0), 2);
        is(x.happens(1, 0), NONE);
        is(x.count(6), 2);
    }

    void promise22_eachActionIsTaken() {
        for (int action : ACTIONS) {
            x.match(1, 3, 2);
            is(x.happens(action, 0), 1);
            is(x.logged(1, 2), action);
        }
    }

    void promise22_changesMadeAndTheseAreNotAboveC() {
        for (int changes = 0; changes <= 3; changes++) {
            x.match(4, changes, 2);
            is(x.happens(1, 0), changes >= 1 ? 1 : NONE);
            is(x.happens(3, 0), changes >= 2 ? 2 : NONE);
            is(x.happens(5, 0), changes >= 3 ? 3 : NONE);
            is(x.count(6), changes);
        }
        x.match(4, 2, 2);
        happen(1, 0);
        is(x.happens(39, 0), NONE);
        x.match(4, 3, 2);
        happen(1, 0);
        is(x.happens(39, 0), 2);
    }

    void promise22_theseAreNotAboveM() {
        x.match(4, 3, 1);
        is(x.happens(45, 0), NONE);
        is(x.happens(1, 0), 1);
    }

    void promise22_nobodyIsHurtAtAnEmptyPlace() {
        happen(0, 3);
        is(x.happens(0, 3), NONE);
        is(x.count(6), 1);
        is(x.happens(0, 4), 2);
        is(x.happens(0, 4), NONE);
        is(x.happens(0, 3), NONE);
        is(x.happens(1, 4), NONE);
        is(x.happens(1, 3), 3);
        is(x.logged(3, 0), 7);
    }

    void promise22_whoHasJustComeOnMayBeHurt() {
        happen(29, 3);
        is(x.logged(1, 0), 47);
        x.undo();
        happen(29, 4);
        is(x.logged(1, 0), 71);
    }

    void promise22_whatTheLawHoldsForImpossibleMayBeTold() {
        happen(0, 1, 0, 2, 0, 3, 0, 4);
        is(x.logged(4, 0), 0);
    }

    void promise22_aGoalBeyondChangesNothing() {
        x.match(5, 3, 2);
        happen(0, 1, 0, 1, 0, 1, 0, 2, 0, 2);
        int[] want = {0, 1, 2, 2, 1, 0};
        for (int i = 0; i <= 5; i++) {
            is(x.logged(i, 1), want[i]);
        }
        x.match(5, 3, 2);
        happen(0, 2, 0, 2, 0, 2, 0, 1, 0, 1);
        for (int i = 0; i <= 5; i++) {
            is(x.logged(i, 1), -want[i]);
        }
    }

    void promise22_legsGoNoDeeperThanNought() {
        for (int loss = 0; loss <= 2; loss++) {
            for (int legs = 0; legs <= 2; legs++) {
                for (int i = 2; i < 5; i++) {
                    x.player(i, 0, 0, legs, loss);
                }
                happen(29, 0, 0, 0, 6, 0, 0, 0);
                for (int i = 1; i <= 4; i++) {
                    int two = 1 + Math.max(0, legs - loss * i);
                    int three = 4 + Math.max(0, legs - loss * i);
                    int four = 4 + Math.max(0, legs - loss * (i - 2));
                    is(x.logged(i, 0), i < 3 ? 10 * three + two : 100 * four + 70 + two);
                }
            }
        }
    }

    void promise22_aRefusedCallLeavesAllAsItWas() {
        ThreeToSend y = rich();
        String before = seen(y);
        for (int action : new int[] {-1, 3, 7, 29, 39, 45, 49}) {
            is(y.happens(action, 0), NONE);
        }
        is(y.happens(0, 4), NONE);
        is(y.happens(0, 5), NONE);
        is(y.happens(0, -1), NONE);
        same(seen(y), before);
        is(y.happens(1, 0), 3);
        String full = seen(y);
        is(y.happens(0, 0), NONE);
        same(seen(y), full);
        tapeIsAsItWas(y);
    }

    // ---- 23, undo

    void promise23_anEmptyLogHasNone() {
        is(x.undo(), NONE);
        is(x.undo(), NONE);
        is(x.count(6), 0);
        is(x.happens(0, 0), 1);
    }

    void promise23_theLastIsTheFirstToFall() {
        x.match(5, 3, 2);
        happen(1, 1, 0, 2, 4, 1, 0, 4, 0, 3);
        for (int i = 4; i >= 0; i--) {
            is(x.undo(), i);
            is(x.count(6), i);
            is(x.logged(i + 1, 0), -1000);
            is(x.logged(i, 2), i == 0 ? NONE : new int[] {1, 0, 4, 0}[i - 1]);
        }
        is(x.undo(), NONE);
    }

    void promise23_anotherMayTakeItsPlace() {
        happen(1, 1);
        is(x.undo(), 0);
        happen(4, 2);
        is(x.logged(1, 0), 1040);
        is(x.logged(1, 1), -1);
        is(x.logged(1, 2), 4);
        is(x.logged(1, 3), 2);
    }

    void promise23_undoneIsAsIfItHadNotBeen() {
        ThreeToSend y = rich();
        String before = seen(y);
        y.happens(1, 1);
        is(y.undo(), 2);
        same(seen(y), before);
        tapeIsAsItWas(y);
    }

    // ---- 24, logged

    void promise24_fromNoughtToAsManyAsThereAre() {
        x.match(5, 3, 2);
        for (int i = 0; i <= 5; i++) {
            is(x.logged(i, 0), 3000);
            is(x.logged(i + 1, 0), -1000);
            for (int far : beside(0, i)) {
                for (int what = 0; what <= 3; what++) {
                    is(x.logged(far, what), -1000);
                }
            }
            x.happens(0, 0);
        }
    }

    void promise24_whatFromNoughtToThree() {
        team(x);
        happen(23, 1, 6, 3);
        int[][] want = {{3000, 0, -1, -1}, {25, 1, 23, 1}, {477, 1, 6, 3}};
        for (int i = 0; i <= 2; i++) {
            for (int what = 0; what <= 3; what++) {
                is(x.logged(i, what), want[i][what]);
            }
            for (int far : beside(0, 3)) {
                is(x.logged(i, far), -1000);
            }
        }
    }

    void promise24_noActionAheadOfTheFirst() {
        is(x.logged(0, 2), NONE);
        is(x.logged(0, 3), NONE);
        happen(1, 1);
        is(x.logged(0, 2), NONE);
        is(x.logged(0, 3), NONE);
        is(x.logged(0, 0), 3000);
        is(x.logged(0, 1), 0);
    }

    // ---- 25, wrong; 26, worst

    private void lostBy(int n, String law) {
        x.match(n, 3, 2);
        x.worth(1, 0, 0);
        Due.law(x, law);
    }

    void promise25_periodsOfTheLog() {
        is(x.wrong(0, 0), -1);
        for (int i = 1; i <= 4; i++) {
            x.happens(0, 0);
            is(x.wrong(0, 0), 0);
            is(x.wrong(i - 1, 0), 0);
            for (int far : beside(0, i - 1)) {
                is(x.wrong(far, 0), -1);
            }
        }
        x.undo();
        is(x.wrong(3, 0), -1);
        is(x.wrong(2, 0), 0);
    }

    void promise25_othersFromNoughtToTwo() {
        lostBy(1, "go*x(1=1)");
        happen(0, 0);
        for (int other = 0; other <= 2; other++) {
            is(x.wrong(0, other), 0);
            Due.other(x, other, "o" + (other + 1) + "(1=1)");
            is(x.wrong(0, other), 2 * (other + 1));
        }
        for (int far : beside(0, 2)) {
            is(x.wrong(0, far), -1);
        }
    }

    void promise25_aHundredForEachPeriodAhead() {
        for (int n = 1; n <= 5; n++) {
            long ahead = 1;
            for (int period = 0; period < n; period++) {
                lostBy(n, "g7*x(t=" + period + ")");
                for (int i = 0; i < n; i++) {
                    x.happens(0, 0);
                }
                long left = 1;
                for (int i = period + 1; i < n; i++) {
                    left *= 100;
                }
                is(x.wrong(period, 0), 14 * left * ahead);
                for (int i = 0; i < n; i++) {
                    is(i == period || x.wrong(i, 0) == 0, true);
                }
                ahead *= 100;
            }
        }
    }

    void promise25_theMostThatMayBe() {
        x.match(5, 1, 1);
        x.worth(1000, 0, 0);
        Due.law(x, "g100(t=4&x=1)");
        for (int i = 0; i < 5; i++) {
            x.happens(0, 0);
        }
        is(x.wrong(4, 0), 10000000000000L);
        is(x.worst(0, 1), 10000000000000L);
        is(x.worst(0, 0), 4);
    }

    void promise25_bestActionsAreNotWrong() {
        lostBy(2, "g10*x(1=1)");
        long first = x.best(0, 0, 3000, 0, 1);
        x.happens((int) first, 0);
        is(x.wrong(0, 0), 0);
        x.happens((int) x.best(1, 0, x.logged(1, 0), 0, 1), 0);
        is(x.wrong(1, 0), 0);
        is(x.worst(0, 1), 0);
    }

    void promise25_whatHappenedDoesNotMatterButInWhatComes() {
        lostBy(2, "g10*x(t=0&s=0);g20*x(t=1&s<1)");
        happen(0, 1, 0, 0);
        is(x.wrong(0, 0), x.best(0, 0, 3000, 0, 0) - x.best(1, 0, 3000, 0, 0) * 100);
        is(x.wrong(1, 0), 0);
        x.undo();
        x.undo();
        happen(0, 2, 0, 0);
        is(x.wrong(1, 0), 0);
        x.undo();
        x.undo();
        happen(0, 0, 0, 0);
        is(x.wrong(1, 0), 4000);
    }

    void promise26_anEmptyLogHasNone() {
        is(x.worst(0, 0), -1);
        is(x.worst(0, 1), -1);
        happen(0, 0);
        is(x.worst(0, 0), 0);
        is(x.worst(0, 1), 0);
        x.undo();
        is(x.worst(0, 0), -1);
    }

    void promise26_othersFromNoughtToTwo() {
        lostBy(2, "go*x(t=1)");
        happen(0, 0, 0, 0);
        for (int other = 0; other <= 2; other++) {
            is(x.worst(other, 0), 0);
            Due.other(x, other, "o" + (other + 1) + "(1=1)");
            is(x.worst(other, 0), 1);
            is(x.worst(other, 1), 200 * (other + 1));
        }
        for (int far : beside(0, 2)) {
            is(x.worst(far, 0), -1);
        }
    }

    void promise26_whatIsNoughtOrOne() {
        happen(0, 0);
        is(x.worst(0, 0), 0);
        is(x.worst(0, 1), 0);
        for (int far : beside(0, 1)) {
            is(x.worst(0, far), -1);
        }
    }

    void promise26_eachPeriodMayBeTheWorst() {
        for (int n = 1; n <= 5; n++) {
            for (int period = 0; period < n; period++) {
                lostBy(n, "g7*x(t=" + period + ")");
                for (int i = 0; i < n; i++) {
                    x.happens(0, 0);
                }
                is(x.worst(0, 0), period);
                is(x.worst(0, 1), x.wrong(period, 0));
            }
        }
    }

    void promise26_ofLikeOnesTheFirst() {
        x.match(2, 2, 1);
        x.worth(1, 0, 0);
        happen(0, 0, 0, 0);
        // Ahead of PERIOD 0: 2500 + 75 * 20 less 100 * 20; ahead of PERIOD 1: 20, times 100.
        Due.law(x, "g25*x(t=0);g20*x(t=1)");
        is(x.wrong(0, 0), 2000);
        is(x.wrong(1, 0), 2000);
        is(x.worst(0, 0), 0);
        is(x.worst(0, 1), 2000);
        Due.law(x, "g25*x(t=0);g21*x(t=1)");
        is(x.worst(0, 0), 1);
        is(x.worst(0, 1), 2100);
        Due.law(x, "g25*x(t=0);g19*x(t=1)");
        is(x.worst(0, 0), 0);
        is(x.worst(0, 1), 2500 - 25 * 19);
    }

    void promise26_whatFellIsNoPartOfTheLog() {
        lostBy(3, "g20*x(t>0)");
        happen(0, 0, 0, 0);
        is(x.worst(0, 0), 1);
        x.undo();
        is(x.worst(0, 0), 0);
        is(x.worst(0, 1), x.wrong(0, 0));
        // A change ahead of PERIOD 1 that spoils all would be the worst, had it not fallen.
        lostBy(3, "a100(t=1&x=1);g5(1=1)");
        happen(0, 0, 1, 0);
        is(x.worst(0, 0), 1);
        x.undo();
        is(x.worst(0, 0), 0);
        is(x.worst(0, 1), 0);
    }

    void promise26_ofThoseThatAreAllRightTheFirst() {
        happen(0, 0, 0, 0, 0, 0, 0, 0);
        is(x.worst(0, 0), 0);
        is(x.worst(0, 1), 0);
    }

    // ---- 28, draw

    /** A match of one PERIOD, drawn by RULE 0 against OTHER 0, where X is what is told. */
    private int drawn(String law, int hundredths) {
        x.match(1, 3, 2);
        Due.law(x, law);
        for (int seed = 0; seed < 65536; seed++) {
            int then = (25173 * seed + 13849) % 65536;
            if (then % 100 == hundredths) {
                x.seed(seed);
                x.draw(0, 0);
                is(x.count(3), then);
                return x.logged(1, 3);
            }
        }
        return MIN;
    }

    void promise28_belowAGoalIsAGoal() {
        Due.rule(x, 0, "c0(1=1)");
        is(drawn("g0(1=1)", 0), 0);
        is(drawn("g1(1=1)", 0), 1);
        is(drawn("g1(1=1)", 1), 0);
        is(drawn("g50(1=1)", 49), 1);
        is(drawn("g50(1=1)", 50), 0);
        is(drawn("g99(1=1)", 98), 1);
        is(drawn("g99(1=1)", 99), 0);
        is(drawn("g100(1=1)", 99), 1);
    }

    void promise28_thenOneLetIn() {
        Due.rule(x, 0, "c0(1=1)");
        is(drawn("g10(1=1);a20(1=1)", 9), 1);
        is(drawn("g10(1=1);a20(1=1)", 10), 2);
        is(drawn("g10(1=1);a20(1=1)", 29), 2);
        is(drawn("g10(1=1);a20(1=1)", 30), 0);
        is(drawn("a1(1=1)", 0), 2);
        is(drawn("a1(1=1)", 1), 0);
        is(drawn("g10(1=1);a100(1=1)", 99), 2);
    }

    void promise28_thenAHurtAtTheBackAndInFront() {
        Due.rule(x, 0, "c0(1=1)");
        String law = "g10(1=1);a20(1=1);h30-25*p(1=1)";
        is(drawn(law, 29), 2);
        is(drawn(law, 30), 3);
        is(drawn(law, 59), 3);
        is(drawn(law, 60), 4);
        is(drawn(law, 64), 4);
        is(drawn(law, 65), 0);
        is(drawn(law, 99), 0);
        is(drawn("h50(1=1)", 49), 3);
        is(drawn("h50(1=1)", 50), 4);
        is(drawn("h50(1=1)", 99), 4);
    }

    void promise28_rulesFromNoughtToThree() {
        for (int k = 0; k <= 3; k++) {
            is(x.draw(k, 0), -1000);
            Due.rule(x, k, "c0(1=1)");
            is(x.draw(k, 0), 0);
        }
        for (int far : beside(0, 3)) {
            is(x.draw(far, 0), -1000);
        }
    }

    void promise28_othersFromNoughtToTwo() {
        x.match(1, 3, 2);
        Due.rule(x, 0, "c0(1=1)");
        Due.law(x, "g100*o(1=1)");
        for (int other = 0; other <= 2; other++) {
            is(x.draw(0, other), 0);
            Due.other(x, other, "o1(1=1)");
            is(x.draw(0, other), 1);
        }
        for (int far : beside(0, 2)) {
            is(x.draw(0, far), -1000);
        }
    }

    void promise28_allPeriodsAreDrawn() {
        Due.rule(x, 0, "c0(1=1)");
        for (int n = 1; n <= 5; n++) {
            x.match(n, 3, 2);
            x.draw(0, 0);
            is(x.count(6), n);
            is(x.happens(0, 0), NONE);
            is(x.undo(), n - 1);
        }
    }

    void promise28_itTakesThePlaceOfTheLogBefore() {
        Due.rule(x, 0, "c0(1=1)");
        happen(1, 1, 3, 1);
        is(x.draw(0, 0), 0);
        is(x.count(6), 4);
        for (int i = 1; i <= 4; i++) {
            is(x.logged(i, 0), 3000);
            is(x.logged(i, 1), 0);
            is(x.logged(i, 2), 0);
            is(x.logged(i, 3), 0);
        }
        x.undo();
        is(x.happens(1, 1), 4);
        is(x.draw(0, 0), 0);
        is(x.logged(4, 2), 0);
    }

    void promise28_theScoreGoesNoFartherThanTwo() {
        x.match(5, 3, 2);
        Due.rule(x, 0, "c0(1=1)");
        Due.law(x, "g100(1=1)");
        is(x.draw(0, 0), 2);
        Due.law(x, "a100(1=1)");
        is(x.draw(0, 0), -2);
        Due.law(x, "g100(t<3);a100(1=1)");
        is(x.draw(0, 0), 0);
    }

    void promise28_xIsModulo65536() {
        x.match(1, 3, 2);
        Due.rule(x, 0, "c0(1=1)");
        // 25173 * 65535 + 13849 is less by 25173 than 13849, modulo 65536.
        int[][] seeds = {{0, 13849}, {1, 39022}, {2, 64195}, {3, 89368 - 65536}, {65535, 65536 + 13849 - 25173},
            {65534, 65536 + 13849 - 2 * 25173}, {32768, 13849 + 32768}};
        for (int[] s : seeds) {
            x.seed(s[0]);
            x.draw(0, 0);
            is(x.count(3), s[1]);
        }
    }

    void promise28_xGoesOnByPeriods() {
        Due.rule(x, 0, "c0(1=1)");
        long state = 1;
        for (int n = 1; n <= 5; n++) {
            x.match(n, 3, 2);
            x.draw(0, 0);
            for (int period = 0; period < n; period++) {
                state = (25173 * state + 13849) % 65536;
            }
            is(x.count(3), state);
        }
    }

    void promise28_thePaceIsNought() {
        x.player(0, 0, 0, 2, 1);
        x.player(1, 0, 0, 2, 2);
        x.player(2, 0, 0, 2, 1);
        Due.rule(x, 0, "c0(1=1)");
        Due.rule(x, 1, "c1(t=0)");
        Due.law(x, "g100*y(1=1)");
        is(x.draw(0, 0), 0);
        Due.law(x, "g100(t=0&l=2&m=2);g100(t=1&l=1&m=0);a100(1=1)");
        is(x.draw(0, 0), 0);
        is(x.logged(2, 1), 2);
        is(x.draw(1, 0), 0);
        is(x.logged(1, 0), 2002);
        is(x.logged(2, 0), 2001);
        is(x.logged(2, 1), 2);
        is(x.logged(4, 0), 2001);
    }

    void promise28_anActionThatMayNotBeIsNone() {
        x.match(3, 1, 1);
        Due.rule(x, 0, "c1(t=0);c3(t=1);c29(t=2)");
        x.draw(0, 0);
        is(x.logged(1, 2), 1);
        is(x.logged(2, 2), 0);
        is(x.logged(3, 2), 0);
    }

    void promise28_aRefusedCallLeavesAllAsItWas() {
        ThreeToSend y = rich();
        String before = seen(y);
        int[][] wrongs = {{-1, 0}, {4, 0}, {0, -1}, {0, 3}, {MIN, 0}, {0, MAX}};
        for (int[] w : wrongs) {
            is(y.draw(w[0], w[1]), -1000);
        }
        same(seen(y), before);
        tapeIsAsItWas(y);
        ThreeToSend none = new ThreeToSend();
        none.happens(1, 1);
        before = seen(none);
        for (int k = 0; k <= 3; k++) {
            is(none.draw(k, 0), -1000);
        }
        same(seen(none), before);
    }

    // ---- 31, check

    private int check(int n, int... numbers) {
        for (int i = 0; i < numbers.length; i += 5) {
            int[] five = java.util.Arrays.copyOfRange(numbers, i, i + 5);
            x.feed(five[0], five[1], five[2], five[3], five[4]);
        }
        return x.check(n);
    }

    void promise31_nothingOfAnEmptyLogIsRight() {
        is(x.check(0), NONE);
        is(check(1, 3000, 0), 0);
        is(check(2, 3000, 0, 3000, 0), 0);
    }

    void promise31_eachPlaceMayBeTheFirstThatIsNotSo() {
        x.match(5, 3, 2);
        happen(1, 1, 0, 2, 4, 1, 0, 4, 0, 3);
        int[] right = new int[10];
        for (int i = 0; i < 10; i++) {
            right[i] = x.logged(i / 2 + 1, i % 2);
        }
        is(check(5, right), NONE);
        for (int i = 0; i < 10; i++) {
            int[] wrong = right.clone();
            wrong[i]++;
            is(check(5, wrong), i);
            wrong[9] += 7;
            is(check(5, wrong), i);
        }
    }

    void promise31_someAreLacking() {
        x.match(5, 3, 2);
        happen(0, 1, 0, 1, 0, 1, 0, 1, 0, 1);
        int[] right = {3000, 1, 3000, 2, 3000, 2, 3000, 2, 3000, 2};
        for (int n = 0; n <= 5; n++) {
            is(check(n, right), n == 5 ? NONE : 2 * n);
        }
        int[] wrong = {3000, 1, 3000, 1, 3000, 2, 3000, 2, 3000, 2};
        is(check(1, wrong), 2);
        is(check(2, wrong), 3);
    }

    void promise31_moreThanTheLogHas() {
        happen(0, 1);
        is(check(2, 3000, 1, 3000, 1), 2);
        is(check(2, 3000, 0, 3000, 1), 1);
    }

    void promise31_whatFellIsNoPartOfTheLog() {
        happen(0, 1, 0, 1);
        is(x.undo(), 1);
        is(check(2, 3000, 1, 3000, 2), 2);
        is(check(1, 3000, 1), NONE);
    }

    void promise31_asManyAsTheTapeHas() {
        for (int fives = 1; fives <= 11; fives++) {
            for (int i = 0; i < fives; i++) {
                x.feed(3000, 0, 3000, 0, 3000);
            }
            int most = 20 * fives / 8;
            is(x.check(most + 1), -2);
            is(x.count(5), 20 * fives);
            is(x.check(most), 0);
            is(x.count(5), 0);
        }
    }

    void promise31_theTapeIsEmptyThen() {
        for (int n = 0; n <= 5; n++) {
            x.feed(3000, 0, 3000, 0, 3000);
            x.feed(3000, 0, 3000, 0, 3000);
            is(x.check(n), n == 0 ? NONE : 0);
            is(x.count(5), 0);
        }
    }

    void promise31_notSoManyLeavesTheTape() {
        is(x.check(1), -2);
        ThreeToSend y = rich();
        String before = seen(y);
        for (int n : new int[] {6, 7, 28, 1 << 28, 1 << 29, 1 << 30, MAX, -1, MIN, MIN / 8}) {
            is(y.check(n), -2);
        }
        same(seen(y), before);
        tapeIsAsItWas(y);
    }

    void promise31_nothingElseChanges() {
        ThreeToSend y = rich();
        y.check(0);
        String before = seen(y);
        y.feed(3000, 0, 0, 0, 0);
        is(y.check(2), 0);
        same(seen(y), before);
    }
}
