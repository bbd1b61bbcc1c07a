import java.util.ArrayList;
import java.util.Collections;
import java.util.List;
import java.util.Random;

/** The boundaries of promises 10 to 16: STATES, ACTIONS, hundredths, BEST, BY A RULE, EDGE. */
public final class StateBoundsTest extends Named {
    public static void main(String[] args) throws ReflectiveOperationException {
        run(StateBoundsTest.class);
    }

    /** CODES that are none, whatever C is: beside 0 to 3777, digits of 8 and 9, two at one PLACE. */
    private static final int[] NO_CODES = {MIN, -3000, -1, 8, 9, 80, 90, 800, 900, 3008, 3080, 3800, 3778, 3787, 3877,
        4000, 7000, 13000, MAX, 1001, 1002, 1003, 1010, 1020, 1030, 1100, 1200, 1300, 2004, 2005, 2006, 2040, 2050, 2060,
        2400, 2500, 2600, 3001, 3004, 11, 21, 33, 44, 66, 101, 303, 404, 606, 110, 330, 440, 660, 141, 464};

    /** Another way than the program's to say what a CODE is. */
    private static boolean isCode(int code, int changes) {
        if (code < 0 || code > 3999) {
            return false;
        }
        int back = code / 1000 % 2;
        int front = code / 2000;
        int made = 0;
        for (char digit : String.format("%03d", code % 1000).toCharArray()) {
            back += "123".indexOf(digit) >= 0 ? 1 : 0;
            front += "456".indexOf(digit) >= 0 ? 1 : 0;
            made += digit != '0' ? 1 : 0;
            if (digit > '7') {
                return false;
            }
        }
        return back < 2 && front < 2 && made <= changes;
    }

    // ---- 10, may

    void promise10_theFirstAndTheLastPeriod() {
        for (int n = 1; n <= 5; n++) {
            x.match(n, 3, 2);
            is(x.may(0, 3000, 0), 1);
            is(x.may(n - 1, 3000, 0), 1);
            is(x.may(n, 3000, 0), NONE);
            for (int far : beside(0, n)) {
                is(x.may(far, 3000, 0), NONE);
            }
        }
    }

    void promise10_exactlyTheseCodesAre() {
        for (int changes = 0; changes <= 3; changes++) {
            ThreeToSend y = null;
            for (int code = -10; code < 4100; code++) {
                if (y == null || code % 500 == 0) {
                    y = new ThreeToSend();
                    y.match(4, changes, 2);
                }
                is("code " + code + " by C " + changes, y.may(0, code, 0), isCode(code, changes) ? 1 : NONE);
            }
        }
    }

    void promise10_codesBesideAreNone() {
        for (int code : NO_CODES) {
            is("code " + code, x.may(0, code, 0), NONE);
        }
    }

    void promise10_theLowestAndTheHighestCode() {
        is(x.may(0, 0, 0), 1);
        is(x.may(0, -1, 0), NONE);
        is(x.may(0, 3777, 0), 1);
        is(x.may(0, 3778, 0), NONE);
        is(x.may(0, 4000, 0), NONE);
    }

    void promise10_moreChangesMadeThanMayBeAreNoCode() {
        int[] byMade = {3000, 3007, 3077, 3777};
        for (int changes = 0; changes <= 3; changes++) {
            x.match(4, changes, 2);
            for (int made = 0; made <= 3; made++) {
                is(x.may(0, byMade[made], 0), made <= changes ? 1 : NONE);
            }
        }
    }

    void promise10_theLowestAndTheHighestNumberOfAnAction() {
        is(x.may(0, 3000, 0), 1);
        is(x.may(0, 3000, -1), NONE);
        is(x.may(0, 3000, 45), 1);
        is(x.may(0, 3000, 48), 0);
        is(x.may(0, 3000, 49), NONE);
        is(x.may(0, 3000, MIN), NONE);
        is(x.may(0, 3000, MAX), NONE);
    }

    void promise10_exactlyTheseActionsAre() {
        String all = " ";
        for (int action : ACTIONS) {
            all += action + " ";
        }
        for (int action = 0; action < 49; action++) {
            is("action " + action, x.may(0, 3000, action), all.contains(" " + action + " ") ? 1 : 0);
        }
    }

    void promise10_whoIsOnOrOffDoesNotComeOn() {
        // By PLAYERS 2, 3, 4: on at the back, on in front, off; the ACTIONS that send him on.
        int[][] codes = {{2001, 1004, 3007}, {2010, 1040, 3070}, {2100, 1400, 3700}};
        String[] his = {" 1 2 23 29 37 43 ", " 3 4 23 29 39 45 ", " 5 6 37 39 43 45 "};
        for (int i = 0; i < 3; i++) {
            for (int code : codes[i]) {
                for (int action : ACTIONS) {
                    boolean isHis = his[i].contains(" " + action + " ");
                    is(code + " " + action, x.may(0, code, action), isHis ? 0 : 1);
                }
            }
        }
    }

    void promise10_anEmptyPlaceTakesOne() {
        for (int action : ACTIONS) {
            is(x.may(0, 0, action), 1);
            is(x.may(0, 1000, action), 1);
            is(x.may(0, 2000, action), 1);
        }
    }

    void promise10_changesMadeAndTheseAreNotAboveC() {
        int[] byMade = {3000, 3700, 3770};
        for (int changes = 0; changes <= 3; changes++) {
            x.match(4, changes, 2);
            for (int made = 0; made <= 2 && made <= changes; made++) {
                is(x.may(0, byMade[made], 0), 1);
                is(x.may(0, byMade[made], 1), made + 1 <= changes ? 1 : 0);
                is(x.may(0, byMade[made], 29), made + 2 <= changes && made < 2 ? 1 : 0);
            }
        }
    }

    void promise10_theseAreNotAboveM() {
        for (int once = 1; once <= 2; once++) {
            x.match(4, 3, once);
            for (int action : ACTIONS) {
                is(x.may(0, 3000, action), action < 7 || once == 2 ? 1 : 0);
            }
        }
    }

    void promise10_legsOfACodeMayBeAnyWhateverTheyWereAtFirst() {
        for (int legs = 0; legs <= 2; legs++) {
            is(x.may(0, 2001 + legs, 0), 1);
            is(x.may(0, 1400 + 100 * legs, 0), 1);
        }
    }

    void promise10_noneGoesAheadOfNought() {
        is(x.may(4, 3000, 7), NONE);
        is(x.may(0, 3001, 7), NONE);
        is(x.may(-1, 3007, 1), NONE);
    }

    // ---- 11, after

    void promise11_theFirstAndTheLastPeriod() {
        for (int n = 1; n <= 5; n++) {
            x.match(n, 3, 2);
            is(x.after(0, 3000, 0), 3000);
            is(x.after(n - 1, 3000, 0), 3000);
            is(x.after(n, 3000, 0), NONE);
            for (int far : beside(0, n)) {
                is(x.after(far, 3000, 0), NONE);
            }
        }
    }

    void promise11_codesBesideAreNone() {
        for (int code : NO_CODES) {
            is("code " + code, x.after(0, code, 0), NONE);
        }
        x.match(4, 0, 1);
        is(x.after(0, 3007, 0), NONE);
    }

    void promise11_theLowestAndTheHighestCode() {
        is(x.after(0, 0, 0), 0);
        is(x.after(3, 3777, 0), 3777);
    }

    void promise11_actionsThatMayNotBeAreNone() {
        for (int action : new int[] {MIN, -1, 7, 8, 10, 22, 24, 46, 48, 49, MAX}) {
            is(x.after(0, 3000, action), NONE);
        }
        is(x.after(0, 3007, 1), NONE);
        is(x.after(0, 3077, 29), NONE);
        is(x.after(0, 3077, 5), 2177);
        x.match(4, 2, 1);
        is(x.after(0, 3077, 5), NONE);
        is(x.after(0, 3000, 29), NONE);
    }

    void promise11_whoWasThereIsOff() {
        int[][] all = {{3000, 1, 2001}, {3000, 2, 1004}, {3000, 3, 2010}, {3000, 4, 1040}, {3000, 5, 2100}, {3000, 6, 1400},
            {2001, 3, 2017}, {2001, 5, 2107}, {2010, 1, 2071}, {2010, 5, 2170}, {2100, 1, 2701}, {2100, 3, 2710},
            {1004, 4, 1047}, {1040, 6, 1470}, {1400, 2, 1704}, {3000, 23, 14}, {3000, 29, 41}, {3000, 37, 104},
            {3000, 39, 140}, {3000, 43, 401}, {3000, 45, 410}, {2001, 45, 417}, {2001, 39, 147}};
        for (int[] a : all) {
            is(a[0] + " by " + a[1], x.after(0, a[0], a[1]), a[2]);
        }
    }

    void promise11_nobodyIsOffIfThePlaceIsEmpty() {
        int[][] all = {{0, 1, 1}, {0, 2, 4}, {2000, 1, 2001}, {1000, 2, 1004}, {0, 29, 41}, {7, 3, 17}, {77, 6, 477},
            {2000, 29, 41}, {1000, 29, 41}};
        for (int[] a : all) {
            is(a[0] + " by " + a[1], x.after(0, a[0], a[1]), a[2]);
        }
    }

    void promise11_legsAtFirstFromNoughtToTwo() {
        for (int legs = 0; legs <= 2; legs++) {
            for (int i = 2; i < 5; i++) {
                x.player(i, 1, 1, legs, 2);
            }
            for (int period = 0; period < 4; period += 3) {
                is(x.after(period, 3000, 1), 2001 + legs);
                is(x.after(period, 3000, 2), 1004 + legs);
                is(x.after(period, 3000, 3), 2010 + 10 * legs);
                is(x.after(period, 3000, 4), 1040 + 10 * legs);
                is(x.after(period, 3000, 5), 2100 + 100 * legs);
                is(x.after(period, 3000, 6), 1400 + 100 * legs);
            }
        }
    }

    void promise11_nobodyLosesLegsYet() {
        team(x);
        is(x.after(0, 2002, 0), 2002);
        is(x.after(3, 63, 0), 63);
        is(x.after(3, 2002, 4), 52);
    }

    // ---- 12, chance

    void promise12_theFirstAndTheLastPeriod() {
        for (int n = 1; n <= 5; n++) {
            x.match(n, 3, 2);
            is(x.chance(0, 0, 3000, 0, 0, 4), 100);
            is(x.chance(n - 1, 0, 3000, 0, 0, 4), 100);
            is(x.chance(n, 0, 3000, 0, 0, 4), NONE);
            for (int far : beside(0, n)) {
                is(x.chance(far, 0, 3000, 0, 0, 4), NONE);
            }
        }
    }

    void promise12_scoresFromTwoBelowToTwoAbove() {
        for (int score = -2; score <= 2; score++) {
            is(x.chance(0, score, 3000, 0, 0, 4), 100);
        }
        for (int far : beside(-2, 2)) {
            is(x.chance(0, far, 3000, 0, 0, 4), NONE);
        }
    }

    void promise12_codesBesideAreNone() {
        for (int code : NO_CODES) {
            is("code " + code, x.chance(0, 0, code, 0, 0, 4), NONE);
        }
        is(x.chance(0, 0, 3777, 0, 0, 4), 100);
        is(x.chance(0, 0, 0, 0, 0, 4), 100);
    }

    void promise12_actionsThatMayNotBeAreNone() {
        for (int action : new int[] {MIN, -1, 7, 8, 10, 22, 24, 46, 48, 49, MAX}) {
            is(x.chance(0, 0, 3000, action, 0, 4), NONE);
        }
        is(x.chance(0, 0, 3007, 1, 0, 4), NONE);
        is(x.chance(0, 0, 3000, 45, 0, 4), 100);
        x.match(4, 1, 2);
        is(x.chance(0, 0, 3000, 45, 0, 4), NONE);
        is(x.chance(0, 0, 3007, 0, 0, 4), 100);
        is(x.chance(0, 0, 3007, 3, 0, 4), NONE);
        x.match(4, 3, 1);
        is(x.chance(0, 0, 3000, 45, 0, 4), NONE);
    }

    void promise12_othersFromNoughtToTwo() {
        for (int other = 0; other <= 2; other++) {
            is(x.chance(0, 0, 3000, 0, other, 4), 100);
        }
        for (int far : beside(0, 2)) {
            is(x.chance(0, 0, 3000, 0, far, 4), NONE);
        }
    }

    void promise12_whatFromNoughtToFour() {
        Due.law(x, "g10(1=1);a20(1=1);h30-25*p(1=1)");
        int[] want = {10, 20, 30, 5, 35};
        for (int what = 0; what <= 4; what++) {
            is(x.chance(0, 0, 3000, 0, 0, what), want[what]);
        }
        for (int far : beside(0, 4)) {
            is(x.chance(0, 0, 3000, 0, 0, far), NONE);
        }
    }

    void promise12_nothingIsWhatIsLeft() {
        Due.law(x, "g100(1=1)");
        is(x.chance(0, 0, 3000, 0, 0, 4), 0);
        Due.law(x, "g30(1=1);a30(1=1);h20(1=1)");
        is(x.chance(0, 0, 3000, 0, 0, 4), 0);
        Due.law(x, "g30(1=1);a30(1=1);h19(1=1)");
        is(x.chance(0, 0, 3000, 0, 0, 4), 2);
        is(x.chance(0, 0, 2000, 0, 0, 4), 21);
        is(x.chance(0, 0, 0, 0, 0, 4), 40);
    }

    void promise12_nobodyIsHurtAtAnEmptyPlace() {
        Due.law(x, "h50(1=1)");
        is(x.chance(0, 0, 2000, 0, 0, 2), 0);
        is(x.chance(0, 0, 1000, 0, 0, 3), 0);
        is(x.chance(0, 0, 0, 1, 0, 2), 50);
        is(x.chance(0, 0, 0, 1, 0, 3), 0);
    }

    void promise12_itIsOfTheStateBehindTheAction() {
        team(x);
        Due.law(x, "gb+f+l+m+x*10(1=1)");
        is(x.chance(0, 0, 3000, 0, 0, 0), 3 + 4 + 2 + 2);
        is(x.chance(1, 0, 3000, 0, 0, 0), 3 + 4 + 1);
        is(x.chance(0, 0, 3000, 23, 0, 0), 9 + 6 + 1 + 2 + 20);
    }

    // ---- 13, best

    void promise13_periodsFromNoughtToN() {
        for (int n = 1; n <= 5; n++) {
            x.match(n, 3, 2);
            x.worth(1000, 1000, 1000);
            long want = 1000;
            for (int period = n; period >= 0; period--) {
                is(x.best(period, 0, 3000, 0, 0), want);
                is(x.best(period, 0, 3000, 0, 1), period == n ? NONE : 0);
                want *= 100;
            }
            for (int far : beside(0, n)) {
                is(x.best(far, 0, 3000, 0, 0), -1);
                is(x.best(far, 0, 3000, 0, 1), -1);
            }
        }
    }

    void promise13_scoresFromTwoBelowToTwoAbove() {
        for (int period = 0; period <= 4; period += 4) {
            for (int score = -2; score <= 2; score++) {
                long all = period == 4 ? 1 : 100000000;
                is(x.best(period, score, 3000, 0, 0), all * (score > 0 ? 3 : score == 0 ? 1 : 0));
            }
            for (int far : beside(-2, 2)) {
                is(x.best(period, far, 3000, 0, 0), -1);
            }
        }
    }

    void promise13_codesBesideAreNone() {
        for (int code : NO_CODES) {
            is("code " + code, x.best(0, 0, code, 0, 0), -1);
            is("code " + code, x.best(4, 0, code, 0, 0), -1);
        }
        for (int code : new int[] {0, 3777, 41, 777, 2001}) {
            is(x.best(0, 0, code, 0, 0), 100000000);
            is(x.best(4, 0, code, 0, 0), 1);
        }
    }

    void promise13_moreChangesMadeThanMayBeAreNoCode() {
        x.match(1, 1, 1);
        is(x.best(0, 0, 3007, 0, 0), 100);
        is(x.best(1, 0, 3007, 0, 0), 1);
        is(x.best(0, 0, 3077, 0, 0), -1);
        is(x.best(1, 0, 3077, 0, 0), -1);
    }

    void promise13_othersFromNoughtToTwo() {
        for (int period = 0; period <= 4; period += 4) {
            for (int other = 0; other <= 2; other++) {
                is(x.best(period, 1, 3000, other, 0), period == 4 ? 3 : 300000000);
            }
            for (int far : beside(0, 2)) {
                is(x.best(period, 1, 3000, far, 0), -1);
            }
        }
    }

    void promise13_whatIsNoughtOrOne() {
        for (int period = 0; period <= 4; period += 4) {
            for (int far : beside(0, 1)) {
                is(x.best(period, 1, 3000, 0, far), -1);
            }
        }
        is(x.best(3, 1, 3000, 0, 0), 300);
        is(x.best(3, 1, 3000, 0, 1), 0);
    }

    void promise13_ofLikeActionsTheLeastNumber() {
        x.match(1, 3, 2);
        Due.law(x, "g7(1=1)");
        is(x.best(0, 0, 3000, 0, 1), 0);
        Due.law(x, "g7(x=1)");
        is(x.best(0, 0, 3000, 0, 1), 1);
        is(x.best(0, 0, 3007, 0, 1), 3);
        is(x.best(0, 0, 3077, 0, 1), 5);
        is(x.best(0, 0, 3777, 0, 1), 0);
        Due.law(x, "g7(x=2)");
        is(x.best(0, 0, 3000, 0, 1), 23);
        is(x.best(0, 0, 3007, 0, 1), 39);
        is(x.best(0, 0, 3070, 0, 1), 37);
        is(x.best(0, 0, 3700, 0, 1), 23);
        is(x.best(0, 0, 3077, 0, 1), 0);
        Due.law(x, "g7(x>0)");
        is(x.best(0, 0, 3000, 0, 1), 1);
    }

    void promise13_eachActionMayBeTheBest() {
        team(x);
        x.match(1, 3, 2);
        for (int i = 2; i < 5; i++) {
            x.player(i, i + 4, i + 4, 0, 0);
        }
        // Who is at 0 and at 1 behind each ACTION, by how GOOD they are.
        int[][] want = {{0, 3, 4}, {1, 6, 4}, {2, 3, 6}, {3, 7, 4}, {4, 3, 7}, {5, 8, 4}, {6, 3, 8}, {23, 7, 6}, {29, 6, 7},
            {37, 8, 6}, {39, 8, 7}, {43, 6, 8}, {45, 7, 8}};
        for (int[] w : want) {
            Due.law(x, "g9(b=" + w[1] + "&f=" + w[2] + ")");
            is(x.best(0, 0, 3000, 0, 1), w[0]);
            is(x.best(0, 0, 3000, 0, 0), 9 * 3 + 91);
        }
    }

    void promise13_aGoalBeyondChangesNothing() {
        x.match(1, 0, 1);
        Due.law(x, "g100(1=1)");
        int[] behindAGoal = {0, 100, 300, 300, 300};
        int[] behindOneLetIn = {0, 0, 0, 100, 300};
        for (int score = -2; score <= 2; score++) {
            is(x.best(0, score, 3000, 0, 0), behindAGoal[score + 2]);
        }
        Due.law(x, "a100(1=1)");
        for (int score = -2; score <= 2; score++) {
            is(x.best(0, score, 3000, 0, 0), behindOneLetIn[score + 2]);
        }
        // From 2 a goal, and then two let in: 0.
        x.match(3, 0, 1);
        Due.law(x, "g100(t=0);a100(t>0)");
        is(x.best(0, 2, 3000, 0, 0), 1000000);
        is(x.best(0, 1, 3000, 0, 0), 1000000);
        is(x.best(0, 0, 3000, 0, 0), 0);
        // From -2 one let in, and then two goals: 0.
        Due.law(x, "a100(t=0);g100(t>0)");
        is(x.best(0, -2, 3000, 0, 0), 1000000);
        is(x.best(0, -1, 3000, 0, 0), 1000000);
        is(x.best(0, 0, 3000, 0, 0), 3000000);
    }

    void promise13_whoIsHurtIsOffAndHisPlaceIsEmpty() {
        x.match(2, 0, 1);
        x.worth(1, 0, 0);
        for (int place = 0; place <= 1; place++) {
            Due.law(x, "h100(t=0&p=" + place + ");g7(e=1&t=1)");
            is(x.best(0, 0, 3000, 0, 0), 700);
            is(x.best(0, 0, place == 0 ? 2000 : 1000, 0, 0), 700);
            is(x.best(0, 0, place == 0 ? 1000 : 2000, 0, 0), 0);
        }
        x.match(2, 1, 1);
        Due.law(x, "h100(t=0&p=0);g7(e=0&t=1)");
        is(x.best(0, 0, 2001, 0, 0), 0);
        is(x.best(0, 0, 3000, 0, 0), 700);
    }

    void promise13_legsGoBehindWhatHappens() {
        x.match(3, 0, 1);
        x.worth(1, 0, 0);
        x.player(0, 0, 0, 2, 1);
        x.player(1, 0, 0, 2, 2);
        Due.law(x, "gl*10+m(t=0)");
        is(x.best(0, 0, 3000, 0, 0), 220000);
        Due.law(x, "gl*10+m(t=1)");
        is(x.best(0, 0, 3000, 0, 0), 100000);
        Due.law(x, "g5+l*10+m(t=2)");
        is(x.best(0, 0, 3000, 0, 0), 50000);
    }

    void promise13_legsOfWhoCameOnGoNoDeeperThanNought() {
        x.match(3, 3, 2);
        x.worth(1, 0, 0);
        for (int loss = 0; loss <= 2; loss++) {
            for (int i = 2; i < 5; i++) {
                x.player(i, 0, 0, 2, loss);
            }
            for (int period = 0; period < 3; period++) {
                Due.law(x, "g7+l*10+m(t=" + period + "&u=1)");
                int left = Math.max(0, 2 - loss * period);
                is(x.best(0, 0, 63, 0, 0), (7 + 11 * left) * 10000);
            }
        }
    }

    void promise13_eachPlayerLosesHisOwnLegs() {
        x.match(2, 3, 2);
        x.worth(1, 0, 0);
        // PLAYERS 2 at 0 and 3 at 1, 3 and 4, 4 and 2: LOSS 0, 1, 2.
        x.player(2, 0, 0, 2, 0);
        x.player(3, 0, 0, 2, 1);
        x.player(4, 0, 0, 2, 2);
        Due.law(x, "gl*10+m(t=1&x=0)");
        x.match(2, 2, 2);
        is(x.best(0, 0, 63, 0, 0), 2100);
        is(x.best(0, 0, 630, 0, 0), 1000);
        is(x.best(0, 0, 306, 0, 0), 200);
    }

    void promise13_eachStateIsItself() {
        List<int[]> states = new ArrayList<>();
        for (int code = 0; code < 4000; code++) {
            for (int score = -2; score <= 2 && isCode(code, 3); score++) {
                for (int period = 0; period <= 3; period++) {
                    states.add(new int[] {period, score, code});
                }
            }
        }
        is(states.size(), 284 * 5 * 4);
        Collections.shuffle(states, new Random(13));
        ThreeToSend y = null;
        Model model = null;
        for (int i = 0; i < 2800; i++) {
            if (i % 400 == 0) {
                y = new ThreeToSend();
                model = new Model();
                tellBoth(y, model);
            }
            int[] s = states.get(i);
            String state = s[0] + " " + s[1] + " " + s[2];
            is(state, y.best(s[0], s[1], s[2], 1, i % 2), model.best(s[0], s[1], s[2], 1, i % 2));
        }
    }

    /** A match of three PERIODS in which all that is in a STATE counts. */
    private static void tellBoth(ThreeToSend y, Model model) {
        String law = "g[b*7+f*5+l*3+m*2+q+u*4]%40(1=1);a[o+t*2+e*9+11]%30(1=1);h4+p+j(1=1)";
        y.match(3, 3, 2);
        model.match(3, 3, 2);
        y.worth(900, 200, 10);
        model.worth(900, 200, 10);
        for (int i = 0; i < 5; i++) {
            y.player(i, 9 - i, 3 + i, 2 - i % 3, 1 + i % 2);
            model.player(i, 9 - i, 3 + i, 2 - i % 3, 1 + i % 2);
        }
        y.pair(2, 3, 8);
        model.pair(2, 3, 8);
        y.law(Due.feed(y, model, law));
        model.law(law.length());
        String other = "o7-2*s(1=1)";
        y.other(1, Due.feed(y, model, other));
        model.other(1, other.length());
    }

    private static final int TELLINGS = 16;

    private static void tell(ThreeToSend y, int which) {
        switch (which) {
            case 0: y.match(2, 2, 2); break;
            case 1: y.match(3, 1, 2); break;
            case 2: y.match(3, 2, 1); break;
            case 3: y.player(0, 9, 9, 1, 0); break;
            case 4: y.player(4, 9, 9, 2, 0); break;
            case 5: y.pair(0, 1, 9); break;
            case 6: y.worth(10, 500, 1); break;
            case 7: Due.law(y, "g31+x(1=1);a17+o(1=1);h5+m(1=1)"); break;
            case 8: case 9: case 10: Due.other(y, which - 8, "o44+t(1=1)"); break;
            case 11: case 12: case 13: case 14: Due.rule(y, which - 11, "c2(t=0);c5(1=1)"); break;
            default: y.fresh(3, 3); break;
        }
    }

    void promises13to30_whatIsToldAnewCountsAtOnce() {
        for (int which = 0; which < TELLINGS; which++) {
            ThreeToSend y = rich();
            y.check(0);
            String before = seen(y);
            tell(y, which);
            ThreeToSend neverAsked = rich();
            neverAsked.check(0);
            tell(neverAsked, which);
            String then = seen(y);
            same(then, seen(neverAsked));
            is("telling " + which, then.equals(before), false);
        }
    }

    // ---- 14, by

    private void ruled() {
        Due.rule(x, 0, "c0(1=1)");
        Due.rule(x, 3, "c0(1=1)");
    }

    void promise14_periodsFromNoughtToN() {
        ruled();
        for (int n = 1; n <= 5; n++) {
            x.match(n, 3, 2);
            long all = 1;
            for (int period = n; period >= 0; period--) {
                is(x.by(0, period, 0, 3000, 0, 0), all);
                is(x.by(0, period, 1, 3000, 0, 1), all);
                is(x.by(0, period, 0, 3000, 0, 2), all);
                is(x.by(0, period, -1, 3000, 0, 3), all);
                is(x.by(0, period, 0, 3000, 0, 1), 0);
                all *= 100;
            }
            for (int far : beside(0, n)) {
                is(x.by(0, far, 0, 3000, 0, 0), -1);
            }
        }
    }

    void promise14_rulesFromNoughtToThree() {
        ruled();
        for (int period = 0; period <= 4; period += 4) {
            is(x.by(0, period, 0, 3000, 0, 1), 0);
            is(x.by(3, period, 0, 3000, 0, 1), 0);
            for (int far : beside(0, 3)) {
                is(x.by(far, period, 0, 3000, 0, 1), -1);
            }
        }
    }

    void promise14_aRuleNotToldIsNone() {
        ruled();
        for (int period = 0; period <= 4; period += 4) {
            is(x.by(1, period, 0, 3000, 0, 1), -1);
            is(x.by(2, period, 0, 3000, 0, 1), -1);
        }
        Due.rule(x, 1, "c");
        is(x.by(1, 0, 0, 3000, 0, 1), -1);
    }

    void promise14_scoresFromTwoBelowToTwoAbove() {
        ruled();
        for (int period = 3; period <= 4; period++) {
            long all = period == 3 ? 100 : 1;
            for (int score = -2; score <= 2; score++) {
                is(x.by(0, period, score, 3000, 0, 1), score > 0 ? all : 0);
                is(x.by(0, period, score, 3000, 0, 2), score == 0 ? all : 0);
                is(x.by(0, period, score, 3000, 0, 3), score < 0 ? all : 0);
            }
            for (int far : beside(-2, 2)) {
                is(x.by(0, period, far, 3000, 0, 0), -1);
            }
        }
    }

    void promise14_codesBesideAreNone() {
        ruled();
        for (int code : NO_CODES) {
            is("code " + code, x.by(0, 0, 0, code, 0, 0), -1);
            is("code " + code, x.by(0, 4, 0, code, 0, 0), -1);
        }
        for (int code : new int[] {0, 3777, 41, 777, 2001}) {
            is(x.by(0, 0, 0, code, 0, 2), 100000000);
            is(x.by(0, 4, 0, code, 0, 2), 1);
        }
        x.match(1, 1, 1);
        is(x.by(0, 0, 0, 3007, 0, 2), 100);
        is(x.by(0, 0, 0, 3077, 0, 2), -1);
        is(x.by(0, 1, 0, 3077, 0, 2), -1);
    }

    void promise14_othersFromNoughtToTwo() {
        ruled();
        for (int period = 3; period <= 4; period++) {
            for (int other = 0; other <= 2; other++) {
                is(x.by(0, period, 0, 3000, other, 2), period == 3 ? 100 : 1);
            }
            for (int far : beside(0, 2)) {
                is(x.by(0, period, 0, 3000, far, 2), -1);
            }
        }
    }

    void promise14_whatFromNoughtToThree() {
        ruled();
        x.worth(5, 7, 11);
        x.match(1, 3, 2);
        Due.law(x, "g20(1=1);a30(1=1)");
        long[] want = {20 * 5 + 50 * 7 + 30 * 11, 20, 50, 30};
        for (int what = 0; what <= 3; what++) {
            is(x.by(0, 0, 0, 3000, 0, what), want[what]);
        }
        for (int far : beside(0, 3)) {
            is(x.by(0, 0, 0, 3000, 0, far), -1);
            is(x.by(0, 1, 0, 3000, 0, far), -1);
        }
    }

    void promise14_allWaysTogetherAreAHundredForEachPeriod() {
        team(x);
        Due.law(x, "g9+b(1=1);a11+f(1=1);h3+p(1=1)");
        Due.rule(x, 0, "c3(t=1);c6(e>0)");
        for (int n = 1; n <= 5; n++) {
            x.match(n, 3, 2);
            long all = 1;
            for (int period = n; period >= 0; period--) {
                long sum = 0;
                for (int what = 1; what <= 3; what++) {
                    sum += x.by(0, period, 0, 3000, 0, what);
                }
                is(sum, all);
                all *= 100;
            }
        }
    }

    void promise14_aGoalBeyondChangesNothing() {
        ruled();
        x.match(3, 3, 2);
        Due.law(x, "g100(t=0);a100(t>0)");
        is(x.by(0, 0, 2, 3000, 0, 2), 1000000);
        is(x.by(0, 0, 1, 3000, 0, 2), 1000000);
        is(x.by(0, 0, 0, 3000, 0, 3), 1000000);
        Due.law(x, "a100(t=0);g100(t>0)");
        is(x.by(0, 0, -2, 3000, 0, 2), 1000000);
        is(x.by(0, 0, -1, 3000, 0, 2), 1000000);
        is(x.by(0, 0, 0, 3000, 0, 1), 1000000);
    }

    void promise14_legsOfWhoCameOnGoNoDeeperThanNought() {
        x.match(3, 3, 2);
        x.worth(1, 0, 0);
        ruled();
        for (int loss = 0; loss <= 2; loss++) {
            for (int i = 2; i < 5; i++) {
                x.player(i, 0, 0, 2, loss);
            }
            for (int period = 0; period < 3; period++) {
                Due.law(x, "g7+l*10+m(t=" + period + ")");
                int left = Math.max(0, 2 - loss * period);
                is(x.by(0, 0, 0, 63, 0, 0), (7 + 11 * left) * 10000);
                is(x.by(0, 0, 0, 630, 0, 1), (7 + 11 * left) * 10000);
                is(x.by(0, 0, 0, 306, 0, 1), (7 + 11 * left) * 10000);
            }
        }
    }

    void promise14_whoIsHurtIsOffAndHisPlaceIsEmpty() {
        x.match(2, 3, 1);
        x.worth(1, 0, 0);
        ruled();
        for (int place = 0; place <= 1; place++) {
            Due.law(x, "h100(t=0&p=" + place + ");g7(e=1&t=1)");
            is(x.by(0, 0, 0, 3000, 0, 0), 700);
            is(x.by(0, 0, 0, place == 0 ? 2000 : 1000, 0, 0), 700);
            is(x.by(0, 0, 0, place == 0 ? 1000 : 2000, 0, 0), 0);
        }
    }

    void promise14_anActionThatMayNotBeIsNone() {
        team(x);
        x.match(1, 1, 1);
        x.worth(1, 0, 0);
        Due.law(x, "gb(1=1)");
        Due.rule(x, 0, "c3(1=1)");
        is(x.by(0, 0, 0, 3000, 0, 0), 9);
        is(x.by(0, 0, 0, 3007, 0, 0), 3);
        Due.rule(x, 0, "c23(1=1);c3(1=1)");
        is(x.by(0, 0, 0, 3000, 0, 0), 3);
        Due.rule(x, 0, "c49(1=1)");
        is(x.by(0, 0, 0, 3000, 0, 0), 3);
    }

    // ---- 15, says

    void promise15_theFirstAndTheLastPeriod() {
        Due.rule(x, 0, "c1+t(1=1)");
        for (int n = 1; n <= 5; n++) {
            x.match(n, 3, 2);
            is(x.says(0, 0, 0, 3000, 0), 1);
            is(x.says(0, n - 1, 0, 3000, 0), n);
            is(x.says(0, n, 0, 3000, 0), NONE);
            for (int far : beside(0, n)) {
                is(x.says(0, far, 0, 3000, 0), NONE);
            }
        }
    }

    void promise15_rulesFromNoughtToThree() {
        for (int k = 0; k <= 3; k++) {
            is(x.says(k, 0, 0, 3000, 0), NONE);
            Due.rule(x, k, "c" + (k + 1) + "(1=1)");
            is(x.says(k, 0, 0, 3000, 0), k + 1);
        }
        for (int far : beside(0, 3)) {
            is(x.says(far, 0, 0, 3000, 0), NONE);
        }
    }

    void promise15_scoresFromTwoBelowToTwoAbove() {
        Due.rule(x, 0, "c3+s(1=1)");
        for (int score = -2; score <= 2; score++) {
            is(x.says(0, 0, score, 3000, 0), 3 + score);
        }
        for (int far : beside(-2, 2)) {
            is(x.says(0, 0, far, 3000, 0), NONE);
        }
    }

    void promise15_codesBesideAreNone() {
        Due.rule(x, 0, "c0(1=1)");
        for (int code : NO_CODES) {
            is("code " + code, x.says(0, 0, 0, code, 0), NONE);
        }
        is(x.says(0, 0, 0, 0, 0), 0);
        is(x.says(0, 0, 0, 3777, 0), 0);
        x.match(4, 1, 1);
        is(x.says(0, 0, 0, 3007, 0), 0);
        is(x.says(0, 0, 0, 3077, 0), NONE);
    }

    void promise15_othersFromNoughtToTwo() {
        Due.rule(x, 0, "co(1=1)");
        Due.other(x, 0, "o4(1=1)");
        Due.other(x, 2, "o6(1=1)");
        is(x.says(0, 0, 0, 3000, 0), 4);
        is(x.says(0, 0, 0, 3000, 1), 0);
        is(x.says(0, 0, 0, 3000, 2), 6);
        for (int far : beside(0, 2)) {
            is(x.says(0, 0, 0, 3000, far), NONE);
        }
    }

    // ---- 16, edge

    void promise16_scoresFromTwoBelowToTwoAbove() {
        for (int score = -2; score <= 2; score++) {
            is(x.edge(score, 0), -2);
        }
        for (int far : beside(-2, 2)) {
            is(x.edge(far, 0), NONE);
        }
    }

    void promise16_eachScoreIsItself() {
        x.match(2, 3, 2);
        x.worth(3, 2, 1);
        // Ahead of PERIOD 0, by one SCORE alone, a change brings a goal or keeps one out that would be felt.
        String[] laws = {"g25*x(s=0-2&t=0);g50(t=1)", "g25*x(s=0-1&t=0)", "g25*x(s=0&t=0)", "a50-25*x(s=1&t=0)",
            "a50-25*x(s=2&t=0);a50(t=1)"};
        for (int score = -2; score <= 2; score++) {
            Due.law(x, laws[score + 2]);
            for (int asked = -2; asked <= 2; asked++) {
                is(laws[score + 2] + " by " + asked, x.edge(asked, 0), asked == score ? 0 : -2);
            }
        }
    }

    void promise16_othersFromNoughtToTwo() {
        x.match(1, 3, 2);
        Due.law(x, "gx*o(1=1)");
        Due.other(x, 2, "o1(1=1)");
        is(x.edge(0, 0), -2);
        is(x.edge(0, 1), -2);
        is(x.edge(0, 2), 0);
        for (int far : beside(0, 2)) {
            is(x.edge(0, far), NONE);
        }
    }

    void promise16_theFirstPeriodAndTheLast() {
        for (int n = 1; n <= 5; n++) {
            x.match(n, 3, 2);
            for (int period = 0; period < n; period++) {
                Due.law(x, "gx(t=" + period + ")");
                is(x.edge(0, 0), period);
            }
            Due.law(x, "gx(t=n)");
            is(x.edge(0, 0), -2);
        }
    }

    void promise16_theFirstOfMore() {
        x.match(5, 3, 2);
        Due.law(x, "gx(t=1|t=3)");
        is(x.edge(0, 0), 1);
        // One change may wait for the last PERIOD: of like ACTIONS none is the least.
        x.match(5, 1, 1);
        Due.law(x, "gx(1=1)");
        is(x.edge(0, 0), 4);
    }

    void promise16_neverIfNothingIsGained() {
        x.match(1, 3, 2);
        Due.law(x, "g50-x(1=1)");
        is(x.edge(0, 0), -2);
        Due.law(x, "g50(1=1)");
        is(x.edge(0, 0), -2);
        Due.law(x, "g50+x(1=1)");
        is(x.edge(0, 0), 0);
        x.match(1, 0, 2);
        is(x.edge(0, 0), -2);
    }

    void promise16_legsGoAsTheyDo() {
        x.worth(1, 0, 0);
        x.player(0, 0, 0, 2, 1);
        x.player(2, 5, 0, 0, 0);
        // PLAYER 0 is better till he has no LEGS left, ahead of PERIOD 2.
        Due.law(x, "g10*l+b(1=1)");
        is(x.edge(0, 0), 2);
        x.player(0, 0, 0, 2, 2);
        is(x.edge(0, 0), 1);
        x.player(0, 0, 0, 2, 0);
        is(x.edge(0, 0), -2);
    }
}
