/** The boundaries of promises 7 to 9: what TEXTS are taken, and where their first FAULT is. */
public final class TextBoundsTest extends Named {
    public static void main(String[] args) throws ReflectiveOperationException {
        run(TextBoundsTest.class);
    }

    private static final String[] HEADS = {"g", "o", "c"};

    private static String times(String clause, int times) {
        return clause + (";" + clause).repeat(times - 1);
    }

    /** The FAULT that one text has as THE LAW. */
    private void fault(String text, int want) {
        is(text, Due.law(new ThreeToSend(), text), want);
    }

    /** As THE LAW, as an OTHER and as a RULE: its g is the letter that may stand there. */
    private void faultOfAll(String text, int want) {
        for (String head : HEADS) {
            String one = text.replace("g", head);
            ThreeToSend y = new ThreeToSend();
            is(one, tell(y, head, Due.feed(y, one)), want);
        }
    }

    private static int tell(ThreeToSend x, String head, int n) {
        return head.equals("g") ? x.law(n) : head.equals("o") ? x.other(1, n) : x.rule(2, n);
    }

    private static int clauses(ThreeToSend x, String head) {
        return x.count(head.equals("g") ? 4 : head.equals("o") ? 11 : 22);
    }

    // ---- how many bytes

    private static final String OF_200 = "g" + "1+".repeat(96) + "12(1=1)";

    void promise07_noByteIsRefused() {
        for (String head : HEADS) {
            Due.feed(x, head + "5(1=1)");
            is(tell(x, head, 0), NONE);
            is(x.count(5), 20);
            is(tell(x, head, 7), 1);
        }
    }

    void promise07_bytesBelowNoughtAreRefused() {
        for (String head : HEADS) {
            Due.feed(x, head + "5(1=1)");
            is(tell(x, head, -1), NONE);
            is(tell(x, head, -7), NONE);
            is(tell(x, head, MIN), NONE);
            is(x.count(5), 20);
            is(tell(x, head, 7), 1);
        }
    }

    void promise07_oneByteIsTaken() {
        for (String head : HEADS) {
            Due.feed(x, head);
            is(tell(x, head, 1), -1001);
            is(x.count(5), 0);
        }
    }

    void promise07_twoHundredBytesAreTaken() {
        is(OF_200.length(), 200);
        for (String head : HEADS) {
            String text = OF_200.replace("g", head);
            is(tell(x, head, Due.feed(x, text)), 1);
        }
    }

    void promise07_allTwoHundredBytesCount() {
        Due.law(x, "g" + "0+".repeat(96) + "12(1=1)");
        is(x.chance(0, 0, 3000, 0, 0, 0), 12);
        String letters = "gt" + "+t".repeat(96) + "(1=1)";
        is(letters.length(), 199);
        is(Due.law(x, letters), 1);
        is(x.chance(1, 0, 3000, 0, 0, 0), 97);
    }

    void promise07_twoHundredAndOneAreRefused() {
        for (String head : HEADS) {
            Due.feed(x, OF_200.replace("g", head) + ";" + OF_200.substring(0, 19));
            is(x.count(5), 220);
            is(tell(x, head, 201), NONE);
            is(tell(x, head, 220), NONE);
            is(tell(x, head, 221), NONE);
            is(tell(x, head, MAX), NONE);
            is(x.count(5), 220);
            is(tell(x, head, 200), 1);
        }
    }

    void promise07_asManyAsTheTapeHasAreTaken() {
        for (String head : HEADS) {
            Due.feed(x, head + "1111+1111+111(11=11)".substring(1));
            is(x.count(5), 20);
            is(tell(x, head, 20), 1);
        }
    }

    void promise07_oneMoreThanTheTapeHasIsRefused() {
        for (String head : HEADS) {
            Due.feed(x, head + "5(1=1)");
            is(tell(x, head, 21), NONE);
            is(x.count(5), 20);
            is(clauses(x, head), 0);
            x.check(0);
            is(tell(x, head, 1), NONE);
        }
    }

    void promise07_whatIsBehindTheBytesDoesNotCount() {
        for (String head : HEADS) {
            Due.feed(x, head + "5(1=1);" + head + "6(1=1)((((((((((((");
            is(tell(x, head, 7), 1);
            Due.feed(x, head + "5(1=1)");
            is(tell(x, head, 6), -1006);
            Due.feed(x, head + "5(1=1)");
            is(tell(x, head, 2), -1002);
        }
    }

    void promise07_whatStoodOnTheTapeBeforeDoesNotCount() {
        Due.feed(x, "g5(1=1);a6(1=1);h7(1=1);a8(1=1)");
        x.law(7);
        Due.feed(x, "g5(1=1");
        is(x.law(6), -1006);
    }

    // ---- what is empty then, what stays

    void promise07_theTapeIsEmptyBehindAText() {
        for (String head : HEADS) {
            Due.feed(x, head + "5(1=1)" + ".".repeat(33));
            is(x.count(5), 40);
            is(tell(x, head, 7), 1);
            is(x.count(5), 0);
        }
    }

    void promise07_theTapeIsEmptyBehindAFault() {
        for (String head : HEADS) {
            Due.feed(x, head + "5(1=1" + ".".repeat(33));
            is(tell(x, head, 6), -1006);
            is(x.count(5), 0);
        }
    }

    void promise07_aTextWithAFaultLeavesTheOneBefore() {
        String[] faulty = {"g", "g1", "g1(1=1);g2(1=1", "g1(1=1);g123456(1=1)", times("g1(1=1)", 15),
            "g[[[[[[[1]]]]]]](1=1)"};
        for (String text : faulty) {
            ThreeToSend y = rich();
            y.check(0);
            String before = seen(y);
            for (String head : HEADS) {
                String one = text.replace("g", head);
                is(tell(y, head, Due.feed(y, one)) < -1000, true);
            }
            same(seen(y), before);
        }
    }

    void promise07_aTextIsReadAfreshBehindManyFaults() {
        for (int turn = 0; turn < 30; turn++) {
            is(Due.law(x, "g" + "1+".repeat(40) + "1(1=1&((1=1)|!1=1"), -1098);
        }
        is(Due.law(x, times("g1(1=2)", 13) + ";g7+[5*t-2]*[s+1]((1=1&t>0)|!1=1)"), 14);
        is(x.chance(0, 0, 3000, 0, 0, 0), 0);
        is(x.chance(2, 0, 3000, 0, 0, 0), 15);
        is(Due.law(x, OF_200), 1);
        is(x.chance(0, 0, 3000, 0, 0, 0), 100);
    }

    void promise07_aTextTakesThePlaceOfTheOneBefore() {
        for (String head : HEADS) {
            is(tell(x, head, Due.feed(x, times(head + "1(1=1)", 14))), 14);
            is(clauses(x, head), 14);
            is(tell(x, head, Due.feed(x, head + "2(1=1)")), 1);
            is(clauses(x, head), 1);
            is(tell(x, head, Due.feed(x, times(head + "1(1=2)", 3))), 3);
            is(clauses(x, head), 3);
        }
        is(x.chance(0, 0, 3000, 0, 1, 0), 0);
        is(x.says(2, 0, 0, 3000, 0), 0);
    }

    void promise07_noneLeavesAllAsItWas() {
        ThreeToSend y = rich();
        String before = seen(y);
        for (String head : HEADS) {
            for (int n : new int[] {0, -1, 41, 201, MIN, MAX}) {
                is(tell(y, head, n), NONE);
            }
        }
        same(seen(y), before);
        tapeIsAsItWas(y);
    }

    void promise07_aTextToldAgainChangesNothing() {
        ThreeToSend y = rich();
        y.check(0);
        String before = seen(y);
        is(Due.law(y, "g[b*7+f*5+l*3+m*2+q]%40(1=1);a[o+t+e*9+11]%30(1=1);h4+p+j(1=1)"), 3);
        is(Due.other(y, 1, "o20+s(1=1);o1(1=1)"), 2);
        is(Due.rule(y, 1, "c29(s<1);c1(1=1);c2(1=1)"), 3);
        same(seen(y), before);
    }

    // ---- which OTHER, which RULE

    void promise08_theFirstAndTheLastOtherAreTaken() {
        for (int k = 0; k < 3; k++) {
            is(Due.other(x, k, times("o1(1=1)", k + 1)), k + 1);
            is(x.count(10 + k), k + 1);
        }
        is(x.count(10), 1);
        is(x.count(11), 2);
    }

    void promise08_othersBesideAreRefused() {
        ThreeToSend y = rich();
        String before = seen(y);
        for (int far : beside(0, 2)) {
            is(y.other(far, 7), NONE);
        }
        same(seen(y), before);
        tapeIsAsItWas(y);
    }

    void promise08_anOtherBesideIsNoneThoughTheTextHasAFault() {
        Due.feed(x, "?");
        is(x.other(3, 1), NONE);
        is(x.other(-1, 1), NONE);
        is(x.count(5), 20);
    }

    void promise09_theFirstAndTheLastRuleAreTaken() {
        for (int k = 0; k < 4; k++) {
            is(Due.rule(x, k, times("c1(1=1)", k + 1)), k + 1);
            is(x.count(20 + k), k + 1);
        }
        is(x.count(20), 1);
        is(x.count(21), 2);
        is(x.count(22), 3);
    }

    void promise09_rulesBesideAreRefused() {
        ThreeToSend y = rich();
        String before = seen(y);
        for (int far : beside(0, 3)) {
            is(y.rule(far, 7), NONE);
        }
        same(seen(y), before);
        tapeIsAsItWas(y);
    }

    void promise09_aRuleBesideIsNoneThoughTheTextHasAFault() {
        Due.feed(x, "?");
        is(x.rule(4, 1), NONE);
        is(x.rule(-1, 1), NONE);
        is(x.count(5), 20);
    }

    // ---- which letters

    void promise07_onlyThreeLettersBeginItsClauses() {
        for (int c = 0; c < 256; c++) {
            int want = "gah".indexOf(c) >= 0 ? 1 : -1000;
            is("byte " + c, Due.law(newNow(c), (char) c + "5(1=1)"), want);
        }
    }

    void promise08_onlyOneLetterBeginsItsClauses() {
        for (int c = 0; c < 256; c++) {
            is("byte " + c, Due.other(newNow(c), 0, (char) c + "5(1=1)"), c == 'o' ? 1 : -1000);
        }
    }

    void promise09_onlyOneLetterBeginsItsClauses() {
        for (int c = 0; c < 256; c++) {
            is("byte " + c, Due.rule(newNow(c), 0, (char) c + "5(1=1)"), c == 'c' ? 1 : -1000);
        }
    }

    private ThreeToSend now;

    /** A new object now and then, so that none is used too long. */
    private ThreeToSend newNow(int turn) {
        now = turn % 100 == 0 ? new ThreeToSend() : now;
        return now;
    }

    void promise07_onlySixteenLettersAndDigitsAreFactors() {
        for (int c = 0; c < 256; c++) {
            boolean is = "tnsbflmexuqoypkj0123456789".indexOf(c) >= 0;
            // Behind [ more is wanted: that begins a FACTOR, too.
            int want = is ? 1 : c == '[' ? -1002 : -1001;
            is("byte " + c, Due.law(newNow(c), "g" + (char) c + "(1=1)"), want);
        }
    }

    void promise07_onlyFiveSignsStandBetweenFactors() {
        for (int c = 0; c < 256; c++) {
            boolean is = "+-*/%".indexOf(c) >= 0;
            // A digit goes on with the number; a ( begins the C, and there t(1=1) lacks one of < > =.
            int want = is || c >= '0' && c <= '9' ? 1 : c == '(' ? -1004 : -1002;
            is("byte " + c, Due.law(newNow(c), "g1" + (char) c + "1(1=1)"), want);
        }
    }

    void promise07_onlyThreeSignsCompare() {
        for (int c = 0; c < 256; c++) {
            boolean is = "<>=".indexOf(c) >= 0;
            // What goes on with the number or the E lacks one of < > = at the ).
            boolean goesOn = "+-*/%".indexOf(c) >= 0 || c >= '0' && c <= '9';
            is("byte " + c, Due.law(newNow(c), "g1(1" + (char) c + "1)"), is ? 1 : goesOn ? -1006 : -1004);
        }
    }

    void promise07_onlyTwoSignsStandBetweenPieces() {
        for (int c = 0; c < 256; c++) {
            boolean is = "&|".indexOf(c) >= 0;
            boolean goesOn = "+-*/%".indexOf(c) >= 0 || c >= '0' && c <= '9';
            // What goes on is 1=1?2=2, whose second = can't stand there; a ) ends the CLAUSE.
            int want = is ? 1 : goesOn ? -1008 : c == ')' ? -1007 : -1006;
            is("byte " + c, Due.law(newNow(c), "g1(1=1" + (char) c + "2=2)"), want);
        }
    }

    void promise07_onlyASemicolonStandsBetweenClauses() {
        for (int c = 0; c < 256; c++) {
            is("byte " + c, Due.law(newNow(c), "g1(1=1)" + (char) c + "a1(1=1)"), c == 59 ? 2 : -1007);
        }
    }

    void promise07_noBlanksAnywhere() {
        String text = "g1+[t](!(1=1)|2<3);a1(1=1)";
        for (int i = 0; i <= text.length(); i++) {
            fault(text.substring(0, i) + " " + text.substring(i), -1000 - i);
        }
        fault(text, 2);
    }

    void promise07_theEndIsAFaultWhereMoreIsDue() {
        String text = "g[5+t]*22(!(1=1|[2]<3)&s>0);a1(1=1)";
        for (int n = 1; n <= text.length(); n++) {
            boolean isWhole = n == text.indexOf(';') || n == text.length();
            fault(text.substring(0, n), isWhole ? n == text.length() ? 2 : 1 : -1000 - n);
        }
    }

    void promise07_theFirstFaultFromTheLeft() {
        fault("g123456(1=1);;", -2006);
        fault("g1(1=1);;g123456(1=1)", -1008);
        fault("g[[[[[[[123456", -5007);
        fault("g[[[[[[123456[", -2012);
        fault("g1(1=1)g[[[[[[[", -1007);
        fault(times("g1(1=1)", 14) + "g", -1111);
        fault(times("g1(1=1)", 13) + ";g123456(1=1);g1(1=1)", -2110);
    }

    void promise07_aFaultAtTheLastPlace() {
        faultOfAll("g" + "1+".repeat(99) + "1", -1200);
        faultOfAll("g11" + "+1".repeat(98) + "?", -1199);
        faultOfAll("g11+" + "1+".repeat(95) + "123456", -2199);
        faultOfAll("g" + "1+".repeat(96) + "[[[[[[[", -5199);
        faultOfAll(times("g1+1+11(1=1)", 14) + "+1+1+1+1+1+1+1+1", -1181);
        faultOfAll(times("g1+1+111(1=1)", 14) + ";g", -4196);
    }

    // ---- 1: what can't stand there

    void promise07_aClauseNeedsItsLetterItsNumberAndItsCondition() {
        faultOfAll("5(1=1)", -1000);
        faultOfAll("(1=1)", -1000);
        faultOfAll("g(1=1)", -1001);
        faultOfAll("g5", -1002);
        faultOfAll("g5;g5(1=1)", -1002);
        faultOfAll("g5()", -1003);
        fault("gg5(1=1)", -1001);
    }

    void promise07_nothingIsSignedAndNothingIsLeftOut() {
        faultOfAll("g-5(1=1)", -1001);
        faultOfAll("g+5(1=1)", -1001);
        faultOfAll("g5+(1=1)", -1003);
        faultOfAll("g5*/5(1=1)", -1003);
        faultOfAll("g[](1=1)", -1002);
        faultOfAll("g[5(1=1)", -1003);
        faultOfAll("g5](1=1)", -1002);
        faultOfAll("g5[1](1=1)", -1002);
        faultOfAll("g5t(1=1)", -1002);
        faultOfAll("gt5(1=1)", -1002);
        faultOfAll("gtt(1=1)", -1002);
    }

    void promise07_aPieceIsComparedOnce() {
        faultOfAll("g5(1)", -1004);
        faultOfAll("g5(1=)", -1005);
        faultOfAll("g5(=1)", -1003);
        faultOfAll("g5(1=1=1)", -1006);
        faultOfAll("g5(1<=1)", -1005);
        faultOfAll("g5(1=1<1)", -1006);
        faultOfAll("g5(1!=1)", -1004);
    }

    void promise07_roundBracketsAreOfConditionsEdgedOnesOfNumbers() {
        faultOfAll("g(5)(1=1)", -1001);
        faultOfAll("g5((1)=1)", -1005);
        faultOfAll("g5(1=(1))", -1005);
        faultOfAll("g5([1=1])", -1005);
        faultOfAll("g5((1=1)=1)", -1008);
        faultOfAll("g5((1=1)+1=1)", -1008);
        faultOfAll("g5([1)=1)", -1005);
        faultOfAll("g5((1=1]", -1007);
        faultOfAll("g[5)(1=1)", -1003);
        faultOfAll("g5[(1=1)", -1002);
        faultOfAll("g[!5](1=1)", -1002);
        faultOfAll("g!5(1=1)", -1001);
    }

    void promise07_partsAndPiecesAreNotLeftOut() {
        faultOfAll("g5(1=1&)", -1007);
        faultOfAll("g5(1=1|)", -1007);
        faultOfAll("g5(&1=1)", -1003);
        faultOfAll("g5(|1=1)", -1003);
        faultOfAll("g5(1=1||1=1)", -1007);
        faultOfAll("g5(1=1&&1=1)", -1007);
        faultOfAll("g5(1=1&|1=1)", -1007);
        faultOfAll("g5(!)", -1004);
        faultOfAll("g5(1=!1)", -1005);
        faultOfAll("g5(1=1!)", -1006);
        faultOfAll("g5(())", -1004);
    }

    void promise07_nothingStandsBehindTheLastClause() {
        faultOfAll("g5(1=1))", -1007);
        faultOfAll("g5(1=1);", -1008);
        faultOfAll("g5(1=1);;", -1008);
        faultOfAll("g5(1=1)5", -1007);
        faultOfAll("g5(1=1)g", -1007);
        faultOfAll("g5(1=1)(1=1)", -1007);
        faultOfAll(";g5(1=1)", -1000);
    }

    // ---- 2: a sixth digit

    void promise07_fiveDigitsAreTaken() {
        faultOfAll("g12345(1=1)", 1);
        faultOfAll("g00000(1=1)", 1);
        faultOfAll("g5(12345=54321)", 1);
        faultOfAll("g[99999](1=1)", 1);
        Due.law(x, "g99999/1000(1=1)");
        is(x.chance(0, 0, 3000, 0, 0, 0), 99);
        Due.law(x, "g00017(1=1)");
        is(x.chance(0, 0, 3000, 0, 0, 0), 17);
    }

    void promise07_aSixthDigitIsAFaultAtIt() {
        faultOfAll("g123456(1=1)", -2006);
        faultOfAll("g000000(1=1)", -2006);
        faultOfAll("g1234567(1=1)", -2006);
        faultOfAll("g5(123456=1)", -2008);
        faultOfAll("g5(1=123456)", -2010);
        faultOfAll("g[123456](1=1)", -2007);
        faultOfAll("g1+123456(1=1)", -2008);
        faultOfAll("g123456", -2006);
    }

    void promise07_digitsOfTwoNumbersAreNotAddedUp() {
        faultOfAll("g12345+67890*12345(67890<12345&1=12345)", 1);
    }

    void promise07_digitsBehindALetterAreNoNumber() {
        faultOfAll("gt123456(1=1)", -1002);
    }

    // ---- 4: a fifteenth CLAUSE

    void promise07_fourteenClausesAreTaken() {
        faultOfAll(times("g1(1=1)", 14), 14);
        faultOfAll(times("g1(1=1)", 13), 13);
    }

    void promise07_aFifteenthClauseIsAFaultAtItsLetter() {
        faultOfAll(times("g1(1=1)", 15), -4112);
        faultOfAll(times("g1(1=1)", 14) + ";g", -4112);
        faultOfAll(times("g1(1=1)", 14) + ";g((((", -4112);
        faultOfAll(times("g1(1=1)", 16), -4112);
    }

    void promise07_whatCannotBeginAFifteenthIsAnother() {
        faultOfAll(times("g1(1=1)", 14) + ";", -1112);
        faultOfAll(times("g1(1=1)", 14) + ";1(1=1)", -1112);
        faultOfAll(times("g1(1=1)", 14) + ";;", -1112);
        faultOfAll(times("g1(1=1)", 14) + ";G1(1=1)", -1112);
        faultOfAll(times("g1(1=1)", 14) + ")", -1111);
        fault(times("g1(1=1)", 14) + ";o", -1112);
        fault(times("g1(1=1)", 14) + ";c", -1112);
        fault(times("g1(1=1)", 14) + ";a", -4112);
        fault(times("g1(1=1)", 14) + ";h", -4112);
    }

    void promise07_theFourteenthClauseIsAsked() {
        Due.law(x, times("g1(1=2)", 13) + ";g7(1=1)");
        is(x.chance(0, 0, 3000, 0, 0, 0), 7);
        Due.other(x, 0, times("o1(1=2)", 13) + ";o8(1=1)");
        Due.law(x, "go(1=1)");
        is(x.chance(0, 0, 3000, 0, 0, 0), 8);
        Due.rule(x, 0, times("c1(1=2)", 13) + ";c4(1=1)");
        is(x.says(0, 0, 0, 3000, 0), 4);
    }

    // ---- 5: a seventh that is open

    void promise07_sixEdgedOnesAreTakenAheadOfTheCondition() {
        faultOfAll("g[[[[[[5]]]]]](1=1)", 1);
        faultOfAll("g1+2*[[[[[[5]]]]]](1=1)", 1);
    }

    void promise07_aSeventhEdgedOneIsAFaultAtIt() {
        faultOfAll("g[[[[[[[5]]]]]]](1=1)", -5007);
        faultOfAll("g[1+[1+[1+[1+[1+[1+[1]]]]]]](1=1)", -5019);
        faultOfAll("g[[[[[[[", -5007);
    }

    void promise07_theNumberStandsAheadOfTheCondition() {
        faultOfAll("g[[[[[[5]]]]]]((((((1=1))))))", 1);
    }

    void promise07_theBracketOfTheClauseCounts() {
        faultOfAll("g5((((((1=1))))))", 1);
        faultOfAll("g5(((((((1=1)))))))", -5008);
    }

    void promise07_edgedOnesInTheConditionCount() {
        faultOfAll("g5([[[[[1]]]]]=1)", 1);
        faultOfAll("g5([[[[[[1]]]]]]=1)", -5008);
        faultOfAll("g5(1=[[[[[1]]]]])", 1);
        faultOfAll("g5(1=[[[[[[1]]]]]])", -5010);
        faultOfAll("g5((((([1]=[1])))))", 1);
        faultOfAll("g5(((((([1]=1))))))", -5008);
        faultOfAll("g5((((((1=[1]))))))", -5010);
    }

    void promise07_notsCount() {
        faultOfAll("g5(!!!!!1=1)", 1);
        faultOfAll("g5(!!!!!!1=1)", -5008);
        faultOfAll("g5(!(!(!1=1)))", 1);
        faultOfAll("g5(!(!((!1=1))))", -5008);
        faultOfAll("g5((((((!1=1))))))", -5008);
        faultOfAll("g5(!!!!(1=1))", 1);
        faultOfAll("g5(!!!!!(1=1))", -5008);
    }

    void promise07_aNotIsOpenTillItsPieceEnds() {
        faultOfAll("g5(!!!!1=[1])", 1);
        faultOfAll("g5(!!!![1]=1)", 1);
        faultOfAll("g5(!!!!!1=[1])", -5010);
        faultOfAll("g5(!!!!![1]=1)", -5008);
        faultOfAll("g5(!!!!(1=1&!1=1))", -5012);
        faultOfAll("g5(!(!(!1=1&!1=1|!1=1)))", 1);
    }

    void promise07_aNotIsClosedBehindItsPiece() {
        faultOfAll("g5(!!!!!1=1&!!!!!1=1)", 1);
        faultOfAll("g5(!!!!!1=1|!!!!!1=1)", 1);
        faultOfAll("g5(!!!!(1=1)&!!!!(1=1))", 1);
        faultOfAll("g5(!!!!!1=1|(((((1=1))))))", 1);
        faultOfAll("g5(!!!!!1=1&1=[[[[[1]]]]])", 1);
        faultOfAll("g5(!!!!!1=1);g5(!!!!!1=1)", 2);
        faultOfAll("g5((!!!!1=1)&(((!!1=1))))", 1);
        faultOfAll("g5((!!!!1=1)&(((!!!1=1))))", -5018);
    }

    void promise07_whatIsClosedCountsNoMore() {
        faultOfAll("g[[[[[[5]]]]]]+[[[[[[5]]]]]](1=1)", 1);
        faultOfAll("g[1]+[1]+[1]+[1]+[1]+[1]+[1](1=1)", 1);
        faultOfAll("g1((1=1)&(1=1)&(1=1)&(1=1)&(1=1)&(1=1)&(1=1))", 1);
        faultOfAll("g1(((((((1=1))))))", -5008);
        faultOfAll("g1((((((1=1)))))&(((((1=1))))))", 1);
        faultOfAll("g1([[[[[1]]]]]=[[[[[1]]]]])", 1);
        faultOfAll("g1([1]+[1]+[1]+[1]+[1]+[1]+[1]=1)", 1);
        faultOfAll("g1(((((1=1)&1=1)&1=1)&1=1)&1=1)", 1);
    }

    void promise07_aSeventhThatCannotStandThereIsAnother() {
        faultOfAll("g[[[[[[(", -1007);
        faultOfAll("g[[[[[[!", -1007);
        faultOfAll("g[[[[[[5[", -1008);
        faultOfAll("g5((((((1=(", -1010);
        faultOfAll("g5((((((1=!", -1010);
    }
}
