/**
 * "==== 3." and "==== 4." of the terms and promises 14 to 41 at their edges: a method for each sentence that names one,
 * quoted above it.
 */
public final class PlanEdges {
    private static final int[] WILD = {-1, -2, Integer.MIN_VALUE, Integer.MAX_VALUE};

    public static void main(String[] args) {
        bestInTime();
        bestSeatsAndOver();
        bestFirstOfSeveral();
        bestByLikeOfNow();
        bestOfNobody();
        bestOfAll();
        bestOfAnotherText();
        choiceAtNothing();
        choiceFirstOfSeveral();
        choiceOfNobody();
        levelAtSeats();
        levelAtNine();
        levelLeastInSum();
        levelOfNoSitting();
        levelOfAnotherText();
        crowdAtSeats();
        crowdExactly();
        crowdInLeastTerms();
        crowdByMiss();
        crowdOfNoSuch();
        lateToday();
        catchLeastSign();
        catchByNone();
        catchOfNoSuch();
        handsFewest();
        handsByNone();
        emptiesOfNoSuch();
        likesStaysMissesOfNoSuch();
        likesStaysMissesLateNothing();
        mostCrossFirst();
        mostCrossOfNoSuch();
        withoutTickets();
        swapMoreForBoth();
        swapTooMany();
        swapFirst();
        swapOfNoSuch();
        laterOneBehindAnother();
        laterOfNoSuch();
        restsAtTwice();
        restsInOrder();
        restsOfNoSuch();
        notesAtMost();
        noteOfNoSuch();
        outOfNoSuch();
        noteAtLeastOrLess();
        struckNotes();
        knownByN();
        knownOfNoSuch();
        lingeredBits();
        lingeredNinetyNine();
        lingeredDateNothing();
        chanceAtHungry();
        chanceOneBehindAnother();
        chanceOfNoSuch();
        triedOtherwise();
        triedForDays();
        triedOfNoSuch();
        thinkingLeavesNothingBehind();
        undoLatestFirst();
        undoTwentyAtMost();
        undoNotBehindADay();
        undoNone();
        imageInPlaceOfOneAhead();
        imageKeepsAllButNotes();
        imageKeepsWhatGrows();
        backNothingToUndo();
        backWithoutImage();
        counts();
        countOfNoSuch();
        eightAboard();
        Kit.end("PlanEdges");
    }

    private static ThreeSittings given(String text, int... tickets) {
        ThreeSittings x = Kit.told(text);
        for (int p = 0; p < tickets.length; p++) {
            if (tickets[p] != -1) {
                Kit.due("give(" + p + ", " + tickets[p] + ")", x.give(p, tickets[p]), true);
            }
        }
        return x;
    }

    private static void bestIs(String which, ThreeSittings x, int sum, int... tickets) {
        Kit.due(which + ": sum", x.bestSum(), sum);
        for (int p = 0; p < tickets.length; p++) {
            Kit.due(which + ": party " + p, x.best(p), tickets[p]);
        }
    }

    // ---- best

    /** "MINUTE and meal being at most OFF for each". */
    private static void bestInTime() {
        bestIs("just in time", Kit.told("party a 2 5 9 9 45 0 0;sitting 5 1;sitting 6 1;meal 40;"), 10, 0);
        bestIs("a minute too late", Kit.told("party a 2 5 9 9 44 0 0;sitting 5 1;sitting 6 1;meal 40;"), 0, -2);
        bestIs("for each", Kit.told("party a 2 5 9 9 44 0 0;party b 2 5 9 9 46 0 0;sitting 5 1;sitting 6 1;meal 40;"),
                18, -2, 1);
    }

    /** "SEATS and OVER kept". */
    private static void bestSeatsAndOver() {
        String text = "party a 4 9 0 0 999 0 0;party b 4 8 0 0 999 0 0;sitting 5 1;";
        bestIs("both", Kit.told(text + "seats 5;over 3;"), 68, 0, 0);
        bestIs("one too few", Kit.told(text + "seats 5;over 2;"), 36, 0, -2);
        bestIs("just one", Kit.told(text + "seats 4;"), 36, 0, -2);
        bestIs("none", Kit.told(text + "seats 3;"), 0, -2, -2);
        // Tickets that are given now don't matter.
        bestIs("whatever is given", given(text + "seats 4;", -1, 0), 36, 0, -2);
    }

    /** "of several the first by PARTIES, none ahead of SITTINGS." */
    private static void bestFirstOfSeveral() {
        bestIs("nothing to win", Kit.told("party a 4 0 0 0 999 0 0;sitting 5 1;"), 0, -2);
        bestIs("the first sitting", Kit.told("party a 4 0 5 5 999 0 0;sitting 5 1;sitting 6 1;sitting 7 1;"), 20, 1);
        bestIs("none for the first party", Kit.told("party a 2 5 0 0 999 0 0;party b 2 5 0 0 999 0 0;seats 2;"
                + "sitting 5 1;"), 10, -2, 0);
        bestIs("by the first party", Kit.told("party a 2 5 5 0 999 0 0;party b 2 5 5 0 999 0 0;seats 2;sitting 5 1;"
                + "sitting 6 1;"), 20, 0, 1);
        bestIs("one large or two small", Kit.told("party a 2 5 0 0 999 0 0;party b 2 5 0 0 999 0 0;party c 4 5 0 0 999 0 0;"
                + "seats 4;sitting 5 1;"), 20, -2, -2, 0);
    }

    /** "LIKE (LATE 0, DATE of now) times SIZE in sum is greatest". */
    private static void bestByLikeOfNow() {
        ThreeSittings x = given("party a 2 5 4 0 999 50 0;sitting 5 1;sitting 6 1;law like wish-late+(date=2)*price;", 0);
        bestIs("late 0", x, 10, 0);
        x.days(2);
        x.price(1, 9);
        bestIs("at date 2", x, 26, 1);
        x.days(1);
        bestIs("at date 3", x, 10, 0);
        bestIs("with an error, by wish", Kit.told("party a 2 5 4 0 999 50 0;sitting 5 1;law like 1/0;"), 10, 0);
        bestIs("99 at most", Kit.told("party a 9 5 4 0 999 50 0;sitting 5 1;law like 9999;"), 891, 0);
        bestIs("0 at least", Kit.told("party a 9 5 4 0 999 50 0;sitting 5 1;law like 0-9999;"), 0, -2);
    }

    /** Promises 14, 15: "(-2: none); NONE: no such PARTY." */
    private static void bestOfNobody() {
        ThreeSittings x = Kit.told("party a 2 5 4 0 999 50 0;party b 2 5 4 0 0 50 0;sitting 5 1;");
        Kit.due("a ticket", x.best(0), 0);
        Kit.due("none", x.best(1), -2);
        Kit.due("best(2)", x.best(2), -1);
        Kit.due("best(8)", x.best(8), -1);
        for (int wild : WILD) {
            Kit.due("best(" + wild + ")", x.best(wild), -1);
        }
        Kit.due("of nobody", new ThreeSittings().best(0), -1);
        Kit.due("of nobody", new ThreeSittings().bestSum(), 0);
        bestIs("without sittings", Kit.told("party a 2 5 4 0 999 50 0;"), 0, -2);
        bestIs("a text without parties", Kit.told("sitting 5 1;"), 0);
    }

    /** "TICKETS for all PARTIES": eight of them, three sittings, all full. */
    private static void bestOfAll() {
        StringBuilder text = new StringBuilder("seats 24;sitting 0 1;sitting 1 1;sitting 2 1;");
        for (char c = 'a'; c <= 'h'; c++) {
            text.append("party ").append(c).append(" 9 9 9 9 999 0 0;");
        }
        // Two of nine fit into each sitting: two parties have none, the first ones.
        bestIs("six of eight", Kit.told(text.toString()), 486, -2, -2, 0, 0, 1, 1, 2, 2);
        bestIs("all of eight", Kit.told(text.toString().replace("seats 24", "seats 27")), 648, 0, 0, 0, 1, 1, 1, 2, 2);
    }

    /** "TICKETS for all PARTIES" of the text of now: texts that differ in one thing, told to one object. */
    private static void bestOfAnotherText() {
        String two = "party a 4 9 0 0 999 0 0;party b 4 8 0 0 999 0 0;sitting 5 1;";
        ThreeSittings x = Kit.told(two + "seats 8;");
        bestIs("both", x, 68, 0, 0);
        Kit.tell(x, two + "seats 4;");
        bestIs("fewer seats", x, 36, 0, -2);
        Kit.tell(x, two + "seats 4;over 4;");
        bestIs("over", x, 68, 0, 0);
        Kit.tell(x, "party a 4 9 0 0 999 0 0;sitting 5 1;seats 8;");
        bestIs("one party", x, 36, 0, -1);
        Kit.tell(x, two + "seats 8;");
        bestIs("both again", x, 68, 0, 0);
        Kit.tell(x, two + "seats 8;meal 99;sitting 901 1;");
        bestIs("a sitting that is too late", x, 68, 0, 0);
        x.text(0);
        bestIs("nobody", x, 0, -1);
        Kit.tell(x, "party a 4 0 0 0 999 0 0;sitting 5 1;");
        bestIs("nothing to win", x, 0, -2);
    }

    // ---- choice and level

    /** "the SITTING with the greatest WISH less PRICE .. none, if that is below 0." */
    private static void choiceAtNothing() {
        for (int wish = 0; wish <= 9; wish++) {
            ThreeSittings x = Kit.told("party a 1 " + wish + " 0 0 0 0 0;sitting 5 5;");
            Kit.due("wish " + wish + " at 5", x.choice(0), wish >= 5 ? 0 : -2);
        }
        ThreeSittings x = Kit.told("party a 1 9 9 9 0 0 0;sitting 5 99;");
        Kit.due("far below 0", x.choice(0), -2);
        x.price(0, 10);
        Kit.due("below 0", x.choice(0), -2);
        x.price(0, 9);
        Kit.due("0", x.choice(0), 0);
        x.undo();
        Kit.due("below 0 again", x.choice(0), -2);
    }

    /** "of several the first". */
    private static void choiceFirstOfSeveral() {
        Kit.due("all alike", Kit.told("party a 1 5 6 7 0 0 0;sitting 1 1;sitting 2 2;sitting 3 3;").choice(0), 0);
        Kit.due("the last two", Kit.told("party a 1 5 7 8 0 0 0;sitting 1 1;sitting 2 2;sitting 3 3;").choice(0), 1);
        Kit.due("the last one", Kit.told("party a 1 5 6 8 0 0 0;sitting 1 1;sitting 2 2;sitting 3 3;").choice(0), 2);
        Kit.due("one that is not told", Kit.told("party a 1 5 6 9 0 0 0;sitting 1 1;sitting 2 2;").choice(0), 0);
        Kit.due("below 0 ahead of 0", Kit.told("party a 1 0 2 9 0 0 0;sitting 1 1;sitting 2 2;").choice(0), 1);
    }

    /** Promise 16: "-2: none; NONE: no such PARTY." */
    private static void choiceOfNobody() {
        ThreeSittings x = Kit.told("party a 1 5 6 7 0 0 0;");
        Kit.due("without sittings", x.choice(0), -2);
        Kit.due("choice(1)", x.choice(1), -1);
        for (int wild : WILD) {
            Kit.due("choice(" + wild + ")", x.choice(wild), -1);
        }
        Kit.due("of nobody", new ThreeSittings().choice(0), -1);
    }

    private static void levelIs(String which, String text, int... prices) {
        ThreeSittings x = Kit.told(text);
        for (int s = 0; s < prices.length; s++) {
            Kit.due(which + ": sitting " + s, x.level(s), prices[s]);
        }
    }

    /** "LEVEL: .. by which no more persons choose one than there are SEATS". */
    private static void levelAtSeats() {
        String text = "party a 4 5 0 0 0 0 0;party b 3 8 0 0 0 0 0;over 99;sitting 1 7;seats ";
        levelIs("as many as seats", text + "7;", 0);
        levelIs("one too many: a must find it too dear", text + "6;", 6);
        levelIs("just b", text + "3;", 6);
        levelIs("neither", text + "2;", 9);
        levelIs("who chooses none takes no seat", "party a 9 0 0 0 0 0 0;party b 9 0 0 0 0 0 0;seats 9;sitting 1 0;", 1);
    }

    /** "PRICES 0 .. 9", "-2: there are no such". */
    private static void levelAtNine() {
        levelIs("nine is enough for a wish of 8", "party a 4 8 0 0 0 0 0;seats 3;sitting 1 0;", 9);
        levelIs("nine is not enough for a wish of 9", "party a 4 9 0 0 0 0 0;seats 3;sitting 1 0;", -2);
        levelIs("none of all", "party a 4 9 0 0 0 0 0;seats 3;sitting 1 0;sitting 2 0;sitting 3 0;", -2, -2, -2);
        levelIs("each at nine", "party a 4 8 8 8 0 0 0;seats 3;sitting 1 0;sitting 2 0;sitting 3 0;", 9, 9, 9);
        levelIs("nothing to do", "seats 1;sitting 1 99;sitting 2 99;", 0, 0);
    }

    /** "the least in sum, of several the first by SITTINGS." */
    private static void levelLeastInSum() {
        // a takes the first one at 0, 0; b must be driven off to the second one, which is free.
        levelIs("one party each", "party a 2 9 0 0 0 0 0;party b 2 5 5 0 0 0 0;seats 3;sitting 1 0;sitting 2 0;", 1, 0);
        levelIs("the second one is dearer", "party a 2 0 9 0 0 0 0;party b 2 5 6 0 0 0 0;seats 3;sitting 1 0;sitting 2 0;",
                0, 1);
        // Both like the second one more; at 2 a takes the first one, which it likes as much then.
        levelIs("three sittings", "party a 2 4 6 0 0 0 0;party b 2 4 7 0 0 0 0;seats 3;sitting 1 0;sitting 2 0;sitting 3 0;",
                0, 2, 0);
    }

    /** Promise 17: "NONE: no such SITTING." */
    private static void levelOfNoSitting() {
        ThreeSittings x = Kit.told("party a 1 5 6 7 0 0 0;sitting 1 1;");
        Kit.due("level(0)", x.level(0), 0);
        Kit.due("level(1)", x.level(1), -1);
        for (int wild : WILD) {
            Kit.due("level(" + wild + ")", x.level(wild), -1);
        }
        x = Kit.told("party a 2 9 6 7 0 0 0;sitting 1 1;seats 1;");
        Kit.due("none such, though nothing levels it", x.level(1), -1);
        Kit.due("of none", new ThreeSittings().level(0), -1);
    }

    /** "-2: there are no such", by the text of now: texts told to one object. */
    private static void levelOfAnotherText() {
        ThreeSittings x = Kit.told("party a 4 5 0 0 0 0 0;seats 3;sitting 1 1;");
        Kit.due("levels", x.level(0), 6);
        Kit.tell(x, "party a 4 9 0 0 0 0 0;seats 3;sitting 1 1;");
        Kit.due("nothing levels it", x.level(0), -2);
        Kit.tell(x, "party a 4 9 0 0 0 0 0;seats 4;sitting 1 1;");
        Kit.due("nothing to do", x.level(0), 0);
        Kit.due("a faulty text", Kit.tell(x, "party a 4 9 0 0 0 0 0;seats 3;sitting 1 1;#"), -1);
        Kit.due("still nothing to do", x.level(0), 0);
    }

    // ---- crowd

    private static void crowdIs(String which, ThreeSittings x, int sitting, long above, long below) {
        Kit.due(which + ": above", x.crowd(sitting, 0), above);
        Kit.due(which + ": below", x.crowd(sitting, 1), below);
    }

    /** "more persons of those with a TICKET for it come than there are SEATS". */
    private static void crowdAtSeats() {
        String text = "party a 4 1 1 1 0 0 0;party b 3 1 1 1 0 0 0;over 9;sitting 1 1;sitting 2 1;seats ";
        crowdIs("as many as seats", given(text + "7;", 0, 0), 0, 0, 1);
        crowdIs("one more than seats", given(text + "6;", 0, 0), 0, 1, 1);
        crowdIs("of those with a ticket for it", given(text + "6;", 0, 1), 0, 0, 1);
        crowdIs("nobody has a ticket", Kit.told(text + "6;"), 0, 0, 1);
        crowdIs("who can't sit alone", given(text + "2;", -1, 0), 0, 1, 1);
        crowdIs("as many seats as can be", given(text + "99;", 0, 0), 0, 0, 1);
    }

    /** "exactly": all eight, each at one of a hundred. */
    private static void crowdExactly() {
        StringBuilder text = new StringBuilder("sitting 0 1;over 99;seats 71;");
        for (char c = 'a'; c <= 'h'; c++) {
            text.append("party ").append(c).append(" 9 1 1 1 0 0 99;");
        }
        int[] all = {0, 0, 0, 0, 0, 0, 0, 0};
        crowdIs("all of eight come", given(text.toString(), all), 0, 1, 10000000000000000L);
        crowdIs("all or all but one", given(text.toString().replace("seats 71", "seats 62"), all), 0, 793,
                10000000000000000L);
        crowdIs("never 73", given(text.toString().replace("seats 71", "seats 72"), all), 0, 0, 1);
        // One at least: 1 - 0.99 to the 8.
        crowdIs("one at least", given(text.toString().replace("seats 71", "seats 8"), all), 0, 772553055720799L,
                10000000000000000L);
    }

    /** Promise 18: "CROWD in least terms, what 0: the number above, 1: the one below." */
    private static void crowdInLeastTerms() {
        int[][] due = {{0, 1, 1}, {100, 0, 1}, {50, 1, 2}, {1, 99, 100}, {99, 1, 100}, {36, 16, 25}, {75, 1, 4}};
        for (int[] d : due) {
            crowdIs("MISS " + d[0], given("party a 2 1 1 1 0 0 " + d[0] + ";seats 1;over 1;sitting 0 1;", 0), 0, d[1], d[2]);
        }
    }

    /** "by MISS (LATE 0)". */
    private static void crowdByMiss() {
        String text = "party a 2 1 1 1 0 99 30;party b 2 1 1 1 0 0 30;seats 1;over 1;sitting 0 1;sitting 1 1;law miss ";
        crowdIs("late 0, though it is late", given(text + "late+40;", -1, 1), 1, 3, 5);
        crowdIs("an error", given(text + "1/0;", -1, 1), 1, 7, 10);
        crowdIs("100 at most", given(text + "9999;", -1, 1), 1, 0, 1);
        crowdIs("0 at least", given(text + "0-9999;", -1, 1), 1, 1, 1);
    }

    /** Promise 18: "NONE: no such ones." */
    private static void crowdOfNoSuch() {
        ThreeSittings x = Kit.told("sitting 0 1;");
        for (int what = 0; what < 2; what++) {
            Kit.due("sitting 1", x.crowd(1, what), -1);
            for (int wild : WILD) {
                Kit.due("sitting " + wild, x.crowd(wild, what), -1);
                Kit.due("what " + wild, x.crowd(0, wild), -1);
            }
        }
        Kit.due("what 2", x.crowd(0, 2), -1);
        Kit.due("of none", new ThreeSittings().crowd(0, 0), -1);
    }

    // ---- late, catchUp, hands, empties

    /** Promise 19: "LATE as it goes; NONE: no such SITTING." */
    private static void lateToday() {
        ThreeSittings x = given("party a 1 1 1 1 0 9 0;sitting 0 1;sitting 49 1;sitting 50 1;law stay coffee+date;", 0);
        Kit.due("the first one", x.late(0), 0);
        Kit.due("just in time", x.late(1), 0);
        x.days(1);
        Kit.due("a minute late at the date of now", x.late(1), 1);
        Kit.due("just in time", x.late(2), 0);
        Kit.due("late(3)", x.late(3), -1);
        for (int wild : WILD) {
            Kit.due("late(" + wild + ")", x.late(wild), -1);
        }
        Kit.due("of none", new ThreeSittings().late(0), -1);
    }

    /** "CATCH: the least SIGN of the SITTING ahead (others as they are) by which a SITTING is not LATE". */
    private static void catchLeastSign() {
        // The stay of 8 ends at 38, 36, 34, 30.
        int[][] due = {{38, 0}, {37, 1}, {36, 1}, {35, 2}, {34, 2}, {33, 3}, {30, 3}};
        for (int[] d : due) {
            ThreeSittings x = given("party a 1 1 1 1 0 8 0;sitting 0 1;sitting " + d[0] + " 1;lay 0;", 0);
            Kit.due("told at " + d[0], x.catchUp(1), d[1]);
            x.sign(0, 3);
            x.sign(1, 3);
            Kit.due("told at " + d[0] + ", the sign of now is none of it", x.catchUp(1), d[1]);
            Kit.due("the sign of now stays", x.sitting(0, 2), 3);
        }
        // Of the one ahead alone: the first one's cloth would do it.
        ThreeSittings x = given("party a 1 1 1 1 0 40 0;party b 1 1 1 1 0 0 0;sitting 0 1;sitting 30 1;sitting 60 1;lay 0;",
                0, 1);
        Kit.due("the second one by the first one's", x.catchUp(1), 3);
        Kit.due("the third one not by the second one's", x.catchUp(2), -2);
        x.sign(0, 3);
        Kit.due("others as they are", x.catchUp(2), 0);
    }

    /** Promise 20: "-2: by none". */
    private static void catchByNone() {
        ThreeSittings x = given("party a 1 1 1 1 0 8 0;sitting 0 1;sitting 29 1;lay 0;", 0);
        Kit.due("the meal is too long", x.catchUp(1), -2);
        x = given("party a 1 1 1 1 0 8 0;sitting 0 1;sitting 30 1;lay 1;", 0);
        Kit.due("laying is too long", x.catchUp(1), -2);
    }

    /** Promise 20: "NONE: no such SITTING, the first one." */
    private static void catchOfNoSuch() {
        ThreeSittings x = Kit.told("sitting 0 1;sitting 29 1;");
        Kit.due("nobody sits", x.catchUp(1), 0);
        Kit.due("catchUp(0)", x.catchUp(0), -1);
        Kit.due("catchUp(2)", x.catchUp(2), -1);
        for (int wild : WILD) {
            Kit.due("catchUp(" + wild + ")", x.catchUp(wild), -1);
        }
        Kit.due("of none", new ThreeSittings().catchUp(0), -1);
        Kit.due("of none", new ThreeSittings().catchUp(1), -1);
    }

    /** "HANDS: the fewest 1 .. 9 by which no SITTING is LATE as it goes." */
    private static void handsFewest() {
        // Ready at 30 + 72 / hands, cut up.
        int[] ready = {102, 66, 54, 48, 45, 42, 41, 39, 38};
        for (int hands = 1; hands <= 9; hands++) {
            String text = "party a 1 1 1 1 0 0 0;lay 72;hands 4;sitting 0 1;sitting ";
            Kit.due("just " + hands, given(text + ready[hands - 1] + " 1;", 0).hands(), hands);
            Kit.due("more than " + hands, given(text + (ready[hands - 1] - 1) + " 1;", 0).hands(), hands < 9 ? hands + 1 : -2);
        }
        // No sitting: the third one decides.
        ThreeSittings x = given("party a 1 1 1 1 0 0 0;party b 1 1 1 1 0 0 0;lay 72;sitting 0 1;sitting 200 1;sitting 250 1;",
                0, 1);
        Kit.due("for the third one", x.hands(), 4);
        Kit.due("hands told stay", x.late(2), 16);
    }

    /** Promise 21: "-2: by none." */
    private static void handsByNone() {
        Kit.due("the meal is too long", given("party a 1 1 1 1 0 0 0;lay 0;sitting 0 1;sitting 29 1;", 0).hands(), -2);
        Kit.due("nobody sits", Kit.told("lay 99;sitting 0 1;sitting 1 1;").hands(), 1);
        Kit.due("without sittings", new ThreeSittings().hands(), 1);
    }

    /** Promise 22: "SEATS that stay empty at a SITTING today as it goes; NONE: no such SITTING." */
    private static void emptiesOfNoSuch() {
        ThreeSittings x = given("party a 9 1 1 1 0 0 0;party b 1 1 1 1 0 0 49;party c 1 1 1 1 0 0 50;seats 10;over 1;"
                + "sitting 0 1;sitting 1 1;", 0, 0, 0);
        Kit.due("none", x.empties(0), 0);
        Kit.due("all", x.empties(1), 10);
        Kit.due("empties(2)", x.empties(2), -1);
        for (int wild : WILD) {
            Kit.due("empties(" + wild + ")", x.empties(wild), -1);
        }
        Kit.due("of none", new ThreeSittings().empties(0), -1);
    }

    /** Promises 23 to 25: "NONE: no such ones." */
    private static void likesStaysMissesOfNoSuch() {
        ThreeSittings x = Kit.told("party a 1 2 3 4 5 6 7;sitting 0 1;sitting 1 1;");
        Kit.due("likes", x.likes(0, 1), 3);
        Kit.due("stays", x.stays(0, 1), 6);
        Kit.due("misses", x.misses(0, 1), 7);
        int[][] none = {{1, 0}, {8, 0}, {0, 2}, {0, 3}, {1, 2}, {-1, 0}, {0, -1}, {-2, 0}, {0, -2},
            {Integer.MIN_VALUE, 0}, {0, Integer.MIN_VALUE}, {Integer.MAX_VALUE, 0}, {0, Integer.MAX_VALUE}};
        for (int[] n : none) {
            Kit.due("likes", x.likes(n[0], n[1]), -1);
            Kit.due("stays", x.stays(n[0], n[1]), -1);
            Kit.due("misses", x.misses(n[0], n[1]), -1);
        }
        Kit.due("likes of nobody", new ThreeSittings().likes(0, 0), -1);
        Kit.due("stays of nobody", new ThreeSittings().stays(0, 0), -1);
        Kit.due("misses of nobody", new ThreeSittings().misses(0, 0), -1);
    }

    /** Promises 23 to 25: "(LATE 0)", "(LATE 0, no SIGN)". */
    private static void likesStaysMissesLateNothing() {
        ThreeSittings x = given("party a 1 2 3 4 5 60 7;sitting 0 1;sitting 1 1;law like 9+late;law stay 8+late;law miss 7+late;",
                0);
        Kit.due("it is late", x.late(1), 47);
        x.sign(1, 3);
        Kit.due("likes", x.likes(0, 1), 9);
        Kit.due("stays", x.stays(0, 1), 8);
        Kit.due("misses", x.misses(0, 1), 7);
        x.days(1);
        Kit.due("likes behind a day", x.likes(0, 1), 9);
        Kit.due("stays behind a day", x.stays(0, 1), 8);
        Kit.due("misses behind a day", x.misses(0, 1), 7);
    }

    // ---- mostCross, without, swap, later

    /** Promise 26: "the PARTY that was CROSS most often, the first of several, 1: how often." */
    private static void mostCrossFirst() {
        ThreeSittings x = given("party a 1 1 1 1 999 0 0;party b 1 1 1 1 0 0 0;party c 1 1 1 1 0 0 0;party d 1 1 1 1 999 1 0;"
                + "sitting 0 1;", 0, 0, 0, 0);
        Kit.due("nobody yet: the first", x.mostCross(0), 0);
        Kit.due("nobody yet: 0", x.mostCross(1), 0);
        x.days(1);
        Kit.due("the first of two", x.mostCross(0), 1);
        Kit.due("once", x.mostCross(1), 1);
        x.sign(0, 1);
        x.days(1);
        Kit.due("still the first of two", x.mostCross(0), 1);
        Kit.due("twice", x.mostCross(1), 2);
        x.sign(0, 3);
        x.days(1);
        Kit.due("the last one", x.mostCross(0), 3);
        Kit.due("in sum", x.mostCross(1), 4);
    }

    /** Promise 26: "NONE for another what, without PARTIES." */
    private static void mostCrossOfNoSuch() {
        ThreeSittings x = Kit.told("party a 1 1 1 1 1 1 1;");
        Kit.due("mostCross(2)", x.mostCross(2), -1);
        for (int wild : WILD) {
            Kit.due("mostCross(" + wild + ")", x.mostCross(wild), -1);
        }
        x.text(0);
        Kit.due("without parties", x.mostCross(0), -1);
        Kit.due("without parties", x.mostCross(1), -1);
    }

    /** Promise 27: "Persons without a TICKET." */
    private static void withoutTickets() {
        ThreeSittings x = Kit.told("party a 9 1 1 1 1 1 1;party b 1 1 1 1 1 1 1;sitting 0 1;sitting 1 1;");
        Kit.due("all", x.without(), 10);
        x.give(0, 0);
        Kit.due("b", x.without(), 1);
        x.give(1, 1);
        Kit.due("nobody", x.without(), 0);
        x.give(0, -1);
        Kit.due("a", x.without(), 9);
        Kit.due("without parties", new ThreeSittings().without(), 0);
    }

    private static void swapIs(String which, ThreeSittings x, int one, int other) {
        Kit.due(which + ": one", x.swap(0), one);
        Kit.due(which + ": other", x.swap(1), other);
    }

    /** Promise 28: "who would both have more LIKE (LATE 0; 0 without a TICKET) for each other's TICKET". */
    private static void swapMoreForBoth() {
        String text = "party a 1 %d 5 0 0 0 0;party b 1 5 %d 0 0 0 0;sitting 0 1;sitting 1 1;";
        swapIs("both have more", given(String.format(text, 4, 4), 0, 1), 0, 1);
        swapIs("a has as much", given(String.format(text, 5, 4), 0, 1), -2, -2);
        swapIs("b has as much", given(String.format(text, 4, 5), 0, 1), -2, -2);
        swapIs("a has less", given(String.format(text, 6, 4), 0, 1), -2, -2);
        swapIs("the same sitting", given(String.format(text, 4, 4), 0, 0), -2, -2);
        swapIs("b has no ticket", given(String.format(text, 4, 4), 0, -1), -2, -2);
        swapIs("a has no ticket", given(String.format(text, 4, 4), -1, 0), -2, -2);
        swapIs("neither has", Kit.told(String.format(text, 4, 4)), -2, -2);
        // By LIKE of now, LATE 0: the price turns it, and that the second one is late does not.
        ThreeSittings x = given(String.format(text, 4, 4) + "law like (wish+price-1)*(late=0);", 0, 1);
        swapIs("late 0", x, 0, 1);
        x.price(0, 9);
        swapIs("at the price of now", x, -2, -2);
        // 0 without a ticket: one whose ticket it likes by 0 would not be glad to lose it either.
        x = given("party a 1 0 5 0 0 0 0;party b 1 5 0 0 0 0 0;sitting 0 1;sitting 1 1;", 0, -1);
        swapIs("a ticket liked by 0 for none", x, -2, -2);
    }

    /** Promise 28: "no TICKETS being for too many then". */
    private static void swapTooMany() {
        String text = "party a 2 1 5 0 0 0 0;party b 3 5 1 0 0 0 0;party c 4 9 1 0 0 0 0;party d 4 1 9 0 0 0 0;sitting 0 1;"
                + "sitting 1 1;seats 5;over ";
        swapIs("seats and over are just enough", given(text + "2;", 0, 1, 0, 1), 0, 1);
        swapIs("one too few at the first one", given(text + "1;", 0, -1, 0, -1), -2, -2);
        ThreeSittings x = given(text + "1;", 0, 1, 0, -1);
        swapIs("3 for 2 beside 4 at the first one", x, -2, -2);
        x = given("party a 3 1 5 0 0 0 0;party b 2 5 1 0 0 0 0;party d 4 1 9 0 0 0 0;sitting 0 1;sitting 1 1;seats 6;",
                0, 1, 1);
        swapIs("3 for 2 beside 4 at the second one", x, -2, -2);
        x = given("party a 3 1 5 0 0 0 0;party b 2 5 1 0 0 0 0;party d 4 1 9 0 0 0 0;sitting 0 1;sitting 1 1;seats 7;",
                0, 1, 1);
        swapIs("just enough at the second one", x, 0, 1);
    }

    /** Promise 28: "the first by the first one (the lesser number), then the second one." */
    private static void swapFirst() {
        ThreeSittings x = given("party a 1 5 5 0 0 0 0;party b 1 1 5 0 0 0 0;party c 1 1 5 0 0 0 0;party d 1 5 1 0 0 0 0;"
                + "party e 1 5 1 0 0 0 0;sitting 0 1;sitting 1 1;", 0, 0, 0, 1, 1);
        swapIs("b and d", x, 1, 3);
        x.give(1, -1);
        swapIs("c and d", x, 2, 3);
        x.give(3, -1);
        swapIs("c and e", x, 2, 4);
        x.give(4, -1);
        swapIs("none", x, -2, -2);
        x = given("party a 1 5 1 0 0 0 0;party b 1 1 5 0 0 0 0;sitting 0 1;sitting 1 1;", 1, 0);
        swapIs("the lesser number has the later sitting", x, 0, 1);
    }

    /** Promise 28: "-2: there are none; NONE for another what." */
    private static void swapOfNoSuch() {
        ThreeSittings x = given("party a 1 1 5 0 0 0 0;party b 1 5 1 0 0 0 0;sitting 0 1;sitting 1 1;", 0, 1);
        Kit.due("swap(2)", x.swap(2), -1);
        for (int wild : WILD) {
            Kit.due("swap(" + wild + ")", x.swap(wild), -1);
        }
        swapIs("without parties", new ThreeSittings(), -2, -2);
        Kit.due("without parties, another what", new ThreeSittings().swap(2), -1);
        swapIs("one party", Kit.told("party a 1 1 5 0 0 0 0;sitting 0 1;"), -2, -2);
    }

    /** "LATER: .. (one behind another, those ahead being told so much later already: how LATE it is then)." */
    private static void laterOneBehindAnother() {
        // Told later, the second one is not late, so b stays 0 and not 40.
        ThreeSittings x = given("party a 1 1 1 1 0 10 0;party b 1 1 1 1 0 0 0;sitting 0 1;sitting 1 1;sitting 2 1;lay 0;"
                + "law stay coffee+late;", 0, 1);
        Kit.due("late now", x.late(2), 40 + 30 + 39 - 2);
        Kit.due("the first one", x.later(0), 0);
        Kit.due("the second one", x.later(1), 39);
        Kit.due("the third one", x.later(2), 70 - 2);
        // In time by a minute, just in time, a minute late.
        int[][] due = {{41, 0}, {40, 0}, {39, 1}};
        for (int[] d : due) {
            x = given("party a 1 1 1 1 0 0 0;sitting 0 1;sitting " + d[0] + " 1;", 0);
            Kit.due("told at " + d[0], x.later(1), d[1]);
        }
        // Told later behind the third one's minute.
        x = given("party a 1 1 1 1 0 99 0;sitting 0 1;sitting 1 1;sitting 2 1;lay 0;", 0);
        Kit.due("the second one", x.later(1), 128);
        Kit.due("the third one", x.later(2), 127);
        Kit.due("nothing changes", x.sitting(1, 0), 1);
    }

    /** Promise 29: "NONE: no such SITTING." */
    private static void laterOfNoSuch() {
        ThreeSittings x = Kit.told("sitting 0 1;sitting 1 1;");
        Kit.due("nobody sits", x.later(1), 0);
        Kit.due("later(2)", x.later(2), -1);
        for (int wild : WILD) {
            Kit.due("later(" + wild + ")", x.later(wild), -1);
        }
        Kit.due("of none", new ThreeSittings().later(0), -1);
    }

    // ---- rests

    private static ThreeSittings coffees(int... minutes) {
        StringBuilder text = new StringBuilder();
        for (int p = 0; p < minutes.length; p++) {
            text.append("party ").append((char) ('a' + p)).append(" 1 1 1 1 1 ").append(minutes[p]).append(" 0;");
        }
        return Kit.told(text.toString());
    }

    private static void restsAre(int one, int other, int... due) {
        ThreeSittings x = coffees(one, other);
        String pair = "COFFEES " + one + ", " + other;
        Kit.due(pair, x.rests(0, 1), due.length);
        for (int k = 0; k < due.length; k++) {
            Kit.due(pair + ", " + k, x.rest(0, 1, k), due[k]);
        }
        Kit.due(pair + ", no more", x.rest(0, 1, due.length), -2);
    }

    /** "if both stay, each has its own less twice the other one's. A REST: neither would have more otherwise." */
    private static void restsAtTwice() {
        restsAre(10, 20, 1, 10);
        restsAre(10, 21, 1);
        restsAre(10, 19, 1, 10);
        restsAre(20, 10, 1, 10);
        restsAre(21, 10, 10);
        restsAre(10, 10, 1, 10);
        restsAre(0, 0, 0, 1, 10, 11);
        restsAre(0, 1, 1);
        restsAre(1, 0, 10);
        restsAre(99, 99, 1, 10);
        restsAre(49, 99, 1);
        restsAre(50, 99, 1, 10);
        restsAre(0, 99, 1);
    }

    /** "RESTS: by the first one's, then the second one's." Promise 31: "ten times what the first one does and the second". */
    private static void restsInOrder() {
        ThreeSittings x = coffees(30, 10, 50);
        Kit.due("a stays", x.rest(0, 1, 0), 10);
        Kit.due("a stays, asked the other way", x.rest(1, 0, 0), 1);
        Kit.due("the second rises or stays", x.rest(0, 2, 0), 1);
        Kit.due("then the first", x.rest(0, 2, 1), 10);
        Kit.due("asked the other way", x.rest(2, 0, 0), 1);
        Kit.due("asked the other way", x.rest(2, 0, 1), 10);
    }

    /** Promises 30, 31: "NONE: no such PARTIES, alike.", "-2: there are no so many; NONE likewise, k is below 0." */
    private static void restsOfNoSuch() {
        ThreeSittings x = coffees(0, 0);
        int[][] none = {{0, 0}, {1, 1}, {0, 2}, {2, 0}, {2, 2}, {0, 8}, {-1, 0}, {0, -1}, {-1, -1}, {Integer.MIN_VALUE, 0},
            {0, Integer.MIN_VALUE}, {Integer.MAX_VALUE, 0}, {0, Integer.MAX_VALUE}};
        for (int[] n : none) {
            Kit.due("rests", x.rests(n[0], n[1]), -1);
            Kit.due("rest", x.rest(n[0], n[1], 0), -1);
            Kit.due("rest far on", x.rest(n[0], n[1], 9), -1);
        }
        Kit.due("the last one", x.rest(0, 1, 3), 11);
        Kit.due("no so many", x.rest(0, 1, 4), -2);
        Kit.due("no so many", x.rest(0, 1, Integer.MAX_VALUE), -2);
        for (int wild : new int[] {-1, -2, Integer.MIN_VALUE}) {
            Kit.due("k below 0", x.rest(0, 1, wild), -1);
        }
        Kit.due("of nobody", new ThreeSittings().rests(0, 1), -1);
        Kit.due("of nobody", new ThreeSittings().rest(0, 1, 0), -1);
    }

    // ---- notes

    /** "NOTES, at most 24, numbered from 0 on", "or there are 24." */
    private static void notesAtMost() {
        ThreeSittings x = Kit.told("sitting 0 1;");
        for (int k = 0; k < 24; k++) {
            Kit.due("number", k % 2 == 0 ? x.note(0, k, true) : x.out(k - 1), k);
        }
        Kit.due("a 25th note", x.note(0, 1, true), -1);
        Kit.due("a 25th that strikes", x.out(23), -1);
        Kit.due("24", x.count(12), 24);
        Kit.due("all struck, all may have lingered", x.lingered(), 1);
        Kit.tell(x, "sitting 0 1;");
        Kit.due("none in a new text", x.note(0, 1, true), 0);
    }

    /** Promise 32: "A NOTE (LATE 0 .. 999): its number; NONE: no such ones". */
    private static void noteOfNoSuch() {
        ThreeSittings x = Kit.told("sitting 0 1;sitting 1 1;");
        for (boolean atLeast : new boolean[] {true, false}) {
            Kit.due("late 1000", x.note(0, 1000, atLeast), -1);
            Kit.due("sitting 2", x.note(2, 0, atLeast), -1);
            for (int wild : WILD) {
                Kit.due("late " + wild, x.note(0, wild, atLeast), -1);
                Kit.due("sitting " + wild, x.note(wild, 0, atLeast), -1);
            }
        }
        Kit.due("no note", x.count(12), 0);
        Kit.due("late 0", x.note(0, 0, true), 0);
        Kit.due("late 999", x.note(1, 999, false), 1);
        Kit.due("of none", new ThreeSittings().note(0, 0, true), -1);
    }

    /** Promise 33: "NONE: no such NOTE". */
    private static void outOfNoSuch() {
        ThreeSittings x = Kit.told("sitting 0 1;");
        Kit.due("no note yet", x.out(0), -1);
        x.note(0, 0, true);
        Kit.due("out(1) is not one ahead", x.out(1), -1);
        for (int wild : WILD) {
            Kit.due("out(" + wild + ")", x.out(wild), -1);
        }
        Kit.due("one note", x.count(12), 1);
        Kit.due("out(0)", x.out(0), 1);
        Kit.due("what strikes may be struck", x.out(1), 2);
        Kit.due("once more", x.out(0), 3);
        Kit.due("out(4) is not one ahead", x.out(4), -1);
        Kit.due("a note that isn't known, too", x.known(0), true);
        Kit.due("out(3)", x.out(3), 4);
    }

    /** "LATE of a SITTING on DATE 0 was at least so much, or less." */
    private static void noteAtLeastOrLess() {
        // The second one is 7 late, the first one 0; who lingers makes it 27.
        String text = "party a 1 1 1 1 0 7 0;sitting 0 1;sitting 30 1;lay 0;";
        int[][] due = {{1, 7, 3, 0}, {1, 8, 1, 2}, {1, 27, 1, 2}, {1, 28, 0, 3}, {1, 0, 3, 0}, {1, 999, 0, 3},
            {0, 0, 3, 0}, {0, 1, 0, 3}};
        for (int[] d : due) {
            ThreeSittings x = given(text, 0);
            x.note(d[0], d[1], true);
            Kit.due("at least " + d[1], x.lingered(), d[2]);
            x = given(text, 0);
            x.note(d[0], d[1], false);
            Kit.due("less than " + d[1], x.lingered(), d[3]);
        }
    }

    /** "A note may strike one ahead of it (STRUCK)", "what strikes may be STRUCK: then it doesn't count". */
    private static void struckNotes() {
        // A note that can't be: while it counts nobody lingered.
        ThreeSittings x = given("party a 1 1 1 1 0 7 0;sitting 0 1;sitting 30 1;lay 0;", 0);
        x.note(0, 1, true);
        Kit.due("it counts", x.lingered(), 0);
        for (int k = 0; k < 20; k++) {
            x.out(k);
            Kit.due("struck by " + (k + 1) + " one behind another", x.lingered(), k % 2 == 0 ? 3 : 0);
        }
        x = given("party a 1 1 1 1 0 7 0;sitting 0 1;sitting 30 1;lay 0;", 0);
        x.note(0, 1, true);
        x.out(0);
        x.out(0);
        Kit.due("struck twice", x.lingered(), 3);
        x.out(1);
        Kit.due("one that strikes is left", x.lingered(), 3);
        x.out(2);
        Kit.due("none that strikes is left", x.lingered(), 0);
        x.out(4);
        Kit.due("one strikes again", x.lingered(), 3);
    }

    /** "KNOWN by n (all at first): the first n that aren't STRUCK by one of these". */
    private static void knownByN() {
        ThreeSittings x = given("party a 1 1 1 1 0 7 0;sitting 0 1;sitting 30 1;lay 0;", 0);
        x.note(1, 27, true);
        x.note(0, 1, true);
        x.out(1);
        x.out(0);
        int[] due = {3, 1, 0, 1, 3};
        for (int n = 0; n <= 4; n++) {
            Kit.due("known(" + n + ")", x.known(n), true);
            Kit.due("by how many", x.count(13), n);
            Kit.due("known by " + n, x.lingered(), due[n]);
        }
        x.known(4);
        x.note(0, 1, true);
        Kit.due("by four, not by those to come", x.count(13), 4);
        Kit.due("by four, not by those to come", x.lingered(), 3);
        x.known(-1);
        Kit.due("by all", x.count(13), 5);
        Kit.due("by all", x.lingered(), 0);
        x.out(4);
        Kit.due("those to come, too", x.count(13), 6);
        Kit.due("those to come, too", x.lingered(), 3);
    }

    /** Promise 34: "(-1: by all, also those to come): true; false: no such n." */
    private static void knownOfNoSuch() {
        ThreeSittings x = Kit.told("sitting 0 1;");
        Kit.due("known(0) of none", x.known(0), true);
        Kit.due("known(1) of none", x.known(1), false);
        x.note(0, 0, true);
        Kit.due("by none of one", x.count(13), 0);
        Kit.due("known(2) of one", x.known(2), false);
        for (int wild : new int[] {-2, Integer.MIN_VALUE, Integer.MAX_VALUE, 24, 25}) {
            Kit.due("known(" + wild + ")", x.known(wild), false);
        }
        Kit.due("as it was", x.count(13), 0);
        Kit.due("known(1) of one", x.known(1), true);
        Kit.due("known(-1)", x.known(-1), true);
        for (int k = 1; k < 24; k++) {
            x.note(0, 0, true);
        }
        Kit.due("known(24) of 24", x.known(24), true);
        Kit.due("known(25) of 24", x.known(25), false);
        Kit.due("by 24", x.count(13), 24);
    }

    /** "LINGERED: PARTIES (bits; the bit behind all: none) of which one alone". */
    private static void lingeredBits() {
        Kit.due("nobody aboard: none", new ThreeSittings().lingered(), 1);
        StringBuilder text = new StringBuilder("sitting 0 1;sitting 30 1;lay 0;");
        for (char c = 'a'; c <= 'h'; c++) {
            text.append("party ").append(c).append(" 1 1 1 1 0 ").append(c - 'a').append(" 0;");
        }
        ThreeSittings x = given(text.toString(), 0, 0, 0, 0, 0, 0, 0, 0);
        Kit.due("nothing is known", x.lingered(), 511);
        // The last one stays 7; who lingers stays 20 .. 27.
        x.note(1, 8, true);
        Kit.due("none has not", x.lingered(), 255);
        x.note(1, 24, true);
        Kit.due("one alone", x.lingered(), 240);
        x.note(1, 27, true);
        Kit.due("the last one", x.lingered(), 128);
        x.note(1, 28, true);
        Kit.due("nobody: not two at once", x.lingered(), 0);
        // Who does not sit there does not make it late.
        x = given(text.toString(), 0, 1, -1, 0);
        x.note(1, 20, true);
        Kit.due("a and d", x.lingered(), 1 | 8);
    }

    /** "with 20 MINUTES of COFFEE more (99 at most)". */
    private static void lingeredNinetyNine() {
        int[][] due = {{0, 20}, {1, 21}, {78, 98}, {79, 99}, {80, 99}, {98, 99}};
        for (int[] d : due) {
            String text = "party a 1 1 1 1 0 " + d[0] + " 0;sitting 0 1;sitting 30 1;lay 0;";
            ThreeSittings x = given(text, 0);
            x.note(1, d[1], true);
            x.note(1, d[1] + 1, false);
            Kit.due("COFFEE " + d[0] + " and 20", x.lingered(), 1);
        }
        ThreeSittings x = given("party a 1 1 1 1 0 99 0;sitting 0 1;sitting 30 1;lay 0;", 0);
        x.note(1, 99, true);
        Kit.due("99 and 20 are 99", x.lingered(), 3);
        // The laws see it, too; what they say is 99 at most.
        x = given("party a 1 1 1 1 0 10 0;sitting 0 1;sitting 30 1;lay 0;law stay coffee*2;law miss coffee+20;", 0);
        x.note(1, 20, true);
        Kit.due("by 30 of coffee it misses the bell", x.lingered(), 2);
    }

    /** "as it goes on DATE 0 with the TICKETS, SIGNS and PRICES of now." */
    private static void lingeredDateNothing() {
        ThreeSittings x = given("party a 1 1 1 1 0 10 0;sitting 0 3;sitting 30 1;lay 0;law stay coffee+date*40+price*0;", 0);
        x.note(1, 10, true);
        x.note(1, 31, false);
        Kit.due("on date 0", x.lingered(), 3);
        x.days(1);
        Kit.due("on date 0, though it is 1", x.lingered(), 3);
        Kit.due("date 1", x.count(6), 1);
        x.sign(0, 3);
        Kit.due("by the sign of now", x.lingered(), 0);
        x.undo();
        x.give(0, -1);
        Kit.due("by the tickets of now", x.lingered(), 0);
        x = given("party a 1 1 1 1 0 10 0;sitting 0 3;sitting 30 1;lay 0;law stay coffee+price;", 0);
        x.note(1, 13, true);
        Kit.due("by the price told", x.lingered(), 3);
        x.price(0, 2);
        Kit.due("by the price of now", x.lingered(), 1);
    }

    // ---- chance and tried

    /** Promise 36: "no more than so many persons 0 .. 9999 are HUNGRY in these DAYS". */
    private static void chanceAtHungry() {
        ThreeSittings x = given("party a 9 1 1 1 0 0 0;seats 8;over 1;sitting 0 1;", 0);
        Kit.due("nine a day, eight at most", x.chance(0, 1, 8), 0);
        Kit.due("nine a day, nine at most", x.chance(0, 1, 9), 10);
        Kit.due("twenty days, one fewer", x.chance(0, 20, 179), 0);
        Kit.due("twenty days", x.chance(0, 20, 180), 10);
        x.days(99);
        Kit.due("in these days alone", x.chance(0, 1, 9), 10);
        Kit.due("in these days alone", x.chance(0, 1, 8), 0);
        Kit.due("hungry so far", x.count(9), 891);
        Kit.due("9999", x.chance(0, 20, 9999), 10);
        Kit.due("nobody aboard", new ThreeSittings().chance(0, 20, 0), 10);
    }

    /** Promise 36: "(numbers from a seed 0 .. 2147483647 on, one behind another; n 1 .. 20 DAYS from now)". */
    private static void chanceOneBehindAnother() {
        String text = "party a 6 1 1 1 0 0 0;party b 1 1 1 1 0 0 50;seats 6;over 1;sitting 0 1;";
        for (int seed : new int[] {0, 5, 99999, 65536, 1073741824, 2147483646, 2147483647}) {
            for (int n : new int[] {1, 2, 20}) {
                for (int hungry : new int[] {0, n / 2, n - 1, n}) {
                    ThreeSittings x = given(text, 0, 0);
                    Kit.due("chance(" + seed + ", " + n + ", " + hungry + ")", x.chance(seed, n, hungry),
                            times(seed, n, hungry));
                }
            }
        }
        // The object's own numbers stay.
        ThreeSittings x = given(text, 0, 0);
        ThreeSittings untouched = given(text, 0, 0);
        x.chance(7, 20, 3);
        x.days(9);
        untouched.days(9);
        Kit.due("own numbers", x.party(1, 7), untouched.party(1, 7));
    }

    /** How often of ten times one who comes on half of all days, and never has a seat, comes no more than so often. */
    private static int times(long seed, int n, int hungry) {
        long last = seed;
        int times = 0;
        for (int draw = 0; draw < 10; draw++) {
            int came = 0;
            for (int day = 0; day < n; day++) {
                last = (last * 1103515245L + 12345L) % 2147483648L;
                came += last / 65536 % 100 < 50 ? 0 : 1;
            }
            times += came <= hungry ? 1 : 0;
        }
        return times;
    }

    /** Promise 36: "NONE: no such ones." */
    private static void chanceOfNoSuch() {
        ThreeSittings x = Kit.told("sitting 0 1;");
        for (int wild : WILD) {
            if (wild < 0) {
                Kit.due("seed " + wild, x.chance(wild, 1, 0), -1);
            }
            Kit.due("days " + wild, x.chance(0, wild, 0), -1);
            Kit.due("hungry " + wild, x.chance(0, 1, wild), -1);
        }
        Kit.due("no days", x.chance(0, 0, 0), -1);
        Kit.due("one day", x.chance(0, 1, 0), 10);
        Kit.due("twenty days", x.chance(0, 20, 0), 10);
        Kit.due("twenty-one days", x.chance(0, 21, 0), -1);
        Kit.due("9999", x.chance(0, 1, 9999), 10);
        Kit.due("10000", x.chance(0, 1, 10000), -1);
        Kit.due("the greatest seed", x.chance(Integer.MAX_VALUE, 1, 0), 10);
    }

    /** "0 as it is, 1 nobody misses it, 2 PARTY i doesn't come, 3 four SEATS more (TICKETS as they are), 4 .., 5 .." */
    private static void triedOtherwise() {
        ThreeSittings x = given("party a 4 9 1 1 0 0 0;party b 4 9 1 1 0 0 0;party c 1 9 1 1 0 0 50;seats 4;over 9;"
                + "sitting 0 1;", 0, 0, 0);
        Kit.due("as it is", x.tried(0, 0, 1), 36);
        Kit.due("nobody misses it, but c has no seat", x.tried(1, 0, 1), 36);
        Kit.due("a doesn't come, b sits", x.tried(2, 0, 1), 36);
        Kit.due("c never came", x.tried(2, 2, 1), 36);
        Kit.due("four seats more are just enough for b", x.tried(3, 0, 1), 72);
        Kit.tell(x, "party a 4 9 1 1 0 0 0;party b 5 9 1 1 0 0 0;seats 4;over 9;sitting 0 1;");
        x.give(0, 0);
        x.give(1, 0);
        Kit.due("four, not five", x.tried(3, 0, 1), 36);
        x.give(1, -1);
        Kit.due("a doesn't come, nobody sits", x.tried(2, 0, 1), 0);
        Kit.due("one without a ticket doesn't come", x.tried(2, 1, 1), 36);
        Kit.due("seats as they were", x.count(2), 4);
        x = given("party a 1 9 9 1 0 40 0;party b 1 9 9 1 0 0 0;sitting 0 1;sitting 30 1;lay 90;law like 99-late;", 0, 1);
        Kit.due("as it is: 85 late", x.tried(0, 0, 1), 99 + 14);
        Kit.due("nobody stays: 45 late", x.tried(4, 0, 1), 99 + 54);
        Kit.due("hands are 9: 50 late", x.tried(5, 0, 1), 99 + 49);
        // One whom no number could keep away, and one of a hundred of a hundred.
        x = given("party a 1 9 9 1 0 0 100;sitting 0 1;", 0);
        Kit.due("misses it", x.tried(0, 0, 20), 0);
        Kit.due("nobody misses it", x.tried(1, 0, 20), 180);
        Kit.due("doesn't come", x.tried(2, 0, 20), 0);
    }

    /** Promise 37: "(n 0 .. 20)"; "GLAD in all of these". */
    private static void triedForDays() {
        ThreeSittings x = given("party a 1 9 1 1 0 0 0;sitting 0 1;law like date;", 0);
        Kit.due("no days", x.tried(0, 0, 0), 0);
        Kit.due("one day", x.tried(0, 0, 1), 0);
        Kit.due("twenty days", x.tried(0, 0, 20), 190);
        x.days(10);
        Kit.due("from now on", x.tried(0, 0, 2), 10 + 11);
        Kit.due("date stays", x.count(6), 10);
        Kit.due("glad stays", x.count(7), 45);
        Kit.due("nobody aboard", new ThreeSittings().tried(0, 0, 20), 0);
    }

    /** Promise 37: "NONE: no such ones (i 0 of all but 2)." */
    private static void triedOfNoSuch() {
        ThreeSittings x = Kit.told("party a 1 9 1 1 0 0 0;party b 1 9 1 1 0 0 0;sitting 0 1;");
        for (int what = 0; what < 6; what++) {
            Kit.due("what " + what + ", i 0", x.tried(what, 0, 0), 0);
            Kit.due("what " + what + ", i 1", x.tried(what, 1, 0), what == 2 ? 0 : -1);
            Kit.due("what " + what + ", i 2", x.tried(what, 2, 0), -1);
            Kit.due("what " + what + ", 21 days", x.tried(what, 0, 21), -1);
            for (int wild : WILD) {
                Kit.due("what " + what + ", i " + wild, x.tried(what, wild, 0), -1);
                Kit.due("what " + what + ", days " + wild, x.tried(what, 0, wild), -1);
            }
        }
        for (int wild : WILD) {
            Kit.due("what " + wild, x.tried(wild, 0, 0), -1);
        }
        Kit.due("what 6", x.tried(6, 0, 0), -1);
        Kit.due("nobody aboard", new ThreeSittings().tried(2, 0, 0), -1);
    }

    /** What is thought of to answer one call is no part of the next: each call behind each other one. */
    private static void thinkingLeavesNothingBehind() {
        String text = "party a 4 9 3 1 60 40 0;party b 4 8 7 2 90 25 50;party c 2 5 6 7 70 10 0;seats 5;over 6;sitting 0 1;"
                + "sitting 50 2;sitting 95 3;lay 40;hands 3;law like wish*9-late;law stay coffee-price;";
        for (int first = 0; first < 18; first++) {
            for (int second = 0; second < 18; second++) {
                ThreeSittings x = given(text, 0, 1, 0);
                x.note(1, 20, true);
                x.note(2, 90, false);
                ThreeSittings untouched = given(text, 0, 1, 0);
                untouched.note(1, 20, true);
                untouched.note(2, 90, false);
                thought(x, first);
                Kit.due("thought " + second + " behind " + first, thought(x, second), thought(untouched, second));
            }
        }
        ThreeSittings x = given(text, 0, 1, 0);
        String before = Kit.print(x);
        for (int which = 0; which < 18; which++) {
            thought(x, which);
            Kit.due("nothing changes by thought " + which, Kit.print(x), before);
        }
        thinkingEndsWithTheText(text.replace("90 25 50", "90 25 30").replace("seats 5", "seats 9"));
    }

    /** Nor is what was thought of for one text any part of the next, with more parties. */
    private static void thinkingEndsWithTheText(String text) {
        for (int first = 0; first < 18; first++) {
            for (int second = 0; second < 18; second++) {
                ThreeSittings x = given("party a 4 9 3 1 60 40 0;sitting 0 1;sitting 1 1;sitting 2 1;", 0);
                x.note(1, 20, true);
                thought(x, first);
                Kit.tell(x, text);
                ThreeSittings untouched = Kit.told(text);
                for (int p = 0; p < 3; p++) {
                    x.give(p, p % 2);
                    untouched.give(p, p % 2);
                }
                Kit.due("thought " + second + " behind a text with " + first, thought(x, second), thought(untouched, second));
            }
        }
    }

    /** One of the calls that let days go by which are only thought of. */
    private static long thought(ThreeSittings x, int which) {
        switch (which) {
            case 0:
                return x.late(2);
            case 1:
                return x.catchUp(1);
            case 2:
                return x.catchUp(2);
            case 3:
                return x.hands();
            case 4:
                return x.empties(1);
            case 5:
                return x.later(2);
            case 6:
                return x.lingered();
            case 7:
                return x.chance(3, 4, 9);
            case 8:
                return x.bestSum();
            case 9:
                return x.crowd(0, 0);
            case 10:
                return x.level(0);
            case 11:
                return x.swap(0);
            default:
                return x.tried(which - 12, which == 14 ? 1 : 0, 3);
        }
    }

    // ---- undo, keep, back, count

    /** "TICKETS, SIGNS, PRICES by call can be undone, the latest first". Promise 38: "how many are left". */
    private static void undoLatestFirst() {
        ThreeSittings x = Kit.told("party a 1 9 1 1 0 0 0;sitting 0 7;sitting 1 8;");
        x.give(0, 1);
        x.sign(1, 2);
        x.price(0, 9);
        x.give(0, -1);
        Kit.due("the ticket", x.undo(), 3);
        Kit.ofParty(x, 0, 4, 1);
        Kit.due("the price still", x.sitting(0, 1), 9);
        Kit.due("the price", x.undo(), 2);
        Kit.due("the price", x.sitting(0, 1), 7);
        Kit.due("the sign still", x.sitting(1, 2), 2);
        Kit.due("the sign", x.undo(), 1);
        Kit.due("the sign", x.sitting(1, 2), 0);
        Kit.due("the first ticket", x.undo(), 0);
        Kit.ofParty(x, 0, 4, -1);
        // What is undone can't be undone again; what comes then can.
        Kit.due("nothing", x.undo(), -1);
        x.price(0, 3);
        Kit.due("the new price", x.undo(), 0);
        Kit.due("the price told", x.sitting(0, 1), 7);
        // A ticket that gives room, undone, and a full sitting is full again.
        x = given("party a 2 9 1 1 0 0 0;party b 2 9 1 1 0 0 0;seats 2;sitting 0 7;", 0);
        x.give(0, -1);
        x.give(1, 0);
        x.undo();
        x.undo();
        Kit.due("full again", x.give(1, 0), false);
    }

    /** "(20 at most)". */
    private static void undoTwentyAtMost() {
        for (int made : new int[] {19, 20, 21, 45}) {
            ThreeSittings x = Kit.told("sitting 0 0;");
            for (int price = 1; price <= made; price++) {
                x.price(0, price);
                Kit.due("can be undone", x.count(14), Math.min(price, 20));
            }
            for (int k = 1; k <= Math.min(made, 20); k++) {
                Kit.due("left", x.undo(), Math.min(made, 20) - k);
                Kit.due("price", x.sitting(0, 1), made - k);
            }
            Kit.due("no more", x.undo(), -1);
            Kit.due("the price stays", x.sitting(0, 1), Math.max(made - 20, 0));
        }
        // Undone and made anew over the brim.
        ThreeSittings x = Kit.told("sitting 0 0;");
        for (int price = 1; price <= 22; price++) {
            x.price(0, price);
        }
        x.undo();
        x.undo();
        x.price(0, 50);
        x.price(0, 51);
        x.price(0, 52);
        Kit.due("twenty again", x.count(14), 20);
        for (int k = 0; k < 20; k++) {
            x.undo();
        }
        Kit.due("three are lost", x.sitting(0, 1), 3);
    }

    /** "if no DAY went by since." */
    private static void undoNotBehindADay() {
        ThreeSittings x = Kit.told("party a 1 9 1 1 0 0 0;sitting 0 7;");
        x.give(0, 0);
        x.price(0, 9);
        x.days(0);
        Kit.due("no day", x.count(14), 2);
        x.days(100);
        Kit.due("no such days", x.count(14), 2);
        x.tried(0, 0, 20);
        x.chance(1, 20, 0);
        x.late(0);
        x.lingered();
        Kit.due("days only thought of", x.count(14), 2);
        x.days(1);
        Kit.due("a day", x.count(14), 0);
        Kit.due("a day", x.undo(), -1);
        Kit.due("the price stays", x.sitting(0, 1), 9);
        x.price(0, 8);
        Kit.due("what came since", x.undo(), 0);
        Kit.due("what came since", x.sitting(0, 1), 9);
        Kit.due("no further", x.undo(), -1);
    }

    /** Promise 38: "NONE: none." */
    private static void undoNone() {
        Kit.due("new", new ThreeSittings().undo(), -1);
        ThreeSittings x = Kit.told("party a 1 9 1 1 0 0 0;sitting 0 7;");
        // Calls that are refused, and calls of other kinds.
        x.give(0, 1);
        x.give(0, -1);
        x.sign(0, 0);
        x.price(0, 7);
        x.note(0, 1, true);
        x.known(0);
        x.keep();
        Kit.due("none", x.undo(), -1);
        Kit.due("notes stay", x.count(12), 1);
    }

    /** Promise 39: "An IMAGE is kept (in place of one ahead): which DATE it is." */
    private static void imageInPlaceOfOneAhead() {
        Kit.due("new", new ThreeSittings().keep(), 0);
        ThreeSittings x = Kit.told("party a 1 9 1 1 0 0 0;sitting 0 7;");
        Kit.due("keep", x.keep(), 0);
        x.days(3);
        x.price(0, 9);
        Kit.due("keep", x.keep(), 3);
        Kit.due("it can still be undone", x.count(14), 1);
        x.days(3);
        x.price(0, 5);
        Kit.due("the latest one", x.back(), 3);
        Kit.due("its price", x.sitting(0, 1), 9);
        x.days(4);
        Kit.due("the same one again", x.back(), 3);
        Kit.due("its price", x.sitting(0, 1), 9);
    }

    /** "An IMAGE keeps all but NOTES." Promise 40: "All (but NOTES) is as in the IMAGE". */
    private static void imageKeepsAllButNotes() {
        String text = "party a 2 9 1 1 0 9 50;party b 9 9 1 1 0 0 0;party c 1 5 1 1 0 9 0;seats 8;over 9;seed 5;sitting 0 7;"
                + "sitting 20 3;";
        ThreeSittings x = given(text, 0, 0, 1);
        x.sign(0, 1);
        x.days(5);
        x.price(1, 44);
        String before = Kit.print(x).replaceFirst("( \\S+){3} \\|", " |");
        x.keep();
        x.give(0, 1);
        x.give(1, -1);
        x.give(2, -1);
        x.sign(0, 0);
        x.sign(1, 3);
        x.price(0, 1);
        x.price(1, 2);
        x.note(0, 1, true);
        x.note(0, 2, true);
        x.known(1);
        x.days(7);
        Kit.due("back", x.back(), 5);
        // All but how many notes there are, are known and can be undone.
        Kit.due("all", Kit.print(x).replaceFirst("( \\S+){3} \\|", " |"), before);
        Kit.due("notes stay", x.count(12), 2);
        Kit.due("by how many it is known stays", x.count(13), 1);
        // The numbers, too: the days behind it go as they would have gone.
        ThreeSittings y = given(text, 0, 0, 1);
        y.sign(0, 1);
        y.days(5);
        y.price(1, 44);
        for (int day = 0; day < 9; day++) {
            x.days(1);
            y.days(1);
            Kit.due("away", x.party(0, 7), y.party(0, 7));
        }
    }

    /** "An IMAGE keeps all but NOTES": what goes on growing behind it. */
    private static void imageKeepsWhatGrows() {
        // a sits and is cross, b is hungry, c is away.
        ThreeSittings x = given("party a 2 9 1 1 0 9 0;party b 9 9 1 1 0 0 0;party c 1 5 1 1 0 9 100;seats 8;over 9;sitting 0 7;",
                0, 0, 0);
        for (int kept : new int[] {0, 3}) {
            x.days(kept);
            String before = Kit.print(x).replaceFirst("( \\S+){3} \\|", " |");
            x.keep();
            x.days(4);
            x.back();
            Kit.due("as on date " + kept, Kit.print(x).replaceFirst("( \\S+){3} \\|", " |"), before);
            Kit.ofParty(x, 0, 5, kept);
            Kit.ofParty(x, 0, 6, kept);
            Kit.ofParty(x, 1, 8, kept);
            Kit.ofParty(x, 2, 7, kept);
            Kit.due("glad", x.count(7), 18 * kept);
            Kit.due("hungry", x.count(9), 9 * kept);
            Kit.due("paid", x.count(10), 14 * kept);
        }
    }

    /** Promise 40: "(nothing to undo then): which DATE it is". */
    private static void backNothingToUndo() {
        ThreeSittings x = Kit.told("sitting 0 7;");
        x.price(0, 9);
        x.keep();
        x.price(0, 8);
        Kit.due("back", x.back(), 0);
        Kit.due("nothing to undo", x.count(14), 0);
        Kit.due("nothing to undo", x.undo(), -1);
        Kit.due("the image's price", x.sitting(0, 1), 9);
        x.days(2);
        x.keep();
        x.days(99);
        Kit.due("back", x.back(), 2);
        Kit.due("a day of the image", x.sitting(0, 4), 0);
    }

    /** Promise 40: "NONE: there is none." */
    private static void backWithoutImage() {
        Kit.due("new", new ThreeSittings().back(), -1);
        ThreeSittings x = Kit.told("sitting 0 7;");
        x.price(0, 9);
        Kit.due("none", x.back(), -1);
        Kit.due("all stays", x.sitting(0, 1), 9);
        Kit.due("what can be undone stays", x.undo(), 0);
        x.keep();
        Kit.due("a faulty text leaves it", Kit.tell(x, "#"), -1);
        Kit.due("there is one", x.back(), 0);
        x.text(0);
        Kit.due("none in another text", x.back(), -1);
    }

    /** Promise 41: "0 PARTIES, 1 SITTINGS, .. 14 what can be undone." */
    private static void counts() {
        ThreeSittings x = given("party a 2 9 1 1 0 9 0;party b 9 9 1 1 0 0 0;party c 1 5 1 1 0 9 0;seats 8;over 7;sitting 5 7;"
                + "sitting 20 3;law like wish-1;", 0, 0);
        int[] due = {3, 2, 8, 12, 7, 3, 0, 0, 0, 0, 0, 11, 0, 0, 2};
        for (int what = 0; what < 15; what++) {
            Kit.due("ahead, count(" + what + ")", x.count(what), due[what]);
        }
        x.sign(0, 2);
        x.days(2);
        x.price(0, 1);
        x.note(0, 0, true);
        x.note(0, 0, true);
        x.out(0);
        x.known(2);
        int[] then = {3, 2, 8, 12, 7, 3, 2, 2 * 2 * 8, 2 * 3, 2 * 9, 2 * 2 * 7, 11, 3, 2, 1};
        for (int what = 0; what < 15; what++) {
            Kit.due("behind, count(" + what + ")", x.count(what), then[what]);
        }
    }

    /** Promise 41: "NONE for another what." */
    private static void countOfNoSuch() {
        ThreeSittings x = Kit.told("party a 2 9 1 1 0 9 0;sitting 5 7;");
        Kit.due("count(15)", x.count(15), -1);
        Kit.due("count(16)", x.count(16), -1);
        for (int wild : WILD) {
            Kit.due("count(" + wild + ")", x.count(wild), -1);
        }
    }

    /** "PARTIES, at most 8": sums and the most of all eight, and of fewer told behind them. */
    private static void eightAboard() {
        StringBuilder text = new StringBuilder("seats 99;sitting 0 1;");
        for (char c = 'a'; c <= 'h'; c++) {
            text.append("party ").append(c).append(" 9 1 1 1 ").append(c == 'h' ? 0 : 999).append(" 0 0;");
        }
        ThreeSittings x = given(text.toString(), 0, 0, 0, 0, 0, 0, 0, 0);
        x.days(1);
        Kit.due("persons", x.count(3), 72);
        Kit.due("with tickets", x.count(11), 72);
        Kit.due("without", x.without(), 0);
        Kit.due("cross most", x.mostCross(0), 7);
        Kit.due("how often", x.mostCross(1), 1);
        Kit.due("cross in all", x.count(8), 1);
        Kit.tell(x, "party a 2 1 1 1 1 1 1;");
        Kit.due("persons of one", x.count(3), 2);
        Kit.due("without, of one", x.without(), 2);
        Kit.due("nobody is cross", x.mostCross(1), 0);
    }
}
