/** Promises 13, 19 to 22, 26, 29, 36 and 37: days, late, catchUp, hands, empties, mostCross, later, chance, tried. */
public final class DayTest {
    public static void main(String[] args) {
        dates();
        standing();
        firstStands();
        signs();
        laying();
        numbers();
        lawsInDays();
        crossMost();
        catching();
        fewestHands();
        laterTold();
        chance();
        tried();
        Kit.end("DayTest");
    }

    private static void dates() {
        ThreeSittings x = new ThreeSittings();
        Kit.due("days(-1)", x.days(-1), -1);
        Kit.due("days(100)", x.days(100), -1);
        Kit.due("days(max)", x.days(Integer.MAX_VALUE), -1);
        Kit.due("days(0)", x.days(0), 0);
        for (int n = 1; n <= 101; n++) {
            Kit.due("days(99)", x.days(99), n * 99);
        }
        Kit.due("behind 9999", x.days(1), -1);
        Kit.due("none does", x.count(6), 9999);
        Kit.due("days(0)", x.days(0), 9999);
    }

    private static void standing() {
        // 6 seats: a 4 sits, b 5 stands, c 2 sits; at the second b sits ahead of d 1, which has the last seat,
        // e 1 stands and sits at the third; f 9 never sits.
        ThreeSittings x = Kit.told("party a 4 1 1 1 999 0 0;party b 5 1 2 3 999 0 0;party c 2 1 1 1 999 0 0;"
                + "party d 1 1 1 1 999 0 0;party e 1 1 1 7 999 0 0;party f 9 9 9 9 999 0 0;"
                + "seats 6;over 30;sitting 0 1;sitting 100 10;sitting 200 50;");
        int[] tickets = {0, 0, 0, 1, 1, 0};
        for (int p = 0; p < tickets.length; p++) {
            Kit.due("give", x.give(p, tickets[p]), true);
        }
        Kit.due("empties(0)", x.empties(0), 0);
        Kit.due("empties(1)", x.empties(1), 0);
        Kit.due("empties(2)", x.empties(2), 5);
        Kit.due("empties(3)", x.empties(3), -1);
        Kit.due("empties(-1)", x.empties(-1), -1);
        x.days(1);
        int[] meals = {1, 1, 1, 1, 1, 0};
        int[] hungry = {0, 0, 0, 0, 0, 1};
        for (int p = 0; p < meals.length; p++) {
            Kit.ofParty(x, p, 5, meals[p]);
            Kit.ofParty(x, p, 8, hungry[p]);
        }
        int[][] sat = {{6, 14}, {6, 10}, {1, 9}};
        for (int s = 0; s < 3; s++) {
            Kit.due("sat", x.sitting(s, 6), sat[s][0]);
            Kit.due("stood", x.sitting(s, 7), sat[s][1]);
        }
        Kit.due("glad", x.count(7), 4 + 5 * 2 + 2 + 1 + 7);
        Kit.due("paid", x.count(10), 6 + 60 + 50);
        Kit.due("hungry", x.count(9), 9);
        x.days(2);
        Kit.due("hungry in all", x.count(9), 27);
        Kit.ofParty(x, 5, 8, 3);
    }

    private static void firstStands() {
        // b stands from the first one and sits at the second, so that a, the first by number, stands there.
        ThreeSittings x = Kit.told("party a 3 1 1 1 999 0 0;party b 4 1 1 1 999 0 0;party c 4 1 1 1 999 0 0;seats 5;"
                + "over 9;sitting 0 1;sitting 100 10;sitting 200 50;");
        x.give(0, 1);
        x.give(1, 0);
        x.give(2, 0);
        x.days(1);
        int[][] due = {{4, 4}, {4, 3}, {3, 0}};
        for (int s = 0; s < 3; s++) {
            Kit.due("sat", x.sitting(s, 6), due[s][0]);
            Kit.due("stood", x.sitting(s, 7), due[s][1]);
        }
        Kit.ofParty(x, 0, 5, 1);
        Kit.due("paid", x.count(10), 4 + 40 + 150);
    }

    private static void signs() {
        // Of a stay of 7 the bill takes 1, the lights 3, the cloth 7.
        int[] ends = {37, 36, 34, 30};
        for (int sign = 0; sign < 4; sign++) {
            ThreeSittings x = Kit.told("party a 1 1 1 1 29 7 0;party b 1 1 1 1 30 0 0;sitting 0 1;");
            x.give(0, 0);
            x.give(1, 0);
            x.sign(0, sign);
            x.days(1);
            Kit.due("ended under sign " + sign, x.sitting(0, 8), ends[sign]);
            Kit.ofParty(x, 0, 6, 1 + sign);
            Kit.ofParty(x, 1, 6, 0);
            Kit.due("cross in all", x.count(8), 1 + sign);
        }
    }

    private static void laying() {
        // Nobody sat: it ends when it begins and nothing is laid.
        ThreeSittings x = Kit.told("party a 1 1 1 1 999 0 0;party b 1 1 1 1 999 0 50;sitting 0 1;sitting 10 1;"
                + "sitting 15 1;meal 12;lay 10;hands 3;");
        x.give(0, 0);
        x.give(1, 1);
        Kit.due("late(0)", x.late(0), 0);
        Kit.due("late(1)", x.late(1), 6);
        Kit.due("late(2)", x.late(2), 1);
        Kit.due("late(3)", x.late(3), -1);
        Kit.due("late(-1)", x.late(-1), -1);
        Kit.due("tells and changes nothing", x.count(6), 0);
        Kit.due("tells and changes nothing", x.sitting(0, 4), -1);
    }

    private static void numbers() {
        // From seed 0 on: 0, 21468 (68), 9988 (88), 22117 (17), 3498 (98), 16927 (27), modulo 100.
        int[] numbers = {0, 68, 88, 17, 98, 27};
        for (int miss : new int[] {1, 17, 18, 68, 69, 98, 99, 100}) {
            ThreeSittings x = Kit.told("party a 1 1 1 1 999 0 " + miss + ";party z 1 1 1 1 999 0 0;sitting 0 1;");
            x.give(0, 0);
            x.give(1, 0);
            int away = 0;
            for (int number : numbers) {
                away += number < miss ? 1 : 0;
                x.days(1);
                Kit.ofParty(x, 0, 7, away);
            }
            Kit.ofParty(x, 0, 5, 6 - away);
            Kit.ofParty(x, 1, 7, 0);
        }
        ThreeSittings x = Kit.told("party a 1 1 1 1 999 0 49;party b 1 1 1 1 999 0 50;sitting 0 1;");
        x.give(0, 0);
        x.give(1, 0);
        Kit.due("as it goes one of 49 comes, one of 50 doesn't", x.empties(0), 11);
    }

    private static void lawsInDays() {
        // The second sitting is 25 late: the laws see it, the like of a is bounded.
        ThreeSittings x = Kit.told("party a 3 1 1 1 999 0 0;party b 2 5 6 7 999 5 0;sitting 0 1;sitting 10 2;meal 25;"
                + "lay 10;hands 1;law like late*10+wish;law stay late+coffee;law miss late*4+date*50;");
        x.give(0, 0);
        x.give(1, 1);
        x.days(1);
        Kit.ofParty(x, 1, 7, 1);
        Kit.due("late", x.sitting(1, 5), 25);
        x.give(1, 0);
        Kit.due("the date is seen", x.misses(1, 0), 50);
        x = Kit.told("party a 3 1 1 1 999 0 0;party b 2 5 6 7 999 5 0;sitting 0 1;sitting 10 2;meal 25;"
                + "lay 10;hands 1;law like late*10+wish;law stay late+coffee;");
        x.give(0, 0);
        x.give(1, 1);
        x.days(1);
        Kit.due("glad", x.count(7), 3 + 2 * 99);
        Kit.due("ended", x.sitting(1, 8), 35 + 25 + 30);
    }

    private static void crossMost() {
        ThreeSittings x = new ThreeSittings();
        Kit.due("without parties", x.mostCross(0), -1);
        Kit.due("without parties", x.mostCross(1), -1);
        x = Kit.told("party a 1 1 1 1 999 1 0;party b 1 1 1 1 5 1 0;party c 1 1 1 1 5 1 0;sitting 0 1;");
        Kit.due("nobody yet", x.mostCross(0), 0);
        Kit.due("nobody yet", x.mostCross(1), 0);
        for (int p = 0; p < 3; p++) {
            x.give(p, 0);
        }
        x.sign(0, 2);
        x.days(2);
        Kit.due("the first of two", x.mostCross(0), 1);
        Kit.due("how often", x.mostCross(1), 6);
        Kit.due("mostCross(2)", x.mostCross(2), -1);
        Kit.due("mostCross(-1)", x.mostCross(-1), -1);
    }

    private static void catching() {
        // Laid at 30 + 20 - taken: the second one's minute decides which sign does.
        int[][] due = {{50, 0}, {49, 1}, {45, 1}, {44, 2}, {40, 2}, {39, 3}, {30, 3}, {29, -2}};
        for (int[] d : due) {
            ThreeSittings x = Kit.told("party a 1 1 1 1 999 20 0;sitting 0 1;sitting " + d[0] + " 1;lay 0;");
            x.give(0, 0);
            Kit.due("catchUp for minute " + d[0], x.catchUp(1), d[1]);
            x.sign(0, 3);
            Kit.due("catchUp is the least", x.catchUp(1), d[1]);
            Kit.due("catchUp(0)", x.catchUp(0), -1);
            Kit.due("catchUp(2)", x.catchUp(2), -1);
            Kit.due("catchUp(-1)", x.catchUp(-1), -1);
            Kit.due("the sign stays", x.sitting(0, 2), 3);
        }
    }

    private static void fewestHands() {
        Kit.due("hands of nothing", new ThreeSittings().hands(), 1);
        int[][] due = {{130, 1}, {129, 2}, {81, 2}, {80, 3}, {64, 3}, {63, 4}, {42, 9}, {41, -2}};
        for (int[] d : due) {
            ThreeSittings x = Kit.told("party a 1 1 1 1 999 0 0;sitting 0 1;sitting " + d[0] + " 1;lay 99;hands 5;"
                    + "meal 31;");
            x.give(0, 0);
            Kit.due("hands for minute " + d[0], x.hands(), d[1]);
        }
    }

    private static void laterTold() {
        // Told later, the second one is not late any more: who stays by lateness goes at once.
        String text = "party a 1 1 1 1 999 10 0;party b 1 1 1 1 999 0 0;sitting 0 1;sitting 20 1;sitting 30 1;lay 0;"
                + "law stay coffee+late;";
        ThreeSittings x = Kit.told(text);
        x.give(0, 0);
        x.give(1, 1);
        Kit.due("late(2)", x.late(2), 40 + 30 + 20 - 30);
        Kit.due("later(0)", x.later(0), 0);
        Kit.due("later(1)", x.later(1), 20);
        Kit.due("later(2)", x.later(2), 40 + 30 - 30);
        Kit.due("later(3)", x.later(3), -1);
        Kit.due("later(-1)", x.later(-1), -1);
        Kit.due("the minute stays", x.sitting(1, 0), 20);
        Kit.due("late stays", x.late(1), 20);
    }

    private static void chance() {
        ThreeSittings x = Kit.told("party a 5 9 9 9 999 0 0;party b 2 9 9 9 999 0 50;seats 6;over 9;sitting 10 3;");
        x.give(0, 0);
        x.give(1, 0);
        // From seed 5 on: 55, 57, 16, 77, 93, 64, 4, 67, 72, 60: b is away twice, else hungry.
        Kit.due("one day, nobody", x.chance(5, 1, 0), 2);
        Kit.due("one day, one", x.chance(5, 1, 1), 2);
        Kit.due("one day, two", x.chance(5, 1, 2), 10);
        Kit.due("nothing changes", x.chance(5, 1, 0), 2);
        Kit.due("date", x.count(6), 0);
        Kit.due("hungry", x.count(9), 0);
        x.days(3);
        Kit.due("what was is not counted", x.chance(5, 1, 0), 2);
        Kit.due("two days, four", x.chance(5, 2, 4), 10);
        Kit.due("seed max", x.chance(Integer.MAX_VALUE, 20, 9999), 10);
        int[][] wrong = {{-1, 1, 0}, {0, 0, 0}, {0, 21, 0}, {0, -1, 0}, {0, 1, -1}, {0, 1, 10000},
            {Integer.MIN_VALUE, 1, 1}};
        for (int[] w : wrong) {
            Kit.due("chance of none", x.chance(w[0], w[1], w[2]), -1);
        }
        // Of two days each: 55 57, 16 77, 93 64, 4 67, 72 60: two of the first five pairs have one day away.
        int fewer = x.chance(5, 2, 2);
        Kit.due("one behind another", fewer >= 2, true);
        Kit.due("no hungry", new ThreeSittings().chance(0, 20, 0), 10);
    }

    private static void tried() {
        // a 4 sits, b 4 stands till the second, c has 60 of a hundred; a's stay makes the second late.
        ThreeSittings x = Kit.told("party a 4 5 5 5 999 30 0;party b 4 6 7 8 999 0 0;party c 2 9 4 4 999 0 60;"
                + "seats 7;over 9;sitting 0 1;sitting 39 1;lay 18;hands 2;law like wish*10-late;");
        x.give(0, 0);
        x.give(1, 0);
        x.give(2, 1);
        Kit.due("as it is", x.tried(0, 0, 1), 4 * 50 + 4 * (70 - 30));
        Kit.due("as it is, two days", x.tried(0, 0, 2), 2 * (4 * 50 + 4 * (70 - 30)));
        Kit.due("nobody misses it", x.tried(1, 0, 1), 4 * 50 + 4 * (70 - 30) + 2 * (40 - 30));
        Kit.due("a doesn't come", x.tried(2, 0, 1), 4 * 60);
        Kit.due("b doesn't come", x.tried(2, 1, 1), 4 * 50);
        Kit.due("four seats more", x.tried(3, 0, 1), 4 * 50 + 4 * 60);
        Kit.due("nobody stays", x.tried(4, 0, 1), 4 * 50 + 4 * 70);
        Kit.due("hands are 9", x.tried(5, 0, 1), 4 * 50 + 4 * (70 - 23));
        Kit.due("no days", x.tried(0, 0, 0), 0);
        x.days(5);
        Kit.due("of these days alone", x.tried(4, 0, 20), 20 * (4 * 50 + 4 * 70));
        int[][] wrong = {{-1, 0, 1}, {6, 0, 1}, {0, 1, 1}, {1, -1, 1}, {5, 1, 1}, {2, 3, 1}, {2, -1, 1}, {0, 0, -1},
            {0, 0, 21}, {Integer.MIN_VALUE, 0, 0}, {2, Integer.MAX_VALUE, 1}};
        for (int[] w : wrong) {
            Kit.due("tried(" + w[0] + ", " + w[1] + ", " + w[2] + ")", x.tried(w[0], w[1], w[2]), -1);
        }
        Kit.due("date", x.count(6), 5);
    }
}
