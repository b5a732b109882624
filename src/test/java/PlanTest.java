/** Promises 14 to 18, 28 and 30 to 35: best, choice, level, crowd, swap, rests, notes, lingered. */
public final class PlanTest {
    public static void main(String[] args) {
        best();
        bestFollows();
        choice();
        level();
        crowd();
        swap();
        rests();
        notes();
        lingered();
        Kit.end("PlanTest");
    }

    private static void best() {
        ThreeSittings x = new ThreeSittings();
        Kit.due("bestSum of nothing", x.bestSum(), 0);
        Kit.due("best of nobody", x.best(0), -1);
        x = Kit.told("party a 1 1 1 1 999 0 0;");
        Kit.due("no sitting", x.best(0), -2);
        Kit.due("no sitting", x.bestSum(), 0);
        // Off at 30 is in time for the first alone, at 29 for none.
        x = Kit.told("party a 2 1 9 9 30 0 0;party b 2 9 9 9 29 0 0;sitting 0 1;sitting 1 1;");
        Kit.due("a", x.best(0), 0);
        Kit.due("b", x.best(1), -2);
        Kit.due("sum", x.bestSum(), 2);
        Kit.due("best(2)", x.best(2), -1);
        Kit.due("best(-1)", x.best(-1), -1);
        // Of several the first: none ahead of sittings, the first sitting ahead of the second.
        x = Kit.told("party a 2 0 0 0 999 0 0;party b 2 5 5 5 999 0 0;party c 2 5 5 5 999 0 0;seats 3;over 0;"
                + "sitting 0 1;sitting 1 1;");
        Kit.due("a", x.best(0), -2);
        Kit.due("b", x.best(1), 0);
        Kit.due("c", x.best(2), 1);
        Kit.due("sum", x.bestSum(), 20);
        x = Kit.told("party a 2 5 0 0 999 0 0;party b 2 5 0 0 999 0 0;seats 1;over 2;sitting 0 1;");
        Kit.due("none ahead: a", x.best(0), -2);
        Kit.due("none ahead: b", x.best(1), 0);
        x = Kit.told("party a 5 9 0 0 999 0 0;party b 3 9 8 0 999 0 0;party c 6 9 1 0 999 0 0;seats 6;over 3;"
                + "sitting 0 1;sitting 50 1;");
        // b and c at the first (81), a at none; or c (54) at the first and b at the second (24).
        Kit.due("a", x.best(0), -2);
        Kit.due("b", x.best(1), 0);
        Kit.due("c", x.best(2), 0);
        Kit.due("sum", x.bestSum(), 81);
    }

    private static void bestFollows() {
        ThreeSittings x = Kit.told("party a 2 5 4 0 999 0 0;sitting 0 1;sitting 50 1;law like wish*(price<5)+date;");
        Kit.due("ahead", x.best(0), 0);
        x.price(0, 6);
        Kit.due("by price", x.best(0), 1);
        Kit.due("by price", x.bestSum(), 8);
        x.undo();
        Kit.due("undone", x.bestSum(), 10);
        x.days(3);
        Kit.due("by date", x.bestSum(), 16);
        x.keep();
        x.price(0, 6);
        x.back();
        Kit.due("back", x.best(0), 0);
        Kit.tell(x, "party a 2 5 4 0 999 0 0;sitting 0 1;seats 1;law like wish*(price<5)+date;");
        Kit.due("another text", x.bestSum(), 0);
        Kit.due("another text", x.best(0), -2);
    }

    private static void choice() {
        Kit.due("no such party", new ThreeSittings().choice(0), -1);
        ThreeSittings x = Kit.told("party a 1 5 6 9 0 0 0;party b 1 0 0 0 0 0 0;party c 1 2 0 9 0 0 0;sitting 0 2;"
                + "sitting 1 3;law like 99-wish;");
        Kit.due("the first of two", x.choice(0), 0);
        Kit.due("none below 0", x.choice(1), -2);
        Kit.due("0 is enough", x.choice(2), 0);
        x.price(0, 3);
        Kit.due("by the prices of now", x.choice(0), 1);
        Kit.due("none below 0", x.choice(2), -2);
        Kit.due("choice(3)", x.choice(3), -1);
        Kit.due("choice(-1)", x.choice(-1), -1);
        Kit.due("no sitting", Kit.told("party a 1 5 6 9 0 0 0;").choice(0), -2);
    }

    private static void level() {
        Kit.due("no such sitting", new ThreeSittings().level(0), -1);
        ThreeSittings x = Kit.told("party a 3 9 5 0 0 0 0;party b 3 8 5 0 0 0 0;seats 3;over 50;sitting 0 1;sitting 1 9;");
        // By 3, 0: a 6, 5; b 5, 5, so both the first; by 4, 0: b takes the second.
        Kit.due("level(0)", x.level(0), 4);
        Kit.due("level(1)", x.level(1), 0);
        Kit.due("level(2)", x.level(2), -1);
        Kit.due("level(-1)", x.level(-1), -1);
        x.price(0, 50);
        Kit.due("whatever the prices are", x.level(0), 4);
        x = Kit.told("party a 3 9 0 0 0 0 0;party b 3 9 0 0 0 0 0;seats 3;sitting 0 1;");
        Kit.due("nothing levels it", x.level(0), -2);
        x = Kit.told("party a 2 5 5 0 0 0 0;party b 2 3 3 0 0 0 0;party c 2 0 9 0 0 0 0;seats 4;sitting 0 1;sitting 1 1;");
        Kit.due("as it is", x.level(0), 0);
        // One party each: c must find both too dear (1, 2), b the second better (3, 2), a the first no worse.
        x = Kit.told("party a 2 5 4 0 0 0 0;party b 2 4 4 0 0 0 0;party c 2 0 1 0 0 0 0;seats 3;sitting 0 1;sitting 1 1;");
        Kit.due("one party each", x.level(0), 3);
        Kit.due("one party each", x.level(1), 2);
        x = Kit.told("party a 2 5 5 5 0 0 0;party b 2 5 5 5 0 0 0;party c 2 5 5 5 0 0 0;seats 5;sitting 0 1;sitting 1 1;"
                + "sitting 2 1;");
        Kit.due("all alike", x.level(0), 6);
        Kit.due("all alike", x.level(1), 6);
        Kit.due("all alike", x.level(2), 6);
        Kit.tell(x, "seats 5;sitting 0 1;");
        Kit.due("another text", x.level(0), 0);
        x = Kit.told("party a 1 8 0 0 0 0 0;party b 1 8 0 0 0 0 0;party c 1 0 8 0 0 0 0;party d 1 0 8 0 0 0 0;"
                + "party e 1 0 0 8 0 0 0;party f 1 0 0 8 0 0 0;seats 1;sitting 0 1;sitting 1 1;sitting 2 1;");
        for (int s = 0; s < 3; s++) {
            Kit.due("as dear as can be", x.level(s), 9);
        }
    }

    private static void crowd() {
        ThreeSittings x = Kit.told("party a 3 1 1 1 0 0 40;party b 3 1 1 1 0 0 25;party c 1 1 1 1 0 0 100;"
                + "party d 2 1 1 1 0 0 0;seats 4;over 9;sitting 0 1;sitting 5 1;");
        Kit.due("nobody has a ticket", x.crowd(0, 0), 0);
        Kit.due("nobody has a ticket", x.crowd(0, 1), 1);
        x.give(0, 0);
        x.give(1, 0);
        Kit.due("both", x.crowd(0, 0), 9);
        Kit.due("both", x.crowd(0, 1), 20);
        x.give(2, 0);
        Kit.due("one who never comes", x.crowd(0, 0), 9);
        Kit.due("one who never comes", x.crowd(0, 1), 20);
        x.give(3, 0);
        // d comes: 2 and 3 are too many: all but both away, 1 - 0.4 * 0.25.
        Kit.due("three", x.crowd(0, 0), 9);
        Kit.due("three", x.crowd(0, 1), 10);
        Kit.due("the other one", x.crowd(1, 0), 0);
        Kit.due("crowd(2, 0)", x.crowd(2, 0), -1);
        Kit.due("crowd(-1, 0)", x.crowd(-1, 0), -1);
        Kit.due("crowd(0, 2)", x.crowd(0, 2), -1);
        Kit.due("crowd(0, -1)", x.crowd(0, -1), -1);
        x = Kit.told("party a 5 1 1 1 0 0 40;seats 4;over 9;sitting 7 1;law miss absent+late*10+date*20;");
        x.give(0, 0);
        Kit.due("by the law, late 0", x.crowd(0, 0), 3);
        Kit.due("by the law, late 0", x.crowd(0, 1), 5);
        x.days(1);
        Kit.due("by the law, at the date", x.crowd(0, 0), 2);
        StringBuilder eight = new StringBuilder("seats 71;sitting 0 1;over 1;");
        for (char c = 'a'; c <= 'h'; c++) {
            eight.append("party ").append(c).append(" 9 1 1 1 1 1 1;");
        }
        x = Kit.told(eight.toString());
        for (int p = 0; p < 8; p++) {
            x.give(p, 0);
        }
        Kit.due("all eight", x.crowd(0, 0), 9227446944279201L);
        Kit.due("all eight", x.crowd(0, 1), 10000000000000000L);
    }

    private static void swap() {
        String text = "party a 2 1 5 0 0 0 0;party b 3 5 1 0 0 0 0;party c 2 6 1 0 0 0 0;sitting 0 1;sitting 5 1;seats %d;"
                + "over 1;";
        ThreeSittings x = Kit.told(String.format(text, 6));
        Kit.due("nobody has a ticket", x.swap(0), -2);
        x.give(0, 0);
        Kit.due("one has a ticket", x.swap(0), -2);
        x.give(1, 1);
        x.give(2, 1);
        Kit.due("the first pair", x.swap(0), 0);
        Kit.due("the first pair", x.swap(1), 1);
        Kit.due("swap(2)", x.swap(2), -1);
        Kit.due("swap(-1)", x.swap(-1), -1);
        x.give(0, 1);
        Kit.due("all at one", x.swap(0), -2);
        // With 5 of 5 at the second and 2 and another 3 at the first, 3 for 2 does not fit there.
        x = Kit.told("party a 2 1 5 0 0 0 0;party b 3 5 1 0 0 0 0;party c 2 6 1 0 0 0 0;party d 3 9 0 0 0 0 0;"
                + "sitting 0 1;sitting 5 1;seats 4;over 1;");
        x.give(0, 0);
        x.give(3, 0);
        x.give(1, 1);
        x.give(2, 1);
        Kit.due("one that fits", x.swap(0), 0);
        Kit.due("one that fits", x.swap(1), 2);
        // The other way round: 3 for 2 does not fit at the second.
        x = Kit.told("party a 3 1 5 0 0 0 0;party b 2 5 1 0 0 0 0;party c 3 0 9 0 0 0 0;sitting 0 1;sitting 5 1;"
                + "seats 5;over 0;");
        x.give(0, 0);
        x.give(1, 1);
        x.give(2, 1);
        Kit.due("none that fits", x.swap(0), -2);
        // Alike is not more.
        x = Kit.told("party a 2 5 5 0 0 0 0;party b 2 5 1 0 0 0 0;sitting 0 1;sitting 5 1;");
        x.give(0, 0);
        x.give(1, 1);
        Kit.due("alike", x.swap(0), -2);
    }

    private static void rests() {
        ThreeSittings x = Kit.told("party a 1 1 1 1 1 20 0;party b 1 1 1 1 1 0 0;party c 1 1 1 1 1 30 0;"
                + "party d 1 1 1 1 1 0 0;party e 1 1 1 1 1 10 0;party f 1 1 1 1 1 5 0;");
        int[][] due = {{0, 1, 10}, {1, 0, 1}, {0, 2, 1, 10}, {1, 3, 0, 1, 10, 11}, {4, 0, 1, 10},
            {0, 4, 1, 10}, {5, 0, 1}, {0, 5, 10}};
        for (int[] d : due) {
            String pair = "(" + d[0] + ", " + d[1];
            Kit.due("rests" + pair + ")", x.rests(d[0], d[1]), d.length - 2);
            for (int k = 0; k + 2 < d.length; k++) {
                Kit.due("rest" + pair + ", " + k + ")", x.rest(d[0], d[1], k), d[k + 2]);
            }
            Kit.due("rest behind the last", x.rest(d[0], d[1], d.length - 2), -2);
            Kit.due("rest far behind", x.rest(d[0], d[1], Integer.MAX_VALUE), -2);
            Kit.due("rest -1", x.rest(d[0], d[1], -1), -1);
        }
        int[][] wrong = {{0, 0}, {-1, 0}, {0, -1}, {6, 0}, {0, 6}, {9, 9}};
        for (int[] w : wrong) {
            Kit.due("rests of none", x.rests(w[0], w[1]), -1);
            Kit.due("rest of none", x.rest(w[0], w[1], 0), -1);
        }
    }

    private static void notes() {
        ThreeSittings x = Kit.told("sitting 0 1;sitting 5 1;");
        Kit.due("note(2, ..)", x.note(2, 0, true), -1);
        Kit.due("note(-1, ..)", x.note(-1, 0, true), -1);
        Kit.due("note of -1", x.note(0, -1, true), -1);
        Kit.due("note of 1000", x.note(0, 1000, true), -1);
        Kit.due("out(0) of none", x.out(0), -1);
        Kit.due("known(0)", x.known(0), true);
        Kit.due("known(1)", x.known(1), false);
        Kit.due("known(-2)", x.known(-2), false);
        Kit.due("known(-1)", x.known(-1), true);
        Kit.due("first", x.note(0, 999, false), 0);
        Kit.due("out(0)", x.out(0), 1);
        Kit.due("out(-1)", x.out(-1), -1);
        Kit.due("out(2)", x.out(2), -1);
        Kit.due("a note once more", x.out(0), 2);
        for (int k = 3; k < 24; k++) {
            Kit.due("note", x.note(1, 0, true), k);
        }
        Kit.due("a 25th", x.note(1, 0, true), -1);
        Kit.due("a 25th", x.out(3), -1);
        Kit.due("count", x.count(12), 24);
        Kit.due("known(24)", x.known(24), true);
        Kit.due("known by", x.count(13), 24);
        Kit.due("known(25)", x.known(25), false);
        Kit.due("known by, still", x.count(13), 24);
        Kit.due("known(3)", x.known(3), true);
        Kit.due("known by", x.count(13), 3);
    }

    private static void lingered() {
        // a stays 10 (30), b 0 (20), c 85 (99) at no table: the second is 5 late (25, 15), the date is seen in stay.
        ThreeSittings x = Kit.told("party a 1 1 1 1 999 10 0;party b 1 1 1 1 999 0 0;party c 1 1 1 1 999 85 0;"
                + "sitting 0 1;sitting 35 1;lay 0;law stay coffee+date;");
        x.give(0, 0);
        x.give(1, 0);
        x.days(3);
        Kit.due("nothing noted", x.lingered(), 15);
        x.note(1, 6, true);
        Kit.due("at least 6", x.lingered(), 3);
        x.note(1, 25, false);
        Kit.due("less than 25", x.lingered(), 2);
        x.note(1, 5, false);
        Kit.due("nobody", x.lingered(), 0);
        x.known(1);
        Kit.due("known by 1", x.lingered(), 3);
        x.known(0);
        Kit.due("known by 0", x.lingered(), 15);
        x.known(-1);
        Kit.due("strikes the third", x.out(2), 3);
        Kit.due("by the first two", x.lingered(), 2);
        Kit.due("strikes what strikes", x.out(3), 4);
        Kit.due("nobody", x.lingered(), 0);
        Kit.due("strikes that", x.out(4), 5);
        Kit.due("by the first two", x.lingered(), 2);
        x.known(5);
        Kit.due("the last one isn't known", x.lingered(), 0);
        x.known(4);
        Kit.due("the last two aren't known", x.lingered(), 2);
        x.sign(0, 3);
        Kit.due("with the signs of now nobody is late", x.lingered(), 0);
        x.undo();
        x.give(0, -1);
        // Without a: b is never 6 late but by lingering: 30 + 20 - 35.
        Kit.due("with the tickets of now", x.lingered(), 2);
        x.give(2, 0);
        // c stays 85: 80 late, 94 with 99.
        x.note(1, 94, true);
        x.note(1, 95, false);
        x.known(1);
        Kit.due("all are late", x.lingered(), 15);
        x = Kit.told("party c 1 1 1 1 999 85 0;sitting 0 1;sitting 35 1;lay 0;");
        x.give(0, 0);
        x.note(1, 94, true);
        Kit.due("99 at most", x.lingered(), 1);
        x.note(1, 95, false);
        Kit.due("99 at most", x.lingered(), 1);
        x.note(1, 95, true);
        Kit.due("99 at most", x.lingered(), 0);
    }
}
