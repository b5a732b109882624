/** Promises 10 to 12, 27 and 38 to 41: give, sign, price, without, undo, keep, back, count. */
public final class ChangeTest {
    private static final String TEXT = "party a 4 5 3 1 900 20 0;party b 3 4 6 0 760 0 0;party c 6 9 2 1 999 30 100;"
            + "seats 8;over 2;sitting 700 2;sitting 740 1;law like wish+1;";

    public static void main(String[] args) {
        give();
        signAndPrice();
        undo();
        undoMost();
        keepAndBack();
        count();
        Kit.end("ChangeTest");
    }

    private static void give() {
        ThreeSittings x = Kit.told(TEXT);
        Kit.due("without", x.without(), 13);
        Kit.due("give none to one who has none", x.give(0, -1), false);
        Kit.due("give", x.give(0, 0), true);
        Kit.due("give the same", x.give(0, 0), false);
        Kit.due("give to the brim", x.give(2, 0), true);
        Kit.due("give too many", x.give(1, 0), false);
        Kit.due("without", x.without(), 3);
        Kit.due("with", x.count(11), 10);
        Kit.due("give to another", x.give(0, 1), true);
        Kit.due("now there is room", x.give(1, 0), true);
        Kit.due("too many by moving", x.give(0, 0), false);
        Kit.due("stays", x.sitting(1, 3), 4);
        Kit.due("give none", x.give(0, -1), true);
        Kit.due("without", x.without(), 4);
        int[][] wrong = {{3, 0}, {-1, 0}, {0, 2}, {0, -2}, {3, -1}, {Integer.MAX_VALUE, 0}, {0, Integer.MIN_VALUE}};
        for (int[] w : wrong) {
            Kit.due("give(" + w[0] + ", " + w[1] + ")", x.give(w[0], w[1]), false);
        }
    }

    private static void signAndPrice() {
        ThreeSittings x = Kit.told(TEXT);
        Kit.due("sign 0 is so", x.sign(0, 0), false);
        Kit.due("sign 3", x.sign(0, 3), true);
        Kit.due("sign 3 is so", x.sign(0, 3), false);
        Kit.due("sign 4", x.sign(0, 4), false);
        Kit.due("sign -1", x.sign(0, -1), false);
        Kit.due("sign of sitting 2", x.sign(2, 1), false);
        Kit.due("sign of sitting -1", x.sign(-1, 1), false);
        Kit.due("the sign", x.sitting(0, 2), 3);
        Kit.due("the other sign", x.sitting(1, 2), 0);
        Kit.due("price as told", x.price(0, 2), false);
        Kit.due("price 99", x.price(0, 99), true);
        Kit.due("price 100", x.price(0, 100), false);
        Kit.due("price -1", x.price(0, -1), false);
        Kit.due("price 0", x.price(1, 0), true);
        Kit.due("price of sitting 2", x.price(2, 1), false);
        Kit.due("price of sitting -1", x.price(-1, 1), false);
        Kit.due("the price", x.sitting(0, 1), 99);
        Kit.due("the other price", x.sitting(1, 1), 0);
    }

    private static void undo() {
        ThreeSittings x = Kit.told(TEXT);
        Kit.due("nothing", x.undo(), -1);
        x.give(0, 0);
        x.sign(1, 2);
        x.price(0, 9);
        x.give(0, 1);
        x.give(0, 1);
        Kit.due("can be undone", x.count(14), 4);
        Kit.due("undo", x.undo(), 3);
        Kit.ofParty(x, 0, 4, 0);
        Kit.due("undo", x.undo(), 2);
        Kit.due("price", x.sitting(0, 1), 2);
        Kit.due("undo", x.undo(), 1);
        Kit.due("sign", x.sitting(1, 2), 0);
        x.days(0);
        Kit.due("no day went by", x.count(14), 1);
        Kit.due("undo", x.undo(), 0);
        Kit.ofParty(x, 0, 4, -1);
        Kit.due("undo", x.undo(), -1);
        x.give(0, 0);
        x.days(1);
        Kit.due("a day went by", x.undo(), -1);
        Kit.ofParty(x, 0, 4, 0);
        x.sign(0, 1);
        Kit.due("days that do not go by", x.days(100), -1);
        Kit.due("undo is still there", x.undo(), 0);
    }

    private static void undoMost() {
        ThreeSittings x = Kit.told(TEXT);
        for (int price = 10; price < 35; price++) {
            x.price(0, price);
        }
        Kit.due("20 at most", x.count(14), 20);
        for (int left = 19; left >= 0; left--) {
            Kit.due("undo", x.undo(), left);
            Kit.due("price then", x.sitting(0, 1), left + 14);
        }
        Kit.due("undo", x.undo(), -1);
        Kit.due("the price behind the fifth", x.sitting(0, 1), 14);
        // Of all kinds: 8 rounds of a ticket, a sign and a price; the first four are lost.
        x = Kit.told(TEXT);
        for (int round = 0; round < 8; round++) {
            x.give(round % 3, round % 2);
            x.sign(round % 2, 1 + (round / 2) % 3);
            x.price(1 - round % 2, 50 + round);
        }
        int left = 20;
        Kit.due("20 at most", x.count(14), left);
        for (int round = 7; round > 1; round--) {
            Kit.due("price of round " + round, x.sitting(1 - round % 2, 1), 50 + round);
            Kit.due("undo", x.undo(), --left);
            Kit.due("price ahead of round " + round, x.sitting(1 - round % 2, 1), 50 + round - 2);
            Kit.due("sign of round " + round, x.sitting(round % 2, 2), 1 + (round / 2) % 3);
            Kit.due("undo", x.undo(), --left);
            Kit.due("sign ahead of round " + round, x.sitting(round % 2, 2), 1 + (round / 2 - 1) % 3);
            Kit.ofParty(x, round % 3, 4, round % 2);
            Kit.due("undo", x.undo(), --left);
            Kit.ofParty(x, round % 3, 4, round < 3 ? -1 : 1 - round % 2);
        }
        Kit.due("undo", x.undo(), 1);
        Kit.due("undo", x.undo(), 0);
        Kit.due("undo", x.undo(), -1);
        Kit.ofParty(x, 1, 4, 1);
    }

    private static void keepAndBack() {
        ThreeSittings x = Kit.told(TEXT.replace("party c 6 9 2 1 999 30 100", "party c 6 9 2 1 0 30 50") + "seed 5;");
        Kit.due("back without an image", x.back(), -1);
        x.give(0, 0);
        x.give(2, 0);
        x.days(3);
        Kit.due("keep", x.keep(), 3);
        long before = print(x);
        x.sign(0, 2);
        x.price(0, 7);
        x.give(0, 1);
        x.note(0, 0, true);
        int dateThen = x.days(7);
        long then = print(x);
        Kit.due("date", dateThen, 10);
        Kit.due("something is otherwise", before != then, true);
        x.sign(0, 1);
        Kit.due("back", x.back(), 3);
        Kit.due("all as it was", print(x), before);
        Kit.due("nothing to undo", x.undo(), -1);
        Kit.due("notes stay", x.count(12), 1);
        x.sign(0, 2);
        x.price(0, 7);
        x.give(0, 1);
        x.days(7);
        Kit.due("the same numbers again", print(x), then);
        Kit.due("keep in its place", x.keep(), 10);
        x.days(1);
        Kit.due("back once more", x.back(), 10);
        Kit.due("as it was", print(x), then);
        ThreeSittings z = Kit.told("party a 5 1 1 1 1 9 0;party b 5 1 1 1 1 9 0;party c 5 1 1 1 1 9 0;seats 5;over 99;"
                + "sitting 0 1;sitting 9 1;");
        for (int p = 0; p < 3; p++) {
            z.give(p, 0);
        }
        z.days(2);
        before = print(z);
        z.keep();
        z.give(2, -1);
        z.give(1, -1);
        z.days(3);
        Kit.due("nobody stands now", z.sitting(0, 7), 0);
        z.back();
        Kit.due("who stood, who was hungry", print(z), before);
        ThreeSittings y = Kit.told(TEXT);
        y.keep();
        y.days(1);
        y.back();
        Kit.due("ahead of the first day again", y.sitting(0, 4), -1);
        y.price(0, 50);
        y.keep();
        Kit.due("an image leaves what can be undone", y.undo(), 0);
        y.back();
        Kit.due("price of the image", y.sitting(0, 1), 50);
    }

    /** All answers about what is and was, as one number. */
    private static long print(ThreeSittings x) {
        long all = 7;
        for (int p = 0; p < 3; p++) {
            for (int what = 0; what < 9; what++) {
                all = all * 31 + x.party(p, what);
            }
        }
        for (int s = 0; s < 2; s++) {
            for (int what = 0; what < 9; what++) {
                all = all * 31 + x.sitting(s, what);
            }
        }
        for (int what = 0; what < 12; what++) {
            all = all * 31 + x.count(what);
        }
        return all;
    }

    private static void count() {
        ThreeSittings x = Kit.told(TEXT);
        x.give(0, 0);
        x.give(1, 1);
        x.sign(0, 1);
        x.note(0, 1, true);
        x.note(1, 1, true);
        x.known(1);
        // b sits at 760 (a stays till 700 + 30 + 15, laid anew in 10: 755), fed at 785 > 760.
        x.days(1);
        x.price(0, 3);
        int[] due = {3, 2, 8, 13, 2, 3, 1, 4 * 6 + 3 * 7, 2, 0, 4 * 2 + 3, 7, 2, 1, 1};
        for (int what = 0; what < due.length; what++) {
            Kit.due("count(" + what + ")", x.count(what), due[what]);
        }
        Kit.due("count(15)", x.count(15), -1);
        Kit.due("count(-1)", x.count(-1), -1);
        Kit.due("count(max)", x.count(Integer.MAX_VALUE), -1);
        x.known(-1);
        Kit.due("known by all", x.count(13), 2);
    }
}
