/** Promises 1 to 5: a new object, feed, text, fault, named. */
public final class TextTest {
    private static final String P = "party %s 1 1 1 1 1 1 1;";

    public static void main(String[] args) {
        newObject();
        feed();
        text();
        words();
        numbers();
        tooMany();
        told();
        laws();
        named();
        Kit.end("TextTest");
    }

    private static void newObject() {
        ThreeSittings x = new ThreeSittings();
        int[] due = {0, 0, 12, 0, 0, 0, 0, 0, 0, 0, 0, 0, 0, 0, 0};
        for (int what = 0; what < due.length; what++) {
            Kit.due("new count(" + what + ")", x.count(what), due[what]);
        }
        Kit.due("new fault(0)", x.fault(0), 0);
        Kit.due("new fault(1)", x.fault(1), -1);
        Kit.due("new fault(2)", x.fault(2), -1);
        Kit.due("new fault(-1)", x.fault(-1), -1);
        Kit.due("new text(1)", x.text(1), -2);
        Kit.due("new undo", x.undo(), -1);
        Kit.due("new back", x.back(), -1);
        Kit.due("NONE", ThreeSittings.NONE, -1);
    }

    private static void feed() {
        ThreeSittings x = new ThreeSittings();
        for (int n = 20; n <= 700; n += 20) {
            Kit.due("feed", x.feed(-1, Integer.MIN_VALUE, 0, 1, Integer.MAX_VALUE), n);
        }
        Kit.due("feed beyond 700", x.feed(0, 0, 0, 0, 0), -1);
        Kit.due("text beyond the tape", x.text(701), -2);
        Kit.due("text below 0", x.text(-1), -2);
        Kit.due("fault(0) after -2", x.fault(0), 0);
        Kit.due("the tape stays", x.feed(0, 0, 0, 0, 0), -1);
        Kit.due("text of bytes that are none", x.text(700), -1);
        Kit.due("fault(0)", x.fault(0), 1);
        Kit.due("fault(1)", x.fault(1), 0);
        Kit.due("the tape is empty", x.text(1), -2);
        Kit.due("fault(0) stays after -2", x.fault(0), 1);
        Kit.due("feed anew", x.feed(0x73656174, 0x7320373b, 0, 0, 0), 20);
        Kit.due("highest byte first", x.text(8), 1);
        Kit.due("seats", x.count(2), 7);
    }

    private static void text() {
        Kit.right("", 0);
        Kit.right(" \n\n ", 0);
        Kit.right("seats\n5\n;", 1);
        Kit.right("seats5;meal6;", 2);
        Kit.right("party a1 1 1 1 1 1 1;", 1);
        Kit.right("law like 2and 3or size;", 1);
        Kit.faulty(";", 1, 0);
        Kit.faulty("seats 5", 1, 7);
        Kit.faulty("seats 5  ", 1, 9);
        Kit.faulty("seats", 1, 5);
        Kit.faulty("seats 5;;", 1, 8);
        Kit.faulty("seats 5\t;", 1, 7);
        Kit.faulty("seats 5;" + (char) 13, 1, 8);
        Kit.faulty("seats 5;" + (char) 200, 1, 8);
        Kit.faulty("seats 5 6;", 1, 8);
        Kit.faulty("seats -5;", 1, 6);
        Kit.faulty("Seats 5;", 1, 0);
        Kit.faulty("5;", 1, 0);
        Kit.faulty("like 5;", 1, 0);
        cut("seats 99", "9;", 1, 8);
        cut("sittin", "g 5 5;", 1, 0);
        cut("law like 1<", "=1;", 1, 11);
        Kit.faulty("law like 1<=", 1, 12);
        ThreeSittings x = Kit.told("seats 9;sitting 5 7;party a 3 1 1 1 1 1 1;law like 1+1;");
        x.give(0, 0);
        x.sign(0, 2);
        x.price(0, 9);
        x.note(0, 3, true);
        x.known(0);
        x.keep();
        x.days(2);
        Kit.due("a fault", Kit.tell(x, "seats 8; seats 7;"), -1);
        Kit.due("all stays: seats", x.count(2), 9);
        Kit.due("all stays: date", x.count(6), 2);
        Kit.due("all stays: tickets", x.count(11), 3);
        Kit.due("all stays: notes", x.count(12), 1);
        Kit.due("all stays: knots", x.count(5), 3);
        Kit.due("all stays: image", x.back(), 0);
        x.price(0, 8);
        Kit.due("undo ahead", x.count(14), 1);
        Kit.due("the same text", Kit.tell(x, "sitting 5 7;party a 3 1 1 1 1 1 1;"), 2);
        Kit.due("nothing to undo", x.undo(), -1);
        Kit.due("no image", x.back(), -1);
        Kit.due("date 0", x.count(6), 0);
        Kit.due("no tickets", x.count(11), 0);
        Kit.due("no notes", x.count(12), 0);
        Kit.due("all known", x.count(13), 0);
        x.note(0, 3, true);
        Kit.due("all known, those to come too", x.count(13), 1);
        Kit.due("signs 0", x.sitting(0, 2), 0);
        Kit.due("prices as told", x.sitting(0, 1), 7);
        Kit.due("no knots", x.count(5), 0);
        Kit.due("seats without", x.count(2), 12);
        Kit.due("no day", x.sitting(0, 4), -1);
        Kit.due("no glad", x.count(7), 0);
        Kit.due("no paid", x.count(10), 0);
        String busy = "party a 1 1 1 1 1 1 100;party b 9 1 1 1 1 1 0;party c 1 1 1 1 1 1 0;seats 8;over 9;sitting 5 7;";
        Kit.tell(x, busy);
        for (int p = 0; p < 3; p++) {
            x.give(p, 0);
        }
        x.days(1);
        int[][] had = {{0, 0, 1, 0}, {0, 0, 0, 1}, {1, 1, 0, 0}};
        for (int p = 0; p < 3; p++) {
            for (int what = 5; what < 9; what++) {
                Kit.ofParty(x, p, what, had[p][what - 5]);
            }
        }
        Kit.due("hungry", x.count(9), 9);
        Kit.tell(x, busy);
        for (int p = 0; p < 3; p++) {
            for (int what = 5; what < 9; what++) {
                Kit.ofParty(x, p, what, 0);
            }
        }
        Kit.due("no hungry", x.count(9), 0);
        Kit.due("no cross", x.count(8), 0);
    }

    /** A text that ends where more of the tape is behind it. */
    private static void cut(String text, String behind, int fault, int place) {
        ThreeSittings x = new ThreeSittings();
        Kit.feed(x, Kit.bytes(text + behind));
        Kit.due("text '" + text + "'", x.text(text.length()), -1);
        Kit.due("fault(0) of '" + text + "'", x.fault(0), fault);
        Kit.due("fault(1) of '" + text + "'", x.fault(1), place);
    }

    private static void words() {
        Kit.right(String.format(P, "abcdef"), 1);
        Kit.right(String.format(P, "z"), 1);
        Kit.faulty(String.format(P, "abcdefg"), 1, 6);
        Kit.faulty("abcdefg", 1, 0);
        Kit.faulty("sittin 5 5;", 1, 0);
        String[] language = {"party", "seats", "sitting", "meal", "lay", "hands", "over", "seed", "law", "like", "stay",
            "miss", "or", "and", "not", "size", "wish", "late", "price", "coffee", "absent", "date"};
        for (String word : language) {
            Kit.faulty(String.format(P, word), 1, 6);
        }
        for (String word : new String[] {"part", "partya", "lik", "notx", "o", "nd"}) {
            Kit.right(String.format(P, word), 1);
        }
        Kit.faulty(String.format(P, "1"), 1, 6);
        Kit.faulty("party;", 1, 5);
        Kit.faulty("party", 1, 5);
    }

    private static void numbers() {
        Kit.right("party a 9 9 9 9 999 99 100;", 1);
        Kit.right("party a 1 0 0 0 0 0 0;", 1);
        Kit.faulty("party a 10 9 9 9 999 99 100;", 2, 8);
        Kit.faulty("party a 9 9 10 9 999 99 100;", 2, 12);
        Kit.faulty("party a 9 9 9 9 999 99 100 1;", 1, 27);
        Kit.faulty("party a 9 9 9 9 999 99 99999999999999999999;", 2, 23);
        Kit.right("party a 0000000000000000000009 9 9 9 999 99 100;", 1);
        Kit.faulty("party a 1 1 1 x 1 1 1;", 1, 14);
        String[] words = {"seats", "meal", "lay", "hands", "over", "seed"};
        int[] least = {1, 1, 0, 1, 0, 0};
        int[] most = {99, 99, 99, 9, 99, 99999};
        for (int i = 0; i < words.length; i++) {
            int place = words[i].length() + 1;
            Kit.right(words[i] + " " + least[i] + ";", 1);
            Kit.right(words[i] + " " + most[i] + ";", 1);
            Kit.faulty(words[i] + " " + (most[i] + 1) + ";", 2, place);
            if (least[i] > 0) {
                Kit.faulty(words[i] + " 0;", 2, place);
            }
            Kit.faulty(words[i] + " 4294967297;", 2, place);
            Kit.faulty(words[i] + ";", 1, place - 1);
        }
        Kit.right("sitting 0 0;sitting 998 99;sitting 999 0;", 3);
        Kit.faulty("sitting 1000 0;", 2, 8);
        Kit.faulty("sitting 999 0;sitting 999 0;", 2, 22);
        Kit.faulty("sitting 9 0;sitting 8 0;", 2, 20);
        Kit.faulty("sitting 9;", 1, 9);
    }

    private static void tooMany() {
        StringBuilder eight = new StringBuilder();
        for (char c = 'a'; c <= 'h'; c++) {
            eight.append(String.format(P, c));
        }
        Kit.right(eight.toString(), 8);
        Kit.faulty(eight + String.format(P, "i"), 2, eight.length());
        Kit.faulty(eight + "party", 2, eight.length());
        String three = "sitting 1 1;sitting 2 1;sitting 3 1;";
        Kit.right(three, 3);
        Kit.faulty(three + "sitting 4 1;", 2, three.length());
        Kit.right("law like ((((((((1))))))));", 1);
        Kit.faulty("law like (((((((((1)))))))));", 2, 17);
        Kit.right("law like ((((((((1))))))))+((((((((1))))))));", 1);
        Kit.right("law like " + "not ".repeat(63) + "1;", 1);
        Kit.faulty("law like " + "not ".repeat(64) + "1;", 2, 9 + 64 * 4);
        Kit.faulty("law like " + "not ".repeat(65) + "1;", 2, 9 + 64 * 4);
        Kit.right("law like " + "1+".repeat(31) + "1;law stay 2;", 2);
        Kit.faulty("law like " + "1+".repeat(31) + "1;law stay 2+2;", 2, 9 + 62 + 2 + 9 + 1);
        Kit.faulty("law like " + "1+".repeat(31) + "1;law stay 2 2;", 1, 9 + 62 + 2 + 9 + 2);
        ThreeSittings x = Kit.told("party a 1 1 1 1 1 1 1;sitting 1 1;");
        for (int k = 0; k < 5; k++) {
            Kit.tell(x, "party a 1 1 1 1 1 1 1;sitting 1 1;law miss " + "1+".repeat(30) + k + ";");
            Kit.due("knots of text " + k, x.count(5), 61);
            Kit.due("law of text " + k, x.law(2, 0, 0, 0), 30 + k);
        }
        Kit.due("knots", Kit.told("law like (1+2)*(size<=wish) and not(0)or late;law miss 7;").count(5), 13);
    }

    private static void told() {
        String[] words = {"seats", "meal", "lay", "hands", "over", "seed"};
        for (String word : words) {
            Kit.faulty(word + " 1; " + word + " 1000000;", 3, word.length() + 4);
            Kit.faulty(word + " 1; " + word, 3, word.length() + 4);
        }
        Kit.faulty("party b 1 1 1 1 1 1 1;party b", 3, 28);
        Kit.right("party b 1 1 1 1 1 1 1;party bb 1 1 1 1 1 1 1;", 2);
        for (String rule : new String[] {"like", "stay", "miss"}) {
            Kit.faulty("law " + rule + " 1;law " + rule, 3, 15);
        }
        Kit.right("law like 1;law stay 1;law miss 1;", 3);
    }

    private static void laws() {
        Kit.faulty("law", 1, 3);
        Kit.faulty("law like", 1, 8);
        Kit.faulty("law like;", 1, 8);
        Kit.faulty("law size 1;", 1, 4);
        Kit.faulty("law like 1 2;", 1, 11);
        Kit.faulty("law like 1<2<3;", 1, 12);
        Kit.faulty("law like 1=2=3;", 1, 12);
        Kit.right("law like (1<2)<3;", 1);
        Kit.faulty("law like 1+not 2;", 1, 11);
        Kit.faulty("law like 1<not 2;", 1, 11);
        Kit.right("law like not not 1 and not 2;", 1);
        Kit.right("law like 1+(not 2);", 1);
        Kit.faulty("law like -1;", 1, 9);
        Kit.faulty("law like 1+-1;", 1, 11);
        Kit.faulty("law like (1;", 1, 11);
        Kit.faulty("law like (1", 1, 11);
        Kit.faulty("law like 1);", 1, 10);
        Kit.faulty("law like ();", 1, 10);
        Kit.right("law like 9999;", 1);
        Kit.faulty("law like 10000;", 2, 9);
        Kit.faulty("law like a;", 1, 9);
        Kit.faulty("law like seats;", 1, 9);
        Kit.faulty("law like 1< =2;", 1, 12);
        Kit.faulty("law like 1<>=2;", 1, 12);
        Kit.faulty("law like 1=>2;", 1, 11);
        Kit.faulty("law like 1><2;", 1, 11);
        Kit.right("law like 1<>2;law stay 1>=2;law miss 1<=2;", 3);
        Kit.faulty("law like 1!2;", 1, 10);
        Kit.faulty("law like 1 or;", 1, 13);
        Kit.faulty("law like and 1;", 1, 9);
    }

    private static void named() {
        ThreeSittings x = Kit.told(String.format(P, "ab") + String.format(P, "zzzzzz") + String.format(P, "a"));
        Kit.due("named ab", x.named(Kit.letters("ab")), 0);
        Kit.due("named zzzzzz", x.named(Kit.letters("zzzzzz")), 1);
        Kit.due("named a", x.named(1 << 25), 2);
        Kit.due("named b", x.named(2 << 25), -1);
        Kit.due("named a at the end", x.named(1), -1);
        Kit.due("named 0", x.named(0), -1);
        Kit.due("named -1", x.named(-1), -1);
        Kit.due("named with a bit above", x.named(1 << 25 | 1 << 30), -1);
        Kit.due("named with the sign", x.named(1 << 25 | 1 << 31), -1);
        Kit.tell(x, String.format(P, "q"));
        Kit.due("named ab behind another text", x.named(Kit.letters("ab")), -1);
        Kit.due("named q", x.named(Kit.letters("q")), 0);
    }
}
