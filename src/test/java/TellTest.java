import java.util.NoSuchElementException;

/** Promises 6 to 9 and 23 to 25: party, wish, sitting, law, likes, stays, misses. */
public final class TellTest {
    private static final long ERROR = Long.MIN_VALUE;

    public static void main(String[] args) {
        parties();
        partyThrows();
        wishes();
        sittings();
        lawValues();
        lawErrors();
        lawNames();
        bounds();
        Kit.end("TellTest");
    }

    private static void parties() {
        ThreeSittings x = Kit.told("party a 2 3 4 5 600 70 80;party b 9 0 0 9 0 0 0;sitting 5 1;");
        int[] due = {2, 600, 70, 80, -1, 0, 0, 0, 0};
        for (int what = 0; what < due.length; what++) {
            Kit.ofParty(x, 0, what, due[what]);
        }
        x.give(1, 0);
        Kit.ofParty(x, 1, 0, 9);
        Kit.ofParty(x, 1, 4, 0);
        x.days(2);
        Kit.ofParty(x, 1, 5, 2);
        Kit.ofParty(x, 1, 6, 2);
        Kit.ofParty(x, 0, 5, 0);
    }

    private static void partyThrows() {
        ThreeSittings x = Kit.told("party a 2 3 4 5 600 70 80;");
        int[][] wrong = {{-1, 0, 1}, {1, 0, 1}, {8, 0, 1}, {Integer.MIN_VALUE, 0, 1}, {Integer.MAX_VALUE, 9, 1},
            {1, 9, 1}, {0, 9, 2}, {0, -1, 2}, {0, Integer.MAX_VALUE, 2}, {0, Integer.MIN_VALUE, 2}};
        for (int[] w : wrong) {
            int thrown = 0;
            try {
                x.party(w[0], w[1]);
            } catch (IndexOutOfBoundsException e) {
                thrown = e.getClass() == IndexOutOfBoundsException.class ? 1 : 3;
            } catch (NoSuchElementException e) {
                thrown = e.getClass() == NoSuchElementException.class ? 2 : 3;
            }
            Kit.due("party(" + w[0] + ", " + w[1] + ") throws", thrown, w[2]);
        }
    }

    private static void wishes() {
        ThreeSittings x = Kit.told("party a 2 3 4 5 600 70 80;");
        Kit.due("wish(0, 0)", x.wish(0, 0), 3);
        Kit.due("wish(0, 1)", x.wish(0, 1), 4);
        Kit.due("wish(0, 2) of one not told", x.wish(0, 2), 5);
        Kit.due("wish(0, 3)", x.wish(0, 3), -1);
        Kit.due("wish(0, -1)", x.wish(0, -1), -1);
        Kit.due("wish(1, 0)", x.wish(1, 0), -1);
        Kit.due("wish(-1, 0)", x.wish(-1, 0), -1);
    }

    private static void sittings() {
        ThreeSittings x = Kit.told("party a 3 1 1 1 9 10 0;party b 4 1 1 1 999 0 0;seats 6;over 9;sitting 5 7;"
                + "sitting 20 8;meal 30;lay 7;hands 2;");
        x.give(0, 0);
        x.give(1, 0);
        x.sign(1, 2);
        x.price(1, 9);
        int[] first = {5, 7, 0, 7, -1, -1, -1, -1, -1, -1};
        for (int what = 0; what < first.length; what++) {
            Kit.due("sitting(0, " + what + ") ahead", x.sitting(0, what), first[what]);
        }
        x.days(1);
        // a sits till 5 + 30 + 10 = 45, b stands; laid at 45 + 4: 29 late; b sits till 79.
        int[] second = {5, 7, 0, 7, 5, 0, 3, 4, 45, -1};
        int[] third = {20, 9, 2, 0, 49, 29, 4, 0, 79, -1};
        for (int what = 0; what < second.length; what++) {
            Kit.due("sitting(0, " + what + ")", x.sitting(0, what), second[what]);
            Kit.due("sitting(1, " + what + ")", x.sitting(1, what), third[what]);
            Kit.due("sitting(2, " + what + ")", x.sitting(2, what), -1);
            Kit.due("sitting(-1, " + what + ")", x.sitting(-1, what), -1);
        }
        Kit.due("sitting(0, -1)", x.sitting(0, -1), -1);
    }

    private static long worked(String e) {
        return Kit.told("party a 2 3 4 5 600 70 80;sitting 5 1;law like " + e + ";").law(0, 0, 0, 0);
    }

    private static void lawValues() {
        Object[][] due = {{"1+2*3", 7L}, {"(1+2)*3", 9L}, {"7-2-1", 4L}, {"100/7/2", 7L}, {"0-7/2", -3L},
            {"(0-7)/2", -3L}, {"7/(0-2)", -3L}, {"2*7/4", 3L}, {"1<2", 1L}, {"2<2", 0L}, {"2<=2", 1L}, {"3<=2", 0L},
            {"2=2", 1L}, {"2=3", 0L}, {"2<>2", 0L}, {"2<>3", 1L}, {"2>=3", 0L}, {"3>=3", 1L}, {"3>2", 1L}, {"2>2", 0L},
            {"5 and 7", 1L}, {"5 and 0", 0L}, {"0 or 0", 0L}, {"0 or 9", 1L}, {"not 0", 1L}, {"not 5", 0L},
            {"not not 5", 1L}, {"not 1 < 0", 1L}, {"not 0 and 0", 0L}, {"1 or 1 and 0", 1L}, {"(1 or 1) and 0", 0L},
            {"1+1=2 and 3>2", 1L}, {"(0-3) and 1", 1L}, {"9999*9999*9999", 999700029999L}, {"0-9999*9999*9999",
            -999700029999L}, {"9999+0009", 10008L}, {"5", 5L}, {"8/3*3", 6L}};
        for (Object[] row : due) {
            Kit.due("law like " + row[0], worked((String) row[0]), (Long) row[1]);
        }
        // 10 to the 12 itself is no error.
        Kit.due("10^12", worked("1000*1000*1000*1000"), 1000000000000L);
        Kit.due("-10^12", worked("0-1000*1000*1000*1000"), -1000000000000L);
    }

    private static void lawErrors() {
        String[] errors = {"1/0", "1000*1000*1000*1000+1", "0-1000*1000*1000*1000-1", "9999*9999*9999*9999",
            "1000*1000*1000*1000*2-1000*1000*1000*1000", "(0-1000*1000*1000)*1001", "0 and 1/0", "1 or 1/0",
            "0*(1/0)", "not (1/0)", "9999*9999*9999*(9999*9999*9999)", "1/(2-2)", "1/(1/2)",
            "256*256*256*256*(256*256*256*256)", "(0-256*256*256*256)*(256*256*256*256)"};
        for (String e : errors) {
            Kit.due("law like " + e, worked(e), ERROR);
        }
        ThreeSittings x = Kit.told("party a 2 3 4 5 600 70 80;sitting 5 1;law miss 1;");
        Kit.due("no such law", x.law(0, 0, 0, 0), ERROR);
        Kit.due("no such law", x.law(1, 0, 0, 0), ERROR);
        Kit.due("the law", x.law(2, 0, 0, 999), 1);
        Kit.due("what 3", x.law(3, 0, 0, 0), ERROR);
        Kit.due("what -1", x.law(-1, 0, 0, 0), ERROR);
        Kit.due("party 1", x.law(2, 1, 0, 0), ERROR);
        Kit.due("party -1", x.law(2, -1, 0, 0), ERROR);
        Kit.due("sitting 1", x.law(2, 0, 1, 0), ERROR);
        Kit.due("sitting -1", x.law(2, 0, -1, 0), ERROR);
        Kit.due("late 1000", x.law(2, 0, 0, 1000), ERROR);
        Kit.due("late -1", x.law(2, 0, 0, -1), ERROR);
    }

    private static void lawNames() {
        String[] names = {"size", "wish", "late", "price", "coffee", "absent", "date"};
        long[] due = {2, 4, 33, 9, 70, 80, 2};
        for (int k = 0; k < names.length; k++) {
            ThreeSittings x = Kit.told("party b 1 1 1 1 1 1 1;party a 2 3 4 5 600 70 80;sitting 5 1;sitting 7 6;"
                    + "law stay " + names[k] + ";");
            x.price(1, 9);
            x.days(2);
            Kit.due("name " + names[k], x.law(1, 1, 1, 33), due[k]);
        }
    }

    private static void bounds() {
        ThreeSittings x = Kit.told("party a 2 3 4 5 600 70 80;sitting 5 1;sitting 9 1;");
        Kit.due("likes without a law", x.likes(0, 1), 4);
        Kit.due("stays without a law", x.stays(0, 1), 70);
        Kit.due("misses without a law", x.misses(0, 1), 80);
        x = Kit.told("party a 2 3 4 5 600 70 80;sitting 5 1;sitting 9 1;law like 1/0;law stay 1/0;law miss 1/0;");
        Kit.due("likes with an error", x.likes(0, 0), 3);
        Kit.due("stays with an error", x.stays(0, 0), 70);
        Kit.due("misses with an error", x.misses(0, 0), 80);
        x = Kit.told("party a 2 3 4 5 600 70 80;sitting 5 1;law like 100;law stay 100;law miss 101;");
        Kit.due("likes at most", x.likes(0, 0), 99);
        Kit.due("stays at most", x.stays(0, 0), 99);
        Kit.due("misses at most", x.misses(0, 0), 100);
        Kit.due("the law itself is not bounded", x.law(2, 0, 0, 0), 101);
        x = Kit.told("party a 2 3 4 5 600 70 80;sitting 5 1;law like 0-1;law stay 0-1;law miss 0-1;");
        Kit.due("likes at least", x.likes(0, 0), 0);
        Kit.due("stays at least", x.stays(0, 0), 0);
        Kit.due("misses at least", x.misses(0, 0), 0);
        x = Kit.told("party a 2 3 4 5 600 70 80;sitting 5 1;law like date+late;law stay price+late;law miss date*10;");
        x.sign(0, 3);
        x.price(0, 8);
        x.days(4);
        Kit.due("likes at the date, late 0", x.likes(0, 0), 4);
        Kit.due("stays at the price, no sign", x.stays(0, 0), 8);
        Kit.due("misses at the date", x.misses(0, 0), 40);
        int[][] wrong = {{1, 0}, {-1, 0}, {0, 1}, {0, -1}, {0, 3}};
        for (int[] w : wrong) {
            Kit.due("likes of none", x.likes(w[0], w[1]), -1);
            Kit.due("stays of none", x.stays(w[0], w[1]), -1);
            Kit.due("misses of none", x.misses(w[0], w[1]), -1);
        }
    }
}
