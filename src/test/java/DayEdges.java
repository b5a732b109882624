import java.util.NoSuchElementException;

/**
 * "==== 2." of the terms and promises 6 to 13 at their edges: a method for each sentence that names one, quoted above it.
 */
public final class DayEdges {
    private static final long ERROR = Long.MIN_VALUE;
    private static final int[] WILD = {-1, -2, Integer.MIN_VALUE, Integer.MAX_VALUE};

    public static void main(String[] args) {
        noTicketAtFirst();
        ticketsOfOneSitting();
        noSignAtFirst();
        beginsWhenLaid();
        beginsBehindNobody();
        whoStandsIsFirst();
        byNumbers();
        numberBelowMiss();
        noNumberIfMissIsNothing();
        whoStandsTakesNoNumber();
        missWithinBounds();
        seatsLeft();
        standsTillTheLast();
        pays();
        gladByLike();
        likeWithinBounds();
        crossIfOff();
        rises();
        stayWithinBounds();
        signTakes();
        crossBySign();
        endsWithTheLast();
        layingCutUp();
        hungryBehindTheLast();
        nextDate();
        valuesWrap();
        valuesBeyondTheLimit();
        divisionCut();
        bothSidesWorkedOut();
        numbersWrap();
        asItGoesByHalf();
        partyNow();
        noSuchParty();
        noSuchWhat();
        wishToldOrNot();
        sittingNow();
        sittingOfTheLatestDay();
        lawOfNoSuch();
        giveRefused();
        giveTooMany();
        signRefused();
        priceRefused();
        daysGoBy();
        daysRefused();
        daysToTheLastDate();
        Kit.end("DayEdges");
    }

    /** An object in which each party has a ticket for a sitting; -1: none. */
    private static ThreeSittings given(String text, int... tickets) {
        ThreeSittings x = Kit.told(text);
        for (int p = 0; p < tickets.length; p++) {
            if (tickets[p] != -1) {
                Kit.due("give(" + p + ", " + tickets[p] + ")", x.give(p, tickets[p]), true);
            }
        }
        return x;
    }

    /** The numbers from a seed on, by longs that don't wrap. */
    private static int[] numbersFrom(long seed, int count) {
        int[] numbers = new int[count];
        long last = seed;
        for (int k = 0; k < count; k++) {
            last = (last * 1103515245L + 12345L) % 2147483648L;
            numbers[k] = (int) (last / 65536) % 100;
        }
        return numbers;
    }

    /** "TICKETS: each PARTY has one for a SITTING or none (none at first)". */
    private static void noTicketAtFirst() {
        ThreeSittings x = Kit.told("party a 2 1 1 1 1 1 1;party b 3 1 1 1 1 1 1;sitting 0 1;sitting 1 1;");
        Kit.ofParty(x, 0, 4, -1);
        Kit.ofParty(x, 1, 4, -1);
        x.give(0, 0);
        x.give(0, 1);
        Kit.due("one alone", x.sitting(0, 3), 0);
        Kit.due("one alone", x.sitting(1, 3), 2);
    }

    /** "those of one SITTING are for SEATS and OVER persons in sum at most." */
    private static void ticketsOfOneSitting() {
        String text = "party a 4 1 1 1 1 1 1;party b 4 1 1 1 1 1 1;party c 5 1 1 1 1 1 1;party d 9 1 1 1 1 1 1;"
                + "seats 5;over 3;sitting 0 1;sitting 1 1;";
        ThreeSittings x = given(text, 0, 0);
        Kit.due("full", x.sitting(0, 3), 8);
        x = given(text, 0);
        Kit.due("one too many", x.give(2, 0), false);
        Kit.due("of the other sitting", x.give(2, 1), true);
        Kit.due("too large alone", x.give(3, 0), false);
        Kit.due("as large as both", given("party d 9 1 1 1 1 1 1;seats 5;over 4;sitting 0 1;", 0).sitting(0, 3), 9);
        StringBuilder all = new StringBuilder("seats 71;over 1;sitting 0 1;");
        for (char c = 'a'; c <= 'h'; c++) {
            all.append("party ").append(c).append(" 9 1 1 1 1 1 1;");
        }
        Kit.due("all", given(all.toString(), 0, 0, 0, 0, 0, 0, 0, 0).sitting(0, 3), 72);
        x = given(all.toString().replace("over 1", "over 0"), 0, 0, 0, 0, 0, 0, 0);
        Kit.due("all but one", x.give(7, 0), false);
    }

    /** "SIGNS: of each SITTING 0 none .. (0 at first)." */
    private static void noSignAtFirst() {
        ThreeSittings x = Kit.told("sitting 0 1;sitting 1 1;sitting 2 1;");
        x.sign(1, 3);
        for (int s = 0; s < 3; s++) {
            Kit.due("sign", x.sitting(s, 2), s == 1 ? 3 : 0);
        }
    }

    /** "(1) it BEGINS at its MINUTE, but not ahead of the one ahead being laid anew; LATE: how many MINUTES behind". */
    private static void beginsWhenLaid() {
        // The first one is laid anew at 5 + 30 + 7 + 10.
        int[][] due = {{51, 52, 1}, {52, 52, 0}, {53, 53, 0}, {6, 52, 46}, {999, 999, 0}};
        for (int[] d : due) {
            ThreeSittings x = given("party a 1 1 1 1 999 7 0;sitting 5 1;sitting " + d[0] + " 1;", 0);
            x.days(1);
            Kit.due("the first one begins", x.sitting(0, 4), 5);
            Kit.due("the first one is never late", x.sitting(0, 5), 0);
            Kit.due("begins, told " + d[0], x.sitting(1, 4), d[1]);
            Kit.due("late, told " + d[0], x.sitting(1, 5), d[2]);
        }
        // Late upon late: 0 + 99 + 99 + 99, and once more.
        ThreeSittings x = given("party a 1 1 1 1 0 99 0;party b 1 1 1 1 0 99 0;party c 1 1 1 1 0 99 0;sitting 0 1;"
                + "sitting 1 1;sitting 2 1;meal 99;lay 99;hands 1;", 0, 1, 2);
        x.days(2);
        Kit.due("the second one", x.sitting(1, 4), 297);
        Kit.due("the third one", x.sitting(2, 4), 594);
        Kit.due("the third one is late", x.sitting(2, 5), 592);
        Kit.due("the third one ends", x.sitting(2, 8), 792);
    }

    /** "(5) .. (at BEGINS, if nobody sat) .. if somebody sat." */
    private static void beginsBehindNobody() {
        ThreeSittings x = given("party a 1 1 1 1 999 0 0;sitting 0 1;sitting 10 1;sitting 20 1;", 0);
        x.days(1);
        Kit.due("late by the first one", x.sitting(1, 4), 40);
        Kit.due("nobody sat, so it ends", x.sitting(1, 8), 40);
        Kit.due("nothing is laid anew", x.sitting(2, 4), 40);
        Kit.due("how late", x.sitting(2, 5), 20);
        // One who has a ticket but does not come has not sat.
        x = given("party a 1 1 1 1 999 50 100;sitting 7 1;sitting 8 1;", 0);
        x.days(1);
        Kit.due("away, so it ends", x.sitting(0, 8), 7);
        Kit.due("the next one is in time", x.sitting(1, 5), 0);
        // Nor has one who stands.
        x = given("party a 9 1 1 1 999 50 0;seats 8;over 1;sitting 7 1;sitting 8 1;", 0);
        x.days(1);
        Kit.due("who stands has not sat", x.sitting(0, 8), 7);
        Kit.due("the next one is in time", x.sitting(1, 5), 0);
    }

    /** "(2) first those who STAND from the one ahead, then the PARTIES with a TICKET for it". */
    private static void whoStandsIsFirst() {
        // c and d stand from the first one; at the second one they sit ahead of a, which has a ticket for it.
        ThreeSittings x = given("party a 1 1 1 1 999 0 0;party b 5 1 1 1 999 0 0;party c 3 1 1 1 999 0 0;"
                + "party d 2 1 1 1 999 0 0;seats 5;over 9;sitting 0 1;sitting 99 2;sitting 199 3;", 1, 0, 0, 0);
        x.days(1);
        int[][] due = {{5, 5}, {5, 1}, {1, 0}};
        for (int s = 0; s < 3; s++) {
            Kit.due("sat at " + s, x.sitting(s, 6), due[s][0]);
            Kit.due("stood behind " + s, x.sitting(s, 7), due[s][1]);
        }
        Kit.due("a sat at the third one", x.count(10), 5 + 2 * 5 + 3);
    }

    /** "each by numbers". */
    private static void byNumbers() {
        // Of those who stand, a is ahead of b; of those with tickets, c is ahead of d.
        ThreeSittings x = given("party a 4 1 1 1 999 0 0;party b 3 1 1 1 999 0 0;party c 3 1 1 1 999 0 0;"
                + "party d 3 1 1 1 999 0 0;party e 3 1 1 1 999 0 0;seats 6;over 99;sitting 0 1;sitting 99 2;"
                + "sitting 199 3;", 1, 1, 0, 0, 0);
        x.days(1);
        // c and d sit first; e stands, sits at the second one, where a stands and b sits.
        int[] sat = {6, 6, 4};
        for (int s = 0; s < 3; s++) {
            Kit.due("sat at " + s, x.sitting(s, 6), sat[s]);
        }
        Kit.due("a stands behind the second one", x.sitting(1, 7), 4);
        x = given("party a 5 1 1 1 999 0 0;party b 3 1 1 1 999 0 0;party c 3 1 1 1 999 0 0;party d 6 1 1 1 999 0 0;"
                + "seats 6;over 99;sitting 0 1;sitting 99 2;", 0, 0, 0, 0);
        x.days(1);
        Kit.due("a alone", x.sitting(0, 6), 5);
        Kit.due("b and c, ahead of d", x.sitting(1, 6), 6);
        Kit.ofParty(x, 3, 8, 1);
    }

    /** "the latter come, unless a number modulo 100 is below MISS". */
    private static void numberBelowMiss() {
        for (int seed : new int[] {0, 1, 7, 99999}) {
            int number = numbersFrom(seed, 1)[0];
            String text = "party a 1 1 1 1 999 0 %d;sitting 0 1;seed " + seed + ";";
            ThreeSittings x = given(String.format(text, number), 0);
            x.days(1);
            Kit.due("MISS is the number of seed " + seed, x.party(0, 7), 0);
            Kit.due("it sat", x.party(0, 5), 1);
            x = given(String.format(text, number + 1), 0);
            x.days(1);
            Kit.due("MISS is above the number of seed " + seed, x.party(0, 7), 1);
            Kit.due("it did not sit", x.party(0, 5), 0);
            Kit.due("it is not hungry", x.party(0, 8), 0);
        }
    }

    /** "(no number, if that is 0)": but one for each MISS above 0, 100 too. */
    private static void noNumberIfMissIsNothing() {
        for (int ahead : new int[] {0, 1, 100}) {
            int[] numbers = numbersFrom(3, 20);
            ThreeSittings x = given("party a 1 1 1 1 999 0 " + ahead + ";party b 1 1 1 1 999 0 60;sitting 0 1;seed 3;", 0, 0);
            int away = 0;
            for (int day = 0; day < 10; day++) {
                int number = ahead == 0 ? numbers[day] : numbers[2 * day + 1];
                away += number < 60 ? 1 : 0;
                x.days(1);
                Kit.due("b behind one of MISS " + ahead + ", day " + day, x.party(1, 7), away);
            }
        }
    }

    /** "the latter come": who stands takes no number at the next SITTING, and is not AWAY there. */
    private static void whoStandsTakesNoNumber() {
        int[] numbers = numbersFrom(5, 12);
        ThreeSittings x = given("party a 5 1 1 1 999 0 0;party b 5 1 1 1 999 0 1;party c 1 1 1 1 999 0 50;seats 6;over 9;"
                + "sitting 0 1;sitting 99 1;seed 5;", 0, 0, 1);
        int away = 0;
        for (int day = 0; day < 6; day++) {
            away += numbers[2 * day + 1] < 50 ? 1 : 0;
            x.days(1);
            Kit.due("c, day " + day, x.party(2, 7), away);
            Kit.due("b sits, day " + day, x.party(1, 5), day + 1);
        }
    }

    /** "MISS: E of miss (0 .. 100; ABSENT without, with an ERROR)". */
    private static void missWithinBounds() {
        // The longs would be 0 or 5 as ints.
        String[] laws = {"0-1", "0", "1", "99", "100", "101", "8192*8192*64", "8192*8192*64+5", "0-8192*8192*64",
            "1000*1000*1000*1000", "0-1000*1000*1000*1000", "1/0", "1000*1000*1000*1000+1"};
        int[] due = {0, 0, 1, 99, 100, 100, 100, 100, 0, 100, 0, 37, 37};
        for (int k = 0; k < laws.length; k++) {
            ThreeSittings x = given("party a 1 1 1 1 999 0 37;sitting 0 1;law miss " + laws[k] + ";", 0);
            Kit.due("misses by " + laws[k], x.misses(0, 0), due[k]);
            int[] numbers = numbersFrom(0, 6);
            int away = 0;
            for (int number : numbers) {
                away += number < due[k] ? 1 : 0;
            }
            x.days(6);
            Kit.due("away by " + laws[k], x.party(0, 7), away);
        }
        Kit.due("without", Kit.told("party a 1 1 1 1 999 0 37;sitting 0 1;").misses(0, 0), 37);
    }

    /** "One who comes sits, if SEATS left are SIZE at least, else STANDS." */
    private static void seatsLeft() {
        String text = "party a 4 1 1 1 999 0 0;party b 3 1 1 1 999 0 0;over 9;sitting 0 1;seats ";
        ThreeSittings x = given(text + "7;", 0, 0);
        x.days(1);
        Kit.due("just enough", x.sitting(0, 6), 7);
        Kit.due("nobody stands", x.sitting(0, 7), 0);
        Kit.due("no seat is empty", x.empties(0), 0);
        x = given(text + "6;", 0, 0);
        x.days(1);
        Kit.due("one too few", x.sitting(0, 6), 4);
        Kit.due("b stands", x.sitting(0, 7), 3);
        // Who is away takes no seats.
        x = given(text.replace("999 0 0;party b", "999 0 100;party b") + "3;", 0, 0);
        x.days(1);
        Kit.due("a is away", x.sitting(0, 6), 3);
    }

    /** "stand till the next": as often as it takes, and one who never fits is HUNGRY once. */
    private static void standsTillTheLast() {
        ThreeSittings x = given("party a 9 5 6 7 999 0 0;party b 1 1 1 1 999 0 0;seats 8;over 1;sitting 0 1;sitting 99 1;"
                + "sitting 199 1;", 0);
        x.days(1);
        for (int s = 0; s < 3; s++) {
            Kit.due("stood behind " + s, x.sitting(s, 7), 9);
            Kit.due("sat at " + s, x.sitting(s, 6), 0);
        }
        Kit.ofParty(x, 0, 8, 1);
        Kit.due("hungry", x.count(9), 9);
        Kit.due("who has no ticket is not hungry", x.party(1, 8), 0);
        // Who stood yesterday does not stand today.
        x.give(0, -1);
        x.days(1);
        Kit.due("nobody stands", x.sitting(0, 7), 0);
        Kit.due("hungry once", x.count(9), 9);
    }

    /** "(3) who sits pays PRICE for each person". */
    private static void pays() {
        for (int price : new int[] {0, 1, 99}) {
            ThreeSittings x = given("party a 9 1 1 1 999 0 0;party b 2 1 1 1 999 0 0;party c 1 1 1 1 999 0 0;seats 9;over 2;"
                    + "sitting 0 " + price + ";", 0, 0, -1);
            x.days(2);
            Kit.due("who stands and who has no ticket pays nothing", x.count(10), 2 * 9 * price);
        }
        ThreeSittings x = given("party a 1 1 1 1 999 0 0;sitting 0 5;", 0);
        x.price(0, 99);
        x.days(1);
        x.price(0, 0);
        x.days(1);
        Kit.due("by the price of the day", x.count(10), 99);
    }

    /** "GLAD is more by LIKE for each": for the SITTING at which it sits. */
    private static void gladByLike() {
        ThreeSittings x = given("party a 4 3 5 7 999 0 0;party b 4 3 5 7 999 0 0;seats 4;over 4;sitting 0 1;sitting 99 1;", 0, 0);
        x.days(1);
        Kit.due("a at the first, b at the second one", x.count(7), 4 * 3 + 4 * 5);
        x = given("party a 4 0 5 7 999 0 0;sitting 0 1;", 0);
        x.days(1);
        Kit.due("a wish of 0", x.count(7), 0);
    }

    /** "E of like (0 .. 99; WISH without, with an ERROR)". */
    private static void likeWithinBounds() {
        String[] laws = {"0-1", "0", "1", "98", "99", "100", "8192*8192*64", "8192*8192*64+5", "0-8192*8192*64+5",
            "1000*1000*1000*1000", "0-1000*1000*1000*1000", "1/0", "1000*1000*1000*1000+1"};
        int[] due = {0, 0, 1, 98, 99, 99, 99, 99, 0, 99, 0, 6, 6};
        for (int k = 0; k < laws.length; k++) {
            ThreeSittings x = given("party a 2 4 6 8 999 0 0;sitting 0 1;sitting 1 1;law like " + laws[k] + ";", 1);
            Kit.due("likes by " + laws[k], x.likes(0, 1), due[k]);
            x.days(1);
            Kit.due("glad by " + laws[k], x.count(7), 2 * due[k]);
        }
        // Late is that of the sitting at which it sits: an ERROR when it is in time.
        ThreeSittings x = given("party a 1 4 6 8 999 0 0;party b 1 4 6 8 999 0 0;sitting 0 1;sitting 20 1;law like 40/late;",
                0, 1);
        x.days(1);
        Kit.due("4 by an ERROR, 2 by the law", x.count(7), 4 + 2);
    }

    /** "if BEGINS and meal are above OFF, the PARTY is CROSS (once)." */
    private static void crossIfOff() {
        int[][] due = {{45, 0}, {44, 1}, {0, 1}, {46, 0}};
        for (int[] d : due) {
            ThreeSittings x = given("party a 5 1 1 1 " + d[0] + " 9 0;sitting 5 1;meal 40;", 0);
            x.days(1);
            Kit.due("off at " + d[0], x.party(0, 6), d[1]);
            Kit.due("off at " + d[0], x.count(8), d[1]);
        }
        // By when it begins, not by its minute.
        ThreeSittings x = given("party a 1 1 1 1 999 0 0;party b 1 1 1 1 69 0 0;sitting 0 1;sitting 20 1;", 0, 1);
        x.days(1);
        Kit.due("begins at 40", x.party(1, 6), 1);
        // Who does not sit is not cross.
        x = given("party a 9 1 1 1 0 9 0;party b 1 1 1 1 0 9 100;seats 8;over 9;sitting 5 1;", 0, 0);
        x.sign(0, 3);
        x.days(1);
        Kit.due("who stands or is away", x.count(8), 0);
    }

    /** "(4) it rises at BEGINS and meal and STAY: .. COFFEE without, with an ERROR". */
    private static void rises() {
        String text = "party a 1 1 1 1 999 99 0;sitting 999 1;meal 99;";
        for (String law : new String[] {"", "law stay 1/0;", "law stay 1000*1000*1000*1000+1;"}) {
            ThreeSittings x = given(text + law, 0);
            x.days(1);
            Kit.due("as late as can be", x.sitting(0, 8), 999 + 99 + 99);
        }
        ThreeSittings x = given("party a 1 1 1 1 999 0 0;sitting 0 1;meal 1;", 0);
        x.days(1);
        Kit.due("as soon as can be", x.sitting(0, 8), 1);
    }

    /** "E of stay (0 .. 99". */
    private static void stayWithinBounds() {
        String[] laws = {"0-1", "0", "1", "98", "99", "100", "8192*8192*64", "8192*8192*64+5", "0-8192*8192*64+5",
            "1000*1000*1000*1000", "0-1000*1000*1000*1000", "1/0"};
        int[] due = {0, 0, 1, 98, 99, 99, 99, 99, 0, 99, 0, 42};
        for (int k = 0; k < laws.length; k++) {
            ThreeSittings x = given("party a 2 4 6 8 999 42 0;sitting 0 1;law stay " + laws[k] + ";", 0);
            Kit.due("stays by " + laws[k], x.stays(0, 0), due[k]);
            x.days(1);
            Kit.due("ends by " + laws[k], x.sitting(0, 8), 30 + due[k]);
        }
    }

    /** "a SIGN takes a quarter of it for each of its number 1, 2 (cut), all for 3". */
    private static void signTakes() {
        int[] stays = {0, 1, 2, 3, 4, 5, 6, 7, 8, 97, 98, 99};
        int[] bill = {0, 0, 0, 0, 1, 1, 1, 1, 2, 24, 24, 24};
        int[] lights = {0, 0, 1, 1, 2, 2, 3, 3, 4, 48, 49, 49};
        for (int k = 0; k < stays.length; k++) {
            int[] left = {stays[k], stays[k] - bill[k], stays[k] - lights[k], 0};
            for (int sign = 0; sign < 4; sign++) {
                ThreeSittings x = given("party a 1 1 1 1 999 " + stays[k] + " 0;sitting 0 1;sitting 999 1;", 0);
                x.sign(0, sign);
                x.sign(1, 3 - sign);
                x.days(1);
                Kit.due("a stay of " + stays[k] + " under " + sign, x.sitting(0, 8), 30 + left[sign]);
            }
        }
    }

    /** "one of a STAY above 0 (ahead of the SIGN) under a SIGN is CROSS by its number." */
    private static void crossBySign() {
        for (int sign = 0; sign < 4; sign++) {
            for (int stay : new int[] {0, 1, 99}) {
                for (int off : new int[] {29, 30}) {
                    ThreeSittings x = given("party a 9 1 1 1 " + off + " " + stay + " 0;sitting 0 1;", 0);
                    x.sign(0, sign);
                    x.days(1);
                    Kit.due("a stay of " + stay + " under " + sign + ", off at " + off, x.party(0, 6),
                            (stay > 0 ? sign : 0) + (off < 30 ? 1 : 0));
                }
            }
        }
        // By STAY, not by COFFEE.
        ThreeSittings x = given("party a 1 1 1 1 999 9 0;sitting 0 1;law stay 0;", 0);
        x.sign(0, 3);
        x.days(1);
        Kit.due("no stay by law", x.count(8), 0);
        x = given("party a 1 1 1 1 999 0 0;sitting 0 1;law stay 1;", 0);
        x.sign(0, 3);
        x.days(1);
        Kit.due("a stay by law", x.count(8), 3);
    }

    /** "(5) the SITTING ENDS when the last one rises". */
    private static void endsWithTheLast() {
        int[][] coffees = {{5, 60, 7}, {60, 5, 7}, {5, 7, 60}};
        for (int[] c : coffees) {
            ThreeSittings x = given("party a 1 1 1 1 999 " + c[0] + " 0;party b 1 1 1 1 999 " + c[1]
                    + " 0;party c 1 1 1 1 999 " + c[2] + " 0;sitting 0 1;", 0, 0, 0);
            x.days(1);
            Kit.due("the last one", x.sitting(0, 8), 90);
        }
        // Of those who sat alone: the one who stays longest is away, or stands.
        ThreeSittings x = given("party a 1 1 1 1 999 5 0;party b 1 1 1 1 999 60 100;sitting 0 1;", 0, 0);
        x.days(1);
        Kit.due("b is away", x.sitting(0, 8), 35);
    }

    /** "laying anew takes lay by hands, cut up, if somebody sat." */
    private static void layingCutUp() {
        int[][] due = {{0, 1, 0}, {0, 9, 0}, {1, 1, 1}, {1, 9, 1}, {8, 9, 1}, {9, 9, 1}, {10, 9, 2}, {99, 9, 11},
            {98, 9, 11}, {91, 9, 11}, {90, 9, 10}, {99, 1, 99}, {20, 2, 10}, {21, 2, 11}, {19, 2, 10}};
        for (int[] d : due) {
            ThreeSittings x = given("party a 1 1 1 1 999 0 0;sitting 0 1;sitting 1 1;lay " + d[0] + ";hands " + d[1] + ";", 0);
            x.days(1);
            Kit.due("lay " + d[0] + " by " + d[1], x.sitting(1, 4), 30 + d[2]);
        }
    }

    /** "Behind the last SITTING who STANDS is HUNGRY (persons)." */
    private static void hungryBehindTheLast() {
        String text = "party a 4 1 1 1 999 0 0;party b 3 1 1 1 999 0 0;party c 2 1 1 1 999 0 0;seats 4;over 9;sitting 0 1;";
        ThreeSittings x = given(text, 0, 0, 0);
        x.days(3);
        Kit.due("persons", x.count(9), 3 * 5);
        Kit.due("how often", x.party(1, 8), 3);
        Kit.due("how often", x.party(2, 8), 3);
        Kit.due("who sat is not", x.party(0, 8), 0);
        x = given(text + "sitting 99 1;", 0, 0, 0);
        x.days(3);
        Kit.due("c stands behind the last one: b and c are five", x.count(9), 3 * 2);
        x = given(text + "sitting 99 1;sitting 199 1;", 0, 0, 0);
        x.days(3);
        Kit.due("all sat", x.count(9), 0);
    }

    /** "Then it is the next DATE." "date: the DATE." */
    private static void nextDate() {
        ThreeSittings x = given("party a 1 1 1 1 999 0 0;sitting 0 1;law like date;", 0);
        x.days(1);
        Kit.due("the first day is date 0", x.count(7), 0);
        x.days(1);
        Kit.due("the second day is date 1", x.count(7), 1);
        Kit.due("it is date 2 now", x.law(0, 0, 0, 0), 2);
        x.days(99);
        Kit.due("all dates up to 100, 99 at most each", x.count(7), 99 * 100 / 2 + 99);
    }

    private static long worked(String e) {
        return Kit.told("party a 2 3 4 5 600 70 80;sitting 5 1;law like " + e + ";").law(0, 0, 0, 0);
    }

    /** "VALUES are longs": none of these wraps round. */
    private static void valuesWrap() {
        Kit.due("above all ints", worked("8192*8192*64"), 4294967296L);
        Kit.due("below all ints", worked("0-8192*8192*64"), -4294967296L);
        // 2 to the 64 is 0, 2 to the 63 is below 0, as a long.
        String big = "(8192*8192*64)";
        Kit.due("2 to the 64", worked(big + "*" + big), ERROR);
        Kit.due("2 to the 63", worked(big + "*" + big.replace("64", "32")), ERROR);
        Kit.due("below 0", worked("(0-8192*8192*64)*" + big), ERROR);
        Kit.due("both below 0", worked("(0-8192*8192*64)*(0-8192*8192*64)"), ERROR);
        Kit.due("10 to the 24", worked("(1000*1000*1000*1000)*(1000*1000*1000*1000)"), ERROR);
        Kit.due("compared as longs", worked("8192*8192*64=0"), 0);
        Kit.due("compared as longs", worked("8192*8192*32>0"), 1);
        Kit.due("not 0 as a long", worked("not " + big), 0);
        Kit.due("not 0 as a long", worked(big + " and " + big), 1);
        Kit.due("not 0 as a long", worked(big + " or 0"), 1);
    }

    /** "ERROR: / by 0, a value above 10 to the 12 or below 0 by more than that." */
    private static void valuesBeyondTheLimit() {
        String limit = "1000*1000*1000*1000";
        Kit.due("the limit", worked(limit), 1000000000000L);
        Kit.due("below 0 by the limit", worked("0-" + limit), -1000000000000L);
        Kit.due("one above", worked(limit + "+1"), ERROR);
        Kit.due("one below", worked("0-" + limit + "-1"), ERROR);
        Kit.due("the limit and 0", worked(limit + "+0"), 1000000000000L);
        Kit.due("the limit times 1", worked(limit + "*1"), 1000000000000L);
        Kit.due("the limit times 0", worked(limit + "*0"), 0);
        Kit.due("0 times the limit", worked("0*(" + limit + ")"), 0);
        Kit.due("times -1", worked("(0-1)*(" + limit + ")"), -1000000000000L);
        Kit.due("by -1", worked("(0-" + limit + ")/(0-1)"), 1000000000000L);
        Kit.due("times 2", worked(limit + "*2"), ERROR);
        Kit.due("on the way", worked(limit + "+1-1"), ERROR);
        Kit.due("on the way", worked("0*(" + limit + "+1)"), ERROR);
        Kit.due("1000001 times 1000000", worked("(1000*1000+1)*(1000*1000)"), ERROR);
        Kit.due("1000001 times 999999", worked("(1000*1000+1)*(1000*1000-1)"), 999999999999L);
        Kit.due("1 by 0", worked("1/0"), ERROR);
        Kit.due("0 by 0", worked("0/0"), ERROR);
        Kit.due("by what is 0", worked("5/(size-2)"), ERROR);
        Kit.due("0 by 1", worked("0/1"), 0);
    }

    /** "/ is cut towards 0". */
    private static void divisionCut() {
        Kit.due("7 by 2", worked("7/2"), 3);
        Kit.due("-7 by 2", worked("(0-7)/2"), -3);
        Kit.due("7 by -2", worked("7/(0-2)"), -3);
        Kit.due("-7 by -2", worked("(0-7)/(0-2)"), 3);
        Kit.due("1 by 2", worked("1/2"), 0);
        Kit.due("-1 by 2", worked("(0-1)/2"), 0);
        Kit.due("one behind another", worked("100/7/3"), 4);
        Kit.due("- one behind another", worked("9-4-3"), 2);
    }

    /** "comparisons, and, or, not are 1 or 0 (what isn't 0 is as 1, both sides are worked out)". */
    private static void bothSidesWorkedOut() {
        Kit.due("0 and ERROR", worked("0 and 1/0"), ERROR);
        Kit.due("1 or ERROR", worked("1 or 1/0"), ERROR);
        Kit.due("ERROR and 0", worked("1/0 and 0"), ERROR);
        Kit.due("ERROR or 1", worked("1/0 or 1"), ERROR);
        Kit.due("not ERROR", worked("not 1/0"), ERROR);
        Kit.due("ERROR = ERROR", worked("1/0=1/0"), ERROR);
        Kit.due("7 and 5", worked("7 and 5"), 1);
        Kit.due("7 or 5", worked("7 or 5"), 1);
        Kit.due("below 0", worked("(0-7) and (0-5)"), 1);
        Kit.due("below 0", worked("(0-7) or 0"), 1);
        Kit.due("not below 0", worked("not (0-7)"), 0);
        Kit.due("not 7", worked("not 7"), 0);
        Kit.due("not 0", worked("not 0"), 1);
        Kit.due("sum of comparisons", worked("(1<2)+(2<=2)+(3=3)+(1<>2)+(2>=2)+(2>1)"), 6);
        Kit.due("none of them", worked("(2<2)+(3<=2)+(3=4)+(2<>2)+(1>=2)+(2>2)"), 0);
    }

    /** "times 1103515245 and 12345, without what is above 31 bits, by 65536." */
    private static void numbersWrap() {
        for (int seed : new int[] {0, 1, 12345, 65535, 65536, 99999}) {
            int[] numbers = numbersFrom(seed, 60);
            ThreeSittings x = given("party a 1 1 1 1 999 0 50;sitting 0 1;seed " + seed + ";", 0);
            int away = 0;
            for (int day = 0; day < 60; day++) {
                away += numbers[day] < 50 ? 1 : 0;
                x.days(1);
                Kit.due("away on day " + day + " from seed " + seed, x.party(0, 7), away);
            }
        }
    }

    /** "AS IT GOES: without numbers: who has MISS of 50 at least doesn't come." */
    private static void asItGoesByHalf() {
        for (int miss : new int[] {0, 1, 49, 50, 51, 100}) {
            boolean comes = miss < 50;
            ThreeSittings x = given("party a 3 4 1 1 999 0 " + miss + ";sitting 0 1;sitting 1 1;seed 5;", 0);
            ThreeSittings untouched = given("party a 3 4 1 1 999 0 " + miss + ";sitting 0 1;sitting 1 1;seed 5;", 0);
            Kit.due("empties by MISS " + miss, x.empties(0), comes ? 9 : 12);
            Kit.due("late by MISS " + miss, x.late(1), comes ? 39 : 0);
            Kit.due("tried by MISS " + miss, x.tried(0, 0, 3), comes ? 36 : 0);
            Kit.due("nothing changes", Kit.print(x), Kit.print(untouched));
            x.days(9);
            untouched.days(9);
            Kit.due("no numbers were taken", x.party(0, 7), untouched.party(0, 7));
        }
        ThreeSittings x = given("party a 3 4 1 1 999 0 0;sitting 0 1;law miss 49+date;", 0);
        Kit.due("by the law, 49", x.empties(0), 9);
        x.days(1);
        Kit.due("by the law, 50", x.empties(0), 12);
    }

    /** Promise 6: "4 the TICKET (NONE: none), 5 MEALS had, 6 how often CROSS (in sum), 7 .. AWAY, 8 .. HUNGRY". */
    private static void partyNow() {
        // a sits and is cross by 1 and 3; b is away; c is too large.
        ThreeSittings x = given("party a 2 1 2 3 10 20 0;party b 3 1 2 3 40 50 100;party c 9 1 2 3 70 80 0;seats 8;over 9;"
                + "sitting 0 1;", 0, 0, 0);
        x.sign(0, 3);
        int[][] ahead = {{2, 10, 20, 0, 0, 0, 0, 0, 0}, {3, 40, 50, 100, 0, 0, 0, 0, 0}, {9, 70, 80, 0, 0, 0, 0, 0, 0}};
        int[][] behind = {{2, 10, 20, 0, 0, 2, 8, 0, 0}, {3, 40, 50, 100, 0, 0, 0, 2, 0}, {9, 70, 80, 0, 0, 0, 0, 0, 2}};
        for (int p = 0; p < 3; p++) {
            for (int what = 0; what < 9; what++) {
                Kit.ofParty(x, p, what, ahead[p][what]);
            }
        }
        x.days(2);
        for (int p = 0; p < 3; p++) {
            for (int what = 0; what < 9; what++) {
                Kit.ofParty(x, p, what, behind[p][what]);
            }
        }
        x.give(0, -1);
        Kit.ofParty(x, 0, 4, -1);
    }

    /** 1: IndexOutOfBoundsException, 2: NoSuchElementException, 0: nothing is thrown, 3: another exception. */
    private static int thrown(ThreeSittings x, int party, int what) {
        try {
            x.party(party, what);
            return 0;
        } catch (IndexOutOfBoundsException e) {
            return e.getClass() == IndexOutOfBoundsException.class ? 1 : 3;
        } catch (NoSuchElementException e) {
            return e.getClass() == NoSuchElementException.class ? 2 : 3;
        }
    }

    /** Promise 6: "IndexOutOfBoundsException: no such PARTY." */
    private static void noSuchParty() {
        ThreeSittings x = Kit.told("party a 2 1 2 3 10 20 0;party b 3 1 2 3 40 50 0;");
        for (int party : new int[] {2, 7, 8, 9, -1, Integer.MIN_VALUE, Integer.MAX_VALUE}) {
            for (int what : new int[] {0, 4, 8}) {
                Kit.due("party(" + party + ", " + what + ")", thrown(x, party, what), 1);
            }
        }
        Kit.due("the last one", thrown(x, 1, 8), 0);
        Kit.due("of nobody", thrown(new ThreeSittings(), 0, 0), 1);
        x.text(0);
        Kit.due("no more", thrown(x, 0, 0), 1);
    }

    /** Promise 6: "NoSuchElementException: no such what." */
    private static void noSuchWhat() {
        ThreeSittings x = Kit.told("party a 2 1 2 3 10 20 0;");
        for (int what : new int[] {9, 10, -1, Integer.MIN_VALUE, Integer.MAX_VALUE}) {
            Kit.due("party(0, " + what + ")", thrown(x, 0, what), 2);
            // Neither: the document names the party first.
            Kit.due("party(1, " + what + ")", thrown(x, 1, what), 1);
        }
        for (int what = 0; what < 9; what++) {
            Kit.due("party(0, " + what + ")", thrown(x, 0, what), 0);
        }
    }

    /** Promise 7: "for a SITTING 0 .. 2 (told or not); NONE: no such ones." */
    private static void wishToldOrNot() {
        for (String sittings : new String[] {"", "sitting 1 1;", "sitting 1 1;sitting 2 1;sitting 3 1;"}) {
            ThreeSittings x = Kit.told("party a 1 7 8 9 1 1 1;" + sittings);
            for (int s = 0; s < 3; s++) {
                Kit.due("wish(0, " + s + ")", x.wish(0, s), 7 + s);
                Kit.due("wish(1, " + s + ")", x.wish(1, s), -1);
            }
            Kit.due("wish(0, 3)", x.wish(0, 3), -1);
            for (int wild : WILD) {
                Kit.due("wish(0, " + wild + ")", x.wish(0, wild), -1);
                Kit.due("wish(" + wild + ", 0)", x.wish(wild, 0), -1);
            }
        }
        Kit.due("of nobody", new ThreeSittings().wish(0, 0), -1);
    }

    /** Promise 8: "NONE: no such ones." */
    private static void sittingNow() {
        ThreeSittings x = Kit.told("sitting 7 1;sitting 8 2;");
        x.days(1);
        for (int what = 0; what < 9; what++) {
            for (int none : new int[] {2, 3, -1, Integer.MIN_VALUE, Integer.MAX_VALUE}) {
                Kit.due("sitting(" + none + ", " + what + ")", x.sitting(none, what), -1);
            }
        }
        for (int none : new int[] {9, 10, -1, Integer.MIN_VALUE, Integer.MAX_VALUE}) {
            Kit.due("sitting(1, " + none + ")", x.sitting(1, none), -1);
        }
        int[] due = {8, 2, 0, 0, 8, 0, 0, 0, 8};
        for (int what = 0; what < 9; what++) {
            Kit.due("sitting(1, " + what + ")", x.sitting(1, what), due[what]);
        }
        Kit.due("of none", new ThreeSittings().sitting(0, 0), -1);
    }

    /** Promise 8: "of the latest DAY (NONE ahead of the first one)". */
    private static void sittingOfTheLatestDay() {
        ThreeSittings x = given("party a 2 1 1 1 999 7 0;party b 9 1 1 1 999 0 0;seats 8;over 3;sitting 7 1;", 0, 0);
        x.days(0);
        for (int what = 4; what < 9; what++) {
            Kit.due("ahead of the first day, " + what, x.sitting(0, what), -1);
        }
        x.late(0);
        x.tried(0, 0, 1);
        x.chance(1, 1, 0);
        Kit.due("a day that is only thought of", x.sitting(0, 4), -1);
        x.days(1);
        int[] due = {7, 0, 2, 9, 44};
        for (int what = 4; what < 9; what++) {
            Kit.due("the first day, " + what, x.sitting(0, what), due[what - 4]);
        }
        x.give(0, -1);
        x.give(1, -1);
        Kit.due("still of the latest day", x.sitting(0, 6), 2);
        x.days(1);
        int[] empty = {7, 0, 0, 0, 7};
        for (int what = 4; what < 9; what++) {
            Kit.due("a day without tickets, " + what, x.sitting(0, what), empty[what - 4]);
        }
    }

    /** Promise 9: "so LATE 0 .. 999", "Long.MIN_VALUE: an ERROR, no such law, no such ones." */
    private static void lawOfNoSuch() {
        ThreeSittings x = Kit.told("party a 2 1 1 1 999 7 0;sitting 7 1;law like late;law stay 1/late;");
        Kit.due("late 0", x.law(0, 0, 0, 0), 0);
        Kit.due("late 999", x.law(0, 0, 0, 999), 999);
        Kit.due("late 1000", x.law(0, 0, 0, 1000), ERROR);
        Kit.due("an error", x.law(1, 0, 0, 0), ERROR);
        Kit.due("no error", x.law(1, 0, 0, 1), 1);
        Kit.due("no such law", x.law(2, 0, 0, 0), ERROR);
        Kit.due("no such what", x.law(3, 0, 0, 0), ERROR);
        Kit.due("no such party", x.law(0, 1, 0, 0), ERROR);
        Kit.due("no such sitting", x.law(0, 0, 1, 0), ERROR);
        for (int wild : WILD) {
            Kit.due("what " + wild, x.law(wild, 0, 0, 0), ERROR);
            Kit.due("party " + wild, x.law(0, wild, 0, 0), ERROR);
            Kit.due("sitting " + wild, x.law(0, 0, wild, 0), ERROR);
            Kit.due("late " + wild, x.law(0, 0, 0, wild), ERROR);
        }
        Kit.due("of nothing", new ThreeSittings().law(0, 0, 0, 0), ERROR);
    }

    /** Promise 10: "(NONE: none)", "false: no such ones, it is so". */
    private static void giveRefused() {
        ThreeSittings x = Kit.told("party a 2 1 1 1 999 7 0;sitting 7 1;sitting 8 1;");
        Kit.due("none is so", x.give(0, -1), false);
        for (int party : new int[] {1, 8, -1, Integer.MIN_VALUE, Integer.MAX_VALUE}) {
            Kit.due("party " + party, x.give(party, 0), false);
            Kit.due("party " + party, x.give(party, -1), false);
        }
        for (int sitting : new int[] {2, 3, -2, Integer.MIN_VALUE, Integer.MAX_VALUE}) {
            Kit.due("sitting " + sitting, x.give(0, sitting), false);
        }
        Kit.due("nothing to undo", x.count(14), 0);
        Kit.due("the last sitting", x.give(0, 1), true);
        Kit.due("it is so", x.give(0, 1), false);
        Kit.due("one to undo", x.count(14), 1);
        Kit.due("none", x.give(0, -1), true);
        Kit.due("none is so", x.give(0, -1), false);
        Kit.due("of nobody", new ThreeSittings().give(0, -1), false);
    }

    /** Promise 10: "there would be too many persons." */
    private static void giveTooMany() {
        ThreeSittings x = given("party a 3 1 1 1 999 7 0;party b 3 1 1 1 999 7 0;party c 4 1 1 1 999 7 0;seats 5;over 1;"
                + "sitting 7 1;sitting 8 1;", 0, 0);
        Kit.due("too many", x.give(2, 0), false);
        Kit.ofParty(x, 2, 4, -1);
        Kit.due("nothing more to undo", x.count(14), 2);
        Kit.due("room at the other one", x.give(2, 1), true);
        Kit.due("too many there", x.give(1, 1), false);
        Kit.ofParty(x, 1, 4, 0);
        Kit.due("none is never too many", x.give(1, -1), true);
        Kit.due("there is room for three, not four", x.give(2, 0), false);
        Kit.due("for three", x.give(1, 0), true);
    }

    /** Promise 11: "SIGN 0 .. 3 of a SITTING: true; false: no such ones, it is so." */
    private static void signRefused() {
        ThreeSittings x = Kit.told("sitting 7 1;sitting 8 1;");
        Kit.due("0 is so", x.sign(0, 0), false);
        for (int sign : new int[] {4, -1, -2, Integer.MIN_VALUE, Integer.MAX_VALUE}) {
            Kit.due("sign " + sign, x.sign(0, sign), false);
        }
        for (int sitting : new int[] {2, 3, -1, Integer.MIN_VALUE, Integer.MAX_VALUE}) {
            Kit.due("sitting " + sitting, x.sign(sitting, 1), false);
        }
        Kit.due("nothing to undo", x.count(14), 0);
        for (int sign : new int[] {1, 2, 3, 0}) {
            Kit.due("sign " + sign, x.sign(1, sign), true);
            Kit.due("it is so", x.sign(1, sign), false);
            Kit.due("the sign", x.sitting(1, 2), sign);
        }
        Kit.due("four to undo", x.count(14), 4);
        Kit.due("of no sitting", new ThreeSittings().sign(0, 1), false);
    }

    /** Promise 12: "PRICE 0 .. 99 of a SITTING: true; false: no such ones, it is so." */
    private static void priceRefused() {
        ThreeSittings x = Kit.told("sitting 7 1;sitting 8 5;");
        Kit.due("as told", x.price(1, 5), false);
        for (int price : new int[] {100, 101, -1, -2, Integer.MIN_VALUE, Integer.MAX_VALUE}) {
            Kit.due("price " + price, x.price(0, price), false);
        }
        for (int sitting : new int[] {2, 3, -1, Integer.MIN_VALUE, Integer.MAX_VALUE}) {
            Kit.due("sitting " + sitting, x.price(sitting, 9), false);
        }
        Kit.due("nothing to undo", x.count(14), 0);
        for (int price : new int[] {0, 99, 5}) {
            Kit.due("price " + price, x.price(1, price), true);
            Kit.due("it is so", x.price(1, price), false);
            Kit.due("the price", x.sitting(1, 1), price);
        }
        Kit.due("three to undo", x.count(14), 3);
        Kit.due("of no sitting", new ThreeSittings().price(0, 1), false);
    }

    /** Promise 13: "So many DAYS (0 .. 99) go by: which DATE it is". */
    private static void daysGoBy() {
        ThreeSittings x = given("party a 1 1 1 1 999 7 0;sitting 7 1;", 0);
        Kit.due("none", x.days(0), 0);
        Kit.due("none", x.party(0, 5), 0);
        Kit.due("one", x.days(1), 1);
        Kit.due("ninety-nine", x.days(99), 100);
        Kit.due("a meal each", x.party(0, 5), 100);
        ThreeSittings y = given("party a 1 1 1 1 999 7 50;sitting 7 1;", 0);
        ThreeSittings z = given("party a 1 1 1 1 999 7 50;sitting 7 1;", 0);
        y.days(30);
        for (int day = 0; day < 30; day++) {
            z.days(1);
        }
        Kit.due("at once or one by one", Kit.print(y), Kit.print(z));
    }

    /** Promise 13: "NONE, and none does: no such number". */
    private static void daysRefused() {
        ThreeSittings x = given("party a 1 1 1 1 999 7 0;sitting 7 1;", 0);
        for (int n : new int[] {100, 101, -1, Integer.MIN_VALUE, Integer.MAX_VALUE}) {
            Kit.due("days(" + n + ")", x.days(n), -1);
        }
        Kit.due("no day", x.count(6), 0);
        Kit.due("no meal", x.party(0, 5), 0);
        Kit.due("it can still be undone", x.undo(), 0);
    }

    /** Promise 13: "behind 9999." */
    private static void daysToTheLastDate() {
        ThreeSittings x = given("party a 9 9 1 1 0 7 0;sitting 7 99;law like 99;", 0);
        for (int k = 1; k <= 100; k++) {
            x.days(99);
        }
        Kit.due("days(98)", x.days(98), 9998);
        Kit.due("two are too many", x.days(2), -1);
        Kit.due("none does", x.count(6), 9998);
        Kit.due("one", x.days(1), 9999);
        Kit.due("behind 9999", x.days(1), -1);
        Kit.due("behind 9999", x.days(99), -1);
        Kit.due("none", x.days(0), 9999);
        Kit.due("meals", x.party(0, 5), 9999);
        Kit.due("glad", x.count(7), 9999 * 9 * 99);
        Kit.due("paid", x.count(10), 9999 * 9 * 99);
        Kit.due("cross", x.count(8), 9999);
        Kit.due("tried behind it", x.tried(0, 0, 20), 20 * 9 * 99);
        Kit.due("drawn behind it", x.chance(0, 20, 0), 10);
        Kit.due("the date stays", x.count(6), 9999);
    }
}
