import java.util.Arrays;

/**
 * "==== 1." of the terms and promises 1 to 5 at their edges: a method for each sentence that names one, quoted above it.
 */
public final class TextEdges {
    private static final String P = "party %s 1 1 1 1 1 1 1;";
    private static final String[] LANGUAGE = {"party", "seats", "sitting", "meal", "lay", "hands", "over", "seed", "law",
        "like", "stay", "miss", "or", "and", "not", "size", "wish", "late", "price", "coffee", "absent", "date"};
    private static final String[] NAMES = {"size", "wish", "late", "price", "coffee", "absent", "date"};
    private static final String[] SIGNS = {"+", "-", "*", "/", "<", "<=", "=", "<>", ">=", ">"};
    private static final String[] SETTINGS = {"seats", "meal", "lay", "hands", "over", "seed"};
    private static final int[] SETTING_LEAST = {1, 1, 0, 1, 0, 0};
    private static final int[] SETTING_MOST = {99, 99, 99, 9, 99, 99999};

    public static void main(String[] args) {
        linesOfAText();
        numbersOfALine();
        wordsAreSmallLetters();
        wordOfSixLetters();
        wordOfTheLanguage();
        numbersAreDigits();
        blanks();
        operatorsStandBetween();
        oneComparison();
        notStandsAheadOfComparisons();
        signsOfTwo();
        numbersOfLaws();
        eightParties();
        traitsOfParties();
        settings();
        settingsUntold();
        threeSittings();
        minuteOfSittings();
        priceOfSittings();
        numberedAsTheyCome();
        firstAlongTheText();
        leastOfOnePlace();
        tokensThatAreNone();
        tokensThatCannotStandThere();
        lengthIfMoreMustCome();
        ninthBracket();
        knotsAreCounted();
        sixtyFifthKnot();
        sixtyFifthKnotOfAllLaws();
        toldAlready();
        newObject();
        feedFills();
        feedRefused();
        feedHighestFirst();
        textOfTheFirstBytes();
        textWithoutBytes();
        textRefused();
        textFaulty();
        textBeginsAnew();
        faultOfTheLatest();
        faultOfAnotherWhat();
        namedByLetters();
        namedNobody();
        Kit.end("TextEdges");
    }

    private static String party(Object name) {
        return String.format(P, name);
    }

    private static String eightTold() {
        StringBuilder all = new StringBuilder();
        for (char c = 'a'; c <= 'h'; c++) {
            all.append(party(c));
        }
        return all.toString();
    }

    /** "A TEXT: { LINE ';' }." */
    private static void linesOfAText() {
        Kit.right("", 0);
        Kit.right("   \n", 0);
        Kit.right("seats 5;", 1);
        Kit.right("\nseats 5\n;\n", 1);
        Kit.faulty("seats 5", 1, 7);
        Kit.faulty("seats 5 meal 5;", 1, 8);
        Kit.faulty(";", 1, 0);
        Kit.faulty("seats 5; ;", 1, 9);
        Kit.right(eightTold() + "sitting 1 1;sitting 2 1;sitting 3 1;seats 1;meal 1;lay 1;hands 1;over 1;seed 1;"
                + "law like 1;law stay 1;law miss 1;", 20);
    }

    /** "LINE: party W N N N N N N N | seats N | sitting N N | .. | law RULE E." */
    private static void numbersOfALine() {
        Kit.faulty("party a 1 1 1 1 1 1;", 1, 19);
        Kit.faulty("party a 1 1 1 1 1 1 1 1;", 1, 22);
        Kit.faulty("party 1 1 1 1 1 1 1;", 1, 6);
        Kit.faulty("party a b 1 1 1 1 1 1 1;", 1, 8);
        Kit.faulty("sitting;", 1, 7);
        Kit.faulty("sitting 1;", 1, 9);
        Kit.faulty("sitting 1 1 1;", 1, 12);
        for (String word : SETTINGS) {
            Kit.faulty(word + ";", 1, word.length());
            Kit.faulty(word + " 1 1;", 1, word.length() + 3);
            Kit.faulty(word + " a;", 1, word.length() + 1);
        }
        Kit.faulty("law;", 1, 3);
        Kit.faulty("law 1;", 1, 4);
        Kit.faulty("law like;", 1, 8);
        Kit.faulty("law stay like;", 1, 9);
    }

    /** "Words: small letters in a row". */
    private static void wordsAreSmallLetters() {
        Kit.faulty("Seats 5;", 1, 0);
        Kit.faulty("seatS 5;", 1, 0);
        Kit.faulty("sea ts 5;", 1, 0);
        Kit.faulty("seatsmeal 5;", 1, 0);
        Kit.faulty(party("A"), 1, 6);
        Kit.faulty(party("aB"), 1, 7);
        Kit.right("seats5;party a1 1 1 1 1 1 1;", 2);
        Kit.right("law like 2and 3or not(4);", 1);
        Kit.right(party("az"), 1);
        Kit.faulty(party("a`"), 1, 7);
        Kit.faulty(party("a{"), 1, 7);
    }

    /** "W: one of 1 .. 6 letters", "a word of more than 6 letters that is none of the language, too". */
    private static void wordOfSixLetters() {
        Kit.right(party("a"), 1);
        Kit.right(party("zzzzzz"), 1);
        Kit.faulty(party("zzzzzzz"), 1, 6);
        Kit.faulty(party("sittings"), 1, 6);
        Kit.faulty("party ;", 1, 6);
        Kit.faulty("abcdefg 5;", 1, 0);
        Kit.right("sitting 5 5;", 1);
    }

    /** "none of those of the language". */
    private static void wordOfTheLanguage() {
        for (String word : LANGUAGE) {
            Kit.faulty(party(word), 1, 6);
            if (word.length() < 6) {
                Kit.right(party(word + "x"), 1);
                Kit.right(party("x" + word), 1);
            }
            Kit.right(party(word.substring(1)), 1);
        }
    }

    /** "N: digits." A number that wraps round an int or a long is still too much. */
    private static void numbersAreDigits() {
        String[] wraps = {"2147483648", "2147483653", "4294967296", "4294967301", "9223372036854775813",
            "18446744073709551616", "18446744073709551621", "10000000000000000000000000000000000005"};
        for (String wrap : wraps) {
            Kit.faulty("seats " + wrap + ";", 2, 6);
            Kit.faulty("seed " + wrap + ";", 2, 5);
            Kit.faulty("sitting " + wrap + " 0;", 2, 8);
            Kit.faulty("law like " + wrap + ";", 2, 9);
        }
        Kit.faulty("party a 1 1 1 1 1 1 4294967296;", 2, 20);
        Kit.due("zeros ahead", Kit.told("seats 0000000000000000000000000000005;").count(2), 5);
        Kit.faulty("seats -5;", 1, 6);
        Kit.faulty("seats +5;", 1, 6);
        Kit.faulty("seats 5.0;", 1, 7);
        Kit.faulty("seats 1 0;", 1, 8);
        Kit.faulty("seats :;", 1, 6);
        Kit.faulty("seats /;", 1, 6);
    }

    /** "Blanks 10, 32." Of all bytes between a number and its ';' no others are. */
    private static void blanks() {
        for (int c = 0; c < 256; c++) {
            String text = "seats 5" + (char) c + ";";
            if (c == 10 || c == 32 || c >= '0' && c <= '9') {
                Kit.right(text, 1);
            } else {
                Kit.faulty(text, 1, c == ';' ? 8 : 7);
            }
        }
    }

    /** "A { or A }. A: B { and B }. .. S: T { ( + | - ) T }. T: P { ( * | / ) P }." */
    private static void operatorsStandBetween() {
        String[] between = {"+", "-", "*", "/", "or", "and"};
        for (String sign : between) {
            int end = 12 + sign.length();
            Kit.right("law like 1 " + sign + " 2 " + sign + " 3;", 1);
            Kit.faulty("law like 1 " + sign + " ;", 1, end);
            Kit.faulty("law like " + sign + " 1;", 1, 9);
            Kit.faulty("law like 1 " + sign + " " + sign + " 1;", 1, end);
        }
        Kit.faulty("law like 1 1;", 1, 11);
        Kit.faulty("law like 1 size;", 1, 11);
        Kit.faulty("law like 1 (1);", 1, 11);
        Kit.faulty("law like ();", 1, 10);
        Kit.faulty("law like (1;", 1, 11);
        Kit.faulty("law like 1);", 1, 10);
        Kit.faulty("law like (1));", 1, 12);
        Kit.faulty("law like seats;", 1, 9);
        Kit.faulty("law like a;", 1, 9);
    }

    /** "C: S [ ( < | <= | = | <> | >= | > ) S ]." */
    private static void oneComparison() {
        for (int k = 4; k < SIGNS.length; k++) {
            int place = 12 + SIGNS[k].length();
            Kit.right("law like 1 " + SIGNS[k] + "2;", 1);
            Kit.faulty("law like 1 " + SIGNS[k] + "2<3;", 1, place);
            Kit.faulty("law like 1<2 " + SIGNS[k] + "3;", 1, 13);
            Kit.right("law like (1<2) " + SIGNS[k] + "(3<4);", 1);
            Kit.right("law like 1 " + SIGNS[k] + "2 and 3" + SIGNS[k] + "4;", 1);
            Kit.faulty("law like 1 " + SIGNS[k] + ";", 1, place - 1);
        }
    }

    /** "B: not B | C." */
    private static void notStandsAheadOfComparisons() {
        Kit.right("law like not not not 1<2;", 1);
        Kit.right("law like 1 and not 2 or not 3;", 1);
        Kit.faulty("law like 1<not 2;", 1, 11);
        Kit.faulty("law like 1+not 2;", 1, 11);
        Kit.faulty("law like 1*not 2;", 1, 11);
        Kit.faulty("law like 1 not 2;", 1, 11);
        Kit.faulty("law like not;", 1, 12);
        Kit.right("law like 1<(not 2);", 1);
    }

    /** "A = (or > behind <) right behind < or > belongs to it." */
    private static void signsOfTwo() {
        for (String sign : new String[] {"<=", "<>", ">="}) {
            Kit.due("knots of 1" + sign + "2", Kit.told("law like 1" + sign + "2;").count(5), 3);
            Kit.faulty("law like 1" + sign.charAt(0) + " " + sign.charAt(1) + "2;", 1, 12);
            Kit.faulty("law like 1" + sign.charAt(0) + "\n" + sign.charAt(1) + "2;", 1, 12);
            Kit.faulty("law like 1" + sign + "=2;", 1, 12);
            Kit.faulty("law like 1" + sign + ">2;", 1, 12);
        }
        for (String none : new String[] {">>", "><", "=<", "=>", "==", "<<"}) {
            Kit.faulty("law like 1" + none + "2;", 1, 11);
        }
    }

    /** "N of E 0 .. 9999." */
    private static void numbersOfLaws() {
        Kit.right("law like 0;", 1);
        Kit.right("law like 9999;", 1);
        Kit.right("law like 09999;", 1);
        Kit.faulty("law like 10000;", 2, 9);
        Kit.faulty("law like 1+10000;", 2, 11);
        Kit.faulty("law like 99999;", 2, 9);
    }

    /** "PARTIES, at most 8", "a ninth party .. (at the word of the LINE)". */
    private static void eightParties() {
        String eight = eightTold();
        Kit.due("eight", Kit.told(eight).count(0), 8);
        Kit.faulty(eight + party("i"), 2, eight.length());
        Kit.faulty(eight + " " + party("a"), 2, eight.length() + 1);
        Kit.faulty(eight + "party", 2, eight.length());
        Kit.faulty(eight + "party 0;", 2, eight.length());
        Kit.right(eight + "seats 5;", 9);
    }

    /** "SIZE 1 .. 9, WISH .. 0 .. 9 each, OFF at a MINUTE 0 .. 999, COFFEE 0 .. 99 MINUTES, ABSENT 0 .. 100". */
    private static void traitsOfParties() {
        int[] least = {1, 0, 0, 0, 0, 0, 0};
        int[] most = {9, 9, 9, 9, 999, 99, 100};
        for (int t = 0; t < 7; t++) {
            int place = 8 + 2 * t;
            Kit.due("the least", trait(Kit.told(withTrait(t, least[t])), t), least[t]);
            Kit.due("the most", trait(Kit.told(withTrait(t, most[t])), t), most[t]);
            Kit.faulty(withTrait(t, most[t] + 1), 2, place);
            if (least[t] > 0) {
                Kit.faulty(withTrait(t, least[t] - 1), 2, place);
            }
        }
    }

    private static String withTrait(int trait, int value) {
        StringBuilder line = new StringBuilder("party a");
        for (int t = 0; t < 7; t++) {
            line.append(' ').append(t == trait ? value : 1);
        }
        return line.append(';').toString();
    }

    private static int trait(ThreeSittings x, int trait) {
        return trait == 0 ? x.party(0, 0) : trait < 4 ? x.wish(0, trait - 1) : x.party(0, trait - 3);
    }

    /** "seats: 1 .. 99 .. meal: 1 .. 99 .. lay: 0 .. 99 .. hands: 1 .. 9 .. over: 0 .. 99 .. seed: 0 .. 99999". */
    private static void settings() {
        for (int s = 0; s < SETTINGS.length; s++) {
            int place = SETTINGS[s].length() + 1;
            Kit.right(SETTINGS[s] + " " + SETTING_LEAST[s] + ";", 1);
            Kit.right(SETTINGS[s] + " " + SETTING_MOST[s] + ";", 1);
            Kit.faulty(SETTINGS[s] + " " + (SETTING_MOST[s] + 1) + ";", 2, place);
            if (SETTING_LEAST[s] > 0) {
                Kit.faulty(SETTINGS[s] + " " + (SETTING_LEAST[s] - 1) + ";", 2, place);
            }
        }
        Kit.due("seats 99", Kit.told("seats 99;").count(2), 99);
        Kit.due("over 99", Kit.told("over 99;").count(4), 99);
    }

    /** "(12 without) .. (30) .. (20) .. (2) .. (0) .. (0)". */
    private static void settingsUntold() {
        String text = "party a 4 1 1 1 999 0 %d;sitting 0 1;sitting 39 1;";
        ThreeSittings x = Kit.told(String.format(text, 0));
        Kit.due("seats", x.count(2), 12);
        Kit.due("over", x.count(4), 0);
        x.give(0, 0);
        x.days(1);
        Kit.due("meal", x.sitting(0, 8), 30);
        Kit.due("lay by hands", x.sitting(1, 4), 40);
        x = Kit.told(String.format(text, 0) + "hands 1;");
        x.give(0, 0);
        Kit.due("lay", x.late(1), 11);
        x = Kit.told(String.format(text, 0) + "lay 99;");
        x.give(0, 0);
        Kit.due("hands", x.late(1), 30 + 50 - 39);
        // The first number from seed 0 on is 0.
        x = Kit.told(String.format(text, 1));
        x.give(0, 0);
        x.days(1);
        Kit.ofParty(x, 0, 7, 1);
        Kit.tell(x, "seats 5;meal 6;lay 7;hands 8;over 9;seed 10;");
        Kit.tell(x, String.format(text, 1));
        Kit.due("seats, once told", x.count(2), 12);
        Kit.due("over, once told", x.count(4), 0);
        x.give(0, 0);
        Kit.due("lay and hands, once told", x.late(1), 1);
        x.days(1);
        Kit.ofParty(x, 0, 7, 1);
    }

    /** "SITTINGS, at most 3", "a fourth sitting (at the word of the LINE)". */
    private static void threeSittings() {
        String three = "sitting 1 1;sitting 2 1;sitting 3 1;";
        Kit.due("three", Kit.told(three).count(1), 3);
        Kit.faulty(three + "sitting 4 1;", 2, three.length());
        Kit.faulty(three + " sitting 2 1;", 2, three.length() + 1);
        Kit.faulty(three + "sitting", 2, three.length());
        Kit.right(three + "seats 5;", 4);
    }

    /** "a MINUTE 0 .. 999 (above that of the one ahead)". */
    private static void minuteOfSittings() {
        Kit.right("sitting 0 0;", 1);
        Kit.right("sitting 999 0;", 1);
        Kit.faulty("sitting 1000 0;", 2, 8);
        Kit.right("sitting 997 0;sitting 998 0;sitting 999 0;", 3);
        Kit.faulty("sitting 0 0;sitting 0 0;", 2, 20);
        Kit.faulty("sitting 5 0;sitting 4 0;", 2, 20);
        Kit.right("sitting 5 0;sitting 6 0;", 2);
        Kit.faulty("sitting 5 0;sitting 9 0;sitting 9 0;", 2, 32);
        Kit.faulty("sitting 5 0;sitting 9 0;sitting 6 0;", 2, 32);
        Kit.faulty("sitting 999 0;sitting 1000 0;", 2, 22);
        // A text with a fault leaves no minute behind for the next one.
        ThreeSittings x = new ThreeSittings();
        Kit.tell(x, "sitting 900 0;#");
        Kit.due("ahead of the faulty text's", Kit.tell(x, "sitting 5 0;"), 1);
        Kit.due("another text's", Kit.tell(x, "sitting 4 0;"), 1);
    }

    /** "PRICE 0 .. 99." */
    private static void priceOfSittings() {
        Kit.due("the least", Kit.told("sitting 5 0;").sitting(0, 1), 0);
        Kit.due("the most", Kit.told("sitting 5 99;").sitting(0, 1), 99);
        Kit.faulty("sitting 5 100;", 2, 10);
        Kit.faulty("sitting 5 0;sitting 6 100;", 2, 22);
    }

    /** "All numbered as they come; PARTIES have names." */
    private static void numberedAsTheyCome() {
        ThreeSittings x = Kit.told("sitting 3 7;party z 9 1 1 1 1 1 1;seats 4;sitting 4 8;party a 8 1 1 1 1 1 1;");
        Kit.ofParty(x, 0, 0, 9);
        Kit.ofParty(x, 1, 0, 8);
        Kit.due("z", x.named(Kit.letters("z")), 0);
        Kit.due("a", x.named(Kit.letters("a")), 1);
        Kit.due("first", x.sitting(0, 1), 7);
        Kit.due("second", x.sitting(1, 1), 8);
    }

    /** "FAULTS, the first along the text". */
    private static void firstAlongTheText() {
        Kit.faulty("seats 0;#", 2, 6);
        Kit.faulty("seats 1;seats 1;meal 0;#", 3, 8);
        Kit.faulty("party a 1 1 1 1 1 1 1;party a 0 #", 3, 28);
        Kit.faulty("# seats 0;", 1, 0);
        Kit.faulty("law like 10000+;", 2, 9);
        Kit.faulty("law like +10000;", 1, 9);
        Kit.faulty("sitting 1000 100;", 2, 8);
        Kit.faulty("law like (((((((((10000;", 2, 17);
    }

    /** "of one place the least". */
    private static void leastOfOnePlace() {
        String full = "law like not " + "1+".repeat(31) + "1";
        // What can't stand there is told ahead of what is too much or told already at the same place.
        Kit.faulty(full + " 1;", 1, full.length() + 1);
        Kit.faulty(full + " size;", 1, full.length() + 1);
        Kit.faulty(full + " not 1;", 1, full.length() + 1);
        Kit.faulty("law like " + "1+".repeat(32) + "+1;", 1, 9 + 64);
        Kit.faulty("law like ((((((((1(1;", 1, 18);
        Kit.faulty("seats 5 100000;", 1, 8);
        Kit.faulty("seats 5 seats 5;", 1, 8);
        Kit.faulty(eightTold() + "seats 5 party a;", 1, eightTold().length() + 8);
        Kit.faulty("party a 1 1 1 1 1 1 1;party b 1 a;", 1, 32);
        Kit.faulty("law like 1;law stay like 1;", 1, 20);
    }

    /** "1 a TOKEN that is none". */
    private static void tokensThatAreNone() {
        for (int c = 0; c < 256; c++) {
            boolean stands = c == 10 || c == 32;
            if (!stands) {
                Kit.faulty((char) c + ";", 1, 0);
            }
        }
        for (char c : "!#$%&',.:?@[]^_`{|}~ABZ\"".toCharArray()) {
            Kit.faulty("law like 1" + c + "1;", 1, 10);
        }
        Kit.faulty("law like 1 + abcdefg;", 1, 13);
    }

    /** "or can't stand there". */
    private static void tokensThatCannotStandThere() {
        for (String word : LANGUAGE) {
            boolean line = Arrays.asList(SETTINGS).contains(word) || word.equals("party") || word.equals("sitting")
                    || word.equals("law");
            if (!line) {
                Kit.faulty(word + " 1;", 1, 0);
            }
            boolean rule = word.equals("like") || word.equals("stay") || word.equals("miss");
            if (!rule) {
                Kit.faulty("law " + word + " 1;", 1, 4);
            }
            if (!Arrays.asList(NAMES).contains(word) && !word.equals("not")) {
                Kit.faulty("law like " + word + ";", 1, 9);
            }
            Kit.faulty("seats " + word + ";", 1, 6);
        }
    }

    /** "(the length, if more must come)". */
    private static void lengthIfMoreMustCome() {
        String[] tokens = ("party ab 1 1 1 1 1 1 1 ; sitting 5 5 ; seats 5 ; law like not ( 1 + size ) * 3 <= 4 and 5 or 6 "
                + "; law miss 1 ;").split(" ");
        StringBuilder text = new StringBuilder();
        int lines = 0;
        for (String token : tokens) {
            text.append(token).append(' ');
            if (token.equals(";")) {
                lines++;
                Kit.right(text.toString(), lines);
            } else {
                Kit.faulty(text.toString(), 1, text.length());
                Kit.faulty(text.toString().trim(), 1, text.length() - 1);
            }
        }
        // The length is that of the text, not of the tape.
        ThreeSittings x = new ThreeSittings();
        Kit.feed(x, Kit.bytes("seats 99;"));
        Kit.due("the text ends ahead of the ';'", x.text(8), -1);
        Kit.due("its length", x.fault(1), 8);
    }

    /** "a ninth '(' open". */
    private static void ninthBracket() {
        Kit.right("law like ((((((((1))))))));", 1);
        Kit.faulty("law like (((((((((1)))))))));", 2, 17);
        Kit.faulty("law like (((((((((", 2, 17);
        Kit.faulty("law like ((((((((1+(1", 2, 19);
        Kit.right("law like ((((((((1)+(1))))))));", 1);
        Kit.right("law like ((((((((1))))))))+((((((((1))))))));law stay ((((((((1))))))));", 2);
        Kit.faulty("law like 1;law stay (((((((((1)))))))));", 2, 28);
    }

    /** "KNOT of all E (N, NAMES, signs, not, and, or: one each)". */
    private static void knotsAreCounted() {
        Kit.due("none", Kit.told("seats 5;").count(5), 0);
        Kit.due("N", Kit.told("law like 1234;").count(5), 1);
        Kit.due("brackets are none", Kit.told("law like (((1)));").count(5), 1);
        for (String name : NAMES) {
            Kit.due(name, Kit.told("law like " + name + ";").count(5), 1);
        }
        for (String sign : SIGNS) {
            Kit.due(sign, Kit.told("law like 1" + sign + "1;").count(5), 3);
        }
        Kit.due("not", Kit.told("law like not not 1;").count(5), 3);
        Kit.due("and", Kit.told("law like 1 and 1;").count(5), 3);
        Kit.due("or", Kit.told("law like 1 or 1;").count(5), 3);
        Kit.due("of all", Kit.told("law like 1;law stay 1+1;law miss not 1;").count(5), 6);
    }

    /** "a 65th KNOT": of each kind. */
    private static void sixtyFifthKnot() {
        // 64 knots, and a sign must come; 64 knots, and an operand must come.
        String closed = "law like not " + "1+".repeat(31) + "1";
        String open = "law like " + "1+".repeat(32);
        Kit.due("64", Kit.told(closed + ";").count(5), 64);
        for (String sign : SIGNS) {
            Kit.faulty(closed + sign + "1;", 2, closed.length());
        }
        Kit.faulty(closed + " and 1;", 2, closed.length() + 1);
        Kit.faulty(closed + " or 1;", 2, closed.length() + 1);
        Kit.faulty(open + "1;", 2, open.length());
        Kit.faulty(open + "9999999;", 2, open.length());
        for (String name : NAMES) {
            Kit.faulty(open + name + ";", 2, open.length());
        }
        Kit.faulty(open + "(((1)));", 2, open.length() + 3);
        String ands = "law like " + "1 and ".repeat(32);
        Kit.faulty(ands + "not 1;", 2, ands.length());
        Kit.right("law like " + "not ".repeat(63) + "1;", 1);
        Kit.faulty("law like " + "not ".repeat(64) + "1;", 2, 9 + 4 * 64);
        Kit.faulty("law like " + "not ".repeat(65) + "1;", 2, 9 + 4 * 64);
        Kit.right("law like (not " + "1+".repeat(31) + "1);", 1);
    }

    /** "a 65th KNOT of all E". */
    private static void sixtyFifthKnotOfAllLaws() {
        String three = "law like " + "1+".repeat(15) + "1;law stay " + "1+".repeat(15) + "1;law miss ";
        Kit.due("64 of all", Kit.told(three + "not 1;").count(5), 64);
        Kit.faulty(three + "1+1;", 2, three.length() + 2);
        Kit.faulty(three + "not not 1;", 2, three.length() + 8);
        // Those of a text that was read ahead of it don't count.
        ThreeSittings x = Kit.told(three + "not 1;");
        Kit.due("another text", Kit.tell(x, three + "not 1;"), 3);
        Kit.due("64 again", x.count(5), 64);
        Kit.due("a faulty text", Kit.tell(x, three + "1+1;"), -1);
        Kit.due("behind a faulty one", Kit.tell(x, three + "not 1;"), 3);
    }

    /** "3 told already: a name of a PARTY (at W), seats, .. seed (at the word), a law of its RULE (at RULE)." */
    private static void toldAlready() {
        Kit.faulty(party("ab") + party("ab"), 3, 29);
        Kit.faulty(party("ab") + party("c") + "party ab", 3, 29 + 22);
        Kit.right(party("ab") + party("abc") + party("ba") + party("a"), 4);
        for (String word : SETTINGS) {
            Kit.faulty(word + " 1;" + word + " 1;", 3, word.length() + 3);
            Kit.faulty(word + " 1;" + word, 3, word.length() + 3);
            Kit.faulty(word + " 1;" + word + " 100000;", 3, word.length() + 3);
        }
        for (String rule : new String[] {"like", "stay", "miss"}) {
            Kit.faulty("law " + rule + " 1;law " + rule + " 1;", 3, 15);
            Kit.faulty("law " + rule + " 1;law " + rule, 3, 15);
        }
        Kit.right("law like 1;law stay 1;law miss 1;", 3);
        // Another text, or one with a fault, has told nothing.
        ThreeSittings x = Kit.told(party("ab") + "seats 5;law like 1;");
        Kit.due("another text", Kit.tell(x, party("ab") + "seats 6;law like 2;"), 3);
        Kit.due("a faulty text", Kit.tell(x, party("ab") + "seats 7;law like 3;#"), -1);
        Kit.due("behind a faulty one", Kit.tell(x, party("ab") + "seats 8;law like 4;"), 3);
        Kit.due("its seats", x.count(2), 8);
    }

    /** Promise 1: "A TEXT without LINES; an empty TAPE." */
    private static void newObject() {
        ThreeSittings x = new ThreeSittings();
        for (int what = 0; what < 15; what++) {
            Kit.due("count(" + what + ")", x.count(what), what == 2 ? 12 : 0);
        }
        Kit.due("an empty tape", x.text(1), -2);
        Kit.due("its first 0 bytes", x.text(0), 0);
        Kit.due("twenty come", x.feed(0, 0, 0, 0, 0), 20);
        Kit.due("no sitting", x.sitting(0, 0), -1);
        Kit.due("no party", x.best(0), -1);
        Kit.due("another object is new", new ThreeSittings().text(20), -2);
    }

    /** Promise 2: "how many it has". */
    private static void feedFills() {
        ThreeSittings x = new ThreeSittings();
        for (int n = 20; n <= 700; n += 20) {
            Kit.due("feed", x.feed(0, 0, 0, 0, 0), n);
        }
        x.text(700);
        Kit.due("empty again", x.feed(0, 0, 0, 0, 0), 20);
    }

    /** Promise 2: "NONE, and none come, if it would have more than 700." */
    private static void feedRefused() {
        ThreeSittings x = new ThreeSittings();
        String text = "\n".repeat(691) + "seats 77;";
        Kit.due("700 bytes", Kit.feed(x, Kit.bytes(text)), 700);
        Kit.due("more", x.feed(-1, -1, -1, -1, -1), -1);
        Kit.due("more", x.feed(0, 0, 0, 0, 0), -1);
        Kit.due("there are no 701", x.text(701), -2);
        Kit.due("there are no 720", x.text(720), -2);
        Kit.due("still full", x.feed(0, 0, 0, 0, 0), -1);
        Kit.due("none came", x.text(700), 1);
        Kit.due("none came", x.count(2), 77);
    }

    /** Promise 2: "Twenty bytes come behind the TAPE, four of each number, the highest first". */
    private static void feedHighestFirst() {
        ThreeSittings x = new ThreeSittings();
        // "law " "like" " 12+" "34*5" "6-7;" and "seat" "s 98" ";   ".
        x.feed(0x6c617720, 0x6c696b65, 0x2031322b, 0x33342a35, 0x362d373b);
        x.feed(0x73656174, 0x73203938, 0x3b202020, 0x20202020, 0x20202020);
        Kit.due("two lines", x.text(40), 2);
        Kit.due("seats", x.count(2), 98);
        Kit.due("knots", x.count(5), 7);
        // Bytes with the highest bit, at each place of a number.
        for (int k = 0; k < 4; k++) {
            int high = 0x20202020 | 0x80 << 8 * (3 - k);
            x.feed(0x20202020, 0x20202020, high, 0x20202020, 0x20202020);
            Kit.due("no blank", x.text(20), -1);
            Kit.due("its place", x.fault(1), 8 + k);
        }
    }

    /** Promise 3: "The TAPE's first n bytes (it is empty then) are the TEXT". */
    private static void textOfTheFirstBytes() {
        ThreeSittings x = new ThreeSittings();
        Kit.feed(x, Kit.bytes("seats 5;meal 9;#####"));
        Kit.due("as many as there are but for the wrong ones", x.text(15), 2);
        Kit.due("empty then", x.text(1), -2);
        Kit.feed(x, Kit.bytes("seats 56;           "));
        Kit.due("cut in a number", x.text(7), -1);
        Kit.due("empty with a fault, too", x.text(1), -2);
        Kit.feed(x, Kit.bytes("seats 6;            "));
        Kit.due("all that there are", x.text(20), 1);
        Kit.due("seats", x.count(2), 6);
        // Bytes that an earlier text left behind are none of the tape.
        Kit.feed(x, Kit.bytes("seats 7;meal 5;lay 5;hands 5;over 5;"));
        x.text(0);
        Kit.feed(x, Kit.bytes("seats 8;"));
        Kit.due("twenty and no more", x.text(21), -2);
        Kit.due("these twenty", x.text(20), 1);
    }

    /** Promise 3: "how many LINES", of none. */
    private static void textWithoutBytes() {
        ThreeSittings x = Kit.told(party("a") + "seats 5;sitting 1 1;");
        Kit.feed(x, Kit.bytes("seats 7;"));
        Kit.due("no lines", x.text(0), 0);
        Kit.due("no parties", x.count(0), 0);
        Kit.due("no sittings", x.count(1), 0);
        Kit.due("seats without", x.count(2), 12);
        Kit.due("an empty tape", x.text(1), -2);
        Kit.due("no fault", x.fault(0), 0);
    }

    /** Promise 3: "-2, and the TAPE stays: there are not so many, n is below 0." */
    private static void textRefused() {
        ThreeSittings x = Kit.told(party("a") + "sitting 1 1;");
        x.give(0, 0);
        x.keep();
        x.note(0, 1, true);
        Kit.feed(x, Kit.bytes("seats 5;"));
        for (int n : new int[] {21, 40, 700, 701, Integer.MAX_VALUE, -1, -20, Integer.MIN_VALUE}) {
            Kit.due("text(" + n + ")", x.text(n), -2);
        }
        Kit.due("the text stays", x.count(0), 1);
        Kit.due("tickets stay", x.count(11), 1);
        Kit.due("notes stay", x.count(12), 1);
        Kit.due("what can be undone stays", x.count(14), 1);
        Kit.due("the image stays", x.back(), 0);
        Kit.due("the tape stays", x.text(20), 1);
        Kit.due("seats", x.count(2), 5);
    }

    /** Promise 3: "NONE with a FAULT, all stays". */
    private static void textFaulty() {
        ThreeSittings x = Kit.told("party a 2 5 4 3 999 7 50;party b 3 1 1 1 9 0 0;seats 4;over 3;meal 31;lay 9;hands 4;"
                + "seed 5;sitting 10 4;sitting 50 6;law like wish+1;law miss absent;");
        x.give(0, 0);
        x.give(1, 1);
        x.days(3);
        x.sign(0, 2);
        x.price(1, 60);
        x.note(1, 5, true);
        x.note(1, 5, false);
        x.known(1);
        x.keep();
        String before = Kit.print(x);
        String[] faulty = {"#", "seats 9", "party q 1 1 1 1 1 1 1;party q", "sitting 3 3;law like 7;law stay 8;law miss 9;0;"};
        for (String text : faulty) {
            Kit.due("text '" + text + "'", Kit.tell(x, text), -1);
            Kit.due("all stays", Kit.print(x), before);
        }
        Kit.due("the name stays", x.named(Kit.letters("b")), 1);
        Kit.due("none of the faulty text", x.named(Kit.letters("q")), -1);
        Kit.due("what can be undone stays", x.undo(), 1);
        Kit.due("the image stays", x.back(), 3);
        Kit.due("the price of the image", x.sitting(1, 1), 60);
    }

    /** Promise 3: "(DATE 0, no TICKETS, SIGNS 0, no NOTES, all KNOWN, no IMAGE, nothing to undo then)". */
    private static void textBeginsAnew() {
        String text = "party a 2 5 4 3 9 7 50;party b 9 1 1 1 9 3 0;party c 1 1 1 1 1 1 0;seats 4;over 7;seed 5;"
                + "sitting 10 4;sitting 50 6;";
        ThreeSittings x = Kit.told(text);
        String before = Kit.print(x);
        x.give(0, 0);
        x.give(1, 1);
        x.give(2, 0);
        x.sign(0, 1);
        x.sign(1, 3);
        x.price(0, 99);
        x.days(3);
        x.note(1, 5, true);
        x.note(0, 5, true);
        x.known(1);
        x.keep();
        x.price(1, 98);
        Kit.due("otherwise by now", Kit.print(x).equals(before), false);
        Kit.due("the same text", Kit.tell(x, text), 8);
        Kit.due("all as new", Kit.print(x), before);
        Kit.due("date", x.count(6), 0);
        Kit.due("no tickets", x.count(11), 0);
        Kit.due("sign of the first", x.sitting(0, 2), 0);
        Kit.due("sign of the second", x.sitting(1, 2), 0);
        Kit.due("price as told", x.sitting(0, 1), 4);
        Kit.due("no notes", x.count(12), 0);
        Kit.due("no image", x.back(), -1);
        Kit.due("nothing to undo", x.undo(), -1);
        x.note(1, 5, true);
        x.note(0, 5, true);
        Kit.due("all known", x.count(13), 2);
        // The numbers begin with the seed again.
        ThreeSittings y = Kit.told(text);
        for (int day = 0; day < 9; day++) {
            x.give(0, 0);
            y.give(0, 0);
            x.days(1);
            y.days(1);
            Kit.due("away on day " + day, x.party(0, 7), y.party(0, 7));
        }
    }

    /** Promise 4: "Of the latest text() that was not -2, what 0: its FAULT (0), 1: its place (NONE without)." */
    private static void faultOfTheLatest() {
        ThreeSittings x = new ThreeSittings();
        Kit.due("no text yet", x.fault(0), 0);
        Kit.due("no text yet", x.fault(1), -1);
        Kit.tell(x, "seats 0;");
        Kit.due("a fault", x.fault(0), 2);
        Kit.due("its place", x.fault(1), 6);
        x.text(1);
        x.text(-1);
        Kit.due("not of -2", x.fault(0), 2);
        Kit.due("not of -2", x.fault(1), 6);
        Kit.tell(x, "#");
        Kit.due("place 0", x.fault(1), 0);
        Kit.tell(x, "seats 1;seats");
        Kit.due("the latest", x.fault(0), 3);
        Kit.due("its place", x.fault(1), 8);
        Kit.tell(x, "seats 1;");
        Kit.due("no fault", x.fault(0), 0);
        Kit.due("no place", x.fault(1), -1);
        x.text(1);
        Kit.due("no fault of -2", x.fault(0), 0);
        // A text of all 700 bytes that must go on.
        Kit.due("700 bytes", Kit.tell(x, " ".repeat(693) + "seats 5"), -1);
        Kit.due("more must come", x.fault(0), 1);
        Kit.due("its length", x.fault(1), 700);
    }

    /** Promise 4: "NONE for another what." */
    private static void faultOfAnotherWhat() {
        ThreeSittings x = new ThreeSittings();
        Kit.tell(x, "seats 0;");
        for (int what : new int[] {-1, 2, 3, Integer.MIN_VALUE, Integer.MAX_VALUE}) {
            Kit.due("fault(" + what + ")", x.fault(what), -1);
        }
    }

    /** Promise 5: "5 bits each (a is 1; the first one highest of six, 0 behind the last one)". */
    private static void namedByLetters() {
        String[] names = {"a", "z", "aa", "az", "abcdef", "zzzzzz", "zzzzz", "b"};
        StringBuilder text = new StringBuilder();
        for (String name : names) {
            text.append(party(name));
        }
        ThreeSittings x = Kit.told(text.toString());
        int[] letters = {1 << 25, 26 << 25, 33 << 20, (1 << 5 | 26) << 20, 1 << 25 | 2 << 20 | 3 << 15 | 4 << 10 | 5 << 5 | 6,
            26 * (1 << 25 | 1 << 20 | 1 << 15 | 1 << 10 | 1 << 5 | 1), 26 * (1 << 25 | 1 << 20 | 1 << 15 | 1 << 10 | 1 << 5),
            2 << 25};
        for (int p = 0; p < names.length; p++) {
            Kit.due("named " + names[p], x.named(letters[p]), p);
        }
    }

    /** Promise 5: "NONE: there is none such." */
    private static void namedNobody() {
        ThreeSittings x = Kit.told(party("a") + party("ab"));
        int[] none = {0, 1, -1, 1 << 20, 2 << 25, 1 << 25 | 1, 1 << 25 | 1 << 20, 1 << 25 | 1 << 30, 1 << 25 | 1 << 31,
            27 << 25, Integer.MIN_VALUE, Integer.MAX_VALUE};
        for (int letters : none) {
            Kit.due("named(" + letters + ")", x.named(letters), -1);
        }
        Kit.due("nobody yet", new ThreeSittings().named(0), -1);
        x.text(0);
        Kit.due("nobody any more", x.named(1 << 25), -1);
    }
}
