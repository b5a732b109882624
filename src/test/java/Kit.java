import java.nio.charset.StandardCharsets;
import java.util.Arrays;

/** What the tests share: telling a text, comparing answers, counting what is wrong. */
final class Kit {
    private static int wrong = 0;
    private static int compared = 0;

    private Kit() {
    }

    static void due(String call, long got, long want) {
        compared++;
        if (got != want) {
            wrong++;
            System.out.println(call + " answered " + got + ", due is " + want);
        }
    }

    static void due(String call, boolean got, boolean want) {
        due(call, got ? 1 : 0, want ? 1 : 0);
    }

    static void due(String call, String got, String want) {
        compared++;
        if (!got.equals(want)) {
            wrong++;
            System.out.println(call + " answered\n  " + got + ", due is\n  " + want);
        }
    }

    /** Ends the test: exit code 1 if an answer was wrong, or if nothing was compared. */
    static void end(String test) {
        System.out.println(test + ": " + compared + " answers compared, " + wrong + " wrong");
        if (wrong != 0 || compared == 0) {
            System.exit(1);
        }
    }

    /** Feeds bytes, padded with blanks to twenties; the last answer of feed. */
    static int feed(ThreeSittings x, byte[] bytes) {
        byte[] padded = Arrays.copyOf(bytes, (bytes.length + 19) / 20 * 20);
        Arrays.fill(padded, bytes.length, padded.length, (byte) ' ');
        int answer = 0;
        for (int at = 0; at < padded.length; at += 20) {
            answer = x.feed(four(padded, at), four(padded, at + 4), four(padded, at + 8),
                    four(padded, at + 12), four(padded, at + 16));
        }
        return answer;
    }

    static int four(byte[] bytes, int at) {
        return (bytes[at] & 255) << 24 | (bytes[at + 1] & 255) << 16 | (bytes[at + 2] & 255) << 8 | bytes[at + 3] & 255;
    }

    static byte[] bytes(String text) {
        return text.getBytes(StandardCharsets.ISO_8859_1);
    }

    /** What text() answers to a text that was fed. */
    static int tell(ThreeSittings x, String text) {
        feed(x, bytes(text));
        return x.text(text.length());
    }

    /** A new object of a text that has no fault. */
    static ThreeSittings told(String text) {
        ThreeSittings x = new ThreeSittings();
        if (tell(x, text) < 0) {
            due("text of '" + text + "': fault " + x.fault(0) + " at " + x.fault(1), 1, 0);
        }
        return x;
    }

    /** A text whose first fault and its place are due; the object stays as it was. */
    static void faulty(String text, int fault, int place) {
        ThreeSittings x = new ThreeSittings();
        due("text '" + text + "'", tell(x, text), ThreeSittings.NONE);
        due("fault(0) of '" + text + "'", x.fault(0), fault);
        due("fault(1) of '" + text + "'", x.fault(1), place);
    }

    /** A text without a fault. */
    static void right(String text, int lines) {
        ThreeSittings x = new ThreeSittings();
        due("text '" + text + "'", tell(x, text), lines);
        due("fault(0) of '" + text + "'", x.fault(0), 0);
        due("fault(1) of '" + text + "'", x.fault(1), ThreeSittings.NONE);
    }

    /** A name's letters as named() takes them. */
    static int letters(String name) {
        int sum = 0;
        for (int i = 0; i < 6; i++) {
            sum = sum * 32 + (i < name.length() ? name.charAt(i) - 'a' + 1 : 0);
        }
        return sum;
    }

    static void ofParty(ThreeSittings x, int party, int what, int want) {
        try {
            due("party(" + party + ", " + what + ")", x.party(party, what), want);
        } catch (RuntimeException e) {
            due("party(" + party + ", " + what + ") threw " + e, 1, 0);
        }
    }

    /** All answers that tell what is and what was. */
    static String print(ThreeSittings x) {
        StringBuilder all = new StringBuilder();
        for (int what = 0; what < 15; what++) {
            all.append(x.count(what)).append(' ');
        }
        for (int p = 0; p < x.count(0); p++) {
            all.append("| ");
            for (int what = 0; what < 9; what++) {
                all.append(x.party(p, what)).append(' ');
            }
            for (int s = 0; s < 3; s++) {
                all.append(x.wish(p, s)).append(' ').append(x.law(0, p, s, 7)).append(' ').append(x.likes(p, s)).append(' ');
                all.append(x.law(1, p, s, 7)).append(' ').append(x.law(2, p, s, 7)).append(' ');
            }
        }
        for (int s = 0; s < x.count(1); s++) {
            all.append("| ");
            for (int what = 0; what < 9; what++) {
                all.append(x.sitting(s, what)).append(' ');
            }
        }
        return all.toString();
    }
}
