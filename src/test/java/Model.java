import java.math.BigInteger;
import java.util.ArrayDeque;
import java.util.ArrayList;
import java.util.Deque;
import java.util.HashMap;
import java.util.HashSet;
import java.util.List;
import java.util.Map;
import java.util.NoSuchElementException;
import java.util.Set;
import java.util.regex.Matcher;
import java.util.regex.Pattern;

/**
 * The document once more, written as plainly as the whole Java library allows and with no thought for speed:
 * ModelTest compares its answers with those of ThreeSittings.
 */
final class Model {
    private static final Set<String> LANGUAGE = Set.of("party", "seats", "sitting", "meal", "lay", "hands", "over",
            "seed", "law", "like", "stay", "miss", "or", "and", "not", "size", "wish", "late", "price", "coffee",
            "absent", "date");
    private static final List<String> NAMES = List.of("size", "wish", "late", "price", "coffee", "absent", "date");
    private static final Pattern TOKEN =
            Pattern.compile("[ \\n]+|([a-z]+|[0-9]+|<=|<>|>=|[^ \\n])", Pattern.DOTALL);
    private static final BigInteger LIMIT = BigInteger.TEN.pow(12);

    private static final class Fault extends Exception {
        private static final long serialVersionUID = 1;
        final int kind;
        final int place;

        Fault(int kind, int place) {
            this.kind = kind;
            this.place = place;
        }
    }

    private record Token(String text, int place) {
    }

    /** A tree of an E; an ERROR is an ArithmeticException. */
    private interface Node {
        BigInteger value(Map<String, Integer> names);
    }

    private static final class Party {
        String name;
        int[] numbers = new int[7];

        int size() {
            return numbers[0];
        }

        int wish(int sitting) {
            return numbers[1 + sitting];
        }
    }

    private static final class Text {
        final List<Party> parties = new ArrayList<>();
        final List<int[]> sittings = new ArrayList<>();
        final Map<String, Integer> settings = new HashMap<>();
        final Map<String, Node> laws = new HashMap<>();
        int knots = 0;
        int lines = 0;

        int get(String setting) {
            int without = Map.of("seats", 12, "meal", 30, "lay", 20, "hands", 2, "over", 0, "seed", 0).get(setting);
            return settings.getOrDefault(setting, without);
        }
    }

    private static final class World implements Cloneable {
        int date = 0;
        long number;
        int[] ticket = {-1, -1, -1, -1, -1, -1, -1, -1};
        int[] sign = new int[3];
        int[] price = new int[3];
        int[] meals = new int[8];
        int[] cross = new int[8];
        int[] away = new int[8];
        int[] hungryTimes = new int[8];
        int glad = 0;
        int hungry = 0;
        int paid = 0;
        int[][] latest = null;

        World copy() {
            try {
                World other = (World) clone();
                other.ticket = ticket.clone();
                other.sign = sign.clone();
                other.price = price.clone();
                other.meals = meals.clone();
                other.cross = cross.clone();
                other.away = away.clone();
                other.hungryTimes = hungryTimes.clone();
                return other;
            } catch (CloneNotSupportedException e) {
                throw new IllegalStateException(e);
            }
        }
    }

    /** How a day goes: what a world and a text don't say. */
    private static final class Manner {
        boolean numbers = false;
        boolean nobodyMisses = false;
        boolean nobodyStays = false;
        int gone = -1;
        int seats;
        int hands;
        int[] minutes;
        int[] coffees;

        Manner(Text text) {
            seats = text.get("seats");
            hands = text.get("hands");
            minutes = text.sittings.stream().mapToInt(s -> s[0]).toArray();
            coffees = text.parties.stream().mapToInt(p -> p.numbers[5]).toArray();
        }
    }

    private record Note(int sitting, int late, boolean atLeast, int strikes) {
    }

    private final StringBuilder tape = new StringBuilder();
    private Text text = new Text();
    private World world = new World();
    private World image = null;
    private Fault fault = null;
    private final Deque<Runnable> undos = new ArrayDeque<>();
    private final List<Note> notes = new ArrayList<>();
    private int knownBy = -1;

    // ---- the text

    private List<Token> tokens;
    private int at;

    public int feed(int a, int b, int c, int d, int e) {
        if (tape.length() > 680) {
            return -1;
        }
        for (int four : new int[] {a, b, c, d, e}) {
            for (int k = 3; k >= 0; k--) {
                tape.append((char) ((four >>> (8 * k)) & 0xff));
            }
        }
        return tape.length();
    }

    public int text(int n) {
        if (n < 0 || n > tape.length()) {
            return -2;
        }
        String told = tape.substring(0, n);
        tape.setLength(0);
        try {
            text = parse(told);
        } catch (Fault f) {
            fault = f;
            return -1;
        }
        fault = null;
        world = new World();
        world.number = text.get("seed");
        for (int k = 0; k < text.sittings.size(); k++) {
            world.price[k] = text.sittings.get(k)[1];
        }
        image = null;
        undos.clear();
        notes.clear();
        knownBy = -1;
        return text.lines;
    }

    private Text parse(String told) throws Fault {
        tokens = new ArrayList<>();
        Matcher m = TOKEN.matcher(told);
        while (m.find()) {
            if (m.group(1) != null) {
                tokens.add(new Token(m.group(1), m.start()));
            }
        }
        tokens.add(new Token("", told.length()));
        at = 0;
        Text into = new Text();
        while (!is("")) {
            line(into);
            take(";");
            into.lines++;
        }
        return into;
    }

    private Token peek() {
        return tokens.get(at);
    }

    private boolean is(String word) {
        return peek().text().equals(word);
    }

    private void take(String word) throws Fault {
        if (!is(word)) {
            throw new Fault(1, peek().place());
        }
        at++;
    }

    private int number(int least, int most) throws Fault {
        if (!peek().text().matches("[0-9]+")) {
            throw new Fault(1, peek().place());
        }
        BigInteger n = new BigInteger(peek().text());
        if (n.compareTo(BigInteger.valueOf(least)) < 0 || n.compareTo(BigInteger.valueOf(most)) > 0) {
            throw new Fault(2, peek().place());
        }
        at++;
        return n.intValue();
    }

    private void line(Text into) throws Fault {
        String word = peek().text();
        int place = peek().place();
        switch (word) {
            case "party" -> {
                if (into.parties.size() == 8) {
                    throw new Fault(2, place);
                }
                at++;
                into.parties.add(partyLine(into));
            }
            case "sitting" -> {
                if (into.sittings.size() == 3) {
                    throw new Fault(2, place);
                }
                at++;
                int ahead = into.sittings.isEmpty() ? -1 : into.sittings.get(into.sittings.size() - 1)[0];
                int minute = number(ahead + 1, 999);
                into.sittings.add(new int[] {minute, number(0, 99)});
            }
            case "seats", "meal", "lay", "hands", "over", "seed" -> {
                if (into.settings.containsKey(word)) {
                    throw new Fault(3, place);
                }
                at++;
                int most = word.equals("hands") ? 9 : word.equals("seed") ? 99999 : 99;
                int least = Set.of("seats", "meal", "hands").contains(word) ? 1 : 0;
                into.settings.put(word, number(least, most));
            }
            case "law" -> {
                at++;
                String rule = peek().text();
                if (!Set.of("like", "stay", "miss").contains(rule)) {
                    throw new Fault(1, peek().place());
                }
                if (into.laws.containsKey(rule)) {
                    throw new Fault(3, peek().place());
                }
                at++;
                into.laws.put(rule, or(into, 0));
            }
            default -> throw new Fault(1, place);
        }
    }

    private Party partyLine(Text into) throws Fault {
        Party party = new Party();
        party.name = peek().text();
        if (!party.name.matches("[a-z]{1,6}") || LANGUAGE.contains(party.name)) {
            throw new Fault(1, peek().place());
        }
        if (into.parties.stream().anyMatch(p -> p.name.equals(party.name))) {
            throw new Fault(3, peek().place());
        }
        at++;
        party.numbers[0] = number(1, 9);
        party.numbers[1] = number(0, 9);
        party.numbers[2] = number(0, 9);
        party.numbers[3] = number(0, 9);
        party.numbers[4] = number(0, 999);
        party.numbers[5] = number(0, 99);
        party.numbers[6] = number(0, 100);
        return party;
    }

    private String knot(Text into) throws Fault {
        if (into.knots == 64) {
            throw new Fault(2, peek().place());
        }
        into.knots++;
        return tokens.get(at++).text();
    }

    private Node or(Text into, int open) throws Fault {
        Node left = and(into, open);
        while (is("or")) {
            knot(into);
            left = join("or", left, and(into, open));
        }
        return left;
    }

    private Node and(Text into, int open) throws Fault {
        Node left = negation(into, open);
        while (is("and")) {
            knot(into);
            left = join("and", left, negation(into, open));
        }
        return left;
    }

    private Node negation(Text into, int open) throws Fault {
        if (is("not")) {
            knot(into);
            Node of = negation(into, open);
            return names -> of.value(names).signum() == 0 ? BigInteger.ONE : BigInteger.ZERO;
        }
        Node left = sum(into, open);
        if (Set.of("<", "<=", "=", "<>", ">=", ">").contains(peek().text())) {
            String sign = knot(into);
            left = join(sign, left, sum(into, open));
        }
        return left;
    }

    private Node sum(Text into, int open) throws Fault {
        Node left = product(into, open);
        while (is("+") || is("-")) {
            String sign = knot(into);
            left = join(sign, left, product(into, open));
        }
        return left;
    }

    private Node product(Text into, int open) throws Fault {
        Node left = part(into, open);
        while (is("*") || is("/")) {
            String sign = knot(into);
            left = join(sign, left, part(into, open));
        }
        return left;
    }

    private Node part(Text into, int open) throws Fault {
        if (is("(")) {
            if (open == 8) {
                throw new Fault(2, peek().place());
            }
            at++;
            Node inside = or(into, open + 1);
            take(")");
            return inside;
        }
        String word = peek().text();
        if (NAMES.contains(word)) {
            knot(into);
            return names -> BigInteger.valueOf(names.get(word));
        }
        int before = at;
        BigInteger n = BigInteger.valueOf(number(0, 9999));
        at = before;
        knot(into);
        return names -> n;
    }

    private static Node join(String sign, Node left, Node right) {
        return names -> {
            BigInteger a = left.value(names);
            BigInteger b = right.value(names);
            int c = a.compareTo(b);
            BigInteger v = switch (sign) {
                case "+" -> a.add(b);
                case "-" -> a.subtract(b);
                case "*" -> a.multiply(b);
                case "/" -> a.divide(b);
                case "and" -> bit(a.signum() != 0 && b.signum() != 0);
                case "or" -> bit(a.signum() != 0 || b.signum() != 0);
                case "<" -> bit(c < 0);
                case "<=" -> bit(c <= 0);
                case "=" -> bit(c == 0);
                case "<>" -> bit(c != 0);
                case ">=" -> bit(c >= 0);
                default -> bit(c > 0);
            };
            if (v.abs().compareTo(LIMIT) > 0) {
                throw new ArithmeticException("beyond the limit");
            }
            return v;
        };
    }

    private static BigInteger bit(boolean is) {
        return is ? BigInteger.ONE : BigInteger.ZERO;
    }

    public int fault(int what) {
        return switch (what) {
            case 0 -> fault == null ? 0 : fault.kind;
            case 1 -> fault == null ? -1 : fault.place;
            default -> -1;
        };
    }

    // ---- what is told

    private boolean isParty(int p) {
        return p >= 0 && p < text.parties.size();
    }

    private boolean isSitting(int s) {
        return s >= 0 && s < text.sittings.size();
    }

    private int size(int p) {
        return text.parties.get(p).size();
    }

    public int named(int letters) {
        for (int p = 0; p < text.parties.size(); p++) {
            StringBuilder bits = new StringBuilder();
            for (char c : text.parties.get(p).name.toCharArray()) {
                String five = Integer.toBinaryString(c - 'a' + 1);
                bits.append("0".repeat(5 - five.length())).append(five);
            }
            bits.append("0".repeat(30 - bits.length()));
            if (Integer.parseInt(bits.toString(), 2) == letters) {
                return p;
            }
        }
        return -1;
    }

    public int party(int party, int what) {
        if (!isParty(party)) {
            throw new IndexOutOfBoundsException();
        }
        int[] numbers = text.parties.get(party).numbers;
        return switch (what) {
            case 0 -> numbers[0];
            case 1, 2, 3 -> numbers[what + 3];
            case 4 -> world.ticket[party];
            case 5 -> world.meals[party];
            case 6 -> world.cross[party];
            case 7 -> world.away[party];
            case 8 -> world.hungryTimes[party];
            default -> throw new NoSuchElementException();
        };
    }

    public int wish(int party, int sitting) {
        return isParty(party) && sitting >= 0 && sitting < 3 ? text.parties.get(party).wish(sitting) : -1;
    }

    public int sitting(int sitting, int what) {
        if (!isSitting(sitting) || what < 0 || what > 8) {
            return -1;
        }
        return switch (what) {
            case 0 -> text.sittings.get(sitting)[0];
            case 1 -> world.price[sitting];
            case 2 -> world.sign[sitting];
            case 3 -> ticketed(world.ticket, sitting);
            default -> world.latest == null ? -1 : world.latest[sitting][what - 4];
        };
    }

    private int ticketed(int[] ticket, int sitting) {
        int sum = 0;
        for (int p = 0; p < text.parties.size(); p++) {
            sum += ticket[p] == sitting ? size(p) : 0;
        }
        return sum;
    }

    /** An E's value, or null: an ERROR or no such law. */
    private Long lawOf(String rule, World w, Manner m, int p, int s, int late) {
        Node law = text.laws.get(rule);
        if (law == null) {
            return null;
        }
        Party party = text.parties.get(p);
        try {
            return law.value(Map.of("size", party.size(), "wish", party.wish(s), "late", late, "price", w.price[s],
                    "coffee", m.coffees[p], "absent", party.numbers[6], "date", w.date)).longValueExact();
        } catch (ArithmeticException e) {
            return null;
        }
    }

    private int bounded(Long value, int most, int without) {
        return value == null ? without : (int) (value < 0 ? 0 : value > most ? most : value);
    }

    private int like(World w, Manner m, int p, int s, int late) {
        return bounded(lawOf("like", w, m, p, s, late), 99, text.parties.get(p).wish(s));
    }

    private int stay(World w, Manner m, int p, int s, int late) {
        return bounded(lawOf("stay", w, m, p, s, late), 99, m.coffees[p]);
    }

    private int miss(World w, Manner m, int p, int s, int late) {
        return bounded(lawOf("miss", w, m, p, s, late), 100, text.parties.get(p).numbers[6]);
    }

    public long law(int what, int party, int sitting, int late) {
        if (what < 0 || what > 2 || !isParty(party) || !isSitting(sitting) || late < 0 || late > 999) {
            return Long.MIN_VALUE;
        }
        Long v = lawOf(List.of("like", "stay", "miss").get(what), world, new Manner(text), party, sitting, late);
        return v == null ? Long.MIN_VALUE : v;
    }

    // ---- calls that change

    private void undoable(Runnable undo) {
        undos.addLast(undo);
        if (undos.size() > 20) {
            undos.removeFirst();
        }
    }

    public boolean give(int party, int sitting) {
        if (!isParty(party) || !isSitting(sitting) && sitting != -1) {
            return false;
        }
        int former = world.ticket[party];
        int[] then = world.ticket.clone();
        then[party] = sitting;
        if (former == sitting || sitting >= 0 && ticketed(then, sitting) > text.get("seats") + text.get("over")) {
            return false;
        }
        world.ticket = then;
        undoable(() -> world.ticket[party] = former);
        return true;
    }

    public boolean sign(int sitting, int sign) {
        if (!isSitting(sitting) || sign < 0 || sign > 3 || world.sign[sitting] == sign) {
            return false;
        }
        int former = world.sign[sitting];
        world.sign[sitting] = sign;
        undoable(() -> world.sign[sitting] = former);
        return true;
    }

    public boolean price(int sitting, int price) {
        if (!isSitting(sitting) || price < 0 || price > 99 || world.price[sitting] == price) {
            return false;
        }
        int former = world.price[sitting];
        world.price[sitting] = price;
        undoable(() -> world.price[sitting] = former);
        return true;
    }

    public int undo() {
        if (undos.isEmpty()) {
            return -1;
        }
        undos.removeLast().run();
        return undos.size();
    }

    public int keep() {
        image = world.copy();
        return world.date;
    }

    public int back() {
        if (image == null) {
            return -1;
        }
        world = image.copy();
        undos.clear();
        return world.date;
    }

    // ---- days

    private void day(World w, Manner m) {
        List<Integer> standing = new ArrayList<>();
        int[][] seen = new int[text.sittings.size()][];
        int laid = Integer.MIN_VALUE;
        for (int s = 0; s < text.sittings.size(); s++) {
            int begins = Math.max(m.minutes[s], laid);
            int late = begins - m.minutes[s];
            List<Integer> come = new ArrayList<>(standing);
            for (int p = 0; p < text.parties.size(); p++) {
                if (w.ticket[p] == s) {
                    if (misses(w, m, p, s, late)) {
                        w.away[p]++;
                    } else {
                        come.add(p);
                    }
                }
            }
            standing = new ArrayList<>();
            int sat = 0;
            int ends = begins;
            for (int p : come) {
                if (m.seats - sat < size(p)) {
                    standing.add(p);
                    continue;
                }
                sat += size(p);
                ends = Math.max(ends, eats(w, m, p, s, begins, late));
            }
            standing.sort(null);
            int stood = standing.stream().mapToInt(this::size).sum();
            seen[s] = new int[] {begins, late, sat, stood, ends};
            laid = ends;
            for (int work = text.get("lay"); sat > 0 && work > 0; work -= m.hands) {
                laid++;
            }
        }
        for (int p : standing) {
            w.hungryTimes[p]++;
            w.hungry += size(p);
        }
        w.latest = seen;
        w.date++;
    }

    private boolean misses(World w, Manner m, int p, int s, int late) {
        if (m.gone == p) {
            return true;
        }
        if (m.nobodyMisses) {
            return false;
        }
        int miss = miss(w, m, p, s, late);
        if (!m.numbers) {
            return miss >= 50;
        }
        if (miss == 0) {
            return false;
        }
        w.number = (w.number * 1103515245L + 12345L) % (1L << 31);
        return w.number / 65536 % 100 < miss;
    }

    /** One who sits: when it rises. */
    private int eats(World w, Manner m, int p, int s, int begins, int late) {
        int meal = text.get("meal");
        w.meals[p]++;
        for (int person = 0; person < size(p); person++) {
            w.paid += w.price[s];
            w.glad += like(w, m, p, s, late);
        }
        if (begins + meal > text.parties.get(p).numbers[4]) {
            w.cross[p]++;
        }
        int stay = m.nobodyStays ? 0 : stay(w, m, p, s, late);
        if (stay > 0 && w.sign[s] > 0) {
            w.cross[p] += w.sign[s];
        }
        int taken = switch (w.sign[s]) {
            case 0 -> 0;
            case 1 -> stay / 4;
            case 2 -> stay / 2;
            default -> stay;
        };
        return begins + meal + stay - taken;
    }

    public int days(int n) {
        if (n < 0 || n > 99 || world.date + n > 9999) {
            return -1;
        }
        Manner m = new Manner(text);
        m.numbers = true;
        for (int k = 0; k < n; k++) {
            day(world, m);
            undos.clear();
        }
        return world.date;
    }

    // ---- what would be

    private int[] bestRow() {
        int n = text.parties.size();
        int choices = text.sittings.size() + 1;
        int[] row = new int[n];
        int[] best = null;
        int bestSum = -1;
        Manner m = new Manner(text);
        int[][] likes = new int[n][choices];
        for (int p = 0; p < n; p++) {
            for (int s = 0; s + 1 < choices; s++) {
                likes[p][s + 1] = like(world, m, p, s, 0);
            }
        }
        for (long code = 0; code < Math.pow(choices, n); code++) {
            long rest = code;
            for (int p = n - 1; p >= 0; p--) {
                row[p] = (int) (rest % choices);
                rest /= choices;
            }
            int sum = worth(row, likes);
            if (sum > bestSum) {
                bestSum = sum;
                best = row.clone();
            }
        }
        int[] answer = java.util.Arrays.copyOf(best, n + 1);
        answer[n] = bestSum;
        return answer;
    }

    private int worth(int[] row, int[][] likes) {
        int[] persons = new int[4];
        int sum = 0;
        for (int p = 0; p < row.length; p++) {
            if (row[p] == 0) {
                continue;
            }
            persons[row[p]] += size(p);
            boolean inTime = text.sittings.get(row[p] - 1)[0] + text.get("meal") <= text.parties.get(p).numbers[4];
            if (!inTime || persons[row[p]] > text.get("seats") + text.get("over")) {
                return -1;
            }
            sum += likes[p][row[p]] * size(p);
        }
        return sum;
    }

    public int best(int party) {
        if (!isParty(party)) {
            return -1;
        }
        int pick = bestRow()[party];
        return pick == 0 ? -2 : pick - 1;
    }

    public int bestSum() {
        return bestRow()[text.parties.size()];
    }

    private int chosen(int party, int[] prices) {
        int best = -2;
        int most = -1;
        for (int s = 0; s < text.sittings.size(); s++) {
            int gain = text.parties.get(party).wish(s) - prices[s];
            if (gain >= 0 && gain > most) {
                most = gain;
                best = s;
            }
        }
        return best;
    }

    public int choice(int party) {
        return isParty(party) ? chosen(party, world.price) : -1;
    }

    public int level(int sitting) {
        if (!isSitting(sitting)) {
            return -1;
        }
        int n = text.sittings.size();
        for (int sum = 0; sum <= 27; sum++) {
            for (int a = 0; a <= 9; a++) {
                for (int b = 0; b <= (n > 1 ? 9 : 0); b++) {
                    for (int c = 0; c <= (n > 2 ? 9 : 0); c++) {
                        int[] prices = {a, b, c};
                        if (a + b + c == sum && isLevel(prices)) {
                            return prices[sitting];
                        }
                    }
                }
            }
        }
        return -2;
    }

    private boolean isLevel(int[] prices) {
        int[] persons = new int[3];
        for (int p = 0; p < text.parties.size(); p++) {
            int s = chosen(p, prices);
            if (s >= 0) {
                persons[s] += size(p);
            }
        }
        return java.util.Arrays.stream(persons).allMatch(k -> k <= text.get("seats"));
    }

    public long crowd(int sitting, int what) {
        if (!isSitting(sitting) || what < 0 || what > 1) {
            return -1;
        }
        List<Integer> holders = new ArrayList<>();
        for (int p = 0; p < text.parties.size(); p++) {
            if (world.ticket[p] == sitting) {
                holders.add(p);
            }
        }
        BigInteger above = BigInteger.ZERO;
        BigInteger below = BigInteger.valueOf(100).pow(holders.size());
        for (int set = 0; set < 1 << holders.size(); set++) {
            BigInteger part = BigInteger.ONE;
            int persons = 0;
            for (int k = 0; k < holders.size(); k++) {
                int p = holders.get(k);
                int miss = miss(world, new Manner(text), p, sitting, 0);
                boolean comes = (set >> k & 1) == 1;
                persons += comes ? size(p) : 0;
                part = part.multiply(BigInteger.valueOf(comes ? 100 - miss : miss));
            }
            if (persons > text.get("seats")) {
                above = above.add(part);
            }
        }
        BigInteger common = above.gcd(below);
        return (what == 0 ? above : below).divide(common).longValueExact();
    }

    private int[][] today(World w, Manner m) {
        World copy = w.copy();
        day(copy, m);
        return copy.latest;
    }

    public int late(int sitting) {
        return isSitting(sitting) ? today(world, new Manner(text))[sitting][1] : -1;
    }

    public int catchUp(int sitting) {
        if (!isSitting(sitting) || sitting == 0) {
            return -1;
        }
        for (int sign = 0; sign < 4; sign++) {
            World w = world.copy();
            w.sign[sitting - 1] = sign;
            if (today(w, new Manner(text))[sitting][1] == 0) {
                return sign;
            }
        }
        return -2;
    }

    public int hands() {
        for (int hands = 1; hands < 10; hands++) {
            Manner m = new Manner(text);
            m.hands = hands;
            if (java.util.Arrays.stream(today(world, m)).allMatch(seen -> seen[1] == 0)) {
                return hands;
            }
        }
        return -2;
    }

    public int empties(int sitting) {
        return isSitting(sitting) ? text.get("seats") - today(world, new Manner(text))[sitting][2] : -1;
    }

    public int likes(int party, int sitting) {
        return isParty(party) && isSitting(sitting) ? like(world, new Manner(text), party, sitting, 0) : -1;
    }

    public int stays(int party, int sitting) {
        return isParty(party) && isSitting(sitting) ? stay(world, new Manner(text), party, sitting, 0) : -1;
    }

    public int misses(int party, int sitting) {
        return isParty(party) && isSitting(sitting) ? miss(world, new Manner(text), party, sitting, 0) : -1;
    }

    public int mostCross(int what) {
        if (what < 0 || what > 1 || text.parties.isEmpty()) {
            return -1;
        }
        int most = java.util.Arrays.stream(world.cross).max().getAsInt();
        for (int p = 0; what == 0; p++) {
            if (world.cross[p] == most) {
                return p;
            }
        }
        return most;
    }

    public int without() {
        return ticketed(world.ticket, -1);
    }

    private int likeOf(int party, int sitting) {
        return sitting == -1 ? 0 : likes(party, sitting);
    }

    public int swap(int what) {
        if (what < 0 || what > 1) {
            return -1;
        }
        int most = text.get("seats") + text.get("over");
        for (int a = 0; a < text.parties.size(); a++) {
            for (int b = a + 1; b < text.parties.size(); b++) {
                int[] then = world.ticket.clone();
                then[a] = world.ticket[b];
                then[b] = world.ticket[a];
                boolean fits = true;
                for (int s = 0; s < text.sittings.size(); s++) {
                    fits &= ticketed(then, s) <= most;
                }
                if (fits && likeOf(a, then[a]) > likeOf(a, then[b]) && likeOf(b, then[b]) > likeOf(b, then[a])) {
                    return what == 0 ? a : b;
                }
            }
        }
        return -2;
    }

    public int later(int sitting) {
        if (!isSitting(sitting)) {
            return -1;
        }
        Manner m = new Manner(text);
        int answer = 0;
        for (int s = 0; s <= sitting; s++) {
            answer = today(world, m)[s][1];
            m.minutes[s] += answer;
        }
        return answer;
    }

    private List<Integer> allRests(int one, int other) {
        List<Integer> all = new ArrayList<>();
        int a = text.parties.get(one).numbers[5];
        int b = text.parties.get(other).numbers[5];
        int[][] first = {{0, 0}, {a, a - 2 * b}};
        int[][] second = {{0, b}, {0, b - 2 * a}};
        for (int i = 0; i < 2; i++) {
            for (int j = 0; j < 2; j++) {
                if (first[i][j] >= first[1 - i][j] && second[i][j] >= second[i][1 - j]) {
                    all.add(10 * i + j);
                }
            }
        }
        return all;
    }

    public int rests(int one, int other) {
        return isParty(one) && isParty(other) && one != other ? allRests(one, other).size() : -1;
    }

    public int rest(int one, int other, int k) {
        if (!isParty(one) || !isParty(other) || one == other || k < 0) {
            return -1;
        }
        List<Integer> all = allRests(one, other);
        return k < all.size() ? all.get(k) : -2;
    }

    // ---- notes

    public int note(int sitting, int late, boolean atLeast) {
        if (!isSitting(sitting) || late < 0 || late > 999 || notes.size() == 24) {
            return -1;
        }
        notes.add(new Note(sitting, late, atLeast, -1));
        return notes.size() - 1;
    }

    public int out(int note) {
        if (note < 0 || note >= notes.size() || notes.size() == 24) {
            return -1;
        }
        notes.add(new Note(-1, 0, false, note));
        return notes.size() - 1;
    }

    public boolean known(int n) {
        if (n < -1 || n > notes.size()) {
            return false;
        }
        knownBy = n;
        return true;
    }

    private int knownNumber() {
        return knownBy < 0 ? notes.size() : knownBy;
    }

    private boolean isStruck(int note) {
        for (int k = note + 1; k < knownNumber(); k++) {
            if (notes.get(k).strikes() == note && !isStruck(k)) {
                return true;
            }
        }
        return false;
    }

    public int lingered() {
        Set<Integer> struck = new HashSet<>();
        for (int k = knownNumber() - 1; k >= 0; k--) {
            if (isStruck(k)) {
                struck.add(k);
            }
        }
        int bits = 0;
        for (int who = 0; who <= text.parties.size(); who++) {
            World w = world.copy();
            w.date = 0;
            Manner m = new Manner(text);
            if (who < text.parties.size()) {
                m.coffees[who] = Math.min(99, m.coffees[who] + 20);
            }
            int[][] seen = today(w, m);
            boolean all = true;
            for (int k = 0; k < knownNumber(); k++) {
                Note note = notes.get(k);
                if (note.strikes() < 0 && !struck.contains(k)) {
                    int late = seen[note.sitting()][1];
                    all &= note.atLeast() ? late >= note.late() : late < note.late();
                }
            }
            bits += all ? 1 << who : 0;
        }
        return bits;
    }

    // ---- days by chance, tried

    public int chance(int seed, int n, int hungry) {
        if (seed < 0 || n < 1 || n > 20 || hungry < 0 || hungry > 9999) {
            return -1;
        }
        long number = seed;
        int times = 0;
        for (int k = 0; k < 10; k++) {
            World w = world.copy();
            w.hungry = 0;
            w.number = number;
            Manner m = new Manner(text);
            m.numbers = true;
            for (int d = 0; d < n; d++) {
                day(w, m);
            }
            number = w.number;
            times += w.hungry <= hungry ? 1 : 0;
        }
        return times;
    }

    public int tried(int what, int i, int n) {
        if (what < 0 || what > 5 || n < 0 || n > 20 || (what == 2 ? !isParty(i) : i != 0)) {
            return -1;
        }
        Manner m = new Manner(text);
        m.nobodyMisses = what == 1;
        m.gone = what == 2 ? i : -1;
        m.seats += what == 3 ? 4 : 0;
        m.nobodyStays = what == 4;
        m.hands = what == 5 ? 9 : m.hands;
        World w = world.copy();
        w.glad = 0;
        for (int d = 0; d < n; d++) {
            day(w, m);
        }
        return w.glad;
    }

    public int count(int what) {
        return switch (what) {
            case 0 -> text.parties.size();
            case 1 -> text.sittings.size();
            case 2 -> text.get("seats");
            case 3 -> text.parties.stream().mapToInt(Party::size).sum();
            case 4 -> text.get("over");
            case 5 -> text.knots;
            case 6 -> world.date;
            case 7 -> world.glad;
            case 8 -> java.util.Arrays.stream(world.cross).sum();
            case 9 -> world.hungry;
            case 10 -> world.paid;
            case 11 -> count(3) - without();
            case 12 -> notes.size();
            case 13 -> knownNumber();
            case 14 -> undos.size();
            default -> -1;
        };
    }
}
