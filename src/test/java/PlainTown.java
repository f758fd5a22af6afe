import java.nio.charset.StandardCharsets;
import java.util.ArrayList;
import java.util.Arrays;
import java.util.Collections;
import java.util.Comparator;
import java.util.HashSet;
import java.util.List;
import java.util.NoSuchElementException;
import java.util.Set;
import java.util.TreeMap;
import java.util.TreeSet;

/** The document said once more, word by word and without any care for speed: RandomRunsTest compares with it. */
final class PlainTown {
    static final class House {
        int x;
        int y;
        int loud;
        int coins;
        boolean deaf;
        String[] code = new String[10];

        House copy() {
            House h = new House();
            h.x = x;
            h.y = y;
            h.loud = loud;
            h.coins = coins;
            h.deaf = deaf;
            h.code = code.clone();
            return h;
        }
    }

    static final class Ringing {
        final int minute;
        final int house;
        final int want;
        final String word;

        Ringing(int minute, int house, int want, String word) {
            this.minute = minute;
            this.house = house;
            this.want = want;
            this.word = word;
        }
    }

    static final class State {
        List<House> houses = new ArrayList<>();
        List<Integer> wants = new ArrayList<>();
        int windX;
        int windY;
        int texts;
        int council;
        List<Line> law;
        List<Ringing> ringings = new ArrayList<>();

        State copy() {
            State s = new State();
            for (House h : houses) {
                s.houses.add(h.copy());
            }
            s.wants.addAll(wants);
            s.windX = windX;
            s.windY = windY;
            s.texts = texts;
            s.council = council;
            s.law = law;
            s.ringings.addAll(ringings);
            return s;
        }
    }

    interface Sum {
        int of(int[] facts);
    }

    interface Cond {
        boolean of(int[] facts);
    }

    static final class Line {
        int n;
        Cond cond;
    }

    static final class Wrong extends Exception {
        private static final long serialVersionUID = 1L;
        final int at;

        Wrong(int at) {
            this.at = at;
        }
    }

    private State s = new State();
    private State image;
    private byte[] tape = new byte[0];
    private int fault = -1;

    int feed(int a, int b, int c, int d, int e) {
        if (tape.length + 20 > 400) {
            return -1;
        }
        int[] all = {a, b, c, d, e};
        byte[] longer = Arrays.copyOf(tape, tape.length + 20);
        for (int i = 0; i < 20; i++) {
            longer[tape.length + i] = (byte) (all[i / 4] >>> (24 - 8 * (i % 4)));
        }
        tape = longer;
        return tape.length;
    }

    boolean end(int n) {
        if (n < 0 || n > tape.length) {
            return false;
        }
        tape = Arrays.copyOf(tape, n);
        return true;
    }

    // ---- texts

    private static List<String> things;
    private static List<Integer> places;
    private static int at;

    private static void cut(String text) {
        things = new ArrayList<>();
        places = new ArrayList<>();
        at = 0;
        int i = 0;
        while (i < text.length()) {
            char c = text.charAt(i);
            if (c == ' ') {
                i++;
                continue;
            }
            int j = i + 1;
            if (c >= 'a' && c <= 'z') {
                while (j < text.length() && text.charAt(j) >= 'a' && text.charAt(j) <= 'z') {
                    j++;
                }
            } else if (c >= '0' && c <= '9') {
                while (j < text.length() && text.charAt(j) >= '0' && text.charAt(j) <= '9') {
                    j++;
                }
            }
            things.add(text.substring(i, j));
            places.add(i);
            i = j;
        }
        things.add("");
        places.add(text.length());
    }

    private static String see() {
        return things.get(at);
    }

    private static Wrong wrong() {
        return new Wrong(places.get(at));
    }

    private static void expect(String thing) throws Wrong {
        if (!see().equals(thing)) {
            throw wrong();
        }
        at++;
    }

    private static int number(int low, int high) throws Wrong {
        if (!see().matches("[0-9]{1,3}")) {
            throw wrong();
        }
        int n = Integer.parseInt(see());
        if (n < low || n > high) {
            throw wrong();
        }
        at++;
        return n;
    }

    private static void townText(State t, String text) throws Wrong {
        cut(text);
        int lines = 0;
        while (!see().isEmpty() || lines > 0) {
            if (lines > 0) {
                if (see().isEmpty()) {
                    return;
                }
                expect(";");
            }
            if (lines == 14) {
                throw wrong();
            }
            lines++;
            townLine(t);
        }
    }

    private static void townLine(State t) throws Wrong {
        String first = see();
        switch (first) {
            case "house": {
                if (t.houses.size() == 8) {
                    throw wrong();
                }
                at++;
                House h = new House();
                h.x = number(0, 15);
                h.y = number(0, 15);
                h.loud = number(1, 30);
                h.coins = number(0, 999);
                if (see().equals("deaf")) {
                    h.deaf = true;
                    at++;
                }
                t.houses.add(h);
                break;
            }
            case "want":
                if (t.wants.size() == 10) {
                    throw wrong();
                }
                at++;
                t.wants.add(number(1, 99));
                break;
            case "code":
            case "none": {
                at++;
                int h = number(0, t.houses.size() - 1);
                int w = number(0, t.wants.size() - 1);
                String word = null;
                if (first.equals("code")) {
                    word = see();
                    if (!word.matches("[ab]{1,8}")) {
                        throw wrong();
                    }
                    at++;
                }
                t.houses.get(h).code[w] = word;
                break;
            }
            case "wind":
            case "gale": {
                at++;
                int sign = first.equals("wind") ? 1 : -1;
                int x = number(0, 9);
                int y = number(0, 9);
                t.windX = sign * x;
                t.windY = sign * y;
                break;
            }
            default:
                throw wrong();
        }
    }

    int town() {
        String text = new String(tape, StandardCharsets.ISO_8859_1);
        tape = new byte[0];
        State next = s.copy();
        try {
            townText(next, text);
            fault = -1;
        } catch (Wrong w) {
            fault = w.at;
            throw new IllegalArgumentException();
        }
        if (s.texts == 10) {
            throw new UnsupportedOperationException();
        }
        s = next;
        s.texts++;
        return s.texts;
    }

    private static List<Line> lawText(String text) throws Wrong {
        cut(text);
        List<Line> lines = new ArrayList<>();
        if (see().isEmpty()) {
            return lines;
        }
        while (true) {
            if (lines.size() == 12) {
                throw wrong();
            }
            Line line = new Line();
            expect("first");
            line.n = number(0, 999);
            if (see().equals("if")) {
                at++;
                line.cond = cond(0);
            }
            lines.add(line);
            if (see().isEmpty()) {
                return lines;
            }
            expect(";");
        }
    }

    private static Cond cond(int deep) throws Wrong {
        Cond left = all(deep);
        while (see().equals("or")) {
            at++;
            Cond a = left;
            Cond b = all(deep);
            left = f -> a.of(f) || b.of(f);
        }
        return left;
    }

    private static Cond all(int deep) throws Wrong {
        Cond left = atom(deep);
        while (see().equals("and")) {
            at++;
            Cond a = left;
            Cond b = atom(deep);
            left = f -> a.of(f) && b.of(f);
        }
        return left;
    }

    private static Cond atom(int deep) throws Wrong {
        if (see().equals("not") || see().equals("(")) {
            if (deep == 6) {
                throw wrong();
            }
            boolean not = see().equals("not");
            at++;
            if (not) {
                Cond c = atom(deep + 1);
                return f -> !c.of(f);
            }
            Cond c = cond(deep + 1);
            expect(")");
            return c;
        }
        Sum a = sum();
        boolean less = see().equals("<");
        if (!less && !see().equals(">")) {
            throw wrong();
        }
        at++;
        Sum b = sum();
        return less ? f -> a.of(f) < b.of(f) : f -> a.of(f) > b.of(f);
    }

    private static Sum sum() throws Wrong {
        Sum left = part();
        while (see().equals("+")) {
            at++;
            Sum a = left;
            Sum b = part();
            left = f -> a.of(f) + b.of(f);
        }
        return left;
    }

    private static Sum part() throws Wrong {
        int fact = Arrays.asList("house", "coins", "urgent", "cost", "waited").indexOf(see());
        if (fact >= 0) {
            at++;
            return f -> f[fact];
        }
        int n = number(0, 999);
        return f -> n;
    }

    int law() {
        String text = new String(tape, StandardCharsets.ISO_8859_1);
        tape = new byte[0];
        try {
            s.law = lawText(text);
            fault = -1;
        } catch (Wrong w) {
            fault = w.at;
            throw new IllegalArgumentException();
        }
        return s.law.size();
    }

    int fault() {
        return fault;
    }

    // ---- simple questions

    private House h(int house) {
        if (house < 0 || house >= s.houses.size()) {
            throw new IndexOutOfBoundsException();
        }
        return s.houses.get(house);
    }

    private int urgent(int want) {
        if (want < 0 || want >= s.wants.size()) {
            throw new IndexOutOfBoundsException();
        }
        return s.wants.get(want);
    }

    private Ringing r(int ringing) {
        if (ringing < 0 || ringing >= s.ringings.size()) {
            throw new IndexOutOfBoundsException();
        }
        return s.ringings.get(ringing);
    }

    private static int number(String word) {
        return Integer.parseInt("1" + word.replace('a', '0').replace('b', '1'), 2);
    }

    private static String text(int word) {
        return Integer.toBinaryString(word).substring(1).replace('0', 'a').replace('1', 'b');
    }

    private static String given(int word) {
        if (word < 2 || word > 511) {
            throw new IllegalArgumentException();
        }
        return text(word);
    }

    private static int costOf(String word) {
        int sum = 0;
        for (char c : word.toCharArray()) {
            sum += c == 'a' ? 1 : 2;
        }
        return sum;
    }

    private static String begin(String word, int n) {
        return word.substring(0, Math.min(n, word.length()));
    }

    private int wordsOf(House h) {
        int n = 0;
        for (String word : h.code) {
            n += word == null ? 0 : 1;
        }
        return n;
    }

    int house(int house, int what) {
        House h = h(house);
        int[] all = {h.x, h.y, h.loud, h.coins, h.deaf ? 1 : 0, wordsOf(h)};
        if (what < 0 || what > 5) {
            throw new NoSuchElementException();
        }
        return all[what];
    }

    int want(int want) {
        return urgent(want);
    }

    int code(int house, int want) {
        House h = h(house);
        urgent(want);
        return h.code[want] == null ? -1 : number(h.code[want]);
    }

    int cost(int word) {
        return costOf(given(word));
    }

    private int far(int i, int j) {
        House a = h(i);
        House b = h(j);
        return Math.abs(b.x + s.windX - a.x) + Math.abs(b.y + s.windY - a.y);
    }

    private boolean hears(int i, int j) {
        return i != j && !h(i).deaf && far(i, j) <= h(j).loud;
    }

    private int clear(int i, int j) {
        return Math.floorDiv(h(j).loud - far(i, j), 3) + 1;
    }

    private boolean harm(int i, int j) {
        if (i == j) {
            return false;
        }
        for (int k = 0; k < s.houses.size(); k++) {
            if (hears(k, i) && hears(k, j)) {
                return true;
            }
        }
        return hears(i, j) || hears(j, i);
    }

    int way(int i, int j, int what) {
        h(i);
        h(j);
        switch (what) {
            case 0:
                return far(i, j);
            case 1:
                return hears(i, j) ? 1 : 0;
            case 2:
                return hears(i, j) ? clear(i, j) : 0;
            case 3:
                return harm(i, j) ? 1 : 0;
            default:
                throw new NoSuchElementException();
        }
    }

    // ---- evenings

    int ring(int minute, int house, int want) {
        House h = h(house);
        urgent(want);
        if (minute < 0 || minute > 999 || h.code[want] == null) {
            throw new IllegalArgumentException();
        }
        if (s.ringings.size() == 12) {
            throw new UnsupportedOperationException();
        }
        s.ringings.add(new Ringing(minute, house, want, h.code[want]));
        return s.ringings.size() - 1;
    }

    int hush() {
        int n = s.ringings.size();
        s.ringings.clear();
        return n;
    }

    int undo() {
        if (s.ringings.isEmpty()) {
            return -1;
        }
        s.ringings.remove(s.ringings.size() - 1);
        return s.ringings.size();
    }

    /** The minutes in which each stroke that comes to a house sounds. */
    private List<Set<Integer>> strokesAt(Ringing r, int house) {
        List<Set<Integer>> strokes = new ArrayList<>();
        if (!hears(house, r.house)) {
            return strokes;
        }
        int minute = r.minute;
        for (char c : begin(r.word, clear(house, r.house)).toCharArray()) {
            Set<Integer> minutes = new HashSet<>();
            minutes.add(minute++);
            if (c == 'b') {
                minutes.add(minute++);
            }
            strokes.add(minutes);
        }
        return strokes;
    }

    /** What came, or null without hearing. */
    private String came(int ringing, int house) {
        Ringing r = s.ringings.get(ringing);
        if (!hears(house, r.house)) {
            return null;
        }
        int n = 0;
        for (Set<Integer> stroke : strokesAt(r, house)) {
            for (int other = 0; other < s.ringings.size(); other++) {
                if (other != ringing) {
                    for (Set<Integer> its : strokesAt(s.ringings.get(other), house)) {
                        if (!Collections.disjoint(its, stroke)) {
                            return r.word.substring(0, n);
                        }
                    }
                }
            }
            n++;
        }
        return r.word.substring(0, n);
    }

    private int takenFor(int ringer, String came) {
        for (int want = 0; came != null && !came.isEmpty() && want < s.wants.size(); want++) {
            if (came.equals(h(ringer).code[want])) {
                return want;
            }
        }
        return -1;
    }

    int heard(int ringing, int house) {
        r(ringing);
        h(house);
        String came = came(ringing, house);
        return came == null ? 0 : number(came);
    }

    int taken(int ringing, int house) {
        r(ringing);
        h(house);
        return takenFor(r(ringing).house, came(ringing, house));
    }

    int sure(int ringing, boolean wrong) {
        Ringing r = r(ringing);
        int n = 0;
        for (int house = 0; house < s.houses.size(); house++) {
            int taken = taken(ringing, house);
            if (wrong ? taken != -1 && taken != r.want : taken == r.want) {
                n++;
            }
        }
        return n;
    }

    int could(int ringing, int house) {
        Ringing r = r(ringing);
        h(house);
        String came = came(ringing, house);
        int bits = 0;
        for (int want = 0; want < s.wants.size(); want++) {
            String word = h(r.house).code[want];
            if (came != null && word != null && word.startsWith(came)) {
                bits |= 1 << want;
            }
        }
        return bits;
    }

    int understood(int house) {
        House h = h(house);
        State saved = s;
        int n = 0;
        for (int other = 0; other < saved.houses.size(); other++) {
            for (int want = 0; want < saved.wants.size(); want++) {
                if (h.code[want] != null) {
                    s = saved.copy();
                    s.ringings.clear();
                    s.ringings.add(new Ringing(0, house, want, h.code[want]));
                    n += taken(0, other) == want ? 1 : 0;
                }
            }
        }
        s = saved;
        return n;
    }

    int quiet(int house, int want, int from, int to) {
        House h = h(house);
        urgent(want);
        if (from < 0 || from > 999 || to < 0 || to > 999 || to < from || to > from + 60) {
            throw new IllegalArgumentException();
        }
        if (s.ringings.size() == 12) {
            throw new UnsupportedOperationException();
        }
        if (h.code[want] == null) {
            return -1;
        }
        int best = from;
        int most = -1;
        for (int minute = from; minute <= to; minute++) {
            int n = ring(minute, house, want);
            int right = sure(n, false);
            undo();
            if (right > most) {
                most = right;
                best = minute;
            }
        }
        return best;
    }

    int fooled(int ringer, int listener, int strokes) {
        h(ringer);
        h(listener);
        if (strokes < 1 || strokes > 8) {
            throw new IllegalArgumentException();
        }
        State saved = s;
        int n = 0;
        for (int word = 2; word <= 511; word++) {
            String t = text(word);
            if (t.length() == strokes) {
                s = saved.copy();
                s.ringings.clear();
                s.ringings.add(new Ringing(0, ringer, 0, t));
                n += taken(0, listener) != -1 ? 1 : 0;
            }
        }
        s = saved;
        return n;
    }

    private int seed;

    private int draw() {
        seed = (int) (1103515245L * seed + 12345L);
        return (int) ((seed & 0xffffffffL) / 65536 % 32768);
    }

    int evening(int firstSeed, int n, int what) {
        if (n < 1 || n > 12) {
            throw new IllegalArgumentException();
        }
        if (what < 0 || what > 3) {
            throw new NoSuchElementException();
        }
        if (s.houses.isEmpty() || s.wants.isEmpty()) {
            return 0;
        }
        State saved = s;
        s = s.copy();
        s.ringings.clear();
        seed = firstSeed;
        for (int i = 0; i < n; i++) {
            int minute = draw() % 20;
            int house = draw() % s.houses.size();
            int want = draw() % s.wants.size();
            if (h(house).code[want] != null) {
                ring(minute, house, want);
            }
        }
        int[] all = new int[4];
        for (int i = 0; i < s.ringings.size(); i++) {
            int right = sure(i, false);
            int wrong = sure(i, true);
            all[0] += right;
            all[1] += wrong;
            all[2] += right + wrong == 0 ? 1 : 0;
            all[3]++;
        }
        s = saved;
        return all[what];
    }

    // ---- codes

    private static boolean begins(String a, String b) {
        return a != null && b != null && (a.startsWith(b) || b.startsWith(a));
    }

    private static int begins(String[] code) {
        int n = 0;
        for (int a = 0; a < code.length; a++) {
            for (int b = a + 1; b < code.length; b++) {
                n += begins(code[a], code[b]) ? 1 : 0;
            }
        }
        return n;
    }

    int begins(int house) {
        return begins(h(house).code);
    }

    boolean safe(int house, int d) {
        House h = h(house);
        if (d < 0 || d > 8) {
            throw new IllegalArgumentException();
        }
        Set<String> seen = new HashSet<>();
        for (String word : h.code) {
            if (word != null && !seen.add(begin(word, d))) {
                return false;
            }
        }
        return true;
    }

    int buy(int house, int want, int word) {
        House h = h(house);
        urgent(want);
        String t = given(word);
        int price = 40 / costOf(t) + 1;
        if (h.coins < price) {
            return -1;
        }
        h.coins -= price;
        s.council += price;
        h.code[want] = t;
        return price;
    }

    void trade(int house, int other, int want) {
        House a = h(house);
        House b = h(other);
        urgent(want);
        if (house == other) {
            throw new IllegalArgumentException();
        }
        String word = a.code[want];
        a.code[want] = b.code[want];
        b.code[want] = word;
    }

    /** The costs of the leaves of every tree with n leaves. */
    private static List<List<Integer>> trees(int n) {
        List<List<Integer>> all = new ArrayList<>();
        if (n == 1) {
            all.add(new ArrayList<>(Arrays.asList(0)));
            return all;
        }
        for (int left = 1; left < n; left++) {
            for (List<Integer> a : trees(left)) {
                for (List<Integer> b : trees(n - left)) {
                    List<Integer> costs = new ArrayList<>();
                    a.forEach(c -> costs.add(c + 1));
                    b.forEach(c -> costs.add(c + 2));
                    Collections.sort(costs);
                    all.add(costs);
                }
            }
        }
        return all;
    }

    int least(int wants) {
        List<Integer> urgents = new ArrayList<>();
        for (int want = 0; want < s.wants.size(); want++) {
            if ((wants & 1 << want) != 0) {
                urgents.add(s.wants.get(want));
            }
        }
        if (urgents.size() > 6) {
            return -3;
        }
        if (urgents.size() < 2) {
            return urgents.isEmpty() ? 0 : urgents.get(0);
        }
        urgents.sort(Comparator.reverseOrder());
        int best = Integer.MAX_VALUE;
        for (List<Integer> costs : trees(urgents.size())) {
            int sum = 0;
            for (int i = 0; i < costs.size(); i++) {
                sum += costs.get(i) * urgents.get(i);
            }
            best = Math.min(best, sum);
        }
        return best;
    }

    int room(int house, int want, boolean word) {
        House h = h(house);
        urgent(want);
        if (h.code[want] != null) {
            throw new IllegalArgumentException();
        }
        int[] best = null;
        if (begins(house) == 0) {
            for (int way = 0; way <= 2 * s.wants.size(); way++) {
                String[] code = h.code.clone();
                int more = 0;
                if (way > 0) {
                    int other = (way - 1) / 2;
                    boolean b = (way - 1) % 2 == 1;
                    if (code[other] == null || code[other].length() == 8) {
                        continue;
                    }
                    code[other] += b ? "b" : "a";
                    more = urgent(other) * (b ? 2 : 1);
                }
                for (int n = 2; n <= 511; n++) {
                    code[want] = text(n);
                    int sum = more + urgent(want) * costOf(code[want]);
                    if ((best == null || sum < best[0]) && begins(code) == 0) {
                        best = new int[] {sum, n};
                    }
                }
            }
        }
        return best == null ? -1 : best[word ? 1 : 0];
    }

    private int worthOf(int house, int want, String t) {
        House h = h(house);
        String[] code = h.code.clone();
        code[want] = null;
        for (String other : code) {
            if (begins(other, t)) {
                return -1000000;
            }
        }
        int has = h.code[want] == null ? 17 : costOf(h.code[want]);
        return urgent(want) * (has - costOf(t));
    }

    int worth(int house, int want, int word) {
        h(house);
        urgent(want);
        return worthOf(house, want, given(word));
    }

    int sale(int want, int word, boolean fee) {
        urgent(want);
        String t = given(word);
        int buyer = -1;
        for (int house = 0; house < s.houses.size(); house++) {
            int worth = worthOf(house, want, t);
            if (worth > 0 && (buyer == -1 || worth > worthOf(buyer, want, t))) {
                buyer = house;
            }
        }
        if (buyer == -1 || !fee) {
            return buyer;
        }
        int most = 0;
        for (int house = 0; house < s.houses.size(); house++) {
            if (house != buyer) {
                most = Math.max(most, worthOf(house, want, t));
            }
        }
        return most;
    }

    // ---- sharing

    private boolean paint(int[] colour, int house, int colours) {
        if (house == colour.length) {
            return true;
        }
        for (int c = 0; c < colours; c++) {
            boolean free = true;
            for (int other = 0; other < house; other++) {
                free &= colour[other] != c || !harm(house, other);
            }
            colour[house] = c;
            if (free && paint(colour, house + 1, colours)) {
                return true;
            }
        }
        return false;
    }

    int colours(int house) {
        if (house != -1) {
            h(house);
        }
        int[] colour = new int[s.houses.size()];
        int colours = 0;
        while (!paint(colour, 0, colours)) {
            colours++;
        }
        return house == -1 ? colours : colour[house];
    }

    /** When each house knows it, if only these ring on. */
    private TreeMap<Integer, Integer> spread(int first, int want, int set) {
        TreeMap<Integer, Integer> knows = new TreeMap<>();
        knows.put(first, 0);
        for (int minute = 0; minute < 200; minute++) {
            for (int ringer = 0; ringer < s.houses.size(); ringer++) {
                String word = h(ringer).code[want];
                if (word == null || (set >> ringer & 1) == 0 || knows.getOrDefault(ringer, -1) != minute) {
                    continue;
                }
                for (int house = 0; house < s.houses.size(); house++) {
                    if (hears(house, ringer) && clear(house, ringer) >= word.length()) {
                        knows.merge(house, minute + costOf(word), Math::min);
                    }
                }
            }
        }
        return knows;
    }

    int relay(int first, int want, int house) {
        House f = h(first);
        urgent(want);
        h(house);
        if (f.code[want] == null) {
            throw new IllegalArgumentException();
        }
        return spread(first, want, 255).getOrDefault(house, -1);
    }

    int ringers(int first, int want) {
        House f = h(first);
        urgent(want);
        if (f.code[want] == null) {
            throw new IllegalArgumentException();
        }
        int best = -1;
        for (int set = 0; set < 1 << s.houses.size(); set++) {
            if ((set >> first & 1) == 0) {
                continue;
            }
            Set<Integer> knowing = spread(first, want, set).keySet();
            boolean all = true;
            for (int house = 0; house < s.houses.size(); house++) {
                all &= h(house).deaf || knowing.contains(house);
            }
            if (all && (best == -1 || Integer.bitCount(set) < Integer.bitCount(best))) {
                best = set;
            }
        }
        return best;
    }

    // ---- six o'clock

    private int turn(int house, int want, int minute) {
        int sum = 0;
        int[] facts = {house, h(house).coins, urgent(want), costOf(h(house).code[want]), minute};
        for (Line line : s.law == null ? new ArrayList<Line>() : s.law) {
            if (line.cond == null || line.cond.of(facts)) {
                sum += line.n;
            }
        }
        return sum;
    }

    private int atSix(int want, int what, List<Integer> order) {
        List<Integer> left = new ArrayList<>();
        for (int house = 0; house < s.houses.size(); house++) {
            if (h(house).code[want] != null) {
                left.add(house);
            }
        }
        TreeSet<Integer> overs = new TreeSet<>();
        overs.add(0);
        int waited = 0;
        int[] over = new int[8];
        for (int minute = 0; !left.isEmpty(); minute++) {
            int m = minute;
            List<Integer> queue = order != null ? new ArrayList<>(order) : new ArrayList<>(left);
            queue.retainAll(left);
            if (order == null) {
                queue.sort(Comparator.comparingInt((Integer house) -> -turn(house, want, m)).thenComparingInt(x -> x));
            }
            for (int house : queue) {
                boolean free = true;
                for (int other = 0; other < s.houses.size(); other++) {
                    free &= !(harm(house, other) && over[other] > minute);
                }
                if (free) {
                    over[house] = minute + costOf(h(house).code[want]);
                    overs.add(over[house]);
                    waited += minute;
                    left.remove((Integer) house);
                }
            }
        }
        return what == 0 ? waited : overs.last();
    }

    int six(int want, int what) {
        urgent(want);
        if (what < 0 || what > 1) {
            throw new NoSuchElementException();
        }
        return atSix(want, what, null);
    }

    int lot(int want, int firstSeed, int what) {
        urgent(want);
        if (what < 0 || what > 1) {
            throw new NoSuchElementException();
        }
        List<Integer> left = new ArrayList<>();
        for (int house = 0; house < s.houses.size(); house++) {
            if (h(house).code[want] != null) {
                left.add(house);
            }
        }
        List<Integer> order = new ArrayList<>();
        seed = firstSeed;
        while (!left.isEmpty()) {
            order.add(left.remove(draw() % left.size()));
        }
        return atSix(want, what, order);
    }

    // ---- learning

    int learn(int kind) {
        String text = new String(tape, StandardCharsets.ISO_8859_1);
        tape = new byte[0];
        if (!text.matches("[ab]{1,20} [A-Z]{1,6}")) {
            throw new IllegalArgumentException();
        }
        String[] both = text.split(" ");
        List<Character> kinds = new ArrayList<>();
        for (char c : both[1].toCharArray()) {
            if (!kinds.contains(c)) {
                kinds.add(c);
            }
        }
        if (kinds.size() > 3 || kind < -1 || kind >= kinds.size()) {
            throw new IllegalArgumentException();
        }
        int ways = 0;
        int[] first = null;
        int one = kinds.size() > 1 ? 15 : 2;
        int two = kinds.size() > 2 ? 15 : 2;
        for (int a = 2; a <= 15; a++) {
            for (int b = 2; b <= one; b++) {
                for (int c = 2; c <= two; c++) {
                    int[] words = {a, b, c};
                    Set<Integer> different = new HashSet<>();
                    StringBuilder row = new StringBuilder();
                    for (int k = 0; k < kinds.size(); k++) {
                        different.add(words[k]);
                    }
                    for (char letter : both[1].toCharArray()) {
                        row.append(text(words[kinds.indexOf(letter)]));
                    }
                    if (different.size() == kinds.size() && row.toString().equals(both[0])) {
                        ways++;
                        first = first == null ? words : first;
                    }
                }
            }
        }
        return kind == -1 ? ways : first == null ? -1 : first[kind];
    }

    // ---- image and counts

    void image() {
        image = s.copy();
    }

    boolean back() {
        if (image == null) {
            return false;
        }
        s = image.copy();
        return true;
    }

    int count(int what) {
        int words = 0;
        int coins = 0;
        int costs = 0;
        for (House h : s.houses) {
            coins += h.coins;
            words += wordsOf(h);
            for (String word : h.code) {
                costs += word == null ? 0 : costOf(word);
            }
        }
        int[] all = {s.houses.size(), s.wants.size(), s.texts, s.law == null ? -1 : s.law.size(), s.ringings.size(),
            words, coins, s.council, s.windX, s.windY, costs};
        return what < 0 || what >= all.length ? -1 : all[what];
    }
}
