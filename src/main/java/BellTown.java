import java.util.Arrays;
import java.util.NoSuchElementException;

/** A town of houses that say all they want by strokes of a bell; see README.md. */
public final class BellTown {
    public static final int NONE = -1;

    private static final int MAX_TAPE = 400;
    private static final int MAX_TEXTS = 10;
    private static final int MAX_TOWN_LINES = 14;
    private static final int MAX_LAW_LINES = 12;
    private static final int MAX_DEPTH = 6;
    private static final int MAX_HOUSES = 8;
    private static final int MAX_WANTS = 10;
    private static final int MAX_RINGINGS = 12;
    private static final int MAX_STROKES = 8;
    private static final int MAX_PLACE = 15;
    private static final int MAX_LOUD = 30;
    private static final int MAX_URGENT = 99;
    private static final int MAX_WIND = 9;
    private static final int MAX_DIGITS = 3;
    private static final int MAX_NUMBER = 999;
    private static final int LAST_MINUTE = 999;
    private static final int LEAST_WORD = 2;
    private static final int GREATEST_WORD = 511;
    private static final int LONGEST_QUIET = 60;
    private static final int DRAWN_MINUTES = 20;
    private static final int PRICE_OF_ALL = 40;
    private static final int COST_WITHOUT_WORD = 17;
    private static final int NO_WORTH = -1000000;

    private final byte[] tape = new byte[MAX_TAPE];
    private int tapeLength;
    private int wrongByte = NONE;
    private Town now = new Town();
    private Town spare = new Town();
    private final Town kept = new Town();
    private boolean hasImage;
    private final Ringings trial = new Ringings();
    private final int[] rights = new int[LONGEST_QUIET + 1];
    private final TownText townText = new TownText();
    private final LawText lawText = new LawText();
    private final Sharing sharing = new Sharing();
    private final Relays relays = new Relays();
    private final SixOClock sixOClock = new SixOClock();
    private final Codes codes = new Codes();
    private final Pupil pupil = new Pupil();

    public BellTown() {
    }

    public int feed(int a, int b, int c, int d, int e) {
        if (tapeLength + 20 > MAX_TAPE) {
            return NONE;
        }
        putOnTape(a);
        putOnTape(b);
        putOnTape(c);
        putOnTape(d);
        putOnTape(e);
        return tapeLength;
    }

    public boolean end(int n) {
        if (n < 0 || n > tapeLength) {
            return false;
        }
        tapeLength = n;
        return true;
    }

    public int town() throws IllegalArgumentException, UnsupportedOperationException {
        spare.copyFrom(now);
        wrongByte = townText.readInto(spare, tape, tapeLength);
        tapeLength = 0;
        if (wrongByte != NONE) {
            throw new IllegalArgumentException("the text is wrong");
        }
        if (now.texts >= MAX_TEXTS) {
            throw new UnsupportedOperationException("there are 10 texts");
        }
        Town before = now;
        now = spare;
        spare = before;
        now.texts++;
        now.measureWays();
        return now.texts;
    }

    public int law() throws IllegalArgumentException {
        wrongByte = lawText.readInto(spare.law, tape, tapeLength);
        tapeLength = 0;
        if (wrongByte != NONE) {
            throw new IllegalArgumentException("the text is wrong");
        }
        now.law.copyFrom(spare.law);
        return now.law.lines;
    }

    public int fault() {
        return wrongByte;
    }

    public int house(int house, int what) throws IndexOutOfBoundsException, NoSuchElementException {
        needHouse(house);
        switch (what) {
            case 0:
                return now.x[house];
            case 1:
                return now.y[house];
            case 2:
                return now.loud[house];
            case 3:
                return now.coins[house];
            case 4:
                return now.deaf[house];
            case 5:
                return now.wordsOf(house);
            default:
                throw new NoSuchElementException("a house has what 0 to 5");
        }
    }

    public int want(int want) throws IndexOutOfBoundsException {
        needWant(want);
        return now.urgent[want];
    }

    public int code(int house, int want) throws IndexOutOfBoundsException {
        needHouse(house);
        needWant(want);
        return now.wordFor(house, want);
    }

    public int cost(int word) throws IllegalArgumentException {
        needWord(word);
        return minutesOf(word);
    }

    public int way(int i, int j, int what) throws IndexOutOfBoundsException, NoSuchElementException {
        needHouse(i);
        needHouse(j);
        switch (what) {
            case 0:
                return now.farFrom(i, j);
            case 1:
                return now.clearOf(i, j) > 0 ? 1 : 0;
            case 2:
                return now.clearOf(i, j);
            case 3:
                return now.isHarming(i, j) ? 1 : 0;
            default:
                throw new NoSuchElementException("a way has what 0 to 3");
        }
    }

    public int ring(int minute, int house, int want)
            throws IndexOutOfBoundsException, IllegalArgumentException, UnsupportedOperationException {
        needHouse(house);
        needWant(want);
        needMinute(minute);
        int word = now.wordFor(house, want);
        if (word == NONE) {
            throw new IllegalArgumentException("the house has no word for it");
        }
        needRoomForRinging();
        return now.ringings.add(minute, house, want, word);
    }

    public int hush() {
        int gone = now.ringings.size;
        now.ringings.size = 0;
        return gone;
    }

    public int undo() {
        if (now.ringings.size <= 0) {
            return NONE;
        }
        now.ringings.size--;
        return now.ringings.size;
    }

    public int heard(int ringing, int house) throws IndexOutOfBoundsException {
        needRinging(ringing);
        needHouse(house);
        return now.ringings.cameTo(now, ringing, house);
    }

    public int taken(int ringing, int house) throws IndexOutOfBoundsException {
        needRinging(ringing);
        needHouse(house);
        return now.ringings.takenAt(now, ringing, house);
    }

    public int sure(int ringing, boolean wrong) throws IndexOutOfBoundsException {
        needRinging(ringing);
        now.ringings.judge(now, ringing);
        return wrong ? now.ringings.wrong : now.ringings.right;
    }

    public int begins(int house) throws IndexOutOfBoundsException {
        needHouse(house);
        return now.clashesOf(house);
    }

    public boolean safe(int house, int d) throws IndexOutOfBoundsException, IllegalArgumentException {
        needHouse(house);
        if (d < 0 || d > MAX_STROKES) {
            throw new IllegalArgumentException("a distance is 0 to 8");
        }
        return now.isSafe(house, d);
    }

    public int buy(int house, int want, int word) throws IndexOutOfBoundsException, IllegalArgumentException {
        needHouse(house);
        needWant(want);
        needWord(word);
        int price = priceOf(word);
        if (now.coins[house] < price) {
            return NONE;
        }
        now.coins[house] -= price;
        now.council += price;
        now.setWord(house, want, word);
        return price;
    }

    public void trade(int house, int other, int want) throws IndexOutOfBoundsException, IllegalArgumentException {
        needHouse(house);
        needHouse(other);
        needWant(want);
        if (house == other) {
            throw new IllegalArgumentException("both houses are one");
        }
        int word = now.wordFor(house, want);
        now.setWord(house, want, now.wordFor(other, want));
        now.setWord(other, want, word);
    }

    public int least(int wants) {
        return codes.leastFor(now, wants);
    }

    public int colours(int house) throws IndexOutOfBoundsException {
        if (house != NONE) {
            needHouse(house);
        }
        int fewest = sharing.paint(now);
        return house == NONE ? fewest : sharing.colour[house];
    }

    public int relay(int first, int want, int house) throws IndexOutOfBoundsException, IllegalArgumentException {
        needHouse(first);
        needWant(want);
        needHouse(house);
        needFirstWord(first, want);
        return relays.minutesTill(now, first, want, house);
    }

    public int ringers(int first, int want) throws IndexOutOfBoundsException, IllegalArgumentException {
        needHouse(first);
        needWant(want);
        needFirstWord(first, want);
        return relays.fewestFrom(now, first, want);
    }

    public int six(int want, int what) throws IndexOutOfBoundsException, NoSuchElementException {
        needWant(want);
        needSixWhat(what);
        sixOClock.runByLaw(now, want);
        return what == 0 ? sixOClock.waited : sixOClock.over;
    }

    public int lot(int want, int seed, int what) throws IndexOutOfBoundsException, NoSuchElementException {
        needWant(want);
        needSixWhat(what);
        sixOClock.runByLot(now, want, seed);
        return what == 0 ? sixOClock.waited : sixOClock.over;
    }

    public int room(int house, int want, boolean word) throws IndexOutOfBoundsException, IllegalArgumentException {
        needHouse(house);
        needWant(want);
        if (now.wordFor(house, want) != NONE) {
            throw new IllegalArgumentException("the house has a word for it");
        }
        codes.makeRoom(now, house, want);
        return word ? codes.roomWord : codes.roomSum;
    }

    public int learn(int kind) throws IllegalArgumentException {
        boolean readable = pupil.readRows(tape, tapeLength);
        tapeLength = 0;
        if (!readable) {
            throw new IllegalArgumentException("the tape is not strokes, a blank and wants");
        }
        if (kind < NONE || kind >= pupil.kinds) {
            throw new IllegalArgumentException("no such kind came");
        }
        pupil.findWays();
        return kind == NONE ? pupil.ways : pupil.firstWordOf(kind);
    }

    public int fooled(int ringer, int listener, int strokes)
            throws IndexOutOfBoundsException, IllegalArgumentException {
        needHouse(ringer);
        needHouse(listener);
        if (strokes < 1 || strokes > MAX_STROKES) {
            throw new IllegalArgumentException("a word has 1 to 8 strokes");
        }
        int coming = Math.min(strokes, now.clearOf(listener, ringer));
        return coming == 0 ? 0 : now.wordsOfLength(ringer, coming) << strokes - coming;
    }

    public int could(int ringing, int house) throws IndexOutOfBoundsException {
        needRinging(ringing);
        needHouse(house);
        return now.ringings.possibleAt(now, ringing, house);
    }

    public int understood(int house) throws IndexOutOfBoundsException {
        needHouse(house);
        int pairs = 0;
        for (int other = 0; other < now.houses; other++) {
            pairs += now.understoodAt(other, house);
        }
        return pairs;
    }

    public int quiet(int house, int want, int from, int to)
            throws IndexOutOfBoundsException, IllegalArgumentException, UnsupportedOperationException {
        needHouse(house);
        needWant(want);
        needMinute(from);
        needMinute(to);
        if (to < from || to - from > LONGEST_QUIET) {
            throw new IllegalArgumentException("the minutes are not 0 to 60 apart");
        }
        needRoomForRinging();
        int word = now.wordFor(house, want);
        return word == NONE ? NONE : quietest(house, want, from, to);
    }

    public int worth(int house, int want, int word) throws IndexOutOfBoundsException, IllegalArgumentException {
        needHouse(house);
        needWant(want);
        needWord(word);
        return worthTo(house, want, word);
    }

    public int sale(int want, int word, boolean fee) throws IndexOutOfBoundsException, IllegalArgumentException {
        needWant(want);
        needWord(word);
        int buyer = NONE;
        int most = 0;
        int second = 0;
        for (int house = 0; house < now.houses; house++) {
            int offer = worthTo(house, want, word);
            if (offer > most) {
                second = most;
                most = offer;
                buyer = house;
            } else if (offer > second) {
                second = offer;
            }
        }
        return fee && buyer != NONE ? second : buyer;
    }

    public int evening(int seed, int n, int what) throws IllegalArgumentException, NoSuchElementException {
        if (n < 1 || n > MAX_RINGINGS) {
            throw new IllegalArgumentException("an evening has 1 to 12 ringings");
        }
        if (what < 0 || what > 3) {
            throw new NoSuchElementException("an evening has what 0 to 3");
        }
        drawEvening(seed, n);
        return what == 3 ? trial.size : judgedOfTrial(what);
    }

    public void image() {
        kept.copyFrom(now);
        hasImage = true;
    }

    public boolean back() {
        if (!hasImage) {
            return false;
        }
        now.copyFrom(kept);
        return true;
    }

    public int count(int what) {
        switch (what) {
            case 0:
                return now.houses;
            case 1:
                return now.wants;
            case 2:
                return now.texts;
            case 3:
                return now.law.lines;
            case 4:
                return now.ringings.size;
            case 5:
                return now.wordsOfAll();
            case 6:
                return now.coinsOfAll();
            case 7:
                return now.council;
            case 8:
                return now.windX;
            case 9:
                return now.windY;
            case 10:
                return now.minutesOfAll();
            default:
                return NONE;
        }
    }

    private void putOnTape(int number) {
        for (int shift = 24; shift >= 0; shift -= 8) {
            if (tapeLength < MAX_TAPE) {
                tape[tapeLength] = (byte) (number >> shift);
                tapeLength++;
            }
        }
    }

    private void needHouse(int house) {
        if (!now.hasHouse(house)) {
            throw new IndexOutOfBoundsException("no such house");
        }
    }

    private void needWant(int want) {
        if (!now.hasWant(want)) {
            throw new IndexOutOfBoundsException("no such want");
        }
    }

    private void needRinging(int ringing) {
        if (ringing < 0 || ringing >= now.ringings.size) {
            throw new IndexOutOfBoundsException("no such ringing");
        }
    }

    private void needWord(int word) {
        if (word < LEAST_WORD || word > GREATEST_WORD) {
            throw new IllegalArgumentException("a word is 2 to 511");
        }
    }

    private void needFirstWord(int first, int want) {
        if (now.wordFor(first, want) == NONE) {
            throw new IllegalArgumentException("the first house has no word for it");
        }
    }

    private void needMinute(int minute) {
        if (minute < 0 || minute > LAST_MINUTE) {
            throw new IllegalArgumentException("a minute is 0 to 999");
        }
    }

    private void needRoomForRinging() {
        if (now.ringings.size >= MAX_RINGINGS) {
            throw new UnsupportedOperationException("there are 12 ringings");
        }
    }

    private void needSixWhat(int what) {
        if (what != 0 && what != 1) {
            throw new NoSuchElementException("six o'clock has what 0 and 1");
        }
    }

    /** Goes house by house, so that one listens once for all minutes. */
    private int quietest(int house, int want, int from, int to) {
        trial.copyFrom(now.ringings);
        int added = trial.add(from, house, want, now.wordFor(house, want));
        Arrays.fill(rights, 0);
        for (int listener = 0; listener < now.houses; listener++) {
            trial.listenAt(now, listener);
            for (int later = 0; later <= to - from && later < rights.length; later++) {
                if (now.takenFor(house, trial.unmixed(added, from + later)) == want) {
                    rights[later]++;
                }
            }
        }
        int best = 0;
        for (int later = 0; later <= to - from && later < rights.length; later++) {
            if (rights[later] > rights[best]) {
                best = later;
            }
        }
        return from + best;
    }

    private int worthTo(int house, int want, int word) {
        if (now.isClashing(house, want, word)) {
            return NO_WORTH;
        }
        int has = now.wordFor(house, want);
        int before = has == NONE ? COST_WITHOUT_WORD : minutesOf(has);
        return now.urgentOf(want) * (before - minutesOf(word));
    }

    private void drawEvening(int firstSeed, int n) {
        trial.size = 0;
        int seed = firstSeed;
        if (now.houses <= 0 || now.wants <= 0) {
            return;
        }
        for (int drawn = 0; drawn < n; drawn++) {
            seed = seedBehind(seed);
            int minute = drawOf(seed) % DRAWN_MINUTES;
            seed = seedBehind(seed);
            int house = drawOf(seed) % now.houses;
            seed = seedBehind(seed);
            int want = drawOf(seed) % now.wants;
            int word = now.wordFor(house, want);
            if (word != NONE) {
                trial.add(minute, house, want, word);
            }
        }
    }

    private int judgedOfTrial(int what) {
        int sum = 0;
        for (int ringing = 0; ringing < trial.size; ringing++) {
            trial.judge(now, ringing);
            if (what == 0) {
                sum += trial.right;
            } else if (what == 1) {
                sum += trial.wrong;
            } else if (trial.right + trial.wrong == 0) {
                sum++;
            }
        }
        return sum;
    }

    private static int seedBehind(int seed) {
        return 1103515245 * seed + 12345;
    }

    private static int drawOf(int seed) {
        return seed >> 16 & 0x7fff;
    }

    private static int strokesOf(int word) {
        int strokes = 0;
        for (int rest = word; rest > 1 && strokes < 31; rest >>= 1) {
            strokes++;
        }
        return strokes;
    }

    /** Each figure counts one minute, and a 1 (a long stroke) one more; the leading 1 is no stroke. */
    private static int minutesOf(int word) {
        return word < 1 ? 0 : strokesOf(word) + Integer.bitCount(word) - 1;
    }

    private static int priceOf(int word) {
        int minutes = minutesOf(word);
        return minutes <= 0 ? 1 : PRICE_OF_ALL / minutes + 1;
    }

    private static int cutTo(int word, int strokes) {
        int over = strokesOf(word) - strokes;
        return over > 0 ? word >> over : word;
    }

    private static boolean isOneBegin(int word, int other) {
        int shorter = Math.min(strokesOf(word), strokesOf(other));
        return cutTo(word, shorter) == cutTo(other, shorter);
    }

    /** All that an image keeps: two of these are never entangled, as rows are copied and not shared. */
    private static final class Town {
        private int houses;
        private int wants;
        private int texts;
        private int council;
        private int windX;
        private int windY;
        private final int[] x = new int[MAX_HOUSES];
        private final int[] y = new int[MAX_HOUSES];
        private final int[] loud = new int[MAX_HOUSES];
        private final int[] coins = new int[MAX_HOUSES];
        private final int[] deaf = new int[MAX_HOUSES];
        private final int[] urgent = new int[MAX_WANTS];
        private final int[] words = new int[MAX_HOUSES * MAX_WANTS];
        private final int[] clear = new int[MAX_HOUSES * MAX_HOUSES];
        private final Law law = new Law();
        private final Ringings ringings = new Ringings();

        private Town() {
            for (int at = 0; at < MAX_HOUSES * MAX_WANTS; at++) {
                words[at] = NONE;
            }
        }

        private void copyFrom(Town other) {
            houses = other.houses;
            wants = other.wants;
            texts = other.texts;
            council = other.council;
            windX = other.windX;
            windY = other.windY;
            System.arraycopy(other.x, 0, x, 0, MAX_HOUSES);
            System.arraycopy(other.y, 0, y, 0, MAX_HOUSES);
            System.arraycopy(other.loud, 0, loud, 0, MAX_HOUSES);
            System.arraycopy(other.coins, 0, coins, 0, MAX_HOUSES);
            System.arraycopy(other.deaf, 0, deaf, 0, MAX_HOUSES);
            System.arraycopy(other.urgent, 0, urgent, 0, MAX_WANTS);
            System.arraycopy(other.words, 0, words, 0, MAX_HOUSES * MAX_WANTS);
            System.arraycopy(other.clear, 0, clear, 0, MAX_HOUSES * MAX_HOUSES);
            law.copyFrom(other.law);
            ringings.copyFrom(other.ringings);
        }

        private boolean hasHouse(int house) {
            return house >= 0 && house < houses && house < MAX_HOUSES;
        }

        private boolean hasWant(int want) {
            return want >= 0 && want < wants && want < MAX_WANTS;
        }

        private int urgentOf(int want) {
            return hasWant(want) ? urgent[want] : 0;
        }

        private int wordFor(int house, int want) {
            return hasHouse(house) && hasWant(want) ? words[house * MAX_WANTS + want] : NONE;
        }

        private void setWord(int house, int want, int word) {
            if (hasHouse(house) && hasWant(want)) {
                words[house * MAX_WANTS + want] = word;
            }
        }

        private int wordsOf(int house) {
            int found = 0;
            for (int want = 0; want < wants; want++) {
                if (wordFor(house, want) != NONE) {
                    found++;
                }
            }
            return found;
        }

        private int wordsOfAll() {
            int sum = 0;
            for (int house = 0; house < houses; house++) {
                sum += wordsOf(house);
            }
            return sum;
        }

        private int minutesOfAll() {
            int sum = 0;
            for (int house = 0; house < houses; house++) {
                for (int want = 0; want < wants; want++) {
                    sum += minutesOf(wordFor(house, want));
                }
            }
            return sum;
        }

        private int coinsOfAll() {
            int sum = 0;
            for (int house = 0; house < houses && house < MAX_HOUSES; house++) {
                sum += coins[house];
            }
            return sum;
        }

        private int farFrom(int i, int j) {
            if (!hasHouse(i) || !hasHouse(j)) {
                return 0;
            }
            return Math.abs(x[j] + windX - x[i]) + Math.abs(y[j] + windY - y[i]);
        }

        /** Only a text of the town changes places, loudness and wind, so the ways are measured behind it. */
        private void measureWays() {
            for (int i = 0; i < houses && i < MAX_HOUSES; i++) {
                for (int j = 0; j < houses && j < MAX_HOUSES; j++) {
                    int left = loud[j] - farFrom(i, j);
                    boolean hears = i != j && deaf[i] == 0 && left >= 0;
                    clear[i * MAX_HOUSES + j] = hears ? left / 3 + 1 : 0;
                }
            }
        }

        /** 0 without hearing, so that hearing is just a CLEAR above 0. */
        private int clearOf(int i, int j) {
            return hasHouse(i) && hasHouse(j) ? clear[i * MAX_HOUSES + j] : 0;
        }

        private boolean isHarming(int i, int j) {
            if (i == j) {
                return false;
            }
            boolean harm = clearOf(i, j) > 0 || clearOf(j, i) > 0;
            for (int third = 0; third < houses && !harm; third++) {
                harm = clearOf(third, i) > 0 && clearOf(third, j) > 0;
            }
            return harm;
        }

        private int harmedBy(int house) {
            int bits = 0;
            for (int other = 0; other < houses; other++) {
                if (isHarming(house, other)) {
                    bits |= 1 << other;
                }
            }
            return bits;
        }

        private int takenFor(int ringer, int came) {
            for (int want = 0; want < wants && came >= LEAST_WORD; want++) {
                if (wordFor(ringer, want) == came) {
                    return want;
                }
            }
            return NONE;
        }

        private int understoodAt(int listener, int ringer) {
            int coming = clearOf(listener, ringer);
            int pairs = 0;
            for (int want = 0; want < wants && coming > 0; want++) {
                int word = wordFor(ringer, want);
                if (word != NONE && takenFor(ringer, cutTo(word, coming)) == want) {
                    pairs++;
                }
            }
            return pairs;
        }

        /** Words that are alike count once, by the want that they are taken for. */
        private int wordsOfLength(int house, int strokes) {
            int found = 0;
            for (int want = 0; want < wants; want++) {
                int word = wordFor(house, want);
                if (strokesOf(word) == strokes && takenFor(house, word) == want) {
                    found++;
                }
            }
            return found;
        }

        private int clashesOf(int house) {
            int pairs = 0;
            for (int want = 0; want < wants; want++) {
                int word = wordFor(house, want);
                for (int other = 0; other < want && word != NONE; other++) {
                    int its = wordFor(house, other);
                    if (its != NONE && isOneBegin(word, its)) {
                        pairs++;
                    }
                }
            }
            return pairs;
        }

        /** Whether the word would stand badly beside the words of all other wants. */
        private boolean isClashing(int house, int want, int word) {
            for (int other = 0; other < wants; other++) {
                int its = wordFor(house, other);
                if (other != want && its != NONE && isOneBegin(word, its)) {
                    return true;
                }
            }
            return false;
        }

        private boolean isSafe(int house, int distance) {
            for (int want = 0; want < wants; want++) {
                int word = wordFor(house, want);
                for (int other = 0; other < want && word != NONE; other++) {
                    int its = wordFor(house, other);
                    if (its != NONE && cutTo(word, distance) == cutTo(its, distance)) {
                        return false;
                    }
                }
            }
            return true;
        }
    }

    /** The ringings of an evening, with the word that each had when it was told. */
    private static final class Ringings {
        private int size;
        private final int[] minutes = new int[MAX_RINGINGS];
        private final int[] ringers = new int[MAX_RINGINGS];
        private final int[] sought = new int[MAX_RINGINGS];
        private final int[] words = new int[MAX_RINGINGS];
        private final int[] arriving = new int[MAX_RINGINGS];
        private final int[] overs = new int[MAX_RINGINGS];
        private int right;
        private int wrong;

        private void copyFrom(Ringings other) {
            size = other.size;
            System.arraycopy(other.minutes, 0, minutes, 0, MAX_RINGINGS);
            System.arraycopy(other.ringers, 0, ringers, 0, MAX_RINGINGS);
            System.arraycopy(other.sought, 0, sought, 0, MAX_RINGINGS);
            System.arraycopy(other.words, 0, words, 0, MAX_RINGINGS);
        }

        private boolean hasRinging(int ringing) {
            return ringing >= 0 && ringing < size && ringing < MAX_RINGINGS;
        }

        private int add(int minute, int house, int want, int word) {
            if (size < 0 || size >= MAX_RINGINGS) {
                return NONE;
            }
            minutes[size] = minute;
            ringers[size] = house;
            sought[size] = want;
            words[size] = word;
            size++;
            return size - 1;
        }

        /** What the way leaves of each ringing before strokes mix, and when that is over; one unheard never sounds. */
        private void listenAt(Town town, int house) {
            for (int ringing = 0; ringing < size && ringing < MAX_RINGINGS; ringing++) {
                int coming = town.clearOf(house, ringers[ringing]);
                arriving[ringing] = coming > 0 ? cutTo(words[ringing], coming) : 0;
                overs[ringing] = coming > 0 ? minutes[ringing] + minutesOf(arriving[ringing]) : NONE;
            }
        }

        private int cameTo(Town town, int ringing, int house) {
            listenAt(town, house);
            return hasRinging(ringing) ? unmixed(ringing, minutes[ringing]) : 0;
        }

        /** What is left of a ringing, if it begins at a minute, where one has listened to the others. */
        private int unmixed(int ringing, int begin) {
            int whole = hasRinging(ringing) ? arriving[ringing] : 0;
            if (whole == 0) {
                return 0;
            }
            int came = 1;
            int minute = begin;
            for (int left = strokesOf(whole) - 1; left >= 0; left--) {
                int stroke = whole >> left & 1;
                int over = minute + 1 + stroke;
                if (isMixed(ringing, minute, over)) {
                    break;
                }
                came = came * 2 + stroke;
                minute = over;
            }
            return came;
        }

        /** Strokes follow without a pause, so all that arrives of another one sounds as one stretch. */
        private boolean isMixed(int ringing, int from, int over) {
            for (int other = 0; other < size && other < MAX_RINGINGS; other++) {
                if (other != ringing && minutes[other] < over && from < overs[other]) {
                    return true;
                }
            }
            return false;
        }

        private int takenAt(Town town, int ringing, int house) {
            return hasRinging(ringing) ? town.takenFor(ringers[ringing], cameTo(town, ringing, house)) : NONE;
        }

        private int possibleAt(Town town, int ringing, int house) {
            int came = cameTo(town, ringing, house);
            int bits = 0;
            if (came == 0 || !hasRinging(ringing)) {
                return bits;
            }
            int strokes = strokesOf(came);
            for (int want = 0; want < town.wants; want++) {
                int word = town.wordFor(ringers[ringing], want);
                if (word != NONE && strokesOf(word) >= strokes && cutTo(word, strokes) == came) {
                    bits |= 1 << want;
                }
            }
            return bits;
        }

        /** Tells RIGHT and WRONG of a ringing in the two fields. */
        private void judge(Town town, int ringing) {
            right = 0;
            wrong = 0;
            for (int house = 0; house < town.houses && hasRinging(ringing); house++) {
                int taken = takenAt(town, ringing, house);
                if (taken == sought[ringing]) {
                    right++;
                } else if (taken != NONE) {
                    wrong++;
                }
            }
        }
    }

    /** A law as it was read: of each line its number and its condition, with operators behind what they join. */
    private static final class Law {
        /** Steps from 0 on are numbers themselves; the facts stand right below, so that they index a row. */
        private static final int HOUSE = -1;
        private static final int COINS = -2;
        private static final int URGENT = -3;
        private static final int COST = -4;
        private static final int WAITED = -5;
        private static final int PLUS = -6;
        private static final int LESS = -7;
        private static final int MORE = -8;
        private static final int NOT = -9;
        private static final int AND = -10;
        private static final int OR = -11;
        private static final int FACTS = 5;
        /** Above what six brackets, each within an or and an and, can leave waiting. */
        private static final int STACK = 40;

        private int lines = NONE;
        private int length;
        private final int[] numbers = new int[MAX_LAW_LINES];
        private final int[] ends = new int[MAX_LAW_LINES];
        /** A step has at least one byte of the text to itself. */
        private final short[] steps = new short[MAX_TAPE];
        private final int[] facts = new int[FACTS];
        private final int[] stack = new int[STACK];
        private int top;

        private void copyFrom(Law other) {
            lines = other.lines;
            length = other.length;
            System.arraycopy(other.numbers, 0, numbers, 0, MAX_LAW_LINES);
            System.arraycopy(other.ends, 0, ends, 0, MAX_LAW_LINES);
            System.arraycopy(other.steps, 0, steps, 0, MAX_TAPE);
        }

        private void clear() {
            lines = 0;
            length = 0;
        }

        private void addStep(int step) {
            if (length < MAX_TAPE) {
                steps[length] = (short) step;
                length++;
            }
        }

        private void endLine(int number) {
            if (lines < MAX_LAW_LINES) {
                numbers[lines] = number;
                ends[lines] = length;
                lines++;
            }
        }

        private int turnOf(Town town, int house, int want, int minute) {
            facts[-1 - HOUSE] = house;
            facts[-1 - COINS] = town.hasHouse(house) ? town.coins[house] : 0;
            facts[-1 - URGENT] = town.urgentOf(want);
            facts[-1 - COST] = minutesOf(town.wordFor(house, want));
            facts[-1 - WAITED] = minute;
            int turn = 0;
            int from = 0;
            for (int line = 0; line < lines && line < MAX_LAW_LINES; line++) {
                if (isHolding(from, ends[line])) {
                    turn += numbers[line];
                }
                from = ends[line];
            }
            return turn;
        }

        private boolean isHolding(int from, int to) {
            if (from == to) {
                return true;
            }
            top = 0;
            for (int at = from; at < to && at < MAX_TAPE; at++) {
                int step = steps[at];
                if (step >= 0) {
                    push(step);
                } else if (step >= -FACTS) {
                    push(facts[-1 - step]);
                } else {
                    join(step);
                }
            }
            return pop() != 0;
        }

        private void join(int step) {
            int right = pop();
            if (step == NOT) {
                push(right == 0 ? 1 : 0);
                return;
            }
            int left = pop();
            switch (step) {
                case PLUS:
                    push(left + right);
                    break;
                case LESS:
                    push(left < right ? 1 : 0);
                    break;
                case MORE:
                    push(left > right ? 1 : 0);
                    break;
                case AND:
                    push(left & right);
                    break;
                default:
                    push(left | right);
                    break;
            }
        }

        private void push(int value) {
            if (top < STACK) {
                stack[top] = value;
                top++;
            }
        }

        private int pop() {
            if (top <= 0) {
                return 0;
            }
            top--;
            return stack[top];
        }
    }

    /** Goes through a text thing by thing; behind the first refusal nothing fits any more. */
    private static final class Reader {
        private static final int LETTERS = 'a';
        private static final int DIGITS = '0';

        private byte[] text = new byte[0];
        private int length;
        private int begin;
        private int behind;
        private int kind;
        private int wrong;

        private void open(byte[] newText, int newLength) {
            text = newText;
            length = Math.min(newLength, newText.length);
            behind = 0;
            wrong = NONE;
            step();
        }

        private void step() {
            begin = behind;
            while (begin < length && text[begin] == ' ') {
                begin++;
            }
            behind = begin;
            kind = begin < length ? kindOf(text[begin]) : NONE;
            if (begin < length) {
                behind++;
            }
            while (behind < length && (kind == LETTERS || kind == DIGITS) && kindOf(text[behind]) == kind) {
                behind++;
            }
        }

        private static int kindOf(int sign) {
            if (sign >= 'a' && sign <= 'z') {
                return LETTERS;
            }
            return sign >= '0' && sign <= '9' ? DIGITS : sign & 255;
        }

        /** Goes to the begin of a line; of one too many the first word is refused, not the ; ahead of it. */
        private boolean isAtLine(int line, int most) {
            if (wrong != NONE || begin >= length) {
                return false;
            }
            if (line > 0 && !took(";") || line >= most) {
                refuse();
            }
            return wrong == NONE;
        }

        private boolean isAtNumber() {
            return wrong == NONE && kind == DIGITS;
        }

        /** At the text's end its length is refused, which says that more must come. */
        private void refuse() {
            if (wrong == NONE) {
                wrong = begin;
            }
        }

        private boolean isAt(String thing) {
            if (wrong != NONE || behind - begin != thing.length()) {
                return false;
            }
            for (int at = begin; at < behind && at < length; at++) {
                if (text[at] != thing.charAt(at - begin)) {
                    return false;
                }
            }
            return true;
        }

        private boolean took(String thing) {
            if (!isAt(thing)) {
                return false;
            }
            step();
            return true;
        }

        private int number(int low, int high) {
            int value = kind == DIGITS && behind - begin <= MAX_DIGITS ? 0 : NONE;
            for (int at = begin; at < behind && at < length && value != NONE; at++) {
                value = value * 10 + text[at] - '0';
            }
            if (wrong != NONE || value < low || value > high) {
                refuse();
                return NONE;
            }
            step();
            return value;
        }

        private int word() {
            int word = kind == LETTERS && behind - begin <= MAX_STROKES ? 1 : NONE;
            for (int at = begin; at < behind && at < length && word != NONE; at++) {
                word = text[at] == 'a' ? word * 2 : text[at] == 'b' ? word * 2 + 1 : NONE;
            }
            if (wrong != NONE || word == NONE) {
                refuse();
                return NONE;
            }
            step();
            return word;
        }
    }

    /** Reads a text of the town; of a wrong one the town has to be thrown away. */
    private static final class TownText {
        private final Reader in = new Reader();

        private int readInto(Town town, byte[] text, int length) {
            in.open(text, length);
            for (int line = 0; line <= MAX_TOWN_LINES && in.isAtLine(line, MAX_TOWN_LINES); line++) {
                readLine(town);
            }
            return in.wrong;
        }

        private void readLine(Town town) {
            if (in.isAt("house")) {
                readHouse(town);
            } else if (in.isAt("want")) {
                readWant(town);
            } else if (in.took("code")) {
                readCode(town, true);
            } else if (in.took("none")) {
                readCode(town, false);
            } else if (in.took("wind")) {
                readWind(town, 1);
            } else if (in.took("gale")) {
                readWind(town, -1);
            } else {
                in.refuse();
            }
        }

        private void readHouse(Town town) {
            int house = town.houses;
            if (house < 0 || house >= MAX_HOUSES) {
                in.refuse();
                return;
            }
            in.step();
            town.x[house] = in.number(0, MAX_PLACE);
            town.y[house] = in.number(0, MAX_PLACE);
            town.loud[house] = in.number(1, MAX_LOUD);
            town.coins[house] = in.number(0, MAX_NUMBER);
            town.deaf[house] = in.took("deaf") ? 1 : 0;
            town.houses++;
        }

        private void readWant(Town town) {
            int want = town.wants;
            if (want < 0 || want >= MAX_WANTS) {
                in.refuse();
                return;
            }
            in.step();
            town.urgent[want] = in.number(1, MAX_URGENT);
            town.wants++;
        }

        private void readCode(Town town, boolean withWord) {
            int house = in.number(0, town.houses - 1);
            int want = in.number(0, town.wants - 1);
            int word = withWord ? in.word() : NONE;
            town.setWord(house, want, word);
        }

        private void readWind(Town town, int sign) {
            town.windX = sign * in.number(0, MAX_WIND);
            town.windY = sign * in.number(0, MAX_WIND);
        }
    }

    /** Reads a law; operators go behind what they join, so that a law runs without a tree. */
    private static final class LawText {
        private final Reader in = new Reader();

        private int readInto(Law law, byte[] text, int length) {
            law.clear();
            in.open(text, length);
            for (int line = 0; line <= MAX_LAW_LINES && in.isAtLine(line, MAX_LAW_LINES); line++) {
                if (!in.took("first")) {
                    in.refuse();
                }
                int number = in.number(0, MAX_NUMBER);
                if (in.took("if")) {
                    readCondition(law, 0);
                }
                law.endLine(number);
            }
            return in.wrong;
        }

        private void readCondition(Law law, int depth) {
            boolean moreOr = true;
            for (int ors = 0; ors < MAX_TAPE && moreOr; ors++) {
                boolean moreAnd = true;
                for (int ands = 0; ands < MAX_TAPE && moreAnd; ands++) {
                    readAtom(law, depth);
                    if (ands > 0) {
                        law.addStep(Law.AND);
                    }
                    moreAnd = in.took("and");
                }
                if (ors > 0) {
                    law.addStep(Law.OR);
                }
                moreOr = in.took("or");
            }
        }

        private void readAtom(Law law, int depth) {
            boolean not = in.isAt("not");
            boolean bracket = in.isAt("(");
            if ((not || bracket) && depth >= MAX_DEPTH) {
                in.refuse();
                return;
            }
            if (not) {
                in.step();
                readAtom(law, depth + 1);
                law.addStep(Law.NOT);
            } else if (bracket) {
                in.step();
                readCondition(law, depth + 1);
                if (!in.took(")")) {
                    in.refuse();
                }
            } else {
                readSum(law);
                int sign = in.isAt("<") ? Law.LESS : Law.MORE;
                if (!in.took("<") && !in.took(">")) {
                    in.refuse();
                }
                readSum(law);
                law.addStep(sign);
            }
        }

        private void readSum(Law law) {
            boolean more = true;
            for (int parts = 0; parts < MAX_TAPE && more; parts++) {
                law.addStep(in.isAtNumber() ? in.number(0, MAX_NUMBER) : readFact());
                if (parts > 0) {
                    law.addStep(Law.PLUS);
                }
                more = in.took("+");
            }
        }

        private int readFact() {
            int fact = in.isAt("house") ? Law.HOUSE
                    : in.isAt("coins") ? Law.COINS
                    : in.isAt("urgent") ? Law.URGENT
                    : in.isAt("cost") ? Law.COST
                    : in.isAt("waited") ? Law.WAITED : 0;
            if (fact == 0) {
                in.refuse();
            } else {
                in.step();
            }
            return fact;
        }
    }

    private static final class Sharing {
        private final int[] colour = new int[MAX_HOUSES];
        private final int[] harm = new int[MAX_HOUSES];

        /** Answers the fewest colours and leaves the first way of painting with so many. */
        private int paint(Town town) {
            for (int house = 0; house < town.houses && house < MAX_HOUSES; house++) {
                harm[house] = town.harmedBy(house);
            }
            for (int colours = 0; colours < town.houses; colours++) {
                if (isPainted(0, 0, colours, town.houses)) {
                    return colours;
                }
            }
            isPainted(0, 0, town.houses, town.houses);
            return town.houses;
        }

        /** The first way takes new colours in their order, so one beyond those in use is enough to try. */
        private boolean isPainted(int house, int inUse, int colours, int houses) {
            if (house >= houses || house >= MAX_HOUSES) {
                return true;
            }
            for (int shade = 0; shade < colours && shade <= inUse; shade++) {
                if (isFree(house, shade)) {
                    colour[house] = shade;
                    if (isPainted(house + 1, Math.max(inUse, shade + 1), colours, houses)) {
                        return true;
                    }
                }
            }
            return false;
        }

        private boolean isFree(int house, int shade) {
            for (int other = 0; other < house; other++) {
                if (colour[other] == shade && (harm[house] >> other & 1) == 1) {
                    return false;
                }
            }
            return true;
        }
    }

    private static final class Relays {
        private static final int NEVER = 1000000;

        private final int[] reach = new int[MAX_HOUSES];
        private final int[] lasting = new int[MAX_HOUSES];
        private final int[] known = new int[MAX_HOUSES];

        /** Of each house that could ring: which houses its whole word comes to, as bits, and its COST. */
        private void prepare(Town town, int want) {
            for (int house = 0; house < MAX_HOUSES; house++) {
                int word = town.wordFor(house, want);
                int strokes = strokesOf(word);
                reach[house] = 0;
                lasting[house] = minutesOf(word);
                for (int other = 0; other < town.houses && word != NONE; other++) {
                    if (town.clearOf(other, house) >= strokes) {
                        reach[house] |= 1 << other;
                    }
                }
            }
        }

        private int minutesTill(Town town, int first, int want, int house) {
            prepare(town, want);
            Arrays.fill(known, NEVER);
            if (!town.hasHouse(first) || !town.hasHouse(house)) {
                return NONE;
            }
            known[first] = 0;
            for (int round = 0; round < MAX_HOUSES; round++) {
                for (int ringer = 0; ringer < MAX_HOUSES; ringer++) {
                    ringOn(ringer);
                }
            }
            return known[house] < NEVER ? known[house] : NONE;
        }

        private void ringOn(int ringer) {
            int over = known[ringer] + lasting[ringer];
            for (int house = 0; house < MAX_HOUSES; house++) {
                if ((reach[ringer] >> house & 1) == 1 && over < known[house]) {
                    known[house] = over;
                }
            }
        }

        private int fewestFrom(Town town, int first, int want) {
            prepare(town, want);
            int must = 0;
            for (int house = 0; house < town.houses && house < MAX_HOUSES; house++) {
                if (town.deaf[house] == 0) {
                    must |= 1 << house;
                }
            }
            int best = NONE;
            for (int set = 1; set < 1 << town.houses; set++) {
                boolean fewer = best == NONE || Integer.bitCount(set) < Integer.bitCount(best);
                if (fewer && (set >> first & 1) == 1 && (must & ~knownBy(set, first)) == 0) {
                    best = set;
                }
            }
            return best;
        }

        private int knownBy(int set, int first) {
            int knowing = 1 << first;
            for (int round = 0; round < MAX_HOUSES; round++) {
                for (int house = 0; house < MAX_HOUSES; house++) {
                    if ((knowing & set & 1 << house) != 0) {
                        knowing |= reach[house];
                    }
                }
            }
            return knowing;
        }
    }

    private static final class SixOClock {
        /** In each minute one sounds or one begins, so no one waits longer than all words together last. */
        private static final int LONGEST = MAX_HOUSES * 2 * MAX_STROKES;

        private final int[] turns = new int[MAX_HOUSES];
        private final int[] harm = new int[MAX_HOUSES];
        private final int[] lasting = new int[MAX_HOUSES];
        private final int[] overs = new int[MAX_HOUSES];
        private int left;
        private int waited;
        private int over;

        private void runByLaw(Town town, int want) {
            prepare(town, want);
            for (int minute = 0; minute <= LONGEST && left != 0; minute++) {
                int ready = readyAt(minute);
                for (int house = 0; house < MAX_HOUSES; house++) {
                    if ((ready >> house & 1) == 1) {
                        turns[house] = town.law.turnOf(town, house, want, minute);
                    }
                }
                ringReady(ready, minute);
            }
        }

        private void runByLot(Town town, int want, int seed) {
            prepare(town, want);
            drawTurns(seed);
            for (int minute = 0; minute <= LONGEST && left != 0; minute++) {
                ringReady(readyAt(minute), minute);
            }
        }

        private void prepare(Town town, int want) {
            left = 0;
            waited = 0;
            over = 0;
            for (int house = 0; house < MAX_HOUSES; house++) {
                int word = town.wordFor(house, want);
                harm[house] = town.harmedBy(house);
                lasting[house] = minutesOf(word);
                overs[house] = 0;
                turns[house] = 0;
                if (word != NONE) {
                    left |= 1 << house;
                }
            }
        }

        private void drawTurns(int firstSeed) {
            int seed = firstSeed;
            int undrawn = left;
            for (int many = Integer.bitCount(left); many > 0; many--) {
                seed = seedBehind(seed);
                int house = houseAt(undrawn, drawOf(seed) % many);
                turns[house] = many;
                undrawn &= ~(1 << house);
            }
        }

        private static int houseAt(int bits, int place) {
            int passed = 0;
            for (int house = 0; house < MAX_HOUSES; house++) {
                if ((bits >> house & 1) == 1) {
                    if (passed == place) {
                        return house;
                    }
                    passed++;
                }
            }
            return 0;
        }

        private int readyAt(int minute) {
            int ready = 0;
            for (int house = 0; house < MAX_HOUSES; house++) {
                if ((left >> house & 1) == 1 && isUnharmed(house, minute)) {
                    ready |= 1 << house;
                }
            }
            return ready;
        }

        private boolean isUnharmed(int house, int minute) {
            for (int other = 0; other < MAX_HOUSES; other++) {
                if ((harm[house] >> other & 1) == 1 && overs[other] > minute) {
                    return false;
                }
            }
            return true;
        }

        /** One that begins may keep off those behind it in the same minute, so each is looked at again. */
        private void ringReady(int ready, int minute) {
            int rest = ready;
            for (int many = Integer.bitCount(ready); many > 0; many--) {
                int house = nextOf(rest);
                rest &= ~(1 << house);
                if (isUnharmed(house, minute)) {
                    left &= ~(1 << house);
                    overs[house] = minute + lasting[house];
                    waited += minute;
                    over = Math.max(over, overs[house]);
                }
            }
        }

        private int nextOf(int bits) {
            int next = NONE;
            for (int house = 0; house < MAX_HOUSES; house++) {
                if ((bits >> house & 1) == 1 && (next == NONE || turns[house] > turns[next])) {
                    next = house;
                }
            }
            return next == NONE ? 0 : next;
        }
    }

    /** Seeks codes in which no word is another's begin. */
    private static final class Codes {
        private static final int MOST_WANTS = 6;
        private static final int TOO_MANY = -3;

        private final int[] weights = new int[1 << MOST_WANTS];
        private final int[] sums = new int[1 << MOST_WANTS];
        private final int[] words = new int[MAX_WANTS];
        private final int[] lengths = new int[MAX_WANTS];
        private int roomSum;
        private int roomWord;
        private int waySum;
        private int wayWord;

        private int leastFor(Town town, int wants) {
            int many = 0;
            for (int want = 0; want < town.wants; want++) {
                if ((wants >> want & 1) == 1) {
                    if (many >= MOST_WANTS) {
                        return TOO_MANY;
                    }
                    weights[1 << many] = town.urgentOf(want);
                    many++;
                }
            }
            if (many == 0) {
                return 0;
            }
            return many == 1 ? weights[1] : leastOfAll(many);
        }

        /** A set is parted by the stroke that comes next: each part costs that stroke and then its own least. */
        private int leastOfAll(int many) {
            int all = (1 << many) - 1;
            for (int set = 1; set <= all; set++) {
                int lowest = set & -set;
                weights[set] = weights[lowest] + (set == lowest ? 0 : weights[set ^ lowest]);
                sums[set] = 0;
                for (int part = 1; part < set; part++) {
                    int rest = set & ~part;
                    int sum = sums[part] + weights[part] + sums[rest] + 2 * weights[rest];
                    if ((part & set) == part && (sums[set] == 0 || sum < sums[set])) {
                        sums[set] = sum;
                    }
                }
            }
            return sums[all];
        }

        /** The ways are tried in the order in which they go ahead of each other, so the first least one stays. */
        private void makeRoom(Town town, int house, int want) {
            roomSum = NONE;
            roomWord = NONE;
            if (town.clashesOf(house) > 0) {
                return;
            }
            for (int other = 0; other < MAX_WANTS; other++) {
                words[other] = town.wordFor(house, other);
                lengths[other] = strokesOf(words[other]);
            }
            tryWay(town.urgentOf(want), 0);
            for (int other = 0; other < MAX_WANTS; other++) {
                int word = words[other];
                if (word != NONE && lengths[other] < MAX_STROKES) {
                    lengths[other]++;
                    words[other] = word * 2;
                    tryWay(town.urgentOf(want), town.urgentOf(other));
                    words[other] = word * 2 + 1;
                    tryWay(town.urgentOf(want), 2 * town.urgentOf(other));
                    words[other] = word;
                    lengths[other]--;
                }
            }
        }

        private void tryWay(int urgent, int more) {
            waySum = NONE;
            wayWord = NONE;
            tryLonger(1, 0, urgent, more);
            if (waySum != NONE && (roomSum == NONE || waySum < roomSum)) {
                roomSum = waySum;
                roomWord = wayWord;
            }
        }

        /** Longer than a free word is only dearer, and longer than a word that is had begins with it: neither is tried. */
        private void tryLonger(int begin, int strokes, int urgent, int sum) {
            for (int stroke = 0; stroke < 2 && strokes < MAX_STROKES; stroke++) {
                int word = begin * 2 + stroke;
                int wordSum = sum + urgent * (stroke + 1);
                int had = lengthBehind(word, strokes + 1);
                if (had == 0) {
                    keepIfLess(word, wordSum);
                } else if (had > strokes + 1) {
                    tryLonger(word, strokes + 1, urgent, wordSum);
                }
            }
        }

        private void keepIfLess(int word, int sum) {
            if (waySum == NONE || sum < waySum || sum == waySum && word < wayWord) {
                waySum = sum;
                wayWord = word;
            }
        }

        /** The length of one of the words that begins so; 0 without one. */
        private int lengthBehind(int begin, int strokes) {
            for (int other = 0; other < MAX_WANTS; other++) {
                int rest = lengths[other] - strokes;
                if (words[other] != NONE && rest >= 0 && words[other] >> rest == begin) {
                    return lengths[other];
                }
            }
            return 0;
        }
    }

    /** Learns words from strokes that came without pauses and the wants that they stood for. */
    private static final class Pupil {
        private static final int MOST_HEARD = 20;
        private static final int MOST_WANTS = 6;
        private static final int MOST_KINDS = 3;
        private static final int GREATEST_LEARNT = 15;

        private final int[] heard = new int[MOST_HEARD];
        private final int[] rows = new int[MOST_WANTS];
        private final int[] letters = new int[MOST_KINDS];
        private final int[] words = new int[MOST_KINDS];
        private final int[] firstWords = new int[MOST_KINDS];
        private int strokes;
        private int wants;
        private int kinds;
        private int ways;

        private boolean readRows(byte[] tape, int length) {
            strokes = 0;
            wants = 0;
            kinds = 0;
            int bytes = Math.min(length, tape.length);
            while (strokes < bytes && strokes < MOST_HEARD && (tape[strokes] == 'a' || tape[strokes] == 'b')) {
                heard[strokes] = tape[strokes] - 'a';
                strokes++;
            }
            if (strokes == 0 || strokes >= bytes || tape[strokes] != ' ') {
                return false;
            }
            for (int at = strokes + 1; at < bytes; at++) {
                if (!isWantRead(tape[at])) {
                    return false;
                }
            }
            return wants > 0;
        }

        private boolean isWantRead(int letter) {
            if (letter < 'A' || letter > 'Z' || wants >= MOST_WANTS) {
                return false;
            }
            int kind = 0;
            while (kind < kinds && kind < MOST_KINDS && letters[kind] != letter) {
                kind++;
            }
            if (kind >= MOST_KINDS) {
                return false;
            }
            letters[kind] = letter;
            kinds = Math.max(kinds, kind + 1);
            rows[wants] = kind;
            wants++;
            return true;
        }

        private void findWays() {
            ways = 0;
            tryWords(0);
        }

        private void tryWords(int kind) {
            if (kind >= kinds || kind >= MOST_KINDS) {
                keepWay();
                return;
            }
            for (int word = LEAST_WORD; word <= GREATEST_LEARNT; word++) {
                words[kind] = word;
                if (isNew(word, kind) && isFitting(kind)) {
                    tryWords(kind + 1);
                }
            }
        }

        private boolean isNew(int word, int kind) {
            for (int other = 0; other < kind; other++) {
                if (words[other] == word) {
                    return false;
                }
            }
            return true;
        }

        private void keepWay() {
            if (ways == 0) {
                System.arraycopy(words, 0, firstWords, 0, MOST_KINDS);
            }
            ways++;
        }

        /** Whether the words up to a kind fit as far as no later kind has come. */
        private boolean isFitting(int lastKind) {
            int at = 0;
            for (int want = 0; want < wants && want < MOST_WANTS; want++) {
                if (rows[want] > lastKind) {
                    return true;
                }
                int word = words[rows[want]];
                for (int rest = strokesOf(word) - 1; rest >= 0; rest--) {
                    if (at >= strokes || at >= MOST_HEARD || heard[at] != (word >> rest & 1)) {
                        return false;
                    }
                    at++;
                }
            }
            return at == strokes;
        }

        private int firstWordOf(int kind) {
            return ways > 0 && kind >= 0 && kind < MOST_KINDS ? firstWords[kind] : NONE;
        }
    }
}
