import java.util.ArrayList;
import java.util.List;

/** Promises 23 to 27, edge by edge: each bound at the case itself and on both sides of it. */
public final class TogetherEdgesTest {
    private static final Check CHECK = new Check("TogetherEdgesTest");
    private static final int[] FAR_OFF = {Integer.MIN_VALUE, -256, 256, 1 << 16, Integer.MAX_VALUE};
    private static final String[] APART = {"house 0 0 1 0", "house 3 0 1 0", "house 6 0 1 0", "house 9 0 1 0", "house 12 0 1 0",
        "house 15 0 1 0", "house 0 5 1 0", "house 5 5 1 0"};
    /** Each one is heard by its neighbours in the row alone, by CLEAR 1. */
    private static final String[] ROW = {"house 0 0 2 0", "house 2 0 2 0", "house 4 0 2 0", "house 6 0 2 0", "house 8 0 2 0",
        "house 10 0 2 0", "house 12 0 2 0", "house 14 0 2 0"};
    private static final String[] SAME_PLACE = {"house 5 5 30 0", "house 5 5 30 0", "house 5 5 30 0", "house 5 5 30 0",
        "house 5 5 30 0", "house 5 5 30 0", "house 5 5 30 0", "house 5 5 30 0"};

    public static void main(String[] args) {
        coloursOfEachSize();
        coloursAtTheEdge();
        coloursNotByTheNext();
        relayInARow();
        relayOfTheWholeWord();
        relayOfOneThatKnows();
        relayOfEachWant();
        relayThoughMixed();
        ringersInARow();
        ringersAndTheDeaf();
        ringersOfTheSamePlace();
        noRingers();
        whatOfSix();
        sixOfNobody();
        sixAsOneIsOver();
        sixAtTheEdge();
        sixOfEight();
        turnsByOne();
        turnsOfAllLines();
        linesWithoutIf();
        lawInPlace();
        factsAtTheEdge();
        factsOfEachWant();
        costAtTheEdge();
        waitedAtTheEdge();
        sumsAtTheEdge();
        longSums();
        lotsOfEachSeed();
        lotsOfSome();
        CHECK.finish();
    }

    private static String joined(String[] lines, int many) {
        StringBuilder text = new StringBuilder();
        for (int i = 0; i < many; i++) {
            text.append(i > 0 ? ";" : "").append(lines[i]);
        }
        return text.toString();
    }

    private static String words(int many, int want, String word) {
        StringBuilder text = new StringBuilder();
        for (int house = 0; house < many; house++) {
            text.append(house > 0 ? ";" : "").append("code ").append(house).append(' ').append(want).append(' ').append(word);
        }
        return text.toString();
    }

    private static void law(BellTown town, String text) {
        Check.feed(town, text);
        CHECK.due("law() of '" + text + "'", Check.answer(town::law), Integer.toString(town.count(3)));
    }

    // Promise 23: "COLOURS (house NONE; 0 without HOUSES)"

    private static void coloursOfEachSize() {
        for (int many = 0; many <= 8; many++) {
            BellTown apart = Check.townOf(joined(APART, many));
            BellTown together = Check.townOf(joined(SAME_PLACE, many));
            CHECK.due("COLOURS of " + many + " apart", apart.colours(-1), many == 0 ? 0 : 1);
            CHECK.due("COLOURS of " + many + " together", together.colours(-1), many);
            for (int house = 0; house < many; house++) {
                CHECK.due("COLOUR of " + house + " of " + many + " apart", apart.colours(house), 0);
                CHECK.due("COLOUR of " + house + " of " + many + " together", together.colours(house), house);
            }
        }
        for (int many = 0; many <= 2; many++) {
            BellTown town = Check.townOf(joined(APART, many));
            CHECK.outOfBounds("colours(-2)", () -> town.colours(-2));
            int behind = many;
            CHECK.outOfBounds("colours(" + many + ")", () -> town.colours(behind));
        }
    }

    private static void coloursAtTheEdge() {
        for (int far = 4; far <= 6; far++) {
            BellTown town = Check.townOf("house 0 0 5 0;house " + far + " 0 1 0");
            CHECK.due("COLOURS at FAR " + far + " of LOUD 5", town.colours(-1), far <= 5 ? 2 : 1);
            CHECK.due("COLOUR of the second", town.colours(1), far <= 5 ? 1 : 0);
        }
        // a row: each harms the next two by the one between
        BellTown row = Check.townOf(joined(ROW, 8));
        CHECK.due("COLOURS of a row", row.colours(-1), 3);
        for (int house = 0; house < 8; house++) {
            CHECK.due("COLOUR of " + house + " in a row", row.colours(house), house % 3);
        }
        Check.feed(row, "wind 9 9");
        row.town();
        CHECK.due("COLOURS when nobody hears", row.colours(-1), 1);
    }

    /** The fewest come first, then each one's least: one by one with the least that is free would take more in the chain. */
    private static void coloursNotByTheNext() {
        // 3 hears 0 and 2, which harm each other by that, too; nobody hears 1
        BellTown star = Check.townOf("house 0 0 9 0 deaf;house 15 15 1 0 deaf;house 9 0 9 0 deaf;house 5 0 1 0");
        int[] due = {0, 0, 1, 2};
        CHECK.due("COLOURS of one that hears two", star.colours(-1), 3);
        for (int house = 0; house < 4; house++) {
            CHECK.due("COLOUR of " + house, star.colours(house), due[house]);
        }
        // 0 hears 2, 2 hears 3, 3 hears 1, and nobody hears two: a chain 0 - 2 - 3 - 1
        BellTown chain = Check.townOf("house 0 0 1 0;house 15 0 7 0 deaf;house 3 0 3 0;house 8 0 5 0");
        int[] alternating = {0, 1, 1, 0};
        CHECK.due("COLOURS of a chain", chain.colours(-1), 2);
        for (int house = 0; house < 4; house++) {
            CHECK.due("COLOUR of " + house + " of a chain", chain.colours(house), alternating[house]);
        }
    }

    // RELAY: "the minutes till a HOUSE knows"; promise 24: "(of the first one 0)"

    private static void relayInARow() {
        for (int many = 1; many <= 8; many++) {
            BellTown town = Check.townOf(joined(ROW, many), "want 1;want 2", words(many, 0, "a"), words(many, 1, "b"));
            for (int first = 0; first < many; first++) {
                for (int house = 0; house < many; house++) {
                    int steps = Math.abs(house - first);
                    CHECK.due("relay of a from " + first + " to " + house, town.relay(first, 0, house), steps);
                    CHECK.due("relay of b from " + first + " to " + house, town.relay(first, 1, house), 2 * steps);
                }
            }
        }
        // a minute for each that rings on but the fourth, which has 2
        BellTown town = Check.townOf(joined(ROW, 8), "want 1", words(8, 0, "a"), "code 3 0 b");
        int[] due = {0, 1, 2, 3, 5, 6, 7, 8};
        for (int house = 0; house < 8; house++) {
            CHECK.due("relay by one of b to " + house, town.relay(0, 0, house), due[house]);
        }
        Check.feed(town, "none 3 0");
        town.town();
        for (int house = 0; house < 8; house++) {
            CHECK.due("relay up to one without a WORD to " + house, town.relay(0, 0, house), house <= 3 ? house : -1);
        }
    }

    // RELAY: "each HOUSE to which the whole WORD of one that rings comes by CLEAR"

    private static void relayOfTheWholeWord() {
        for (int clear = 0; clear <= 9; clear++) {
            int loud = clear == 0 ? 1 : 3 * clear - 2;
            for (int length = 1; length <= 8; length++) {
                String word = "babbabaa".substring(0, length);
                int cost = 0;
                for (char stroke : word.toCharArray()) {
                    cost += stroke == 'a' ? 1 : 2;
                }
                BellTown town = Check.townOf("house 0 0 " + loud + " 0;house 0 " + (clear == 0 ? 2 : 1) + " 1 0;want 1;code 0 0 "
                    + word);
                boolean knows = clear >= length;
                CHECK.due("relay of " + word + " by CLEAR " + clear, town.relay(0, 0, 1), knows ? cost : -1);
                CHECK.due("ringers of " + word + " by CLEAR " + clear, town.ringers(0, 0), knows ? 1 : -1);
                CHECK.due("relay to itself", town.relay(0, 0, 0), 0);
            }
        }
    }

    private static void relayOfOneThatKnows() {
        // both ways between two: the first one knows at 0, and stays so
        BellTown town = Check.townOf("house 0 0 9 0;house 0 1 9 0;want 1;code 0 0 bb;code 1 0 a");
        CHECK.due("relay to the first", town.relay(0, 0, 0), 0);
        CHECK.due("relay to the second", town.relay(0, 0, 1), 4);
        CHECK.due("relay from the second", town.relay(1, 0, 0), 1);
        CHECK.due("relay from the second to itself", town.relay(1, 0, 1), 0);
        // a way round by three is quicker than one by one: 0 to 1 and 2 at 2; 1 rings on for 16, 2 and 3 for 1 each
        BellTown round = Check.townOf("house 0 0 4 0;house 0 1 30 0;house 1 0 4 0;house 4 0 4 0;house 8 0 1 0;want 1;code 0 0 aa;"
            + "code 1 0 bbbbbbbb;code 2 0 a;code 3 0 a");
        CHECK.due("relay by the way round", round.relay(0, 0, 4), 4);
        Check.feed(round, "none 3 0");
        round.town();
        CHECK.due("the slow one is CLEAR enough at 4", round.way(4, 1, 2), 8);
        CHECK.due("relay by the slow one", round.relay(0, 0, 4), 18);
    }

    private static void relayOfEachWant() {
        BellTown town = Check.townOf(joined(ROW, 3), "want 1;want 2;want 3;code 0 0 a;code 1 1 a;code 0 2 a;code 1 2 b");
        CHECK.due("its own WORD for it alone", town.relay(0, 0, 2), -1);
        CHECK.due("both have one", town.relay(0, 2, 2), 3);
        CHECK.illegal("the first one has none", () -> town.relay(0, 1, 2));
        CHECK.illegal("the first one has none, for ringers", () -> town.ringers(0, 1));
        CHECK.due("the second one has one", town.relay(1, 1, 2), 1);
    }

    // RELAY: "(MIXED strokes are not looked at.)"; nor are RINGINGS that were told, in SIX neither

    private static void relayThoughMixed() {
        // 1 and 2 know at 1 and ring on at once, so that all their strokes are mixed to 3
        BellTown town = Check.townOf("house 5 0 2 0;house 4 1 4 0;house 6 1 4 0;house 5 4 1 0;want 1;code 0 0 a;code 1 0 b;code 2 0 b");
        for (int ringings = 0; ringings <= 12; ringings += 4) {
            CHECK.due("relay to 1 with " + ringings, town.relay(0, 0, 1), 1);
            CHECK.due("relay to 3 with " + ringings, town.relay(0, 0, 3), 3);
            CHECK.due("ringers with " + ringings, town.ringers(0, 0), 3);
            CHECK.due("WAITED with " + ringings, town.six(0, 0), 0 + 1 + 3);
            CHECK.due("OVER with " + ringings, town.six(0, 1), 5);
            CHECK.due("lot's OVER with " + ringings, town.lot(0, 5, 1), 5);
            for (int n = 0; n < 4 && ringings < 12; n++) {
                town.ring(n, n % 3, 0);
            }
        }
    }

    // RINGERS: "the fewest HOUSES, the first one in it, so that all HOUSES that are not DEAF know it"

    private static void ringersInARow() {
        for (int many = 1; many <= 8; many++) {
            BellTown town = Check.townOf(joined(ROW, many), "want 1", words(many, 0, "a"));
            for (int first = 0; first < many; first++) {
                // all between the two ends, and the first one
                int between = many <= 2 ? 0 : (1 << many - 1) - 2;
                CHECK.due("ringers from " + first + " of " + many, town.ringers(first, 0), between | 1 << first);
            }
        }
    }

    private static void ringersAndTheDeaf() {
        BellTown last = Check.townOf(joined(ROW, 7) + ";house 14 0 2 0 deaf", "want 1", words(8, 0, "a"));
        CHECK.due("the last one DEAF need not know", last.ringers(0, 0), 63);
        CHECK.due("the last one DEAF rings first", last.ringers(7, 0), 128 + 64 + 32 + 16 + 8 + 4 + 2);
        BellTown cut = Check.townOf("house 0 0 2 0;house 2 0 2 0 deaf;house 4 0 2 0;want 1", words(3, 0, "a"));
        CHECK.due("one who is DEAF between two rings nothing on", cut.ringers(0, 0), -1);
        CHECK.due("it rings first", cut.ringers(1, 0), 2);
        BellTown all = Check.townOf("house 0 0 9 0;house 0 1 9 0 deaf;house 0 2 9 0 deaf;want 1;code 0 0 bbbbbbbb");
        CHECK.due("all others DEAF", all.ringers(0, 0), 1);
        BellTown deaf = Check.townOf("house 0 0 9 0 deaf;house 0 1 9 0 deaf;want 1;code 1 0 a");
        CHECK.due("all DEAF", deaf.ringers(1, 0), 2);
    }

    private static void ringersOfTheSamePlace() {
        for (int many = 1; many <= 8; many++) {
            BellTown town = Check.townOf(joined(SAME_PLACE, many), "want 1", words(many, 0, "abab"));
            for (int first = 0; first < many; first++) {
                CHECK.due("ringers from " + first + " of " + many, town.ringers(first, 0), 1 << first);
                CHECK.due("relay from " + first, town.relay(first, 0, many - 1), first == many - 1 ? 0 : 6);
            }
        }
    }

    private static void noRingers() {
        for (int gap = 0; gap < 7; gap++) {
            // one without a WORD ends the row, unless it is the last
            BellTown town = Check.townOf(joined(ROW, 8), "want 1", words(8, 0, "a"), "none " + (gap + 1) + " 0");
            CHECK.due("ringers with a gap at " + (gap + 1), town.ringers(0, 0), gap == 6 ? 127 : -1);
        }
        BellTown far = Check.townOf("house 0 0 3 0;house 3 0 1 0;want 1;code 0 0 a");
        CHECK.due("just near enough", far.ringers(0, 0), 1);
        Check.feed(far, "gale 1 0");
        far.town();
        CHECK.due("one step too far", far.ringers(0, 0), -1);
    }

    // Promises 26 and 27: "NoSuchElementException: another what"

    private static void whatOfSix() {
        BellTown town = Check.townOf("house 0 0 9 0;house 0 0 9 0;want 1;code 0 0 ab;code 1 0 ab");
        String[] due = {"3", "6"};
        for (int what = -3; what <= 4; what++) {
            int w = what;
            String answer = what == 0 || what == 1 ? due[what] : "throws.NoSuchElementException";
            CHECK.due("six(0, " + what + ")", Check.answer(() -> town.six(0, w)), answer);
            CHECK.due("lot(0, 9, " + what + ")", Check.answer(() -> town.lot(0, 9, w)), answer);
        }
        for (int what : FAR_OFF) {
            CHECK.noElement("six(0, " + what + ")", () -> town.six(0, what));
            CHECK.noElement("lot(0, 9, " + what + ")", () -> town.lot(0, 9, what));
        }
    }

    // Promise 26: "(0 if nobody rings)"

    private static void sixOfNobody() {
        BellTown none = Check.townOf("want 1");
        BellTown wordless = Check.townOf("house 0 0 9 0;house 0 0 9 0;want 1;want 2;code 0 1 a");
        BellTown one = Check.townOf("house 0 0 9 0;house 0 0 9 0;want 1;want 2;code 1 0 bab");
        for (int what = 0; what < 2; what++) {
            CHECK.due("six of no HOUSE", none.six(0, what), 0);
            CHECK.due("lot of no HOUSE", none.lot(0, 3, what), 0);
            CHECK.due("six of no WORD", wordless.six(0, what), 0);
            CHECK.due("lot of no WORD", wordless.lot(0, 3, what), 0);
            CHECK.due("six of one", one.six(0, what), what * 5);
            CHECK.due("lot of one", one.lot(0, 3, what), what * 5);
        }
    }

    private static String cost(int minutes) {
        return minutes <= 8 ? "a".repeat(minutes) : "b".repeat(minutes - 8) + "a".repeat(16 - minutes);
    }

    // SIX: "each begins if no HOUSE that it HARMS sounds in that minute"

    private static void sixAsOneIsOver() {
        for (int one = 1; one <= 16; one++) {
            for (int other = 1; other <= 16; other += 5) {
                BellTown town = Check.townOf("house 0 0 9 0;house 0 0 9 0;want 1;code 0 0 " + cost(one) + ";code 1 0 " + cost(other));
                CHECK.due("WAITED of " + one + " and " + other, town.six(0, 0), one);
                CHECK.due("OVER of " + one + " and " + other, town.six(0, 1), one + other);
                law(town, "first 1 if house > 0");
                CHECK.due("WAITED of the other first", town.six(0, 0), other);
                CHECK.due("OVER of the other first", town.six(0, 1), one + other);
            }
        }
    }

    private static void sixAtTheEdge() {
        for (int far = 4; far <= 6; far++) {
            BellTown town = Check.townOf("house 0 0 5 0;house " + far + " 0 1 0;want 1;code 0 0 aab;code 1 0 a");
            boolean harm = far <= 5;
            CHECK.due("WAITED at FAR " + far, town.six(0, 0), harm ? 4 : 0);
            CHECK.due("OVER at FAR " + far, town.six(0, 1), harm ? 5 : 4);
            CHECK.due("lot's OVER at FAR " + far, town.lot(0, 1, 1), harm ? 5 : 4);
        }
        // 0 and 2 hear 1, so both harm 1, but not each other: 1 waits for the later one of them
        BellTown between = Check.townOf("house 0 0 1 0;house 3 0 3 0;house 6 0 1 0;want 1;code 0 0 a;code 1 0 a;code 2 0 bbb");
        CHECK.due("0 and 1 HARM", between.way(0, 1, 3), 1);
        CHECK.due("0 and 2 do not", between.way(0, 2, 3), 0);
        CHECK.due("WAITED: 0, 6, 0", between.six(0, 0), 6);
        CHECK.due("OVER", between.six(0, 1), 7);
        law(between, "first 1 if house > 0 and house < 2");
        CHECK.due("WAITED: 1, 0, 1", between.six(0, 0), 2);
        CHECK.due("OVER", between.six(0, 1), 7);
    }

    private static void sixOfEight() {
        BellTown town = Check.townOf(joined(SAME_PLACE, 8), "want 1", words(8, 0, "bbbbbbbb"));
        CHECK.due("WAITED of eight of 16 minutes", town.six(0, 0), 16 * 28);
        CHECK.due("OVER of eight of 16 minutes", town.six(0, 1), 128);
        CHECK.due("lot's WAITED of eight of 16 minutes", town.lot(0, -7, 0), 16 * 28);
        CHECK.due("lot's OVER of eight of 16 minutes", town.lot(0, -7, 1), 128);
        law(town, "first 999 if waited > 111 and house < 1;first 1 if house > 0");
        CHECK.due("WAITED with a LAW", town.six(0, 0), 16 * 28);
        BellTown apart = Check.townOf(joined(APART, 8), "want 1", words(8, 0, "bbbbbbbb"));
        CHECK.due("WAITED of eight apart", apart.six(0, 0), 0);
        CHECK.due("OVER of eight apart", apart.six(0, 1), 16);
    }

    /** Two that harm each other, of 1 and 2 minutes: WAITED is 1 if 0 begins, and 2 if 1 begins. */
    private static int waited(String law, int coins, int urgent) {
        BellTown town = Check.townOf("house 0 0 9 0;house 0 0 9 " + coins + ";want " + urgent + ";code 0 0 a;code 1 0 b");
        law(town, law);
        return town.six(0, 0);
    }

    // SIX: "by TURN at that minute (the greatest first; of several the least number; without LAW: by number)"

    private static void turnsByOne() {
        int[] numbers = {0, 1, 2, 499, 500, 501, 997, 998, 999};
        for (int one : numbers) {
            for (int other : numbers) {
                CHECK.due("TURNS " + one + " and " + other,
                    waited("first " + one + " if house < 1;first " + other + " if house > 0", 0, 1), other > one ? 2 : 1);
            }
        }
        CHECK.due("without LAW", Check.townOf("house 0 0 9 0;house 0 0 9 0;want 1;code 0 0 a;code 1 0 b").six(0, 0), 1);
        CHECK.due("a LAW of no LINE", waited("", 0, 1), 1);
        CHECK.due("a LINE for all", waited("first 5", 0, 1), 1);
        // of eight that are alike by number, the last one ahead by the law
        BellTown eight = Check.townOf(joined(SAME_PLACE, 8), "want 1", words(8, 0, "a"), "code 7 0 bb");
        CHECK.due("the eighth by number", eight.six(0, 0), 28);
        law(eight, "first 1 if house > 6");
        CHECK.due("the eighth first", eight.six(0, 0), 0 + 4 + 5 + 6 + 7 + 8 + 9 + 10);
    }

    // TURN: "the sum of N of all LINES that hold"

    private static void turnsOfAllLines() {
        String eleven = "first 999 if house > 0;".repeat(11);
        // eleven times 999 against a sum of the other's
        CHECK.due("11 of 999 against 999", waited(eleven + "first 999 if house < 1", 0, 1), 2);
        CHECK.due("one of 999 against 11", waited("first 999 if house < 1;".repeat(11) + "first 999 if house > 0", 0, 1), 1);
        CHECK.due("12 for 1", waited(eleven + "first 1 if house > 0", 0, 1), 2);
        String even = "first 999 if house > 0;".repeat(5) + "first 999 if house < 1;".repeat(5);
        CHECK.due("5 against 5", waited(even + "first 0 if house > 0", 0, 1), 1);
        CHECK.due("5 and 1 against 5", waited(even + "first 1 if house > 0", 0, 1), 2);
        CHECK.due("5 and 1 against 5 and 1", waited(even + "first 1 if house > 0;first 1 if house < 1", 0, 1), 1);
        CHECK.due("5 and 2 against 5 and 1", waited(even + "first 2 if house > 0;first 1 if house < 1", 0, 1), 2);
        CHECK.due("the twelfth LINE counts", waited("first 0;".repeat(11) + "first 1 if house > 0", 0, 1), 2);
        CHECK.due("the first LINE counts", waited("first 1 if house > 0" + ";first 0".repeat(11), 0, 1), 2);
    }

    /** A LINE without if holds for all, whatever the LINE ahead of it says. */
    private static void linesWithoutIf() {
        CHECK.due("behind one that holds for 1", waited("first 3 if house < 1;first 1 if house > 0;first 5", 0, 1), 1);
        CHECK.due("behind one that holds for 0", waited("first 3 if house > 0;first 1 if house < 1;first 5", 0, 1), 2);
        CHECK.due("ahead of one that holds for 1", waited("first 5;first 1 if house > 0", 0, 1), 2);
        CHECK.due("between two", waited("first 3 if house > 0;first 9;first 2 if house < 1", 0, 1), 2);
    }

    // LAW: "(a text, in place of the one before)"

    private static void lawInPlace() {
        BellTown town = Check.townOf("house 0 0 9 0;house 0 0 9 0;want 1;code 0 0 a;code 1 0 b");
        String long1 = "first 1 if house>0 and 1" + "+1".repeat(180) + ">180";
        String[] laws = {"first 1 if house > 0", "first 1 if house > 0;first 9 if house < 1", "first 1 if house > 0", "",
            "first 0;".repeat(11) + "first 7 if house > 0", "first 1", long1, "first 2 if house < 1", long1, long1, long1,
            "first 9 if house < 1;first 10 if house > 0", "first 9 if house < 1", "first 1 if not (house < 1)"};
        int[] due = {2, 1, 2, 1, 2, 1, 2, 1, 2, 2, 2, 2, 1, 2};
        for (int i = 0; i < laws.length; i++) {
            law(town, laws[i]);
            CHECK.due("WAITED by LAW " + i, town.six(0, 0), due[i]);
            Check.feed(town, "first 500 if house < 1;first 500 if house < 1;bell");
            CHECK.illegal("a wrong LAW", town::law);
            CHECK.due("WAITED by LAW " + i + " behind a wrong one", town.six(0, 0), due[i]);
            if (i == 6) {
                town.image();
            }
        }
        town.back();
        CHECK.due("WAITED by the LAW of THE IMAGE", town.six(0, 0), 2);
        CHECK.due("LINES of the LAW of THE IMAGE", town.count(3), 1);
    }

    private static void factsAtTheEdge() {
        for (int coins : new int[] {0, 1, 2, 500, 998, 999}) {
            for (int k = Math.max(0, coins - 1); k <= Math.min(999, coins + 1); k++) {
                CHECK.due(coins + " coins < " + k, waited("first 1 if house > 0 and coins < " + k, coins, 1), coins < k ? 2 : 1);
                CHECK.due(coins + " coins > " + k, waited("first 1 if house > 0 and coins > " + k, coins, 1), coins > k ? 2 : 1);
                CHECK.due(k + " < coins " + coins, waited("first 1 if house > 0 and " + k + " < coins", coins, 1), k < coins ? 2 : 1);
            }
        }
        for (int urgent : new int[] {1, 2, 50, 98, 99}) {
            for (int k = urgent - 1; k <= urgent + 1; k++) {
                CHECK.due(urgent + " urgent < " + k, waited("first 1 if house > 0 and urgent < " + k, 0, urgent), urgent < k ? 2 : 1);
                CHECK.due(urgent + " urgent > " + k, waited("first 1 if house > 0 and urgent > " + k, 0, urgent), urgent > k ? 2 : 1);
            }
        }
        // house: the one of that number alone goes ahead of all others
        for (int house = 0; house < 8; house++) {
            BellTown town = Check.townOf(joined(SAME_PLACE, 8), "want 1", words(8, 0, "a"), "code " + house + " 0 bb");
            law(town, "first 1 if house + 1 > " + house + " and house < " + (house + 1));
            CHECK.due("house " + house + " first", town.six(0, 0), 4 * 7 + 21);
        }
        // the COINS of now: those that were paid count no more
        BellTown paid = Check.townOf("house 0 0 9 0;house 0 0 9 50;want 1;code 0 0 a");
        law(paid, "first 1 if coins > 28");
        CHECK.due("buy", paid.buy(1, 0, 3), 21);
        CHECK.due("29 coins > 28", paid.six(0, 0), 2);
        law(paid, "first 1 if coins > 29");
        CHECK.due("29 coins > 29", paid.six(0, 0), 1);
    }

    /** URGENT and COST are of the WANT that is told, and COST of the WORD that the HOUSE itself has for it. */
    private static void factsOfEachWant() {
        BellTown town = Check.townOf("house 0 0 9 0;house 0 0 9 0;want 3;want 50;want 99;code 0 0 a;code 0 1 aaa;code 0 2 bbb;"
            + "code 1 0 b;code 1 1 bb;code 1 2 aaaaa");
        int[] urgent = {3, 50, 99};
        int[] ofFirst = {1, 3, 6};
        int[] ofSecond = {2, 4, 5};
        for (int want = 0; want < 3; want++) {
            for (int k = 2; k <= 99; k += k < 7 ? 1 : 23) {
                law(town, "first 1 if house > 0 and urgent > " + k);
                CHECK.due("urgent of " + want + " > " + k, town.six(want, 0), urgent[want] > k ? ofSecond[want] : ofFirst[want]);
            }
            for (int k = 0; k <= 7; k++) {
                law(town, "first 1 if cost > " + k);
                boolean secondAlone = ofSecond[want] > k && ofFirst[want] <= k;
                CHECK.due("cost for " + want + " > " + k, town.six(want, 0), secondAlone ? ofSecond[want] : ofFirst[want]);
            }
        }
    }

    private static void costAtTheEdge() {
        for (int cost = 1; cost <= 16; cost++) {
            int other = cost == 3 ? 5 : 3;
            for (int k = cost - 1; k <= cost + 1; k++) {
                BellTown town = Check.townOf("house 0 0 9 0;house 0 0 9 0;want 1;code 0 0 " + cost(other) + ";code 1 0 " + cost(cost));
                law(town, "first 1 if house > 0 and cost > " + k);
                CHECK.due(cost + " cost > " + k, town.six(0, 0), cost > k ? cost : other);
                law(town, "first 1 if house > 0 and cost < " + k);
                CHECK.due(cost + " cost < " + k, town.six(0, 0), cost < k ? cost : other);
            }
        }
    }

    // SIX: "waited: that minute"

    private static void waitedAtTheEdge() {
        for (int minute = 1; minute <= 16; minute++) {
            BellTown town = Check.townOf("house 0 0 9 0;house 0 0 9 0;house 0 0 9 0;want 1;code 0 0 " + cost(minute)
                + ";code 1 0 a;code 2 0 b");
            for (int k = minute - 1; k <= minute + 1; k++) {
                law(town, "first 500 if house < 1;first 9 if house > 1 and waited > " + k);
                CHECK.due("waited " + minute + " > " + k, town.six(0, 0), minute + minute + (minute > k ? 2 : 1));
                law(town, "first 500 if house < 1;first 9 if house > 1 and waited < " + k);
                CHECK.due("waited " + minute + " < " + k, town.six(0, 0), minute + minute + (minute < k ? 2 : 1));
            }
        }
        CHECK.due("waited 0 at first", waited("first 1 if house > 0 and waited < 1", 0, 1), 2);
        CHECK.due("waited 0 at first", waited("first 1 if house > 0 and waited > 0", 0, 1), 1);
    }

    private static void sumsAtTheEdge() {
        for (int more = 0; more <= 2; more++) {
            CHECK.due("999+999 > 999+998+" + more, waited("first 1 if house > 0 and 999+999 > 999+998+" + more, 0, 1), more < 1 ? 2 : 1);
            CHECK.due("999+999 < 999+998+" + more, waited("first 1 if house > 0 and 999+999 < 999+998+" + more, 0, 1), more > 1 ? 2 : 1);
        }
        String all = "house+coins+urgent+cost+waited";
        // 1 + 999 + 99 + 2 + 0
        for (int k = 100; k <= 102; k++) {
            CHECK.due("all > 999+" + k + "+1", waited("first 1 if " + all + " > 999+" + k + "+1", 999, 99), 1101 > 1000 + k ? 2 : 1);
            CHECK.due("all < 999+" + k + "+1", waited("first 1 if house>0 and " + all + " < 999+" + k + "+1", 999, 99), 1101 < 1000 + k ? 2 : 1);
        }
    }

    private static void longSums() {
        for (int k = 179; k <= 181; k++) {
            String ones = "1" + "+1".repeat(179);
            CHECK.due("180 ones > " + k, waited("first 1 if house>0 and " + ones + ">" + k, 0, 1), 180 > k ? 2 : 1);
            CHECK.due("180 ones < " + k, waited("first 1 if house>0 and " + ones + "<" + k, 0, 1), 180 < k ? 2 : 1);
        }
        String left = "999" + "+999".repeat(46);
        String right = "999" + "+999".repeat(45);
        CHECK.due("47 of 999 > 46 of 999", waited("first 1 if house>0 and " + left + ">" + right, 0, 1), 2);
        CHECK.due("46 of 999 > 47 of 999", waited("first 1 if house>0 and " + right + ">" + left, 0, 1), 1);
        CHECK.due("46 of 999 > 46 of 999", waited("first 1 if house>0 and " + right + ">" + right, 0, 1), 1);
        CHECK.due("46 ands", waited("first 1 if house>0" + " and 0<1".repeat(46), 0, 1), 2);
        CHECK.due("46 ands and one that does not hold", waited("first 1 if house>0" + " and 0<1".repeat(45) + " and 1<1", 0, 1), 1);
        CHECK.due("53 ors", waited("first 1 if 1<1" + " or 1<1".repeat(52) + " or 0<house", 0, 1), 2);
    }

    /** WAITED of houses that all harm each other, each of its own COST, in the order that a seed draws. */
    private static int waitedByLot(int first, List<Integer> costs) {
        Check.Draws draws = new Check.Draws(first);
        List<Integer> left = new ArrayList<>(costs);
        int minute = 0;
        int waited = 0;
        while (!left.isEmpty()) {
            waited += minute;
            minute += left.remove(draws.next() % left.size());
        }
        return waited;
    }

    // SIX by lot: "SEED is 1103515245 times SEED and 12345, as an int that goes round; bits 16 to 30"

    private static void lotsOfEachSeed() {
        int[] edges = {0, 1, -1, Integer.MAX_VALUE, Integer.MIN_VALUE, Integer.MAX_VALUE - 1, Integer.MIN_VALUE + 1, 1 << 15,
            1 << 16, 1 << 30, -(1 << 16), 65535, 65537, 1103515245, -1103515245, 12345, -12345};
        for (int many = 1; many <= 8; many++) {
            StringBuilder text = new StringBuilder();
            List<Integer> costs = new ArrayList<>();
            for (int house = 0; house < many; house++) {
                costs.add(house + 1);
                text.append(house > 0 ? ";" : "").append("code ").append(house).append(" 0 ").append(cost(house + 1));
            }
            BellTown town = Check.townOf(joined(SAME_PLACE, many), "want 1", text.toString());
            law(town, "first 9 if house > 1");
            for (int first : edges) {
                CHECK.due("lot of " + many + " by " + first, town.lot(0, first, 0), waitedByLot(first, costs));
                CHECK.due("lot's OVER of " + many + " by " + first, town.lot(0, first, 1), many * (many + 1) / 2);
            }
            for (int n = 0; n < 60; n++) {
                int first = n * 71582788 - 5;
                CHECK.due("lot of " + many + " by " + first, town.lot(0, first, 0), waitedByLot(first, costs));
            }
        }
    }

    /** Only those that have a WORD are drawn, by number. */
    private static void lotsOfSome() {
        for (int without = 0; without < 32; without++) {
            StringBuilder text = new StringBuilder();
            List<Integer> costs = new ArrayList<>();
            for (int house = 0; house < 5; house++) {
                if ((without >> house & 1) == 0) {
                    costs.add(1 << house);
                    text.append(text.length() > 0 ? ";" : "").append("code ").append(house).append(" 0 ").append(cost(1 << house));
                }
            }
            BellTown town = Check.townOf(joined(SAME_PLACE, 5), "want 1", text.toString());
            for (int first = -10; first <= 10; first++) {
                CHECK.due("lot without " + without + " by " + first, town.lot(0, first, 0), waitedByLot(first, costs));
            }
        }
    }
}
