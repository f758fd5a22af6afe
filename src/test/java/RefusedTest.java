import java.util.Map;

/**
 * The sentence ahead of promise 1, for every call: which indices there are, which of several exceptions is thrown, and that
 * a call that throws changes nothing but the TAPE, where it is used up. What other calls change is in StaysTest.
 */
public final class RefusedTest {
    private static final Check CHECK = new Check("RefusedTest");
    private static final Seen SEEN = new Seen(CHECK);
    private static final String IOB = "throws.IndexOutOfBoundsException";
    private static final String IAE = "throws.IllegalArgumentException";
    private static final String UOE = "throws.UnsupportedOperationException";
    private static final String NSE = "throws.NoSuchElementException";
    private static final int[] FAR_OFF = {Integer.MIN_VALUE, Integer.MIN_VALUE + 1, -256, -8, -2, 11, 12, 256, 1 << 16,
        Integer.MAX_VALUE};

    private interface Indexed {
        long of(BellTown town, int index);
    }

    public static void main(String[] args) {
        houses();
        wants();
        ringings();
        noneThere();
        toldFirst();
        toldFirstOfTexts();
        refusedChangesNothing();
        refusedTextsChangeNothing();
        CHECK.finish();
    }

    private static BellTown sized(int houses, int wants, int ringings) {
        BellTown town = new BellTown();
        for (String line : new String[] {"house 1 1 9 99;".repeat(houses), "want 5;".repeat(wants)}) {
            Check.feed(town, line.isEmpty() ? "" : line.substring(0, line.length() - 1));
            town.town();
        }
        if (houses > 0 && wants > 0) {
            Check.feed(town, "code 0 0 ab");
            town.town();
        }
        for (int n = 0; n < ringings; n++) {
            town.ring(n, 0, 0);
        }
        return town;
    }

    private static void indices(String name, Indexed call, int many, BellTown town, boolean mayBeNone) {
        for (int index = -1; index <= 13; index++) {
            int i = index;
            String answer = Check.answer(() -> call.of(town, i));
            boolean there = index >= 0 && index < many || index == -1 && mayBeNone;
            CHECK.due(name + " by " + index + " of " + many, answer.equals(IOB), !there);
        }
        for (int off : FAR_OFF) {
            if (off < 0 || off >= many) {
                CHECK.due(name + " by " + off + " of " + many, Check.answer(() -> call.of(town, off)), IOB);
            }
        }
    }

    private static void house(String name, Indexed call) {
        for (int many = 1; many <= 8; many++) {
            indices(name, call, many, sized(many, 2, 1), false);
        }
    }

    /** Other arguments are wrong, too, where IndexOutOfBoundsException is told ahead of what they are refused by. */
    private static void houses() {
        house("house", (t, i) -> t.house(i, 0));
        house("house of another what", (t, i) -> t.house(i, 6));
        house("code", (t, i) -> t.code(i, 1));
        house("way to", (t, i) -> t.way(i, 0, 0));
        house("way from", (t, i) -> t.way(0, i, 3));
        house("way of another what", (t, i) -> t.way(i, i, 4));
        house("ring", (t, i) -> t.ring(1000, i, 0));
        house("heard", (t, i) -> t.heard(0, i));
        house("taken", (t, i) -> t.taken(0, i));
        house("begins", (t, i) -> t.begins(i));
        house("safe", (t, i) -> t.safe(i, 8) ? 1 : 0);
        house("safe of no distance", (t, i) -> t.safe(i, 9) ? 1 : 0);
        house("buy", (t, i) -> t.buy(i, 1, 4));
        house("buy of no word", (t, i) -> t.buy(i, 1, 0));
        house("trade of the one", (t, i) -> traded(t, i, 0, 1));
        house("trade of the other", (t, i) -> traded(t, 0, i, 1));
        house("trade of both", (t, i) -> traded(t, i, i, 1));
        house("relay from", (t, i) -> t.relay(i, 0, 0));
        house("relay to", (t, i) -> t.relay(0, 0, i));
        house("relay to without a word", (t, i) -> t.relay(0, 1, i));
        house("ringers", (t, i) -> t.ringers(i, 0));
        house("room", (t, i) -> t.room(i, 1, true));
        house("room of one that it has", (t, i) -> t.room(i, 0, false));
        house("fooled at", (t, i) -> t.fooled(i, 0, 1));
        house("fooled by", (t, i) -> t.fooled(0, i, 8));
        house("fooled of no strokes", (t, i) -> t.fooled(i, i, 0));
        house("could", (t, i) -> t.could(0, i));
        house("understood", (t, i) -> t.understood(i));
        house("quiet", (t, i) -> t.quiet(i, 0, 0, 1));
        house("quiet of no minutes", (t, i) -> t.quiet(i, 0, 1, 0));
        house("worth", (t, i) -> t.worth(i, 1, 2));
        house("worth of no word", (t, i) -> t.worth(i, 1, 1));
        for (int many = 1; many <= 8; many++) {
            indices("colours", (t, i) -> t.colours(i), many, sized(many, 2, 1), true);
        }
    }

    private static void want(String name, Indexed call) {
        for (int many = 1; many <= 10; many++) {
            indices(name, call, many, sized(2, many, 1), false);
        }
    }

    private static void wants() {
        want("want", (t, i) -> t.want(i));
        want("code", (t, i) -> t.code(1, i));
        want("ring", (t, i) -> t.ring(-1, 0, i));
        want("buy", (t, i) -> t.buy(1, i, 3));
        want("buy of no word", (t, i) -> t.buy(1, i, 512));
        want("trade", (t, i) -> traded(t, 0, 1, i));
        want("trade of one alone", (t, i) -> traded(t, 1, 1, i));
        want("relay", (t, i) -> t.relay(0, i, 1));
        want("ringers", (t, i) -> t.ringers(0, i));
        want("six", (t, i) -> t.six(i, 0));
        want("six of another what", (t, i) -> t.six(i, 2));
        want("lot", (t, i) -> t.lot(i, 7, 1));
        want("lot of another what", (t, i) -> t.lot(i, 7, -1));
        want("room", (t, i) -> t.room(0, i, false));
        want("quiet", (t, i) -> t.quiet(0, i, 3, 3));
        want("quiet of no minutes", (t, i) -> t.quiet(0, i, 3, 64));
        want("worth", (t, i) -> t.worth(0, i, 511));
        want("worth of no word", (t, i) -> t.worth(0, i, 512));
        want("sale", (t, i) -> t.sale(i, 2, false));
        want("sale of no word", (t, i) -> t.sale(i, 1, true));
    }

    private static void ringing(String name, Indexed call) {
        for (int many = 0; many <= 12; many++) {
            indices(name, call, many, sized(2, 1, many), false);
        }
    }

    private static void ringings() {
        ringing("heard", (t, i) -> t.heard(i, 1));
        ringing("taken", (t, i) -> t.taken(i, 1));
        ringing("sure", (t, i) -> t.sure(i, false));
        ringing("sure of wrong", (t, i) -> t.sure(i, true));
        ringing("could", (t, i) -> t.could(i, 1));
        BellTown town = sized(2, 1, 3);
        town.undo();
        indices("heard behind undo()", (t, i) -> t.heard(i, 1), 2, town, false);
        town.hush();
        indices("heard behind hush()", (t, i) -> t.heard(i, 1), 0, town, false);
    }

    private static long traded(BellTown town, int house, int other, int want) {
        town.trade(house, other, want);
        return 0;
    }

    /** Of a new object, of one with houses and no want, and of one with wants and no house. */
    private static void noneThere() {
        Indexed[] byHouse = {(t, i) -> t.house(i, 0), (t, i) -> t.begins(i), (t, i) -> t.safe(i, 0) ? 1 : 0,
            (t, i) -> t.understood(i), (t, i) -> t.way(i, i, 0), (t, i) -> t.fooled(i, i, 1)};
        Indexed[] byWant = {(t, i) -> t.want(i), (t, i) -> t.six(i, 0), (t, i) -> t.lot(i, 0, 0), (t, i) -> t.sale(i, 2, true)};
        Indexed[] byBoth = {(t, i) -> t.code(i, 0), (t, i) -> t.ring(0, i, 0), (t, i) -> t.buy(i, 0, 2),
            (t, i) -> traded(t, i, i, 0), (t, i) -> t.relay(i, 0, i), (t, i) -> t.ringers(i, 0), (t, i) -> t.room(i, 0, true),
            (t, i) -> t.quiet(i, 0, 0, 0), (t, i) -> t.worth(i, 0, 2), (t, i) -> t.heard(0, i), (t, i) -> t.taken(0, i),
            (t, i) -> t.could(0, i), (t, i) -> t.sure(i, true)};
        for (Indexed call : byHouse) {
            indices("of no house", call, 0, new BellTown(), false);
            indices("of no house, there being wants", call, 0, sized(0, 10, 0), false);
            indices("of eight houses and no want", call, 8, sized(8, 0, 0), false);
        }
        for (Indexed call : byWant) {
            indices("of no want", call, 0, new BellTown(), false);
            indices("of no want, there being houses", call, 0, sized(8, 0, 0), false);
            indices("of ten wants and no house", call, 10, sized(0, 10, 0), false);
        }
        for (Indexed call : byBoth) {
            indices("of nothing", call, 0, new BellTown(), false);
            indices("of no want", call, 0, sized(8, 0, 0), false);
            indices("of no house", call, 0, sized(0, 10, 0), false);
        }
        indices("colours of nothing", (t, i) -> t.colours(i), 0, new BellTown(), true);
    }

    private static void is(String call, BellTown town, Seen.Call it, String due) {
        CHECK.due(call, Check.answer(() -> it.of(town)), due);
    }

    /** Three houses (0 has words for both wants, 1 one, 2 none), two wants, some ringings. */
    private static BellTown three(int ringings) {
        BellTown town = Check.townOf("house 1 2 9 41;house 3 4 9 999;house 5 6 9 0 deaf;want 7;want 8;code 0 0 ab;code 0 1 b;"
            + "code 1 0 ba");
        for (int n = 0; n < ringings; n++) {
            town.ring(n * 3, n % 2, 0);
        }
        return town;
    }

    // "Of several exceptions the one told first is thrown"

    private static void toldFirst() {
        BellTown town = three(2);
        BellTown full = three(12);
        is("ring: all three", full, t -> t.ring(1000, 3, 0), IOB);
        is("ring: the minute and 12", full, t -> t.ring(1000, 0, 0), IAE);
        is("ring: a minute below 0 and 12", full, t -> t.ring(-1, 0, 0), IAE);
        is("ring: no WORD and 12", full, t -> t.ring(999, 1, 1), IAE);
        is("ring: 12 alone", full, t -> t.ring(999, 0, 1), UOE);
        is("ring: the minute and no WORD", town, t -> t.ring(-1, 2, 0), IAE);
        is("quiet: all three", full, t -> t.quiet(0, 2, 1, 0), IOB);
        is("quiet: minutes and 12", full, t -> t.quiet(0, 0, 1, 0), IAE);
        is("quiet: minutes too far apart and 12", full, t -> t.quiet(0, 0, 0, 61), IAE);
        is("quiet: a minute none and 12", full, t -> t.quiet(0, 0, 999, 1000), IAE);
        is("quiet: 12 alone", full, t -> t.quiet(0, 0, 0, 60), UOE);
        is("quiet: minutes and no WORD", town, t -> t.quiet(2, 0, 1, 0), IAE);
        is("house: both", town, t -> t.house(3, 6), IOB);
        is("house: what alone", town, t -> t.house(2, 6), NSE);
        is("way: both", town, t -> t.way(0, 3, 4), IOB);
        is("way: what alone", town, t -> t.way(0, 2, 4), NSE);
        is("safe: both", town, t -> t.safe(-1, -1) ? 1 : 0, IOB);
        is("safe: the distance alone", town, t -> t.safe(0, -1) ? 1 : 0, IAE);
        is("buy: both", town, t -> t.buy(0, 2, 1), IOB);
        is("buy: the word alone, COINS not being enough", town, t -> t.buy(2, 0, 1), IAE);
        is("trade: both", town, t -> traded(t, 3, 3, 0), IOB);
        is("trade: both by the want", town, t -> traded(t, 0, 0, 2), IOB);
        is("trade: one alone", town, t -> traded(t, 2, 2, 1), IAE);
        is("relay: both", town, t -> t.relay(2, 0, 3), IOB);
        is("relay: no WORD alone", town, t -> t.relay(2, 0, 2), IAE);
        is("ringers: both", town, t -> t.ringers(2, 2), IOB);
        is("ringers: no WORD alone", town, t -> t.ringers(1, 1), IAE);
        is("six: both", town, t -> t.six(2, 2), IOB);
        is("six: what alone", town, t -> t.six(1, 2), NSE);
        is("lot: both", town, t -> t.lot(-1, 0, -1), IOB);
        is("lot: what alone", town, t -> t.lot(0, 0, -1), NSE);
        is("room: both", town, t -> t.room(3, 0, false), IOB);
        is("room: it has one", town, t -> t.room(0, 0, false), IAE);
        is("fooled: both", town, t -> t.fooled(0, 3, 9), IOB);
        is("fooled: the strokes alone", town, t -> t.fooled(0, 0, 9), IAE);
        is("worth: both", town, t -> t.worth(3, 0, 512), IOB);
        is("worth: the word alone", town, t -> t.worth(2, 0, 512), IAE);
        is("sale: both", town, t -> t.sale(2, 0, false), IOB);
        is("sale: the word alone", town, t -> t.sale(1, 0, false), IAE);
        is("evening: both", town, t -> t.evening(1, 0, 4), IAE);
        is("evening: both above", town, t -> t.evening(1, 13, -1), IAE);
        is("evening: what alone", town, t -> t.evening(1, 12, 4), NSE);
        is("evening: what alone without HOUSES", new BellTown(), t -> t.evening(1, 12, 4), NSE);
        is("evening: N alone without HOUSES", new BellTown(), t -> t.evening(1, 13, 0), IAE);
    }

    private static void toldFirstOfTexts() {
        BellTown town = new BellTown();
        for (int n = 0; n < 10; n++) {
            Check.feed(town, "");
            town.town();
        }
        Check.feed(town, "bell");
        is("town: wrong, and there are 10", town, t -> t.town(), IAE);
        CHECK.due("its fault()", town.fault(), 0);
        Check.feed(town, "want 1");
        is("town: there are 10", town, t -> t.town(), UOE);
        Check.feed(town, "bell");
        is("learn: no such kind of no such TAPE", town, t -> t.learn(7), IAE);
    }

    private static void refused(String name, Seen.Call call, String due) {
        SEEN.nothingChanges(name, 3, call, due);
    }

    // "a call that throws changes nothing but the TAPE, where it is used up"

    private static void refusedChangesNothing() {
        refused("house(3, 0)", t -> t.house(3, 0), IOB);
        refused("house(0, 6)", t -> t.house(0, 6), NSE);
        refused("want(2)", t -> t.want(2), IOB);
        refused("code(0, 2)", t -> t.code(0, 2), IOB);
        refused("cost(1)", t -> t.cost(1), IAE);
        refused("way(3, 0, 0)", t -> t.way(3, 0, 0), IOB);
        refused("way(0, 0, 4)", t -> t.way(0, 0, 4), NSE);
        refused("ring(0, 3, 0)", t -> t.ring(0, 3, 0), IOB);
        refused("ring(1000, 0, 0)", t -> t.ring(1000, 0, 0), IAE);
        refused("ring(0, 2, 0)", t -> t.ring(0, 2, 0), IAE);
        SEEN.nothingChanges("a 13th ring", 12, t -> t.ring(0, 0, 0), UOE);
        refused("heard(3, 0)", t -> t.heard(3, 0), IOB);
        refused("taken(3, 0)", t -> t.taken(3, 0), IOB);
        refused("sure(3, true)", t -> t.sure(3, true), IOB);
        refused("begins(3)", t -> t.begins(3), IOB);
        refused("safe(0, 9)", t -> t.safe(0, 9) ? 1 : 0, IAE);
        refused("buy(3, 0, 2)", t -> t.buy(3, 0, 2), IOB);
        refused("buy(1, 0, 512)", t -> t.buy(1, 0, 512), IAE);
        refused("trade(0, 3, 0)", t -> traded(t, 0, 3, 0), IOB);
        refused("trade(0, 0, 0)", t -> traded(t, 0, 0, 0), IAE);
        refused("colours(3)", t -> t.colours(3), IOB);
        refused("relay(0, 0, 3)", t -> t.relay(0, 0, 3), IOB);
        refused("relay(2, 0, 0)", t -> t.relay(2, 0, 0), IAE);
        refused("ringers(0, 2)", t -> t.ringers(0, 2), IOB);
        refused("ringers(2, 1)", t -> t.ringers(2, 1), IAE);
        refused("six(2, 0)", t -> t.six(2, 0), IOB);
        refused("six(0, 2)", t -> t.six(0, 2), NSE);
        refused("lot(2, 1, 0)", t -> t.lot(2, 1, 0), IOB);
        refused("lot(0, 1, 2)", t -> t.lot(0, 1, 2), NSE);
        refused("room(0, 2, true)", t -> t.room(0, 2, true), IOB);
        refused("room(0, 0, true)", t -> t.room(0, 0, true), IAE);
        refused("fooled(0, 3, 1)", t -> t.fooled(0, 3, 1), IOB);
        refused("fooled(0, 1, 9)", t -> t.fooled(0, 1, 9), IAE);
        refused("could(3, 0)", t -> t.could(3, 0), IOB);
        refused("understood(3)", t -> t.understood(3), IOB);
        refused("quiet(0, 2, 0, 0)", t -> t.quiet(0, 2, 0, 0), IOB);
        refused("quiet(0, 0, 0, 61)", t -> t.quiet(0, 0, 0, 61), IAE);
        SEEN.nothingChanges("quiet with 12", 12, t -> t.quiet(0, 0, 0, 60), UOE);
        refused("worth(3, 0, 2)", t -> t.worth(3, 0, 2), IOB);
        refused("worth(0, 0, 1)", t -> t.worth(0, 0, 1), IAE);
        refused("sale(2, 2, true)", t -> t.sale(2, 2, true), IOB);
        refused("sale(0, 1, true)", t -> t.sale(0, 1, true), IAE);
        refused("evening(1, 13, 0)", t -> t.evening(1, 13, 0), IAE);
        refused("evening(1, 12, 4)", t -> t.evening(1, 12, 4), NSE);
    }

    private static void refusedText(String text, Seen.Call call, String due, int texts, int fault) {
        for (boolean isRich : new boolean[] {true, false}) {
            String name = "'" + text + "'" + (isRich ? " in a rich town" : " in a plain town");
            BellTown town = isRich ? Seen.rich(3) : Seen.plain(3);
            town.end(0);
            for (int n = town.count(2); n < texts; n++) {
                town.town();
            }
            Map<String, String> before = Seen.of(town);
            Check.feed(town, "bell");
            is("a wrong law", town, t -> t.law(), IAE);
            Check.feed(town, text);
            is(name, town, call, due);
            SEEN.same("what there is behind " + name, Seen.of(town), Seen.changed(before, "fault()", "" + fault));
            SEEN.tapeIsEmpty(name, town);
            SEEN.imageIsUntouched(name, town, isRich);
        }
    }

    // Terms: "Of a wrong text nothing stays"

    private static void refusedTextsChangeNothing() {
        String all = "house 1 1 1 1;want 9;code 0 0 bbb;none 0 1;code 3 2 a;wind 5 5;";
        refusedText(all + "bell", t -> t.town(), IAE, 2, all.length());
        refusedText(all, t -> t.town(), IAE, 2, all.length());
        refusedText("wind 5", t -> t.town(), IAE, 2, 6);
        refusedText("gale 5 10", t -> t.town(), IAE, 2, 7);
        refusedText("house 1 1 1", t -> t.town(), IAE, 2, 11);
        refusedText("code 0 0 abc", t -> t.town(), IAE, 2, 9);
        refusedText(all + "bell", t -> t.town(), IAE, 10, all.length());
        refusedText(all + "gale 1 1", t -> t.town(), UOE, 10, -1);
        refusedText("first 1;first 2 if", t -> t.law(), IAE, 2, 18);
        refusedText("first 1 if house < 1;;", t -> t.law(), IAE, 2, 21);
        refusedText("abc A", t -> t.learn(-1), IAE, 2, 0);
        refusedText("ab A", t -> t.learn(1), IAE, 2, 0);
        refusedText("ab A", t -> t.learn(-2), IAE, 2, 0);
    }
}
