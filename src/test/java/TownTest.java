/** Promises 7 to 11, 20, 21, 37 to 39: what there is, ways, coins and trades, the image and the counts. */
public final class TownTest {
    private static final Check CHECK = new Check("TownTest");
    private static final String FOUR = "house 0 0 10 50;house 3 0 4 9;house 8 0 6 30;house 3 4 5 5 deaf;want 10;want 5;"
        + "code 0 0 ab;code 0 1 b;code 1 0 b;code 2 0 aaa";

    public static void main(String[] args) {
        housesAndWants();
        words();
        ways();
        windAndWays();
        harm();
        buying();
        trading();
        imageAndBack();
        counts();
        CHECK.finish();
    }

    private static void housesAndWants() {
        BellTown town = Check.townOf(FOUR);
        int[][] due = {{0, 0, 10, 50, 0, 2}, {3, 0, 4, 9, 0, 1}, {8, 0, 6, 30, 0, 1}, {3, 4, 5, 5, 1, 0}};
        for (int house = 0; house < 4; house++) {
            for (int what = 0; what < 6; what++) {
                CHECK.due("house(" + house + ", " + what + ")", town.house(house, what), due[house][what]);
            }
        }
        CHECK.noElement("house(0, 6)", () -> town.house(0, 6));
        CHECK.noElement("house(0, -1)", () -> town.house(0, -1));
        CHECK.outOfBounds("house(4, 0)", () -> town.house(4, 0));
        CHECK.outOfBounds("house(-1, 9), IndexOutOfBounds being told first", () -> town.house(-1, 9));
        CHECK.due("want(0)", town.want(0), 10);
        CHECK.due("want(1)", town.want(1), 5);
        CHECK.outOfBounds("want(2)", () -> town.want(2));
        CHECK.outOfBounds("want(-1)", () -> town.want(-1));
    }

    private static void words() {
        BellTown town = Check.townOf(FOUR, "code 3 1 bbbbbbbb;code 3 0 aaaaaaaa");
        CHECK.due("code(0, 0)", town.code(0, 0), 5);
        CHECK.due("code(2, 1)", town.code(2, 1), -1);
        CHECK.due("code(3, 1)", town.code(3, 1), 511);
        CHECK.due("code(3, 0)", town.code(3, 0), 256);
        CHECK.outOfBounds("code(4, 0)", () -> town.code(4, 0));
        CHECK.outOfBounds("code(0, 2)", () -> town.code(0, 2));
        CHECK.outOfBounds("code(0, -1)", () -> town.code(0, -1));
        int[][] costs = {{2, 1}, {3, 2}, {4, 2}, {5, 3}, {6, 3}, {7, 4}, {256, 8}, {511, 16}, {0x1aa, 12}};
        for (int[] cost : costs) {
            CHECK.due("cost(" + cost[0] + ")", town.cost(cost[0]), cost[1]);
        }
        for (int none : new int[] {1, 0, -1, 512, Integer.MAX_VALUE, Integer.MIN_VALUE}) {
            CHECK.illegal("cost(" + none + ")", () -> town.cost(none));
        }
    }

    private static void ways() {
        // LOUD 7: at FAR 7, 5, 4, 1 CLEAR is 1, 1, 2, 3; at 8 nothing is heard
        BellTown town = Check.townOf("house 5 5 7 0;house 12 5 1 0;house 5 0 1 0;house 3 3 1 0;house 5 6 1 0;house 13 5 1 0");
        int[] far = {0, 7, 5, 4, 1, 8};
        int[] clear = {0, 1, 1, 2, 3, 0};
        for (int i = 0; i < 6; i++) {
            CHECK.due("way(" + i + ", 0, 0)", town.way(i, 0, 0), far[i]);
            CHECK.due("way(" + i + ", 0, 1)", town.way(i, 0, 1), clear[i] > 0 ? 1 : 0);
            CHECK.due("way(" + i + ", 0, 2)", town.way(i, 0, 2), clear[i]);
        }
        CHECK.noElement("way(0, 1, 4)", () -> town.way(0, 1, 4));
        CHECK.noElement("way(0, 1, -1)", () -> town.way(0, 1, -1));
        CHECK.outOfBounds("way(6, 0, 0)", () -> town.way(6, 0, 0));
        CHECK.outOfBounds("way(0, 6, 7)", () -> town.way(0, 6, 7));
        CHECK.outOfBounds("way(-1, 0, 0)", () -> town.way(-1, 0, 0));
        BellTown loud = Check.townOf("house 5 5 30 0;house 5 5 30 0;house 5 5 30 0 deaf");
        CHECK.due("CLEAR of LOUD 30 at the same place", loud.way(0, 1, 2), 11);
        CHECK.due("one who is DEAF does not HEAR", loud.way(2, 0, 1), 0);
        CHECK.due("but is heard", loud.way(0, 2, 1), 1);
        CHECK.due("FAR of one who is DEAF", loud.way(2, 0, 0), 0);
    }

    private static void windAndWays() {
        // the ringer's place is moved: 1 rings at 4 0, which the wind makes 6 1
        BellTown town = Check.townOf("house 0 0 6 0;house 4 0 6 0", "wind 2 1");
        CHECK.due("FAR against the wind", town.way(0, 1, 0), 7);
        CHECK.due("HEARS against the wind", town.way(0, 1, 1), 0);
        CHECK.due("FAR with the wind", town.way(1, 0, 0), 3);
        CHECK.due("CLEAR with the wind", town.way(1, 0, 2), 2);
        CHECK.due("FAR of one alone", town.way(0, 0, 0), 3);
        CHECK.due("WIND's X", town.count(8), 2);
        Check.feed(town, "gale 1 3");
        town.town();
        CHECK.due("WIND's X of a gale", town.count(8), -1);
        CHECK.due("WIND's Y of a gale", town.count(9), -3);
        CHECK.due("FAR with the gale", town.way(0, 1, 0), 6);
        CHECK.due("CLEAR with the gale", town.way(0, 1, 2), 1);
        CHECK.due("FAR against the gale", town.way(1, 0, 0), 8);
        CHECK.due("CLEAR against the gale", town.way(1, 0, 2), 0);
        BellTown upward = Check.townOf("house 5 2 9 0;house 5 9 9 0;wind 0 4");
        CHECK.due("FAR upward with the wind", upward.way(1, 0, 0), 3);
        CHECK.due("FAR downward against it", upward.way(0, 1, 0), 11);
    }

    private static void harm() {
        // 0 and 2 are far from each other, and 1 hears both; 3 is deaf and hears none; 4 is alone
        BellTown town = Check.townOf("house 0 0 4 0;house 4 0 1 0;house 8 0 4 0;house 0 4 3 0 deaf;house 15 15 1 0");
        int[][] due = {{0, 1, 1, 0, 0}, {1, 0, 1, 0, 0}, {1, 1, 0, 0, 0}, {0, 0, 0, 0, 0}, {0, 0, 0, 0, 0}};
        for (int i = 0; i < 5; i++) {
            for (int j = 0; j < 5; j++) {
                CHECK.due("way(" + i + ", " + j + ", 3)", town.way(i, j, 3), due[i][j]);
            }
        }
        BellTown first = Check.townOf("house 4 0 1 0;house 0 0 4 0;house 8 0 4 0");
        CHECK.due("the one that hears both is the first", first.way(1, 2, 3), 1);
        BellTown last = Check.townOf("house 0 0 4 0;house 8 0 4 0;house 4 0 1 0 deaf");
        CHECK.due("one who is DEAF does not join two", last.way(0, 1, 3), 0);
    }

    private static void buying() {
        BellTown town = Check.townOf("house 0 0 9 41;house 0 0 9 999;want 3;want 4;code 0 0 b");
        CHECK.illegal("buy(0, 0, 1)", () -> town.buy(0, 0, 1));
        CHECK.illegal("buy(0, 0, 512)", () -> town.buy(0, 0, 512));
        CHECK.outOfBounds("buy(2, 0, 1)", () -> town.buy(2, 0, 1));
        CHECK.outOfBounds("buy(0, 2, 1)", () -> town.buy(0, 2, 1));
        CHECK.due("buy(0, 0, 5)", town.buy(0, 0, 5), 14);
        CHECK.due("COINS are less", town.house(0, 3), 27);
        CHECK.due("COINS of the council", town.count(7), 14);
        CHECK.due("it has that CODE in place of what it had", town.code(0, 0), 5);
        CHECK.due("buy(0, 1, 2) for 41", town.buy(0, 1, 2), -1);
        CHECK.due("COINS stay", town.house(0, 3), 27);
        CHECK.due("no WORD came", town.code(0, 1), -1);
        CHECK.due("the council has no more", town.count(7), 14);
        CHECK.due("buy(1, 1, 2)", town.buy(1, 1, 2), 41);
        CHECK.due("buy(1, 1, 511)", town.buy(1, 1, 511), 3);
        CHECK.due("buy(1, 1, 256)", town.buy(1, 1, 256), 6);
        CHECK.due("COINS of the council", town.count(7), 64);
        CHECK.due("COINS of all", town.count(6), 27 + 999 - 50);
        BellTown poor = Check.townOf("house 0 0 9 41;want 3");
        CHECK.due("COINS that are just enough", poor.buy(0, 0, 2), 41);
        CHECK.due("no COIN is left", poor.house(0, 3), 0);
    }

    private static void trading() {
        BellTown town = Check.townOf(FOUR);
        town.trade(0, 1, 0);
        CHECK.due("code(0, 0) traded", town.code(0, 0), 3);
        CHECK.due("code(1, 0) traded", town.code(1, 0), 5);
        CHECK.due("code(0, 1) stays", town.code(0, 1), 3);
        town.trade(3, 0, 1);
        CHECK.due("a WORD for none", town.code(3, 1), 3);
        CHECK.due("none for a WORD", town.code(0, 1), -1);
        CHECK.illegal("trade(1, 1, 0)", () -> traded(town, 1, 1, 0));
        CHECK.outOfBounds("trade(4, 4, 0)", () -> traded(town, 4, 4, 0));
        CHECK.outOfBounds("trade(1, 1, 2)", () -> traded(town, 1, 1, 2));
        CHECK.outOfBounds("trade(0, -1, 0)", () -> traded(town, 0, -1, 0));
    }

    private static long traded(BellTown town, int house, int other, int want) {
        town.trade(house, other, want);
        return 0;
    }

    private static void imageAndBack() {
        BellTown town = Check.townOf(FOUR, "wind 1 2");
        Check.feed(town, "first 3 if cost < 3");
        town.law();
        town.ring(4, 0, 0);
        town.ring(9, 1, 0);
        town.buy(0, 1, 7);
        int[] due = counted(town);
        int six = town.six(0, 0);
        town.image();
        Check.feed(town, "house 1 1 9 9;want 9;code 4 2 ab;none 0 0;gale 3 3");
        town.town();
        Check.feed(town, "first 9 if house > 1;first 2;first 1");
        town.law();
        town.undo();
        town.ring(1, 4, 2);
        town.ring(2, 4, 2);
        town.buy(2, 1, 511);
        town.trade(1, 2, 0);
        Check.feed(town, "bell");
        CHECK.illegal("a wrong text", town::town);
        Check.feed(town, "tape");
        for (int again = 0; again < 2; again++) {
            CHECK.due("back()", town.back(), true);
            for (int what = 0; what < due.length; what++) {
                CHECK.due("count(" + what + ") behind back()", town.count(what), due[what]);
            }
            CHECK.due("code(0, 0) behind back()", town.code(0, 0), 5);
            CHECK.due("code(0, 1) behind back()", town.code(0, 1), 7);
            CHECK.due("house(0, 3) behind back()", town.house(0, 3), 39);
            CHECK.due("way(1, 0, 0) behind back()", town.way(1, 0, 0), 4);
            CHECK.due("way(1, 0, 2) behind back()", town.way(1, 0, 2), 3);
            CHECK.due("six(0, 0) behind back()", town.six(0, 0), six);
            CHECK.due("heard(1, 0) behind back()", town.heard(1, 0), 0);
            CHECK.outOfBounds("heard(2, 0) behind back()", () -> town.heard(2, 0));
            CHECK.due("fault() is not of the image", town.fault(), 0);
            CHECK.due("the image stays what it was", town.undo(), 1);
        }
        CHECK.due("the TAPE is not of the image", town.end(4), true);
        town.image();
        town.hush();
        CHECK.due("back() to a later image", town.back(), true);
        CHECK.due("RINGINGS of the later image", town.count(4), 1);
    }

    private static int[] counted(BellTown town) {
        int[] all = new int[11];
        for (int what = 0; what < all.length; what++) {
            all[what] = town.count(what);
        }
        return all;
    }

    private static void counts() {
        BellTown town = Check.townOf(FOUR, "gale 9 8");
        town.ring(0, 0, 0);
        town.buy(0, 1, 511);
        int[] due = {4, 2, 2, -1, 1, 4, 91, 3, -9, -8, 3 + 16 + 2 + 3};
        for (int what = 0; what < due.length; what++) {
            CHECK.due("count(" + what + ")", town.count(what), due[what]);
        }
        CHECK.due("count(11)", town.count(11), -1);
        CHECK.due("count(-1)", town.count(-1), -1);
        Check.feed(town, "gale 1 1");
        town.town();
        CHECK.due("WIND's X of - 1", town.count(8), -1);
        Check.feed(town, "");
        town.law();
        CHECK.due("LINES of an empty LAW", town.count(3), 0);
    }
}
