/**
 * A town in which no two HOUSES, WANTS and RINGINGS are alike: each call is asked of every one of them, as an answer of
 * another one would be seen. All answers are worked out by hand.
 */
public final class EachTest {
    private static final Check CHECK = new Check("EachTest");
    private static final int NO = -1;
    private static final int NO_WORTH = -1000000;

    // CLEAR: 1 hears 1 stroke of 0; 0 and 2 hear 2 of 1; 0 and 1 hear 3 of 2; 2 does not hear 0
    private static final String HOUSES = "house 0 0 1 40;house 0 1 4 50;house 0 2 8 60";
    private static final String WANTS = "want 2;want 3;want 5;want 7;want 11";
    private static final String WORDS = "code 0 0 a;code 0 2 ba;"
        + "code 1 0 b;code 1 1 ab;code 1 2 bb;code 1 3 abb;"
        + "code 2 0 aab;code 2 1 aba;code 2 2 abb;code 2 3 aabb;code 2 4 aa";
    private static final int[][] CODES = {{2, NO, 6, NO, NO}, {3, 5, 7, 11, NO}, {9, 10, 11, 19, 4}};
    private static final int[] URGENT = {2, 3, 5, 7, 11};

    public static void main(String[] args) {
        whatThereIs();
        ways();
        ringings();
        quietMinutes();
        begins();
        fooled();
        relays();
        ringers();
        six();
        worths();
        rooms();
        trades();
        sixOfTwoPairs();
        CHECK.finish();
    }

    private static BellTown told() {
        return Check.townOf(HOUSES, WANTS, WORDS);
    }

    private static void table(String name, int[] due, Asked asked) {
        for (int at = 0; at < due.length; at++) {
            CHECK.due(name + " of " + at, asked.of(at), due[at]);
        }
    }

    private interface Asked {
        long of(int which);
    }

    private static void whatThereIs() {
        BellTown town = told();
        int[][] houses = {{0, 0, 1, 40, 0, 2}, {0, 1, 4, 50, 0, 4}, {0, 2, 8, 60, 0, 5}};
        for (int house = 0; house < 3; house++) {
            int one = house;
            table("house(" + house + ")", houses[house], what -> town.house(one, what));
            table("code(" + house + ")", CODES[house], want -> town.code(one, want));
        }
        table("want", URGENT, town::want);
        table("count", new int[] {3, 5, 3, NO, 0, 11, 150, 0, 0, 0, 39}, town::count);
        table("colours", new int[] {0, 1, 2}, town::colours);
        table("understood", new int[] {1, 6, 8}, town::understood);
    }

    private static void ways() {
        BellTown town = told();
        int[][] far = {{0, 1, 2}, {1, 0, 1}, {2, 1, 0}};
        int[][] clear = {{0, 2, 3}, {1, 0, 3}, {0, 2, 0}};
        for (int i = 0; i < 3; i++) {
            int one = i;
            table("way(" + i + ", j, 0)", far[i], j -> town.way(one, j, 0));
            table("way(" + i + ", j, 2)", clear[i], j -> town.way(one, j, 2));
            for (int j = 0; j < 3; j++) {
                CHECK.due("way(" + i + ", " + j + ", 1)", town.way(i, j, 1), clear[i][j] > 0 ? 1 : 0);
                CHECK.due("way(" + i + ", " + j + ", 3)", town.way(i, j, 3), i == j ? 0 : 1);
            }
        }
    }

    /** ba of 0, abb of 1, aabb of 2 and b of 1, no two in the same minutes. */
    private static void ringings() {
        BellTown town = told();
        CHECK.due("ba", town.ring(100, 0, 2), 0);
        CHECK.due("abb", town.ring(300, 1, 3), 1);
        CHECK.due("aabb", town.ring(0, 2, 3), 2);
        CHECK.due("b", town.ring(200, 1, 0), 3);
        int[][] heard = {{0, 3, 0}, {5, 0, 5}, {9, 9, 0}, {3, 0, 3}};
        int[][] taken = {{NO, NO, NO}, {1, NO, 1}, {0, 0, NO}, {0, NO, 0}};
        int[][] could = {{0, 4, 0}, {10, 0, 10}, {9, 9, 0}, {5, 0, 5}};
        for (int ringing = 0; ringing < 4; ringing++) {
            int one = ringing;
            table("heard(" + ringing + ")", heard[ringing], house -> town.heard(one, house));
            table("taken(" + ringing + ")", taken[ringing], house -> town.taken(one, house));
            table("could(" + ringing + ")", could[ringing], house -> town.could(one, house));
        }
        table("RIGHT", new int[] {0, 0, 0, 2}, ringing -> town.sure(ringing, false));
        table("WRONG", new int[] {0, 2, 2, 0}, ringing -> town.sure(ringing, true));
    }

    /** 2 rings aa in minutes 10 and 11, which mixes at 0 and 1 alone; what is never taken for its WANT is best at the first. */
    private static void quietMinutes() {
        BellTown town = told();
        town.ring(10, 2, 4);
        int[][] due = {{12, NO, 10, NO, NO}, {12, 12, 12, 10, NO}, {12, 12, 12, 10, 12}};
        for (int house = 0; house < 3; house++) {
            int one = house;
            table("quiet(" + house + ", want, 10, 30)", due[house], want -> town.quiet(one, want, 10, 30));
        }
        // of 1 minute, which fits ahead, and of 2, which does not
        CHECK.due("a of 0 from 9 on", town.quiet(0, 0, 9, 30), 9);
        CHECK.due("b of 1 from 9 on", town.quiet(1, 0, 9, 30), 12);
    }

    private static void begins() {
        BellTown town = told();
        table("begins", new int[] {0, 2, 3}, town::begins);
        int[] safeFrom = {1, 3, 4};
        for (int house = 0; house < 3; house++) {
            for (int d = 0; d <= 8; d++) {
                CHECK.due("safe(" + house + ", " + d + ")", town.safe(house, d), d >= safeFrom[house]);
            }
        }
    }

    private static void fooled() {
        BellTown town = told();
        int[] of0 = {1, 2, 4, 8, 16, 32, 64, 128};
        int[] of1 = {1, 2, 4, 8, 16, 32, 64, 128};
        int[] of2 = {0, 1, 3, 6, 12, 24, 48, 96};
        int[] none = new int[8];
        int[][][] due = {{none, of0, none}, {of1, none, of1}, {of2, of2, none}};
        for (int ringer = 0; ringer < 3; ringer++) {
            for (int listener = 0; listener < 3; listener++) {
                int a = ringer;
                int b = listener;
                table("fooled(" + a + ", " + b + ")", due[a][b], at -> town.fooled(a, b, at + 1));
            }
        }
    }

    private static void relays() {
        BellTown town = told();
        int[][][] due = {
            {{0, 1, 3}, {2, 0, 2}, {4, 4, 0}},
            {null, {3, 0, 3}, {4, 4, 0}},
            {{0, NO, NO}, {4, 0, 4}, {5, 5, 0}},
            {null, {NO, 0, NO}, {NO, NO, 0}},
            {null, null, {2, 2, 0}}};
        for (int want = 0; want < 5; want++) {
            for (int first = 0; first < 3; first++) {
                int a = first;
                int w = want;
                if (due[want][first] == null) {
                    CHECK.illegal("relay(" + a + ", " + w + ")", () -> town.relay(a, w, 0));
                } else {
                    table("relay(" + a + ", " + w + ")", due[want][first], house -> town.relay(a, w, house));
                }
            }
        }
    }

    private static void ringers() {
        BellTown town = told();
        // 0: the first one has no WORD
        int[][] due = {{3, 2, 4}, {0, 2, 4}, {NO, 2, 4}, {0, NO, NO}, {0, 0, 4}};
        for (int want = 0; want < 5; want++) {
            for (int first = 0; first < 3; first++) {
                int a = first;
                int w = want;
                if (due[want][first] == 0) {
                    CHECK.illegal("ringers(" + a + ", " + w + ")", () -> town.ringers(a, w));
                } else {
                    CHECK.due("ringers(" + a + ", " + w + ")", town.ringers(a, w), due[want][first]);
                }
            }
        }
    }

    private static void six() {
        BellTown town = told();
        table("WAITED", new int[] {4, 3, 10, 5, 0}, want -> town.six(want, 0));
        table("OVER", new int[] {7, 7, 12, 11, 2}, want -> town.six(want, 1));
        table("OVER by lot", new int[] {7, 7, 12, 11, 2}, want -> town.lot(want, 99, 1));
        // 2, 1, 0 by what they have, so 4 + (4 + 2), and so on
        Check.feed(town, "first 1 if coins > 45;first 1 if coins > 55");
        CHECK.due("law()", town.law(), 2);
        table("WAITED by COINS", new int[] {10, 4, 14, 6, 0}, want -> town.six(want, 0));
    }

    /** bba (14, COST 5) is another's begin, or has it, for 1 alone. */
    private static void worths() {
        BellTown town = told();
        int[][] due = {{-8, 36, -10, 84, 132}, {NO_WORTH, NO_WORTH, NO_WORTH, NO_WORTH, NO_WORTH}, {-2, -3, 0, 7, -33}};
        for (int house = 0; house < 3; house++) {
            int one = house;
            table("worth(" + house + ")", due[house], want -> town.worth(one, want, 14));
        }
        table("sale", new int[] {NO, 0, NO, 0, 0}, want -> town.sale(want, 14, false));
        table("fee", new int[] {NO, 0, NO, 7, 0}, want -> town.sale(want, 14, true));
    }

    /** 0 has a and ba: a becomes ab (4 more), and aa is the new one. 1 has BEGINS, and 2 has all WORDS. */
    private static void rooms() {
        BellTown town = told();
        int[] sums = {0, 10, 0, 18, 26};
        for (int want = 0; want < 5; want++) {
            int w = want;
            for (int house = 0; house < 3; house++) {
                int one = house;
                if (CODES[house][want] != NO) {
                    CHECK.illegal("room(" + one + ", " + w + ")", () -> town.room(one, w, false));
                } else {
                    CHECK.due("room(" + one + ", " + w + ", false)", town.room(one, w, false), house == 0 ? sums[want] : NO);
                    CHECK.due("room(" + one + ", " + w + ", true)", town.room(one, w, true), house == 0 ? 4 : NO);
                }
            }
        }
    }

    private static void trades() {
        for (int traded = 0; traded < 5; traded++) {
            for (int one = 0; one < 3; one++) {
                int other = (one + 1 + traded % 2) % 3;
                BellTown town = told();
                town.trade(one, other, traded);
                for (int house = 0; house < 3; house++) {
                    int from = house == one ? other : house == other ? one : house;
                    int[] due = CODES[house].clone();
                    due[traded] = CODES[from][traded];
                    int h = house;
                    table("code(" + h + ") behind trade(" + one + ", " + other + ", " + traded + ")", due, want -> town.code(h, want));
                }
            }
        }
    }

    /** 0 waits for 1 as long as 1 sounds, and 3, which is far off, for 2 alone. */
    private static void sixOfTwoPairs() {
        BellTown town = Check.townOf("house 0 0 1 0;house 0 1 1 0;house 15 14 1 0;house 15 15 1 0;want 1;code 0 0 a;code 1 0 bbb;"
            + "code 2 0 a;code 3 0 a");
        Check.feed(town, "first 1 if house > 0");
        town.law();
        CHECK.due("WAITED of two pairs", town.six(0, 0), 6 + 1);
        CHECK.due("OVER of two pairs", town.six(0, 1), 7);
    }
}
