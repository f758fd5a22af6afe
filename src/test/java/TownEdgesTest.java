/** Promises 1, 7 to 11, 20, 21 and 37 to 39, edge by edge: each bound at the case itself and on both sides of it. */
public final class TownEdgesTest {
    private static final Check CHECK = new Check("TownEdgesTest");
    private static final int[] FAR_OFF = {Integer.MIN_VALUE, -256, 256, 1 << 16, Integer.MAX_VALUE};

    public static void main(String[] args) {
        whatOfHouses();
        wordsOfAHouse();
        eachCode();
        codesInPlace();
        costs();
        whatOfWays();
        farAndLoud();
        farByWind();
        windInPlace();
        deafAndHearing();
        oneIsNoOther();
        harmAtTheEdge();
        harmBySomeHouse();
        prices();
        coinsJustEnough();
        boughtInPlace();
        trades();
        noImage();
        imageOfNothing();
        latestImage();
        notOfTheImage();
        whatOfCounts();
        CHECK.finish();
    }

    private static void tell(BellTown town, String text) {
        Check.feed(town, text);
        CHECK.due("town() of '" + text + "'", Check.answer(town::town), Integer.toString(town.count(2)));
    }

    // Promise 7: "NoSuchElementException: another what"

    private static void whatOfHouses() {
        BellTown town = Check.townOf("house 15 0 30 999 deaf;house 0 15 1 0");
        int[][] due = {{15, 0, 30, 999, 1, 0}, {0, 15, 1, 0, 0, 0}};
        for (int house = 0; house < 2; house++) {
            for (int what = -3; what <= 9; what++) {
                int h = house;
                int w = what;
                if (what >= 0 && what <= 5) {
                    CHECK.due("house(" + house + ", " + what + ")", town.house(house, what), due[house][what]);
                } else {
                    CHECK.noElement("house(" + house + ", " + what + ")", () -> town.house(h, w));
                }
            }
        }
        for (int what : FAR_OFF) {
            CHECK.noElement("house(0, " + what + ")", () -> town.house(0, what));
        }
    }

    private static void wordsOfAHouse() {
        BellTown town = Check.townOf(Check.lines(2, "house 0 0 1 0"), Check.lines(10, "want 1"));
        CHECK.due("no WORD at first", town.house(0, 5), 0);
        StringBuilder text = new StringBuilder();
        for (int want = 0; want < 10; want++) {
            text.append(want > 0 ? ";" : "").append("code 1 ").append(want).append(" ab");
        }
        tell(town, text.toString());
        CHECK.due("ten WORDS", town.house(1, 5), 10);
        CHECK.due("and none of the other one", town.house(0, 5), 0);
        tell(town, "none 1 0;none 1 9;none 0 0");
        CHECK.due("eight WORDS", town.house(1, 5), 8);
        CHECK.due("WORDS of all", town.count(5), 8);
    }

    // Terms: "CODE: of each HOUSE and WANT a WORD, or none (none at first)"

    private static void eachCode() {
        BellTown town = Check.townOf(Check.lines(8, "house 0 0 1 0"), Check.lines(10, "want 1"));
        for (int house = 0; house < 8; house++) {
            for (int want = 0; want < 10; want++) {
                CHECK.due("none at first", town.code(house, want), -1);
            }
        }
        for (int house = 0; house < 8; house++) {
            StringBuilder text = new StringBuilder();
            for (int want = 0; want < 10; want++) {
                text.append(want > 0 ? ";" : "").append("code ").append(house).append(' ').append(want).append(' ')
                    .append(Check.strokes(100 + house * 10 + want));
            }
            tell(town, text.toString());
        }
        int costs = 0;
        for (int house = 0; house < 8; house++) {
            for (int want = 0; want < 10; want++) {
                int word = 100 + house * 10 + want;
                CHECK.due("code(" + house + ", " + want + ")", town.code(house, want), word);
                costs += Check.costOf(word);
            }
        }
        CHECK.due("80 WORDS of all", town.count(5), 80);
        CHECK.due("COST of all WORDS", town.count(10), costs);
    }

    private static void codesInPlace() {
        BellTown town = Check.townOf("house 0 0 1 0;want 1;none 0 0;code 0 0 ab;code 0 0 ba");
        CHECK.due("the later of two", town.code(0, 0), 6);
        tell(town, "none 0 0;none 0 0");
        CHECK.due("none", town.code(0, 0), -1);
        tell(town, "code 0 0 a;none 0 0;code 0 0 b");
        CHECK.due("a WORD behind none", town.code(0, 0), 3);
    }

    // Promise 10: "IllegalArgumentException: it is none (2 to 511)"

    private static void costs() {
        for (int from = -5; from <= 520; from += 175) {
            BellTown town = new BellTown();
            for (int word = from; word < from + 175; word++) {
                int w = word;
                if (word >= 2 && word <= 511) {
                    CHECK.due("cost(" + word + ")", town.cost(word), Check.costOf(word));
                } else {
                    CHECK.illegal("cost(" + word + ")", () -> town.cost(w));
                }
            }
        }
        for (int word : FAR_OFF) {
            if (word != 256) {
                CHECK.illegal("cost(" + word + ")", () -> new BellTown().cost(word));
            }
        }
        CHECK.due("a", new BellTown().cost(2), 1);
        CHECK.due("b", new BellTown().cost(3), 2);
        CHECK.due("bbbbbbba", new BellTown().cost(510), 15);
        CHECK.due("bbbbbbbb", new BellTown().cost(511), 16);
    }

    // Promise 11: "NoSuchElementException: another what"

    private static void whatOfWays() {
        BellTown town = Check.townOf("house 0 0 4 0;house 1 0 1 0");
        int[] due = {1, 1, 2, 1};
        for (int what = -3; what <= 7; what++) {
            int w = what;
            if (what >= 0 && what <= 3) {
                CHECK.due("way(1, 0, " + what + ")", town.way(1, 0, what), due[what]);
            } else {
                CHECK.noElement("way(1, 0, " + what + ")", () -> town.way(1, 0, w));
                CHECK.noElement("way(0, 0, " + what + ")", () -> town.way(0, 0, w));
            }
        }
        for (int what : FAR_OFF) {
            CHECK.noElement("way(1, 0, " + what + ")", () -> town.way(1, 0, what));
        }
    }

    // Terms: "FAR is at most LOUD of J"; "CLEAR: LOUD of J less FAR, by 3, rounded down, and 1"

    private static void farAndLoud() {
        for (int loud = 1; loud <= 30; loud++) {
            for (int far = 0; far <= 30; far++) {
                int x = Math.min(far, 15);
                BellTown town = Check.townOf("house 0 0 " + loud + " 0;house " + x + " " + (far - x) + " 1 0");
                String way = "LOUD " + loud + " and FAR " + far + ": ";
                boolean hears = far <= loud;
                int steps = loud - far;
                CHECK.due(way + "FAR", town.way(1, 0, 0), far);
                CHECK.due(way + "HEARS", town.way(1, 0, 1), hears ? 1 : 0);
                CHECK.due(way + "CLEAR", town.way(1, 0, 2), hears ? (steps - steps % 3) / 3 + 1 : 0);
                CHECK.due(way + "HARM", town.way(1, 0, 3), hears || far <= 1 ? 1 : 0);
                CHECK.due(way + "the other way", town.way(0, 1, 1), far <= 1 ? 1 : 0);
            }
        }
        // LOUD 9: FAR 10 and 9, then where another stroke comes, 7 and 6, 4 and 3, 1 and 0
        int[] due = {4, 3, 3, 3, 2, 2, 2, 1, 1, 1, 0};
        for (int far = 0; far <= 10; far++) {
            BellTown town = Check.townOf("house 0 0 9 0;house " + far + " 0 1 0");
            CHECK.due("CLEAR of LOUD 9 at " + far, town.way(1, 0, 2), due[far]);
        }
    }

    // Terms: "WIND: X and Y, - 9 to 9 each", "steps along X and Y together from J's place, moved by WIND, to I's"

    private static void farByWind() {
        for (int x = -9; x <= 9; x++) {
            for (int y = -9; y <= 9; y += x % 9 == 0 ? 1 : 6) {
                String text = "house 8 7 15 0;house 10 2 15 0";
                // a line tells both by one sign, so no WIND is above 0 along one way and below 0 along the other
                boolean gale = x < 0 || y < 0;
                if (gale && (x > 0 || y > 0)) {
                    continue;
                }
                BellTown town = Check.townOf(text, (gale ? "gale " : "wind ") + Math.abs(x) + " " + Math.abs(y));
                int with = Math.abs(8 + x - 10) + Math.abs(7 + y - 2);
                int against = Math.abs(10 + x - 8) + Math.abs(2 + y - 7);
                CHECK.due("WIND's X", town.count(8), x);
                CHECK.due("WIND's Y", town.count(9), y);
                CHECK.due("FAR of 1 from 0", town.way(1, 0, 0), with);
                CHECK.due("FAR of 0 from 1", town.way(0, 1, 0), against);
                CHECK.due("FAR of 0 from itself", town.way(0, 0, 0), Math.abs(x) + Math.abs(y));
                CHECK.due("CLEAR of 1 from 0", town.way(1, 0, 2), with <= 15 ? (15 - with) / 3 + 1 : 0);
                CHECK.due("CLEAR of 0 from 1", town.way(0, 1, 2), against <= 15 ? (15 - against) / 3 + 1 : 0);
            }
        }
        // the farthest: 15 15 moved by 9 9 to 0 0
        BellTown farthest = Check.townOf("house 15 15 30 0;house 0 0 30 0;wind 9 9");
        CHECK.due("the farthest", farthest.way(1, 0, 0), 48);
        CHECK.due("the other way", farthest.way(0, 1, 0), 12);
        CHECK.due("CLEAR the other way", farthest.way(0, 1, 2), 7);
    }

    private static void windInPlace() {
        BellTown town = new BellTown();
        CHECK.due("WIND 0 at first", town.count(8) * 100 + town.count(9), 0);
        tell(town, "wind 3 4;gale 5 6;wind 7 8");
        CHECK.due("the last of three", town.count(8) * 100 + town.count(9), 708);
        tell(town, "want 1");
        CHECK.due("it stays", town.count(8) * 100 + town.count(9), 708);
        tell(town, "gale 0 9");
        CHECK.due("X", town.count(8), 0);
        CHECK.due("Y", town.count(9), -9);
        tell(town, "wind 0 0");
        CHECK.due("0 again", town.count(8) * 100 + town.count(9), 0);
        BellTown houses = Check.townOf("house 0 0 5 0;wind 9 9;house 5 0 5 0;wind 1 0");
        CHECK.due("the WIND of the end is for all", houses.way(1, 0, 0), 4);
    }

    // Terms: "one who is DEAF hears nobody"

    private static void deafAndHearing() {
        BellTown town = Check.townOf("house 0 0 30 0 deaf;house 0 0 30 0;house 0 0 30 0 deaf");
        int[][] hears = {{0, 0, 0}, {1, 0, 1}, {0, 0, 0}};
        for (int i = 0; i < 3; i++) {
            for (int j = 0; j < 3; j++) {
                CHECK.due(i + " HEARS " + j, town.way(i, j, 1), hears[i][j]);
                CHECK.due("CLEAR of " + i + " from " + j, town.way(i, j, 2), hears[i][j] * 11);
                CHECK.due("FAR of " + i + " from " + j, town.way(i, j, 0), 0);
            }
        }
        CHECK.due("0 and 2 HARM each other by 1", town.way(0, 2, 3), 1);
        BellTown deaf = Check.townOf("house 0 0 30 0 deaf;house 0 0 30 0 deaf;house 0 0 30 0 deaf");
        CHECK.due("three that are DEAF do not", deaf.way(0, 2, 3), 0);
    }

    // Terms: "if I is another one"; promise 11: "(0 of one alone)"

    private static void oneIsNoOther() {
        BellTown town = Check.townOf("house 3 3 30 0;house 3 3 30 0");
        for (int house = 0; house < 2; house++) {
            CHECK.due("FAR of one alone", town.way(house, house, 0), 0);
            CHECK.due("HEARS itself", town.way(house, house, 1), 0);
            CHECK.due("CLEAR of itself", town.way(house, house, 2), 0);
            CHECK.due("HARMS itself", town.way(house, house, 3), 0);
            CHECK.due("HARMS the other", town.way(house, 1 - house, 3), 1);
        }
    }

    // SHARE: "two HOUSES HARM each other, if some HOUSE HEARS both (or one HEARS the other)"

    private static void harmAtTheEdge() {
        for (int far = 4; far <= 6; far++) {
            BellTown town = Check.townOf("house 0 0 5 0;house " + far + " 0 1 0");
            CHECK.due("HARM at FAR " + far + " of LOUD 5", town.way(0, 1, 3), far <= 5 ? 1 : 0);
            CHECK.due("HARM at FAR " + far + " of LOUD 5, the other way", town.way(1, 0, 3), far <= 5 ? 1 : 0);
        }
        // 0 is deaf, so it does not hear 1, but 1 hears 0; both deaf: none
        CHECK.due("one that is DEAF", Check.townOf("house 0 0 5 0 deaf;house 0 0 5 0").way(0, 1, 3), 1);
        CHECK.due("the other one DEAF", Check.townOf("house 0 0 5 0;house 0 0 5 0 deaf").way(0, 1, 3), 1);
        CHECK.due("both DEAF", Check.townOf("house 0 0 5 0 deaf;house 0 0 5 0 deaf").way(0, 1, 3), 0);
    }

    private static void harmBySomeHouse() {
        // 0 at 0 and 1 at 10 do not hear each other; the third one stands at 4 to 6
        for (int place = 4; place <= 6; place++) {
            for (int order = 0; order < 3; order++) {
                String third = "house " + place + " 0 1 0";
                String text = order == 0 ? third + ";house 0 0 5 0;house 10 0 5 0"
                    : order == 1 ? "house 0 0 5 0;" + third + ";house 10 0 5 0" : "house 0 0 5 0;house 10 0 5 0;" + third;
                int one = order == 0 ? 1 : 0;
                int other = order == 2 ? 1 : 2;
                BellTown town = Check.townOf(text);
                CHECK.due("HARM by a third one at " + place, town.way(one, other, 3), place == 5 ? 1 : 0);
                CHECK.due("and the other way", town.way(other, one, 3), place == 5 ? 1 : 0);
            }
        }
        BellTown eight = Check.townOf("house 0 0 5 0;house 10 0 5 0;" + Check.lines(5, "house 15 15 1 0") + ";house 5 0 1 0");
        CHECK.due("HARM by the eighth", eight.way(0, 1, 3), 1);
        BellTown seven = Check.townOf("house 0 0 5 0;house 10 0 5 0;" + Check.lines(5, "house 15 15 1 0") + ";house 5 1 1 0");
        CHECK.due("one step off", seven.way(0, 1, 3), 0);
    }

    // COINS: "its PRICE is 40 by its COST, rounded down, and 1"

    private static void prices() {
        int[] due = {0, 41, 21, 14, 11, 9, 7, 6, 6, 5, 5, 4, 4, 4, 3, 3, 3};
        for (int word = 0; word <= 513; word++) {
            BellTown town = Check.townOf("house 0 0 1 999;house 0 0 1 0;want 1");
            int w = word;
            if (word < 2 || word > 511) {
                CHECK.illegal("buy of " + word, () -> town.buy(0, 0, w));
                CHECK.illegal("buy of " + word + " without COINS", () -> town.buy(1, 0, w));
                continue;
            }
            int price = due[Check.costOf(word)];
            CHECK.due("buy of " + word, town.buy(0, 0, word), price);
            CHECK.due("COINS behind it", town.house(0, 3), 999 - price);
            CHECK.due("COINS of the council", town.count(7), price);
            CHECK.due("its WORD", town.code(0, 0), word);
            CHECK.due("buy without COINS", town.buy(1, 0, word), -1);
            CHECK.due("COINS of all", town.count(6), 999 - price);
        }
        for (int word : FAR_OFF) {
            if (word != 256) {
                CHECK.illegal("buy of " + word, () -> Check.townOf("house 0 0 1 999;want 1").buy(0, 0, word));
            }
        }
    }

    // Promise 20: "NONE, and nothing happens, if COINS are not enough"

    private static void coinsJustEnough() {
        int[][] words = {{2, 41}, {3, 21}, {5, 14}, {7, 11}, {256, 6}, {511, 3}};
        for (int[] word : words) {
            for (int more = -1; more <= 1; more++) {
                BellTown town = Check.townOf("house 0 0 1 " + (word[1] + more) + ";want 1");
                boolean enough = more >= 0;
                CHECK.due("buy of " + word[0], town.buy(0, 0, word[0]), enough ? word[1] : -1);
                CHECK.due("COINS that are left", town.house(0, 3), enough ? more : word[1] - 1);
                CHECK.due("COINS of the council", town.count(7), enough ? word[1] : 0);
                CHECK.due("code(0, 0)", town.code(0, 0), enough ? word[0] : -1);
            }
        }
        BellTown town = Check.townOf("house 0 0 1 82;want 1");
        CHECK.due("the first for 41 of 82", town.buy(0, 0, 2), 41);
        CHECK.due("the second for 41 of 41", town.buy(0, 0, 2), 41);
        CHECK.due("a third one for 3 of 0", town.buy(0, 0, 511), -1);
        CHECK.due("it has what it had", town.code(0, 0), 2);
        CHECK.due("COINS of the council", town.count(7), 82);
    }

    // COINS: "in place of what it had; what it had is not paid back"

    private static void boughtInPlace() {
        BellTown town = Check.townOf("house 0 0 1 100;house 0 0 1 100;want 1;want 1;code 0 0 a;code 0 1 bb;code 1 0 a");
        CHECK.due("buy in place of a", town.buy(0, 0, 3), 21);
        CHECK.due("it is not paid back", town.house(0, 3), 79);
        CHECK.due("its WORD", town.code(0, 0), 3);
        CHECK.due("its other WORD", town.code(0, 1), 7);
        CHECK.due("the other one's WORD", town.code(1, 0), 2);
        CHECK.due("the other one's COINS", town.house(1, 3), 100);
        CHECK.due("a WORD that begins another is bought, too", town.buy(0, 1, 3), 21);
        CHECK.due("BEGINS", town.begins(0), 1);
    }

    // TRADE: "two HOUSES have each other's WORDS for a WANT"; promise 21: "IllegalArgumentException: both are one"

    private static void trades() {
        for (int one = 0; one < 3; one++) {
            for (int other = 0; other < 3; other++) {
                int a = one;
                int b = other;
                BellTown town = Check.townOf("house 0 0 1 9;house 0 0 1 9;house 0 0 1 9;want 1;want 1;code 0 0 ab;code 1 0 ba;"
                    + "code 0 1 aa;code 2 1 bb");
                int[] words = {5, 6, -1};
                if (one == other) {
                    CHECK.illegal("trade of one alone", () -> traded(town, a, b));
                } else {
                    CHECK.due("trade", traded(town, one, other), 0);
                    words[one] = new int[] {5, 6, -1}[other];
                    words[other] = new int[] {5, 6, -1}[one];
                }
                int[] others = {4, -1, 7};
                for (int house = 0; house < 3; house++) {
                    CHECK.due("code(" + house + ", 0) behind trade", town.code(house, 0), words[house]);
                    CHECK.due("code(" + house + ", 1) behind trade", town.code(house, 1), others[house]);
                    CHECK.due("COINS behind trade", town.house(house, 3), 9);
                }
                CHECK.due("COINS of the council behind trade", town.count(7), 0);
            }
        }
        BellTown none = Check.townOf("house 0 0 1 0;house 0 0 1 0;want 1");
        CHECK.due("trade of none for none", traded(none, 0, 1), 0);
        CHECK.due("still none", none.code(0, 0) + none.code(1, 0), -2);
    }

    private static long traded(BellTown town, int house, int other) {
        town.trade(house, other, 0);
        return 0;
    }

    // Promise 38: "false, and nothing happens, if none was kept"

    private static void noImage() {
        BellTown town = new BellTown();
        CHECK.due("back() of a new object", town.back(), false);
        tell(town, "want 5");
        CHECK.due("back() without THE IMAGE", town.back(), false);
        CHECK.due("WANTS are as they were", town.count(1), 1);
        town.image();
        CHECK.due("back() behind image()", town.back(), true);
        CHECK.due("back() again", town.back(), true);
        CHECK.due("WANTS are as they were", town.count(1), 1);
    }

    private static void imageOfNothing() {
        BellTown town = new BellTown();
        town.image();
        tell(town, "house 0 0 9 99;want 5;code 0 0 ab;gale 1 1");
        Check.feed(town, "first 1");
        town.law();
        town.ring(0, 0, 0);
        town.buy(0, 0, 7);
        CHECK.due("back() to nothing", town.back(), true);
        int[] due = {0, 0, 0, -1, 0, 0, 0, 0, 0, 0, 0};
        for (int what = 0; what < due.length; what++) {
            CHECK.due("count(" + what + ") of nothing", town.count(what), due[what]);
        }
        tell(town, "house 0 0 9 99;want 5");
        CHECK.due("no WORD is left over", town.code(0, 0), -1);
        CHECK.due("no WIND is left over", town.way(0, 0, 0), 0);
        CHECK.due("no RINGING is left over", town.undo(), -1);
    }

    // THE IMAGE "(one) of all"

    private static void latestImage() {
        BellTown town = new BellTown();
        for (int n = 1; n <= 5; n++) {
            tell(town, "want " + n);
            town.image();
        }
        tell(town, "want 6");
        for (int again = 0; again < 3; again++) {
            CHECK.due("back()", town.back(), true);
            CHECK.due("WANTS of the latest image", town.count(1), 5);
            CHECK.due("texts of the latest image", town.count(2), 5);
            tell(town, "want 7");
            CHECK.due("a text behind it", town.count(2), 6);
            CHECK.due("its WANT", town.want(5), 7);
        }
        // the tenth text, undone by back(), may be told again
        BellTown ten = new BellTown();
        for (int n = 0; n < 9; n++) {
            tell(ten, "");
        }
        ten.image();
        tell(ten, "want 1");
        Check.feed(ten, "");
        CHECK.unsupported("an 11th text", ten::town);
        ten.back();
        tell(ten, "want 2");
        CHECK.due("the tenth text anew", ten.want(0), 2);
        Check.feed(ten, "");
        CHECK.unsupported("an 11th text anew", ten::town);
    }

    // THE IMAGE: "(but for the TAPE, fault() and THE IMAGE itself)"

    private static void notOfTheImage() {
        BellTown town = new BellTown();
        Check.feed(town, "want 1");
        town.image();
        Check.feed(town, "7");
        CHECK.due("back()", town.back(), true);
        CHECK.due("the TAPE has a byte more", town.end(8), false);
        CHECK.due("the TAPE is as it was ahead of back()", town.end(1), true);
        CHECK.illegal("a wrong text", town::town);
        CHECK.due("back()", town.back(), true);
        CHECK.due("fault() is as it was ahead of back()", town.fault(), 0);
        Check.feed(town, "");
        town.town();
        CHECK.due("back()", town.back(), true);
        CHECK.due("fault() of the right text", town.fault(), -1);
        CHECK.due("the TAPE is not of the image", town.end(1), false);
        tell(town, "want 9");
        CHECK.due("THE IMAGE is still there", town.back(), true);
        CHECK.due("and as it was", town.count(1), 0);
    }

    // Promise 39: "NONE for another what (- 1 for WIND is told likewise)"

    private static void whatOfCounts() {
        BellTown town = Check.townOf("house 0 0 9 50;house 3 0 4 9;want 10;code 0 0 ab;code 1 0 b", "gale 1 1");
        Check.feed(town, "first 1;first 2");
        town.law();
        town.ring(0, 0, 0);
        town.buy(0, 0, 511);
        int[] due = {2, 1, 2, 2, 1, 2, 56, 3, -1, -1, 18};
        for (int what = -5; what <= 20; what++) {
            CHECK.due("count(" + what + ")", town.count(what), what >= 0 && what <= 10 ? due[what] : -1);
        }
        for (int what : FAR_OFF) {
            CHECK.due("count(" + what + ")", town.count(what), -1);
        }
        town.trade(0, 1, 0);
        town.hush();
        Check.feed(town, "none 1 0");
        town.town();
        Check.feed(town, "");
        town.law();
        int[] later = {2, 1, 3, 0, 0, 1, 56, 3, -1, -1, 2};
        for (int what = 0; what <= 10; what++) {
            CHECK.due("count(" + what + ") later", town.count(what), later[what]);
        }
        BellTown full = Check.townOf(Check.lines(8, "house 15 15 30 999"), Check.lines(10, "want 99"));
        CHECK.due("COINS of eight", full.count(6), 7992);
        CHECK.due("HOUSES", full.count(0), 8);
        CHECK.due("WANTS", full.count(1), 10);
    }
}
