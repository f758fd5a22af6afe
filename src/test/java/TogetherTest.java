/** Promises 23 to 27: who can share words, relays, and six o'clock by law or by lot. */
public final class TogetherTest {
    private static final Check CHECK = new Check("TogetherTest");
    /** Four in a row, each heard by its neighbours alone, and wholly only by words of one stroke. */
    private static final String ROW = "house 0 0 3 0;house 3 0 3 0;house 6 0 3 0;house 9 0 3 0;want 7;"
        + "code 0 0 a;code 1 0 b;code 2 0 a";

    public static void main(String[] args) {
        colours();
        firstColours();
        allHarm();
        relay();
        relayByTheQuicker();
        ringers();
        sixByNumber();
        sixByLaw();
        lawOperators();
        lawByWaiting();
        sixApart();
        lot();
        CHECK.finish();
    }

    private static void colours() {
        BellTown town = Check.townOf(ROW);
        CHECK.due("colours(NONE)", town.colours(-1), 3);
        int[] due = {0, 1, 2, 0};
        for (int house = 0; house < 4; house++) {
            CHECK.due("colours(" + house + ")", town.colours(house), due[house]);
        }
        CHECK.outOfBounds("colours(4)", () -> town.colours(4));
        CHECK.outOfBounds("colours(-2)", () -> town.colours(-2));
        CHECK.due("colours(NONE) of one HOUSE", Check.townOf("house 0 0 1 0").colours(-1), 1);
    }

    private static void firstColours() {
        // 0 and 2 harm each other, and 1 and 3
        BellTown town = Check.townOf("house 0 0 1 0;house 15 0 1 0;house 0 1 1 0;house 15 1 1 0");
        int[] pairs = {0, 0, 1, 1};
        CHECK.due("two pairs", town.colours(-1), 2);
        for (int house = 0; house < 4; house++) {
            CHECK.due("colours(" + house + ") of two pairs", town.colours(house), pairs[house]);
        }
        // 0 hears 2, 2 hears 3, 3 hears 1 and no others: with 0 and 1 alike two colours would not do
        BellTown chain = Check.townOf("house 0 0 1 0;house 15 0 7 0 deaf;house 3 0 3 0;house 8 0 5 0");
        int[] due = {0, 1, 1, 0};
        CHECK.due("a chain", chain.colours(-1), 2);
        for (int house = 0; house < 4; house++) {
            CHECK.due("colours(" + house + ") of a chain", chain.colours(house), due[house]);
        }
    }

    private static void allHarm() {
        BellTown town = Check.townOf("house 0 0 30 0;house 0 1 30 0;house 0 2 30 0;house 0 3 30 0;house 0 4 30 0;house 0 5 30 0;"
            + "house 0 6 30 0;house 0 7 30 0");
        CHECK.due("eight that HARM each other", town.colours(-1), 8);
        for (int house = 0; house < 8; house++) {
            CHECK.due("colours(" + house + ") of eight", town.colours(house), house);
        }
    }

    private static void relay() {
        BellTown town = Check.townOf(ROW);
        int[] due = {0, 1, 3, 4};
        for (int house = 0; house < 4; house++) {
            CHECK.due("relay(0, 0, " + house + ")", town.relay(0, 0, house), due[house]);
        }
        CHECK.due("relay(2, 0, 0)", town.relay(2, 0, 0), 3);
        CHECK.illegal("relay(3, 0, 0) without a WORD", () -> town.relay(3, 0, 0));
        CHECK.outOfBounds("relay(3, 0, 4)", () -> town.relay(3, 0, 4));
        CHECK.outOfBounds("relay(4, 0, 0)", () -> town.relay(4, 0, 0));
        CHECK.outOfBounds("relay(3, 1, 0)", () -> town.relay(3, 1, 0));
        Check.feed(town, "code 1 0 aa");
        town.town();
        CHECK.due("the whole WORD must come", town.relay(0, 0, 2), -1);
        CHECK.due("relay to itself", town.relay(1, 0, 1), 0);
        Check.feed(town, "none 1 0;code 3 0 b");
        town.town();
        CHECK.due("one without a WORD knows", town.relay(0, 0, 1), 1);
        CHECK.due("but rings no more", town.relay(0, 0, 2), -1);
        BellTown deaf = Check.townOf("house 0 0 9 0 deaf;house 0 1 9 0;want 1;code 0 0 bb;code 1 0 a");
        CHECK.due("one who is DEAF may begin", deaf.relay(0, 0, 1), 4);
        CHECK.due("and never knows from others", deaf.relay(1, 0, 0), -1);
    }

    private static void relayByTheQuicker() {
        BellTown town = Check.townOf("house 0 0 9 0;house 0 3 9 0;house 0 6 6 0;house 0 9 9 0;want 1;"
            + "code 0 0 a;code 1 0 bb;code 2 0 a;code 3 0 aaa");
        // CLEAR of 0: at 1 three, at 2 two, at 3 one: all know at 1
        CHECK.due("by one stroke all at once", town.relay(0, 0, 3), 1);
        Check.feed(town, "code 0 0 aa");
        town.town();
        // 1 and 2 know at 2; 2 rings a: 3 knows at 3; 1 rings bb: 3 (CLEAR 2) at 6
        CHECK.due("by the quicker of two", town.relay(0, 0, 3), 3);
        Check.feed(town, "code 0 0 bab");
        town.town();
        // only 1 (CLEAR 3) knows at 5; it rings bb: 2 and 3 know at 9
        CHECK.due("by the only one", town.relay(0, 0, 3), 9);
        CHECK.due("and the one between", town.relay(0, 0, 2), 9);
    }

    private static void ringers() {
        BellTown town = Check.townOf(ROW);
        CHECK.due("ringers(0, 0)", town.ringers(0, 0), 7);
        CHECK.due("ringers(1, 0)", town.ringers(1, 0), 6);
        CHECK.due("ringers(2, 0)", town.ringers(2, 0), 6);
        CHECK.illegal("ringers(3, 0) without a WORD", () -> town.ringers(3, 0));
        CHECK.outOfBounds("ringers(4, 0)", () -> town.ringers(4, 0));
        CHECK.outOfBounds("ringers(3, 1)", () -> town.ringers(3, 1));
        Check.feed(town, "none 2 0");
        town.town();
        CHECK.due("none", town.ringers(0, 0), -1);
        CHECK.due("one HOUSE alone", Check.townOf("house 0 0 1 0;want 1;code 0 0 a").ringers(0, 0), 1);
        // 3 hears 1 and 2 and not 0: either will do, the least as bits is 1's
        BellTown either = Check.townOf("house 0 0 3 0;house 0 3 3 0;house 3 0 9 0;house 3 3 3 0;house 15 15 1 0 deaf;want 1;"
            + "code 0 0 a;code 1 0 a;code 2 0 a");
        CHECK.due("of several the least as bits", either.ringers(0, 0), 3);
        CHECK.due("by one that all hear", either.ringers(2, 0), 4);
        Check.feed(either, "none 1 0");
        either.town();
        CHECK.due("by the other one", either.ringers(0, 0), 5);
        // 0 is deaf and need not know; all but 5 and 6 hear 1; 2 is heard by 5, 3 by 6, and 4 by both
        BellTown fewer = Check.townOf("house 15 15 1 0 deaf;house 5 0 3 0;house 2 0 3 0;house 8 0 3 0;house 5 3 7 0;"
            + "house 0 1 1 0;house 10 1 1 0;want 1;code 1 0 a;code 2 0 a;code 3 0 a");
        CHECK.due("two that ring on", fewer.ringers(1, 0), 2 + 4 + 8);
        Check.feed(fewer, "code 4 0 a");
        fewer.town();
        CHECK.due("the fewest, though not the least as bits", fewer.ringers(1, 0), 2 + 16);
    }

    private static void sixByNumber() {
        BellTown town = Check.townOf("house 0 0 10 50;house 3 0 4 9;house 8 0 6 30;house 3 4 5 5 deaf;want 10;want 5;"
            + "code 0 0 ab;code 1 0 b;code 2 0 aaa");
        CHECK.due("WAITED by number: 0, 3, 5", town.six(0, 0), 8);
        CHECK.due("OVER by number", town.six(0, 1), 8);
        CHECK.due("WAITED if nobody rings", town.six(1, 0), 0);
        CHECK.due("OVER if nobody rings", town.six(1, 1), 0);
        CHECK.due("lot's WAITED if nobody rings", town.lot(1, 5, 0), 0);
        CHECK.due("lot's OVER if nobody rings", town.lot(1, 5, 1), 0);
        CHECK.noElement("six(0, 2)", () -> town.six(0, 2));
        CHECK.noElement("six(0, -1)", () -> town.six(0, -1));
        CHECK.noElement("lot(0, 1, 2)", () -> town.lot(0, 1, 2));
        CHECK.noElement("lot(0, 1, -1)", () -> town.lot(0, 1, -1));
        CHECK.outOfBounds("six(2, 2)", () -> town.six(2, 2));
        CHECK.outOfBounds("lot(2, 1, 2)", () -> town.lot(2, 1, 2));
        CHECK.outOfBounds("six(-1, 0)", () -> town.six(-1, 0));
    }

    /** Three that all harm each other: COSTS 1, 2, 4, so WAITED tells the order. */
    private static int waited(String law) {
        BellTown town = Check.townOf("house 0 0 30 7;house 0 1 30 50;house 0 2 30 20;want 9;code 0 0 a;code 1 0 b;code 2 0 bb");
        Check.feed(town, law);
        town.law();
        return town.six(0, 0);
    }

    private static final int O012 = 0 + 1 + 3;
    private static final int O021 = 0 + 1 + 5;
    private static final int O102 = 0 + 2 + 3;
    private static final int O120 = 0 + 2 + 6;
    private static final int O201 = 0 + 4 + 5;
    private static final int O210 = 0 + 4 + 6;

    private static void sixByLaw() {
        CHECK.due("an empty LAW", waited(""), O012);
        CHECK.due("the same for all", waited("first 9"), O012);
        CHECK.due("house", waited("first 1 if house>0;first 1 if house>1"), O210);
        CHECK.due("coins", waited("first 5 if coins > 19; first 1 if coins > 49"), O120);
        CHECK.due("cost", waited("first 3 if cost > 3"), O201);
        CHECK.due("urgent that holds", waited("first 3 if house > 0 and urgent > 8"), O120);
        CHECK.due("urgent that does not", waited("first 3 if house > 0 and urgent > 9"), O012);
        CHECK.due("the sum of all that hold", waited("first 5 if house<1;first 3 if house>0;first 3 if house>1"), O201);
        CHECK.due("N of 0", waited("first 0 if house > 1;first 1 if house<1"), O012);
        CHECK.due("N of 999", waited("first 999 if house > 1;first 998 if house<2;first 1 if house<1"), O021);
        CHECK.due("SUM of PARTS", waited("first 1 if house+house+coins+1 > 3+20+1"), O120);
        CHECK.due("SUM on the left", waited("first 1 if house+cost < 4"), O012);
        CHECK.due("SUM of facts", waited("first 1 if house + cost + coins + urgent + waited > 35 + 25"), O102);
    }

    private static void lawOperators() {
        CHECK.due("and binds closer than or", waited("first 1 if house > 1 or house < 1 and 1 > 2"), O201);
        CHECK.due("brackets bind closest", waited("first 1 if (house > 1 or house < 1) and 1 > 2"), O012);
        CHECK.due("not", waited("first 1 if not house < 1"), O120);
        CHECK.due("not binds closer than and", waited("first 1 if not house < 1 and house < 2"), O102);
        CHECK.due("not of brackets", waited("first 1 if not (house < 1 or house > 1)"), O102);
        CHECK.due("not not", waited("first 1 if not not house > 1"), O201);
        CHECK.due("< is not for the same", waited("first 1 if house < house;first 1 if house > 1"), O201);
        CHECK.due("> is not for the same", waited("first 1 if cost > cost;first 1 if house > 1"), O201);
        CHECK.due("or of three", waited("first 1 if 1>2 or 1>2 or house>1"), O201);
        CHECK.due("and of three", waited("first 1 if 1<2 and 1<2 and house>1"), O201);
        CHECK.due("six deep", waited("first 1 if not(not(not(house < 2 and 1<2)))and((((((house>1))))))"), O201);
    }

    private static void lawByWaiting() {
        // 0 rings at 0; at minute 1 the last one has become the first
        CHECK.due("waited is that minute", waited("first 1 if house < 1;first 9 if waited > 0 and house > 1"), O021);
        CHECK.due("waited at 0", waited("first 9 if waited < 1 and house > 1"), O201);
        // at 0 the house 2 goes, over at 4: then 1 by what holds at 4 alone
        CHECK.due("waited at the minute of the choice",
            waited("first 9 if waited < 1 and house > 1;first 5 if waited > 3 and house>0"), O210);
    }

    private static void sixApart() {
        // 0 and 1 far from 2 and 3: two go on beside the other two
        BellTown town = Check.townOf("house 0 0 2 0;house 0 1 2 0;house 15 15 2 0;house 15 14 2 0;want 1;"
            + "code 0 0 bb;code 1 0 a;code 2 0 a;code 3 0 b");
        CHECK.due("WAITED apart: 0, 4, 0, 1", town.six(0, 0), 5);
        CHECK.due("OVER apart", town.six(0, 1), 5);
        // a row: 0 harms 1 and 2, 1 harms all, 3 does not harm 0: 0 and 3 begin together
        BellTown row = Check.townOf(ROW, "code 3 0 aaa");
        CHECK.due("WAITED in a row: 0, 3, 5, 0", row.six(0, 0), 8);
        CHECK.due("OVER in a row", row.six(0, 1), 6);
    }

    private static void lot() {
        BellTown town = Check.townOf("house 0 0 30 0;house 0 1 30 0;house 0 2 30 0;want 9;code 0 0 a;code 1 0 b;code 2 0 bb");
        Check.feed(town, "first 9 if house > 1");
        town.law();
        // SEED 1 draws 16838, 5758, 10113: of 0 1 2 the last, of 0 1 the first
        CHECK.due("WAITED by lot of 1: 2, 0, 1", town.lot(0, 1, 0), O201);
        CHECK.due("OVER by lot of 1", town.lot(0, 1, 1), 7);
        // SEED 0: 12345 draws 0; then 21468 (of 2: 0); order 0, 1, 2
        CHECK.due("WAITED by lot of 0", town.lot(0, 0, 0), O012);
        // SEED -1: -1103502900 has bits 16 to 30 of 15929: of 3: 2
        CHECK.due("bits of a SEED below 0", (-1103502900 >> 16 & 0x7fff) % 3, 2);
        CHECK.due("WAITED by lot of -1", town.lot(0, -1, 0), (second(-1103502900) % 2 == 0) ? O201 : O210);
        CHECK.due("the same SEED, the same order", town.lot(0, 1, 0), O201);
        // of five: 16838 % 5 is 3; of 0 1 2 4: 5758 % 4 is 2; of 0 1 4: 10113 % 3 is 0; of 1 4: 17515 % 2 is 1
        BellTown five = Check.townOf("house 0 0 30 0;house 0 1 30 0;house 0 2 30 0;house 0 3 30 0;house 0 4 30 0;want 9;"
            + "code 0 0 a;code 1 0 b;code 2 0 bb;code 3 0 bbbb;code 4 0 bbbbbbbb");
        CHECK.due("WAITED of 3, 2, 0, 4, 1", five.lot(0, 1, 0), 0 + 8 + 12 + 13 + 29);
        CHECK.due("OVER of 3, 2, 0, 4, 1", five.lot(0, 1, 1), 31);
        CHECK.due("WAITED of 0 to 4", five.six(0, 0), 0 + 1 + 3 + 7 + 15);
        // only those that have a WORD are drawn: of 1 and 2 by 16838 the first
        Check.feed(town, "none 0 0");
        town.town();
        CHECK.due("WAITED by lot of two", town.lot(0, 1, 0), 2);
    }

    private static int second(int seed) {
        return 1103515245 * seed + 12345 >> 16 & 0x7fff;
    }
}
