/** Promises 12 to 17, 30 to 33 and 36: ringings, what came of them and what they are taken for. */
public final class EveningTest {
    private static final Check CHECK = new Check("EveningTest");
    // 1 hears 0 by CLEAR 3, 2 hears 0 by CLEAR 1, 1 hears 2 by CLEAR 1, 0 hears 1 by CLEAR 1
    private static final String FOUR = "house 0 0 10 50;house 3 0 4 9;house 8 0 6 30;house 3 4 5 5 deaf;"
        + "want 10;want 5;want 20;code 0 0 ab;code 0 1 b;code 0 2 aab;code 1 0 b;code 2 0 aaa";

    public static void main(String[] args) {
        ringing();
        twelve();
        hushAndUndo();
        cut();
        mixed();
        mixedByWhatComesAlone();
        sameRinger();
        wordOfThen();
        windLater();
        sure();
        could();
        understood();
        fooled();
        quiet();
        evening();
        CHECK.finish();
    }

    private static void ringing() {
        BellTown town = Check.townOf(FOUR);
        CHECK.due("ring(999, 0, 0)", town.ring(999, 0, 0), 0);
        CHECK.due("ring(0, 1, 0)", town.ring(0, 1, 0), 1);
        CHECK.illegal("ring(1000, 0, 0)", () -> town.ring(1000, 0, 0));
        CHECK.illegal("ring(-1, 0, 0)", () -> town.ring(-1, 0, 0));
        CHECK.illegal("ring(0, 1, 1) without a WORD", () -> town.ring(0, 1, 1));
        CHECK.outOfBounds("ring(-1, 4, 0)", () -> town.ring(-1, 4, 0));
        CHECK.outOfBounds("ring(-1, 0, 3)", () -> town.ring(-1, 0, 3));
        CHECK.outOfBounds("ring(0, -1, 0)", () -> town.ring(0, -1, 0));
        CHECK.due("RINGINGS", town.count(4), 2);
        CHECK.outOfBounds("heard(2, 0)", () -> town.heard(2, 0));
        CHECK.outOfBounds("heard(-1, 0)", () -> town.heard(-1, 0));
        CHECK.outOfBounds("heard(0, 4)", () -> town.heard(0, 4));
        CHECK.outOfBounds("taken(2, 0)", () -> town.taken(2, 0));
        CHECK.outOfBounds("taken(0, -1)", () -> town.taken(0, -1));
        CHECK.outOfBounds("sure(2, false)", () -> town.sure(2, false));
        CHECK.outOfBounds("sure(-1, true)", () -> town.sure(-1, true));
        CHECK.outOfBounds("could(2, 0)", () -> town.could(2, 0));
        CHECK.outOfBounds("could(0, 4)", () -> town.could(0, 4));
    }

    private static void twelve() {
        BellTown town = Check.townOf(FOUR);
        for (int n = 0; n < 12; n++) {
            CHECK.due("ring", town.ring(n * 20, 0, 0), n);
        }
        CHECK.unsupported("ring, there being 12", () -> town.ring(0, 0, 0));
        CHECK.illegal("ring, there being 12 and no WORD", () -> town.ring(0, 1, 1));
        CHECK.unsupported("quiet, there being 12", () -> town.quiet(0, 0, 0, 1));
        CHECK.unsupported("quiet, there being 12 and no WORD", () -> town.quiet(1, 1, 0, 1));
        CHECK.illegal("quiet, there being 12 and no minute", () -> town.quiet(0, 0, 0, 61));
        CHECK.due("RINGINGS", town.count(4), 12);
        CHECK.due("heard(11, 1)", town.heard(11, 1), 5);
    }

    private static void hushAndUndo() {
        BellTown town = Check.townOf(FOUR);
        CHECK.due("undo() without", town.undo(), -1);
        CHECK.due("hush() without", town.hush(), 0);
        town.ring(0, 0, 0);
        town.ring(1, 1, 0);
        town.ring(2, 2, 0);
        CHECK.due("undo()", town.undo(), 2);
        CHECK.due("RINGINGS behind undo()", town.count(4), 2);
        CHECK.due("ring behind undo()", town.ring(5, 0, 1), 2);
        CHECK.due("hush()", town.hush(), 3);
        CHECK.due("RINGINGS behind hush()", town.count(4), 0);
        CHECK.due("ring behind hush()", town.ring(5, 0, 1), 0);
        CHECK.due("undo() of the only one", town.undo(), 0);
        CHECK.due("undo() behind it", town.undo(), -1);
    }

    private static void cut() {
        BellTown town = Check.townOf(FOUR);
        town.ring(0, 0, 2);
        CHECK.due("all three strokes", town.heard(0, 1), 9);
        CHECK.due("taken(0, 1)", town.taken(0, 1), 2);
        CHECK.due("cut to one", town.heard(0, 2), 2);
        CHECK.due("a is no WORD of 0", town.taken(0, 2), -1);
        CHECK.due("the ringer itself", town.heard(0, 0), 0);
        CHECK.due("taken by the ringer itself", town.taken(0, 0), -1);
        CHECK.due("one who is DEAF", town.heard(0, 3), 0);
        town.hush();
        town.ring(0, 2, 0);
        CHECK.due("not loud enough", town.heard(0, 0), 0);
        CHECK.due("cut to one", town.heard(0, 1), 2);
    }

    private static void mixed() {
        // all hear all wholly
        BellTown town = Check.townOf("house 0 0 30 0;house 0 0 30 0;house 0 0 30 0;want 1;want 2;"
            + "code 0 0 aba;code 0 1 ab;code 1 0 bb;code 2 0 a");
        town.ring(10, 0, 0);
        CHECK.due("nothing else sounds", town.heard(0, 2), 10);
        town.ring(13, 1, 0);
        CHECK.due("the third stroke, minute 13, is mixed", town.heard(0, 2), 5);
        CHECK.due("and is taken for another one", town.taken(0, 2), 1);
        CHECK.due("the other one's first is mixed", town.heard(1, 2), 1);
        CHECK.due("and it is taken for none", town.taken(1, 2), -1);
        CHECK.due("to the other ringer it is clear", town.heard(0, 1), 10);
        CHECK.due("and the other one to the first", town.heard(1, 0), 7);
        town.undo();
        town.ring(14, 1, 0);
        CHECK.due("one right behind the other", town.heard(0, 2), 10);
        CHECK.due("and the other one", town.heard(1, 2), 7);
        town.ring(17, 2, 0);
        CHECK.due("the second b, minutes 16 and 17, is mixed by its second minute", town.heard(1, 0), 3);
        CHECK.due("a first stroke mixed by the second minute of b", town.heard(2, 0), 1);
        town.undo();
        town.undo();
        town.ring(7, 1, 0);
        CHECK.due("the first stroke, minute 10, is mixed: none came", town.heard(0, 2), 1);
        CHECK.due("the other one's second is mixed", town.heard(1, 2), 3);
    }

    private static void mixedByWhatComesAlone() {
        // of 2's aaa only the first stroke comes to 1, so its minutes 3 and 4 mix nothing there
        BellTown town = Check.townOf(FOUR);
        town.ring(2, 2, 0);
        town.ring(3, 0, 0);
        CHECK.due("heard(1, 1)", town.heard(1, 1), 5);
        town.ring(2, 0, 0);
        CHECK.due("the only stroke that comes mixes", town.heard(2, 1), 1);
        town.undo();
        CHECK.due("heard(0, 1)", town.heard(0, 1), 2);
        town.ring(3, 1, 0);
        CHECK.due("1 hears 0 though it rings itself", town.heard(1, 1), 5);
        CHECK.due("2 does not hear 1, so nothing is mixed there", town.heard(1, 2), 2);
        town.hush();
        town.ring(3, 0, 1);
        town.ring(4, 1, 0);
        CHECK.due("one that is not heard begins within b", town.heard(0, 2), 3);
    }

    private static void sameRinger() {
        BellTown town = Check.townOf(FOUR);
        town.ring(0, 0, 0);
        town.ring(1, 0, 1);
        CHECK.due("a house's own ringings mix, too", town.heard(0, 1), 2);
        CHECK.due("the other one's only stroke", town.heard(1, 1), 1);
        CHECK.due("cut to one each, they are beside each other: the first", town.heard(0, 2), 2);
        CHECK.due("cut to one each: the second", town.heard(1, 2), 3);
    }

    private static void wordOfThen() {
        BellTown town = Check.townOf(FOUR);
        town.ring(0, 0, 0);
        Check.feed(town, "code 0 0 bb;code 0 1 ab");
        town.town();
        CHECK.due("it has the WORD of then", town.heard(0, 1), 5);
        CHECK.due("which the ringer's WORDS of now tell", town.taken(0, 1), 1);
        CHECK.due("RIGHT", town.sure(0, false), 0);
        CHECK.due("WRONG", town.sure(0, true), 1);
        Check.feed(town, "code 0 2 ab;code 0 1 ab");
        town.town();
        CHECK.due("of several the least", town.taken(0, 1), 1);
        Check.feed(town, "none 0 0;none 0 1;none 0 2");
        town.town();
        CHECK.due("of no WORDS none", town.taken(0, 1), -1);
        CHECK.due("could of no WORDS", town.could(0, 1), 0);
    }

    private static void windLater() {
        BellTown town = Check.townOf(FOUR);
        town.ring(0, 0, 2);
        Check.feed(town, "gale 5 0");
        town.town();
        CHECK.due("cut by the wind of now", town.heard(0, 1), 2);
        CHECK.due("not heard by the wind of now", town.heard(0, 2), 0);
    }

    private static void sure() {
        BellTown town = Check.townOf("house 0 0 9 0;house 0 1 9 0;house 0 6 9 0;house 0 9 9 0;house 0 0 9 0 deaf;"
            + "want 1;want 1;want 1;code 0 0 aab;code 0 1 aa;code 0 2 a");
        // CLEAR of 0 at 1, 2, 3 is 3, 2, 1
        town.ring(0, 0, 0);
        CHECK.due("RIGHT of aab", town.sure(0, false), 1);
        CHECK.due("WRONG of aab", town.sure(0, true), 2);
        town.ring(100, 0, 1);
        CHECK.due("RIGHT of aa", town.sure(1, false), 2);
        CHECK.due("WRONG of aa", town.sure(1, true), 1);
        town.ring(200, 0, 2);
        CHECK.due("RIGHT of a", town.sure(2, false), 3);
        CHECK.due("WRONG of a", town.sure(2, true), 0);
    }

    private static void could() {
        BellTown town = Check.townOf(FOUR);
        town.ring(0, 0, 0);
        CHECK.due("ab begins no other WORD", town.could(0, 1), 1);
        CHECK.due("a begins ab and aab", town.could(0, 2), 5);
        CHECK.due("the ringer does not HEAR", town.could(0, 0), 0);
        CHECK.due("DEAF does not HEAR", town.could(0, 3), 0);
        town.ring(0, 0, 1);
        CHECK.due("no STROKE begins all", town.could(0, 1), 7);
        Check.feed(town, "none 0 1");
        town.town();
        CHECK.due("no STROKE begins all that there are", town.could(0, 1), 5);
    }

    private static void understood() {
        BellTown town = Check.townOf(FOUR);
        CHECK.due("understood(0)", town.understood(0), 4);
        CHECK.due("understood(1)", town.understood(1), 1);
        CHECK.due("understood(2)", town.understood(2), 0);
        CHECK.due("understood(3)", town.understood(3), 0);
        CHECK.outOfBounds("understood(4)", () -> town.understood(4));
        CHECK.outOfBounds("understood(-1)", () -> town.understood(-1));
        for (int n = 0; n < 5; n++) {
            town.ring(0, 2, 0);
        }
        CHECK.due("ringings do not mix there", town.understood(0), 4);
        Check.feed(town, "code 0 2 ab;code 0 1 a");
        town.town();
        // to 1: ab for 0 (not for 2), a for 1; to 2: a for 1, and ab cut to a is taken for 1
        CHECK.due("of two alike the least alone", town.understood(0), 3);
    }

    private static void fooled() {
        BellTown town = Check.townOf(FOUR);
        // to 1 come three strokes: b; ab; aab; four strokes are cut to aab in two words
        int[] atOne = {1, 1, 1, 2, 4, 8, 16, 32};
        for (int strokes = 1; strokes <= 8; strokes++) {
            CHECK.due("fooled(0, 1, " + strokes + ")", town.fooled(0, 1, strokes), atOne[strokes - 1]);
            CHECK.due("fooled(0, 2, " + strokes + ")", town.fooled(0, 2, strokes), 1 << strokes - 1);
            CHECK.due("fooled(0, 3, " + strokes + ")", town.fooled(0, 3, strokes), 0);
            CHECK.due("fooled(0, 0, " + strokes + ")", town.fooled(0, 0, strokes), 0);
        }
        CHECK.illegal("fooled(0, 1, 0)", () -> town.fooled(0, 1, 0));
        CHECK.illegal("fooled(0, 1, 9)", () -> town.fooled(0, 1, 9));
        CHECK.outOfBounds("fooled(4, 1, 0)", () -> town.fooled(4, 1, 0));
        CHECK.outOfBounds("fooled(0, -1, 1)", () -> town.fooled(0, -1, 1));
        town.ring(0, 2, 0);
        CHECK.due("nothing else sounding", town.fooled(0, 1, 1), 1);
    }

    private static void quiet() {
        BellTown town = Check.townOf(FOUR);
        town.ring(0, 0, 0);
        town.ring(2, 2, 0);
        CHECK.due("quiet(0, 0, 0, 9)", town.quiet(0, 0, 0, 9), 3);
        CHECK.due("quiet(0, 1, 2, 9)", town.quiet(0, 1, 2, 9), 3);
        CHECK.due("nowhere RIGHT: the least", town.quiet(0, 0, 0, 2), 0);
        CHECK.due("from and to the same", town.quiet(0, 0, 2, 2), 2);
        CHECK.due("60 more", town.quiet(0, 0, 1, 61), 3);
        CHECK.due("the last minute", town.quiet(0, 0, 999, 999), 999);
        CHECK.due("no WORD", town.quiet(1, 1, 0, 9), -1);
        CHECK.due("RINGINGS stay", town.count(4), 2);
        quietAtTheEdges();
        CHECK.illegal("61 more", () -> town.quiet(0, 0, 1, 62));
        CHECK.illegal("the second ahead", () -> town.quiet(0, 0, 2, 1));
        CHECK.illegal("a minute below 0", () -> town.quiet(0, 0, -1, 1));
        CHECK.illegal("a minute above 999", () -> town.quiet(0, 0, 999, 1000));
        CHECK.illegal("minutes far apart", () -> town.quiet(0, 0, Integer.MIN_VALUE, Integer.MAX_VALUE));
        CHECK.illegal("a minute none and no WORD", () -> town.quiet(1, 1, 5, 4));
        CHECK.outOfBounds("quiet(4, 0, 5, 4)", () -> town.quiet(4, 0, 5, 4));
        CHECK.outOfBounds("quiet(0, 3, 5, 4)", () -> town.quiet(0, 3, 5, 4));
    }

    private static void quietAtTheEdges() {
        // 1 sounds from 0 to 63: what 2 rings is RIGHT at 1, but at 0 only from 64 on
        BellTown town = Check.townOf("house 0 0 30 0;house 0 0 30 0;house 0 0 30 0;want 1;want 2;code 1 0 bbbbbbbb;code 2 1 a");
        for (int minute = 0; minute < 64; minute += 16) {
            town.ring(minute, 1, 0);
        }
        CHECK.due("the last of 60 more", town.quiet(2, 1, 4, 64), 64);
        CHECK.due("as little RIGHT from the first to the last", town.quiet(2, 1, 3, 63), 3);
        CHECK.due("the first one", town.quiet(2, 1, 64, 70), 64);
        CHECK.due("the last of two", town.quiet(2, 1, 63, 64), 64);
        town.ring(66, 1, 0);
        CHECK.due("the first of the best", town.quiet(2, 1, 60, 90), 64);
    }

    private static void evening() {
        // draws of SEED 1: 16838 5758 10113 17515 31051 5627 23010 7419 16212
        BellTown town = Check.townOf("house 0 0 9 0;house 0 1 9 0;want 1;want 1;want 1;code 0 0 a;code 0 1 ab;code 1 1 bab");
        // minute 18, house 0, want 0 ; minute 15, house 1, want 2 (none) ; minute 10, house 1, want 0 (none)
        CHECK.due("evening(1, 3, 3)", town.evening(1, 3, 3), 1);
        CHECK.due("evening(1, 3, 0)", town.evening(1, 3, 0), 1);
        CHECK.due("evening(1, 3, 1)", town.evening(1, 3, 1), 0);
        CHECK.due("evening(1, 3, 2)", town.evening(1, 3, 2), 0);
        town.ring(18, 0, 1);
        CHECK.due("those that are there being gone for it", town.evening(1, 3, 0), 1);
        CHECK.due("nothing stays", town.count(4), 1);
        CHECK.illegal("evening(1, 0, 9)", () -> town.evening(1, 0, 9));
        CHECK.illegal("evening(1, 13, 0)", () -> town.evening(1, 13, 0));
        CHECK.noElement("evening(1, 1, 4)", () -> town.evening(1, 1, 4));
        CHECK.noElement("evening(1, 1, -1)", () -> town.evening(1, 1, -1));
        Check.feed(town, "house 0 2 9 0;want 9;code 2 1 a;code 0 0 abba");
        town.town();
        // house 5758 % 3 = 1, want 10113 % 4 = 1: bab at 18; house 31051 % 3 = 1, want 5627 % 4 = 3: none;
        // house 7419 % 3 = 0, want 16212 % 4 = 0: abba at 10 to 15, by CLEAR 3 at 2 (abb), by CLEAR 3 at 1
        CHECK.due("evening(1, 3, 3) of three houses", town.evening(1, 3, 3), 2);
        CHECK.due("evening(1, 3, 0) of three houses", town.evening(1, 3, 0), 2);
        CHECK.due("evening(1, 3, 1) of three houses", town.evening(1, 3, 1), 0);
        CHECK.due("evening(1, 3, 2) of three houses", town.evening(1, 3, 2), 1);
        BellTown many = Check.townOf("house 0 0 9 0;house 0 1 9 0;house 0 9 9 0;want 1;want 1;code 0 0 ba;code 0 1 b");
        // SEED 1 of 3 houses, 2 wants: house 1 (none), house 1 (none), house 0 by want 0 at 10: to 1 ba, to 2 b
        CHECK.due("RIGHT of one that is RIGHT and WRONG", many.evening(1, 3, 0), 1);
        CHECK.due("WRONG of one that is RIGHT and WRONG", many.evening(1, 3, 1), 1);
        CHECK.due("it is taken for something", many.evening(1, 3, 2), 0);
        CHECK.due("only it came", many.evening(1, 3, 3), 1);
        CHECK.due("two did not come", many.evening(1, 2, 3), 0);
        BellTown one = Check.townOf("house 0 0 9 0;want 1;code 0 0 a");
        CHECK.due("of one HOUSE and one WANT all come", one.evening(123456789, 12, 3), 12);
        CHECK.due("of one HOUSE and one WANT nobody takes any", one.evening(-5, 7, 2), 7);
        BellTown empty = Check.townOf("house 0 0 9 0");
        CHECK.due("without WANTS", empty.evening(1, 12, 3), 0);
        CHECK.noElement("without WANTS, another what", () -> empty.evening(1, 12, 4));
        CHECK.due("without HOUSES", Check.townOf("want 4").evening(-7, 12, 2), 0);
    }
}
