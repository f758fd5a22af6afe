/** Promises 18, 19, 22, 28, 29, 34 and 35: begins, safety, the least strokes, room, learning and what words are worth. */
public final class CodesTest {
    private static final Check CHECK = new Check("CodesTest");

    public static void main(String[] args) {
        begins();
        safe();
        least();
        leastOfSix();
        room();
        roomByOneThatIsLonger();
        noRoom();
        learn();
        wrongTapes();
        worth();
        sale();
        CHECK.finish();
    }

    private static void begins() {
        BellTown town = Check.townOf("house 0 0 9 0;house 0 0 9 0;want 1;want 1;want 1;want 1;want 1;code 0 0 ab;code 0 1 aba;"
            + "code 0 2 b;code 0 4 ab");
        // ab - aba, ab - ab, aba - ab
        CHECK.due("begins(0)", town.begins(0), 3);
        CHECK.due("begins(1)", town.begins(1), 0);
        CHECK.outOfBounds("begins(2)", () -> town.begins(2));
        CHECK.outOfBounds("begins(-1)", () -> town.begins(-1));
        Check.feed(town, "code 0 3 a;none 0 0");
        town.town();
        // a - aba, a - ab, aba - ab
        CHECK.due("begins(0) of a, aba, b, ab", town.begins(0), 3);
        Check.feed(town, "code 1 0 aa;code 1 1 ab;code 1 2 b");
        town.town();
        CHECK.due("begins(1) of aa, ab, b", town.begins(1), 0);
    }

    private static void safe() {
        BellTown town = Check.townOf("house 0 0 9 0;house 0 0 9 0;want 1;want 1;want 1;code 0 0 abab;code 0 1 abaa;code 0 2 ab");
        boolean[] due = {false, false, false, false, true, true, true, true, true};
        for (int d = 0; d <= 8; d++) {
            CHECK.due("safe(0, " + d + ")", town.safe(0, d), due[d]);
            CHECK.due("safe(1, " + d + ") without WORDS", town.safe(1, d), true);
        }
        Check.feed(town, "code 0 0 abaa;code 1 1 a");
        town.town();
        CHECK.due("safe(0, 8) of two alike", town.safe(0, 8), false);
        CHECK.due("safe(1, 0) of one WORD", town.safe(1, 0), true);
        CHECK.illegal("safe(0, 9)", () -> town.safe(0, 9) ? 1 : 0);
        CHECK.illegal("safe(0, -1)", () -> town.safe(0, -1) ? 1 : 0);
        CHECK.outOfBounds("safe(2, 9)", () -> town.safe(2, 9) ? 1 : 0);
    }

    private static void least() {
        BellTown town = Check.townOf("want 10;want 5;want 20;want 1;want 99;want 3;want 7");
        CHECK.due("least(0)", town.least(0), 0);
        CHECK.due("one WANT: the WORD a", town.least(16), 99);
        CHECK.due("two: a and b", town.least(3), 10 + 2 * 5);
        CHECK.due("three: a, ba, bb", town.least(7), 20 + 3 * 10 + 4 * 5);
        CHECK.due("bits of no WANT", town.least(1 << 7 | 1 << 31 | 3), 20);
        CHECK.due("seven", town.least(127), -3);
        CHECK.due("seven and bits of no WANT", town.least(-1), -3);
        // a, ba, bba, bbba, bbbba, bbbbb: 99 + 60 + 50 + 35 + 27 + 10; by bbaa, bbab, bbba, bbbb it is 2 more
        CHECK.due("six", town.least(63), 281);
        BellTown alike = Check.townOf("want 1;want 1;want 1;want 1");
        // aa, ab, ba, bb: 2 + 3 + 3 + 4; or aaa, aab, ab, b: 3 + 4 + 3 + 2
        CHECK.due("four alike", alike.least(15), 12);
    }

    private static void leastOfSix() {
        BellTown town = Check.townOf("want 1;want 1;want 1;want 1;want 1;want 1");
        // two of one URGENT have 3, three 7, four 12; parted 4 and 2: 12 + 4 x 1 + 3 + 2 x 2,
        // parted 3 and 3: 7 + 3 x 1 + 7 + 3 x 2
        CHECK.due("six alike", town.least(63), 23);
    }

    private static void room() {
        BellTown town = Check.townOf("house 0 0 9 0;house 0 0 9 0;want 10;want 5;want 20;code 0 0 b;code 1 0 aaa");
        CHECK.due("room(0, 1, false): a", town.room(0, 1, false), 5);
        CHECK.due("room(0, 1, true): a", town.room(0, 1, true), 2);
        CHECK.due("room(1, 2, false): b", town.room(1, 2, false), 40);
        CHECK.due("room(1, 2, true): b", town.room(1, 2, true), 3);
        CHECK.illegal("it has one", () -> town.room(0, 0, false));
        CHECK.outOfBounds("room(2, 0, false)", () -> town.room(2, 0, false));
        CHECK.outOfBounds("room(0, 3, true)", () -> town.room(0, 3, true));
        CHECK.due("nothing has changed", town.count(5), 2);
        BellTown bare = Check.townOf("house 0 0 9 0;want 7");
        CHECK.due("the first WORD: the sum", bare.room(0, 0, false), 7);
        CHECK.due("the first WORD", bare.room(0, 0, true), 2);
    }

    private static void roomByOneThatIsLonger() {
        // a and b are had: a to ab (2 x 5) with aa (2 x 20), or a to aa (5) with ab (60), or b longer: more
        BellTown town = Check.townOf("house 0 0 9 0;want 10;want 5;want 20;code 0 0 b;code 0 1 a");
        CHECK.due("the sum by ab and aa", town.room(0, 2, false), 50);
        CHECK.due("the new WORD aa", town.room(0, 2, true), 4);
        // of others that stay bb is left: 4 x 1; a longer by a: 1 + 3, others staying go ahead
        BellTown stay = Check.townOf("house 0 0 9 0;want 1;want 9;want 1;code 0 0 a;code 0 1 ba");
        CHECK.due("as much by others that stay: the sum", stay.room(0, 2, false), 4);
        CHECK.due("as much by others that stay: the WORD bb", stay.room(0, 2, true), 7);
        // a and b of 1 each, new of 1: a longer by a 1 + ab 3, or by b 2 + aa 2: both 4, a ahead of b
        BellTown ahead = Check.townOf("house 0 0 9 0;want 1;want 1;want 1;code 0 0 a;code 0 1 b");
        CHECK.due("a ahead of b: the sum", ahead.room(0, 2, false), 4);
        CHECK.due("a ahead of b: the WORD ab", ahead.room(0, 2, true), 5);
        // aab and bb are left, 4 minutes each: the least number, though a is ahead
        BellTown number = Check.townOf("house 0 0 9 0;want 99;want 99;want 99;want 3;code 0 0 aaa;code 0 1 ab;code 0 2 ba");
        CHECK.due("the least number: the sum", number.room(0, 3, false), 12);
        CHECK.due("the least number: the WORD bb", number.room(0, 3, true), 7);
        // the least WANT that is longer first: want 0 has b: to ba 1 + bb 4; want 1 has a: to aa 2 + ab 3
        BellTown first = Check.townOf("house 0 0 9 0;want 1;want 2;want 1;code 0 0 b;code 0 1 a");
        CHECK.due("the least WANT first: the sum", first.room(0, 2, false), 5);
        CHECK.due("the least WANT first: the WORD bb", first.room(0, 2, true), 7);
    }

    private static void noRoom() {
        BellTown begins = Check.townOf("house 0 0 9 0;want 1;want 1;want 1;code 0 0 a;code 0 1 ab");
        CHECK.due("BEGINS are not none now", begins.room(0, 2, false), -1);
        CHECK.due("BEGINS are not none now: no WORD", begins.room(0, 2, true), -1);
        // b, ab, aab, .. aaaaaaab, aaaaaaaa leave nothing, but a shorter one may become longer
        BellTown full = Check.townOf("house 0 0 9 0;want 9;want 9;want 9;want 9;want 9;want 9;want 9",
            "want 9;want 9;want 1;code 0 0 b;code 0 1 ab;code 0 2 aab;code 0 3 aaab;code 0 4 aaaab;code 0 5 aaaaab;"
            + "code 0 6 aaaaaab;code 0 7 aaaaaaab;code 0 8 aaaaaaaa");
        CHECK.due("b longer by a, and bb", full.room(0, 9, false), 9 + 4);
        CHECK.due("the new WORD bb", full.room(0, 9, true), 7);
        // the new one dearer: b longer by b, and ba
        Check.feed(full, "none 0 8;code 0 9 aaaaaaaa");
        full.town();
        CHECK.due("of 9 for 9: b to ba and bb, 9 + 36, or b to bb and ba, 18 + 27", full.room(0, 8, false), 45);
        CHECK.due("a ahead of b", full.room(0, 8, true), 7);
        // a and b are had by words of 8 strokes alone where nothing can be longer
        BellTown eight = Check.townOf("house 0 0 9 0;want 1;want 1;code 0 0 aaaaaaaa");
        CHECK.due("b beside a WORD of 8", eight.room(0, 1, true), 3);
        BellTown last = Check.townOf("house 0 0 9 0;want 99;want 99;want 99;want 99;want 99;want 99;want 99;want 99",
            "want 1;code 0 0 b;code 0 1 ab;code 0 2 aab;code 0 3 aaab;code 0 4 aaaab;code 0 5 aaaaab;"
            + "code 0 6 aaaaaab;code 0 7 aaaaaaab");
        CHECK.due("the last WORD of 8 that is left: the sum", last.room(0, 8, false), 8);
        CHECK.due("the last WORD of 8 that is left", last.room(0, 8, true), 256);
    }

    private static String learnt(String tape, int kind) {
        BellTown town = new BellTown();
        Check.feed(town, tape);
        String answer = Check.answer(() -> town.learn(kind));
        CHECK.due("the TAPE is used up by '" + tape + "'", town.end(1), false);
        CHECK.due("fault() is not of '" + tape + "'", town.fault(), -1);
        return answer;
    }

    private static void learn() {
        // a + ab, aa + b
        CHECK.due("ways of aab AB", learnt("aab AB", -1), "2");
        CHECK.due("A of aab AB", learnt("aab AB", 0), "2");
        CHECK.due("B of aab AB", learnt("aab AB", 1), "5");
        CHECK.due("ways of abab AA", learnt("abab AA", -1), "1");
        CHECK.due("A of abab AA", learnt("abab AA", 0), "5");
        // no two the same: a + a is none
        CHECK.due("ways of aa AB", learnt("aa AB", -1), "0");
        CHECK.due("A of aa AB", learnt("aa AB", 0), "-1");
        CHECK.due("B of aa AB", learnt("aa AB", 1), "-1");
        // kinds as they came first: Z is 0; a + aa, aa + a
        CHECK.due("Z of aaa ZA", learnt("aaa ZA", 0), "2");
        CHECK.due("A of aaa ZA", learnt("aaa ZA", 1), "4");
        CHECK.due("a WORD of 4 is none", learnt("aaaa M", -1), "0");
        CHECK.due("a WORD of 3", learnt("bbb M", 0), "15");
        CHECK.due("20 strokes of 6 that hold 18", learnt("abababababababababab ABCABC", -1), "0");
        CHECK.due("18 strokes of 6", learnt("aaaaabbbaaaaaabbba ABCABC", -1), "1");
        CHECK.due("18 strokes of 6, three kinds", learnt("aaaabbbbbaaaabbbbb ABCABC", 1), "11");
        // a b aab, a baa b, aba a b, a ba ab, ab aa b; not ab a ab
        CHECK.due("A, B, C of abaab ABC", learnt("abaab ABC", -1), "5");
        CHECK.due("the first one's C", learnt("abaab ABC", 2), "9");
    }

    private static void wrongTapes() {
        String due = "throws.IllegalArgumentException";
        for (String tape : new String[] {"", " ", "ab", "ab ", " AB", "abAB", "ab  AB", "ab AB ", " ab AB", "abc AB", "ab Ab",
            "ab A1", "Ab A", "aaaaaaaaaaaaaaaaaaaaa A", "ab ABCDEFG", "ab AAAAAAA", "abababab ABCD", "ab A;"}) {
            CHECK.due("learn(-1) of '" + tape + "'", learnt(tape, -1), due);
        }
        CHECK.due("no such kind", learnt("aab AB", 2), due);
        CHECK.due("no such kind", learnt("aab AAB", 2), due);
        CHECK.due("no such kind below NONE", learnt("aab AB", -2), due);
        CHECK.due("three kinds", learnt("aab ABC", 2), "-1");
    }

    private static void worth() {
        BellTown town = Check.townOf("house 0 0 9 0;house 0 0 9 0;want 10;want 5;code 0 0 ab;code 0 1 bbb");
        CHECK.due("17 without a WORD", town.worth(1, 0, 2), 160);
        CHECK.due("less than what it has", town.worth(0, 0, 2), 20);
        CHECK.due("just what it has", town.worth(0, 0, 5), 0);
        CHECK.due("more than what it has", town.worth(0, 0, 0x100), -50);
        CHECK.due("a begin of another", town.worth(0, 0, 7), -1000000);
        CHECK.due("another is its begin", town.worth(0, 1, 11), -1000000);
        CHECK.due("just another", town.worth(0, 1, 5), -1000000);
        CHECK.due("a WORD of 16", town.worth(1, 0, 511), 10);
        CHECK.illegal("worth(0, 0, 1)", () -> town.worth(0, 0, 1));
        CHECK.illegal("worth(0, 0, 512)", () -> town.worth(0, 0, 512));
        CHECK.outOfBounds("worth(2, 0, 1)", () -> town.worth(2, 0, 1));
        CHECK.outOfBounds("worth(0, 2, 1)", () -> town.worth(0, 2, 1));
    }

    private static void sale() {
        BellTown town = Check.townOf("house 0 0 9 0;house 0 0 9 0;house 0 0 9 0;want 10;want 5;code 0 0 ab;code 1 0 bbb;"
            + "code 0 1 bbb;code 2 0 ba;code 2 1 a");
        // aa: WORTH 10 to 0, 40 to 1, none to 2
        CHECK.due("sale(0, 4, false)", town.sale(0, 4, false), 1);
        CHECK.due("sale(0, 4, true)", town.sale(0, 4, true), 10);
        // bbb for 1: 0 to 0, which has it; none to 1, where it is the other one; 5 x (1 - 6) to 2
        CHECK.due("above 0 to nobody", town.sale(1, 15, false), -1);
        CHECK.due("no FEE", town.sale(1, 15, true), -1);
        // ba for 1: 0: 5 x 3, 1: 5 x 14, 2: its other one
        CHECK.due("sale(1, 6, false)", town.sale(1, 6, false), 1);
        CHECK.due("sale(1, 6, true)", town.sale(1, 6, true), 15);
        BellTown alike = Check.townOf("house 0 0 9 0;house 0 0 9 0;house 0 0 9 0;want 2;code 0 0 a");
        CHECK.due("of several the least number", alike.sale(0, 3, false), 1);
        CHECK.due("its FEE is as much", alike.sale(0, 3, true), 30);
        BellTown alone = Check.townOf("house 0 0 9 0;house 0 0 9 0;want 2;code 0 0 a");
        CHECK.due("below 0 to the other", alone.sale(0, 3, false), 1);
        CHECK.due("0 at least", alone.sale(0, 3, true), 0);
        BellTown only = Check.townOf("house 0 0 9 0;want 2");
        CHECK.due("the only one", only.sale(0, 3, false), 0);
        CHECK.due("no other one", only.sale(0, 3, true), 0);
        CHECK.due("without HOUSES", Check.townOf("want 1").sale(0, 3, false), -1);
        CHECK.illegal("sale(0, 1, true)", () -> town.sale(0, 1, true));
        CHECK.illegal("sale(0, 512, false)", () -> town.sale(0, 512, false));
        CHECK.outOfBounds("sale(2, 1, false)", () -> town.sale(2, 1, false));
        CHECK.outOfBounds("sale(-1, 2, false)", () -> town.sale(-1, 2, false));
    }
}
