/** Promises 18, 19, 22, 28, 29, 34 and 35, edge by edge: each bound at the case itself and on both sides of it. */
public final class CodesEdgesTest {
    private static final Check CHECK = new Check("CodesEdgesTest");
    private static final int[] FAR_OFF = {Integer.MIN_VALUE, -256, 1 << 12, 1 << 16, Integer.MAX_VALUE};
    private static final String TEN_WANTS = "want 1;want 1;want 1;want 1;want 1;want 1;want 1;want 1;want 1;want 1";
    private static final String IAE = "throws.IllegalArgumentException";

    public static void main(String[] args) {
        eachPairOfWords();
        beginsOfMany();
        distances();
        safeAtTheLastStroke();
        leastOfEachSize();
        leastByBits();
        leastOfTwo();
        leastGreatest();
        leastAgain();
        roomOfTheFirst();
        roomAmongBegins();
        roomOfSevenStrokes();
        roomOfEightStrokes();
        roomForTheTenth();
        roomOfSeveral();
        strokesHeard();
        wantsThatCame();
        kinds();
        eachByteOfATape();
        wordsLearnt();
        firstLearnt();
        learntAgain();
        worthOfEachWord();
        worthOfNoWord();
        saleAboveNothing();
        salesAndFees();
        CHECK.finish();
    }

    private static boolean oneBegins(String one, String other) {
        return one.startsWith(other) || other.startsWith(one);
    }

    private static String cut(String word, int strokes) {
        return word.substring(0, Math.min(strokes, word.length()));
    }

    // BEGINS: "of which the one's WORD is the begin of the other's (or just that)"; WORTH: "none, if it would be in BEGINS"

    private static void eachPairOfWords() {
        for (int one = 2; one <= 31; one++) {
            for (int other = 2; other <= 31; other++) {
                String a = Check.strokes(one);
                String b = Check.strokes(other);
                BellTown town = Check.townOf("house 0 0 9 0;house 0 0 9 0;want 7;want 5;code 0 0 " + a + ";code 0 1 " + b
                    + ";code 1 0 " + a);
                boolean begins = oneBegins(a, b);
                CHECK.due("BEGINS of " + a + " and " + b, town.begins(0), begins ? 1 : 0);
                CHECK.due("BEGINS of " + a + " alone", town.begins(1), 0);
                for (int d = 0; d <= 8; d++) {
                    CHECK.due("SAFE of " + a + " and " + b + " at " + d, town.safe(0, d), !cut(a, d).equals(cut(b, d)));
                    CHECK.due("SAFE of one alone", town.safe(1, d), true);
                }
                CHECK.due("WORTH of " + b + " beside " + a, town.worth(1, 1, other), begins ? -1000000 : 5 * (17 - Check.costOf(other)));
                CHECK.due("WORTH of " + b + " in place of " + a, town.worth(1, 0, other), 7 * (Check.costOf(one) - Check.costOf(other)));
                CHECK.due("WORTH of what it has", town.worth(0, 1, other), begins ? -1000000 : 0);
            }
        }
    }

    private static void beginsOfMany() {
        BellTown town = Check.townOf("house 0 0 9 0;house 0 0 9 0", TEN_WANTS);
        for (int words = 1; words <= 10; words++) {
            BellTown alike = Check.townOf("house 0 0 9 0;house 0 0 9 0", TEN_WANTS);
            StringBuilder text = new StringBuilder();
            for (int want = 0; want < words; want++) {
                text.append(want > 0 ? ";" : "").append("code 1 ").append(want).append(" ab");
            }
            Check.feed(alike, text.toString());
            alike.town();
            CHECK.due("BEGINS of " + words + " alike", alike.begins(1), words * (words - 1) / 2);
            CHECK.due("SAFE of " + words + " alike", alike.safe(1, 8), words < 2);
            CHECK.due("BEGINS of no WORDS", alike.begins(0), 0);
        }
        Check.feed(town, "code 0 0 abababab;code 0 9 abababab");
        town.town();
        CHECK.due("BEGINS of the first and the last", town.begins(0), 1);
        Check.feed(town, "code 0 9 abababaa");
        town.town();
        CHECK.due("unlike in the eighth stroke", town.begins(0), 0);
        Check.feed(town, "code 0 9 abababa");
        town.town();
        CHECK.due("one stroke less", town.begins(0), 1);
    }

    // Promise 19: "IllegalArgumentException: D is none" (0 to 8)

    private static void distances() {
        BellTown town = Check.townOf("house 0 0 9 0;house 0 0 9 0;want 1;want 1;code 0 0 a;code 0 1 b");
        for (int d = -3; d <= 12; d++) {
            int distance = d;
            boolean may = d >= 0 && d <= 8;
            CHECK.due("safe(0, " + d + ")", Check.answer(() -> town.safe(0, distance) ? 1 : 0), !may ? IAE : d == 0 ? "0" : "1");
            CHECK.due("safe(1, " + d + ")", Check.answer(() -> town.safe(1, distance) ? 1 : 0), may ? "1" : IAE);
        }
        for (int d : FAR_OFF) {
            CHECK.illegal("safe(0, " + d + ")", () -> town.safe(0, d) ? 1 : 0);
        }
    }

    private static void safeAtTheLastStroke() {
        // unlike in stroke n alone: SAFE from n on
        for (int n = 1; n <= 8; n++) {
            String one = "abbaabab";
            String other = one.substring(0, n - 1) + (one.charAt(n - 1) == 'a' ? "b" : "a") + one.substring(n);
            BellTown town = Check.townOf("house 0 0 9 0;" + TEN_WANTS, "code 0 3 " + one + ";code 0 9 " + other);
            for (int d = 0; d <= 8; d++) {
                CHECK.due("SAFE at " + d + ", unlike in stroke " + n, town.safe(0, d), d >= n);
            }
            // one is the other's begin: SAFE from one stroke more on
            BellTown begin = Check.townOf("house 0 0 9 0;" + TEN_WANTS, "code 0 3 " + one + ";code 0 9 " + one.substring(0, n));
            for (int d = 0; d <= 8; d++) {
                CHECK.due("SAFE at " + d + ", a begin of " + n, begin.safe(0, d), d > n);
            }
        }
    }

    // LEAST: "(6 at most, else -3)", "(One WANT: the WORD a .. None: 0.)"

    private static void leastOfEachSize() {
        // of URGENT 1 each: a; a b; aa ab b; aa ab ba bb; aaa aab ab ba bb; ..
        int[] due = {0, 1, 3, 7, 12, 17, 23, -3, -3, -3, -3};
        BellTown town = Check.townOf(TEN_WANTS);
        for (int many = 0; many <= 10; many++) {
            int low = (1 << many) - 1;
            CHECK.due("LEAST of the first " + many, town.least(low), due[many]);
            CHECK.due("LEAST of the last " + many, town.least(low << 10 - many), due[many]);
        }
        for (int set = 0; set < 1024; set += 5) {
            CHECK.due("LEAST of " + set, town.least(set), due[Integer.bitCount(set)]);
        }
    }

    // Promise 22: "(Bits of no WANT count for nothing.)"

    private static void leastByBits() {
        for (int wants = 0; wants <= 10; wants++) {
            StringBuilder text = new StringBuilder();
            for (int want = 0; want < wants; want++) {
                text.append(want > 0 ? ";" : "").append("want ").append(10 + want);
            }
            BellTown town = Check.townOf(text.toString());
            for (int bit = 0; bit < 32; bit++) {
                CHECK.due("LEAST of bit " + bit + " of " + wants, town.least(1 << bit), bit < wants ? 10 + bit : 0);
            }
            int none = -1 << wants;
            CHECK.due("LEAST of bits of no WANT", town.least(none), 0);
            CHECK.due("LEAST of one and bits of no WANT", town.least(none | 1), wants > 0 ? 10 : 0);
            CHECK.due("LEAST of all", town.least(-1), wants > 6 ? -3 : town.least((1 << wants) - 1));
        }
        BellTown six = Check.townOf("want 1;want 1;want 1;want 1;want 1;want 1");
        CHECK.due("six and all other bits", six.least(-1), 23);
        BellTown seven = Check.townOf("want 1;want 1;want 1;want 1;want 1;want 1;want 1");
        CHECK.due("seven", seven.least(127), -3);
        CHECK.due("six of seven", seven.least(126), 23);
        CHECK.due("six of seven and all other bits", seven.least(-2), 23);
    }

    private static void leastOfTwo() {
        int[] urgents = {1, 2, 3, 49, 50, 98, 99};
        for (int one : urgents) {
            for (int other : urgents) {
                BellTown town = Check.townOf("want " + one + ";want " + other);
                CHECK.due("LEAST of " + one + " and " + other, town.least(3), Math.min(one + 2 * other, 2 * one + other));
            }
        }
    }

    private static void leastGreatest() {
        BellTown town = Check.townOf("want 99;want 99;want 99;want 99;want 99;want 99");
        CHECK.due("six of 99", town.least(63), 99 * 23);
        // so unlike that each WORD is one stroke longer: a, ba, bba, bbba, bbbba, bbbbb
        BellTown unlike = Check.townOf("want 99;want 33;want 11;want 4;want 1;want 1");
        CHECK.due("six unlike", unlike.least(63), 99 + 3 * 33 + 5 * 11 + 7 * 4 + 9 + 10);
    }

    /** What was asked before does not count. */
    private static void leastAgain() {
        BellTown town = Check.townOf("want 1;want 1;want 1;want 99;want 99;want 99;want 50");
        // of all six: aa, ab, ba for 99 each, and bb with 7 behind it for the three of 1; of the last four: bb for 50
        int[][] asked = {{7, 7}, {56, 7 * 99}, {7, 7}, {63, 8 * 99 + 3 * 4 + 7}, {120, 8 * 99 + 4 * 50}, {3, 3}, {24, 3 * 99},
            {127, -3}, {64, 50}, {0, 0}, {56, 7 * 99}};
        for (int[] one : asked) {
            CHECK.due("LEAST of " + one[0], town.least(one[0]), one[1]);
        }
    }

    // ROOM: "the least more URGENT times COST"

    private static void roomOfTheFirst() {
        for (int urgent : new int[] {1, 2, 98, 99}) {
            BellTown town = Check.townOf("house 0 0 9 0;want " + urgent + ";want 50;want 50");
            CHECK.due("ROOM beside none: the sum", town.room(0, 0, false), urgent);
            CHECK.due("ROOM beside none: a", town.room(0, 0, true), 2);
            // a is had: b, or a longer
            Check.feed(town, "code 0 1 a");
            town.town();
            CHECK.due("ROOM beside a: the sum", town.room(0, 0, false), 2 * urgent);
            CHECK.due("ROOM beside a: b", town.room(0, 0, true), 3);
            Check.feed(town, "code 0 1 b");
            town.town();
            CHECK.due("ROOM beside b: the sum", town.room(0, 0, false), urgent);
            CHECK.due("ROOM beside b: a", town.room(0, 0, true), 2);
        }
        // a is had: b costs 2 x 99, a longer by b (2 x 1) with aa 2 x 99: more, so b
        BellTown dear = Check.townOf("house 0 0 9 0;want 1;want 99;code 0 0 a");
        CHECK.due("ROOM beside a cheap a: the sum", dear.room(0, 1, false), 198);
        CHECK.due("ROOM beside a cheap a: b", dear.room(0, 1, true), 3);
    }

    // ROOM: "none (also, if BEGINS are not none now)"; promise 28: "IllegalArgumentException: it has one"

    private static void roomAmongBegins() {
        BellTown town = Check.townOf("house 0 0 9 0;want 1;want 1;want 1;want 1;code 0 0 ab;code 0 1 ab");
        CHECK.due("BEGINS of two alike", town.room(0, 2, false), -1);
        CHECK.due("BEGINS of two alike: no WORD", town.room(0, 2, true), -1);
        CHECK.illegal("it has one, BEGINS not being none", () -> town.room(0, 0, false));
        Check.feed(town, "code 0 1 aba");
        town.town();
        CHECK.due("BEGINS of ab and aba", town.room(0, 3, false), -1);
        Check.feed(town, "code 0 1 aaa");
        town.town();
        CHECK.due("no BEGINS: the sum", town.room(0, 2, false), 2);
        CHECK.due("no BEGINS: b", town.room(0, 2, true), 3);
        CHECK.illegal("it has one", () -> town.room(0, 0, true));
        CHECK.illegal("it has one", () -> town.room(0, 1, true));
        Check.feed(town, "none 0 0");
        town.town();
        CHECK.due("it has one no more", town.room(0, 0, true), 3);
    }

    private static final String DOWN_TO_SEVEN = "code 0 0 b;code 0 1 ab;code 0 2 aab;code 0 3 aaab;code 0 4 aaaab;"
        + "code 0 5 aaaaab;code 0 6 aaaaaab";

    // ROOM: "just one other becomes longer by one STROKE at its end; all WORDS of 8 STROKES at most"

    private static void roomOfSevenStrokes() {
        // nothing is left; aaaaaaa of URGENT 1 becomes longer by a (1) with aaaaaaab (9), or by b (2) with aaaaaaaa (8)
        BellTown town = Check.townOf("house 0 0 9 0;want 99;want 99;want 99;want 99;want 99;want 99;want 99;want 1;want 1",
            DOWN_TO_SEVEN + ";code 0 7 aaaaaaa");
        CHECK.due("seven become eight: the sum", town.room(0, 8, false), 10);
        CHECK.due("seven become eight: a ahead of b", town.room(0, 8, true), 257);
        // of URGENT 2: by b 2 + 16, by a 1 + 18
        BellTown two = Check.townOf("house 0 0 9 0;want 99;want 99;want 99;want 99;want 99;want 99;want 99;want 1;want 2",
            DOWN_TO_SEVEN + ";code 0 7 aaaaaaa");
        CHECK.due("seven become eight by b: the sum", two.room(0, 8, false), 18);
        CHECK.due("seven become eight by b: aaaaaaaa", two.room(0, 8, true), 256);
        // aaaaaaab is left beside aaaaaaaa: others stay
        BellTown left = Check.townOf("house 0 0 9 0;want 99;want 99;want 99;want 99;want 99;want 99;want 99;want 1;want 1",
            DOWN_TO_SEVEN + ";code 0 7 aaaaaaaa");
        CHECK.due("the last of eight: the sum", left.room(0, 8, false), 9);
        CHECK.due("the last of eight", left.room(0, 8, true), 257);
        Check.feed(left, "code 0 7 aaaaaaab");
        left.town();
        CHECK.due("the first of eight: the sum", left.room(0, 8, false), 8);
        CHECK.due("the first of eight", left.room(0, 8, true), 256);
    }

    private static void roomOfEightStrokes() {
        // a WORD of eight cannot be longer, so one of 99 must be: b to ba (99) with bb (4)
        BellTown town = Check.townOf("house 0 0 9 0;want 99;want 99;want 99;want 99;want 99;want 99;want 99;want 1;want 1;want 1",
            DOWN_TO_SEVEN + ";code 0 7 aaaaaaab;code 0 8 aaaaaaaa");
        CHECK.due("eight do not become nine: the sum", town.room(0, 9, false), 103);
        CHECK.due("eight do not become nine: bb", town.room(0, 9, true), 7);
        // aaaaaab of URGENT 1 has seven: by a (1) with aaaaaabb (10)
        BellTown seven = Check.townOf("house 0 0 9 0;want 99;want 99;want 99;want 99;want 99;want 99;want 1;want 1;want 1;want 1",
            DOWN_TO_SEVEN + ";code 0 7 aaaaaaab;code 0 8 aaaaaaaa");
        CHECK.due("one of seven becomes eight: the sum", seven.room(0, 9, false), 11);
        CHECK.due("one of seven becomes eight: aaaaaabb", seven.room(0, 9, true), 259);
        // one of eight keeps no other from being longer: a to ab (2) with aa (198), while ba would be 297
        for (int eight = 0; eight < 3; eight++) {
            int one = (eight + 1) % 3;
            int none = (eight + 2) % 3;
            String[] urgent = {"", "", ""};
            urgent[eight] = "want 99";
            urgent[one] = "want 1";
            urgent[none] = "want 99";
            BellTown beside = Check.townOf("house 0 0 9 0;" + String.join(";", urgent),
                "code 0 " + eight + " bbbbbbbb;code 0 " + one + " a");
            CHECK.due("beside one of eight: the sum", beside.room(0, none, false), 200);
            CHECK.due("beside one of eight: aa", beside.room(0, none, true), 4);
        }
    }

    private static void roomForTheTenth() {
        // nine are had, and the tenth want is the first one, or one between
        for (int want = 0; want < 10; want += 3) {
            StringBuilder text = new StringBuilder();
            int word = 16;
            for (int other = 0; other < 10; other++) {
                if (other != want) {
                    text.append(text.length() > 0 ? ";" : "").append("code 0 ").append(other).append(' ').append(Check.strokes(word++));
                }
            }
            // aaaa to abbb and baaa are had, so bb (4) is the least: 4 minutes; bab has 5, baab 5
            BellTown town = Check.townOf("house 0 0 9 0;" + TEN_WANTS, text.toString());
            CHECK.due("ROOM for a tenth, want " + want + ": the sum", town.room(0, want, false), 4);
            CHECK.due("ROOM for a tenth, want " + want, town.room(0, want, true), 7);
        }
    }

    // ROOM: "then the least number of the new WORD"

    private static void roomOfSeveral() {
        // ab and ba are left, of 3 minutes each
        BellTown town = Check.townOf("house 0 0 9 0;want 99;want 99;want 1;code 0 0 aa;code 0 1 bb");
        CHECK.due("ab or ba: the sum", town.room(0, 2, false), 3);
        CHECK.due("ab or ba", town.room(0, 2, true), 5);
        // aaaa (4 minutes) and bbb (6) are left, and bbb has the lesser number
        BellTown less = Check.townOf("house 0 0 9 0;want 99;want 99;want 99;want 99;want 99;want 1;code 0 0 aaab;code 0 1 aab;"
            + "code 0 2 ab;code 0 3 ba;code 0 4 bba");
        CHECK.due("aaaa or bbb: the sum", less.room(0, 5, false), 4);
        CHECK.due("aaaa or bbb", less.room(0, 5, true), 16);
        // aaaaaa (6 minutes) and bbb (6) are left
        BellTown alike = Check.townOf("house 0 0 9 0;want 99;want 99;want 99;want 99;want 99;want 99;want 99;want 1;code 0 0 aaaaab",
            "code 0 1 aaaab;code 0 2 aaab;code 0 3 aab;code 0 4 ab;code 0 5 ba;code 0 6 bba");
        CHECK.due("aaaaaa or bbb: the sum", alike.room(0, 7, false), 6);
        CHECK.due("aaaaaa or bbb", alike.room(0, 7, true), 15);
        // aaaa, aaba and abba are left of 4, 5 and 6 minutes
        BellTown first = Check.townOf("house 0 0 9 0;want 99;want 99;want 99;want 99;want 99;want 1;code 0 0 aaab;code 0 1 aabb;"
            + "code 0 2 aba;code 0 3 abbb;code 0 4 b");
        CHECK.due("of three: the sum", first.room(0, 5, false), 4);
        CHECK.due("of three", first.room(0, 5, true), 16);
        Check.feed(first, "code 0 0 aaaa");
        first.town();
        CHECK.due("aaab or aaba: the sum", first.room(0, 5, false), 5);
        CHECK.due("aaab or aaba", first.room(0, 5, true), 17);
    }

    private static String learnt(String tape, int kind) {
        BellTown town = new BellTown();
        Check.feed(town, tape);
        String answer = Check.answer(() -> town.learn(kind));
        CHECK.due("the TAPE behind '" + tape + "'", town.end(1), false);
        return answer;
    }

    // LEARNT: "a row of STROKES without pauses (1 to 20)"

    private static void strokesHeard() {
        for (int strokes = 0; strokes <= 23; strokes++) {
            String row = "a".repeat(strokes);
            boolean may = strokes >= 1 && strokes <= 20;
            CHECK.due(strokes + " strokes of one", learnt(row + " A", -1), may ? strokes <= 3 ? "1" : "0" : IAE);
            CHECK.due(strokes + " strokes of one: the WORD", learnt(row + " A", 0),
                may ? strokes <= 3 ? Integer.toString(1 << strokes) : "-1" : IAE);
            boolean even = strokes % 6 == 0 && strokes <= 18;
            CHECK.due(strokes + " strokes of six alike", learnt(row + " XXXXXX", -1), may ? even ? "1" : "0" : IAE);
        }
        CHECK.due("20 strokes of b", learnt("b".repeat(20) + " ABCABC", -1), "0");
        CHECK.due("21 strokes of b", learnt("b".repeat(21) + " ABCABC", -1), IAE);
    }

    // LEARNT: "a row of WANTS came (1 to 6 ..)"

    private static void wantsThatCame() {
        for (int wants = 0; wants <= 9; wants++) {
            boolean may = wants >= 1 && wants <= 6;
            CHECK.due(wants + " WANTS alike", learnt("a".repeat(Math.max(1, wants)) + " " + "Q".repeat(wants), -1), may ? "1" : IAE);
            CHECK.due(wants + " WANTS alike: the WORD", learnt("a".repeat(Math.max(1, wants)) + " " + "Q".repeat(wants), 0),
                may ? "2" : IAE);
        }
        CHECK.due("more WANTS than strokes", learnt("a AA", -1), "0");
        CHECK.due("as many WANTS as strokes", learnt("ab AB", -1), "1");
    }

    // LEARNT: "of at most 3 kinds"; promise 29: "or there is no such kind"

    private static void kinds() {
        String[] rows = {"A", "AA", "AB", "ABA", "ABC", "CBA", "ABCABC", "AABBCC", "ABCD", "AABCDA", "ABCDEF"};
        int[] many = {1, 1, 2, 2, 3, 3, 3, 3, 4, 4, 6};
        for (int i = 0; i < rows.length; i++) {
            for (int kind = -3; kind <= 7; kind++) {
                boolean may = many[i] <= 3 && kind >= -1 && kind < many[i];
                String answer = learnt("aaabbb " + rows[i], kind);
                CHECK.due("kind " + kind + " of " + rows[i] + " is refused", answer.equals(IAE), !may);
            }
            for (int kind : FAR_OFF) {
                CHECK.due("kind " + kind + " of " + rows[i], learnt("aaabbb " + rows[i], kind), IAE);
            }
        }
        // as they came first
        CHECK.due("Z came first", learnt("abbb ZA", 0), "2");
        CHECK.due("then A", learnt("abbb ZA", 1), "15");
    }

    // Promise 29: "(STROKES a and b, then 32, then of each WANT that came a letter A to Z)"

    private static void eachByteOfATape() {
        for (int sign = 0; sign < 256; sign++) {
            boolean letter = sign >= 'A' && sign <= 'Z';
            boolean stroke = sign == 'a' || sign == 'b';
            CHECK.due("a letter of " + sign, learnt("a " + (char) sign, -1), letter ? "1" : IAE);
            CHECK.due("a second letter of " + sign, learnt("ab A" + (char) sign, -1), !letter ? IAE : sign == 'A' ? "0" : "1");
            CHECK.due("a stroke of " + sign, learnt((char) sign + " A", -1), stroke ? "1" : IAE);
            CHECK.due("a second stroke of " + sign, learnt("a" + (char) sign + " A", -1), stroke ? "1" : IAE);
            CHECK.due("a blank of " + sign, learnt("a" + (char) sign + "A", -1), sign == ' ' ? "1" : IAE);
            CHECK.due("a sign behind of " + sign, learnt("a A" + (char) sign, -1), letter ? "0" : IAE);
            CHECK.due("a sign ahead of " + sign, learnt((char) sign + "a A", -1), stroke ? "1" : IAE);
        }
        for (String tape : new String[] {"", " ", "a", "a ", " A", "A", "aA", "a  A", "a A ", "a A B", " a A", "a;A", "a a A"}) {
            CHECK.due("'" + tape + "'", learnt(tape, -1), IAE);
            CHECK.due("'" + tape + "' by kind", learnt(tape, 0), IAE);
        }
        // blanks up to 400 bytes are none of it
        CHECK.due("400 bytes", learnt("a A" + " ".repeat(397), -1), IAE);
    }

    // LEARNT: "each kind has a WORD of 1 to 3 STROKES, no two the same"

    private static void wordsLearnt() {
        for (int word = 2; word <= 31; word++) {
            String row = Check.strokes(word);
            CHECK.due("ways of " + row, learnt(row + " A", -1), word <= 15 ? "1" : "0");
            CHECK.due("the WORD of " + row, learnt(row + " A", 0), word <= 15 ? Integer.toString(word) : "-1");
        }
        CHECK.due("aa by two", learnt("aa AB", -1), "0");
        CHECK.due("aaa by two: 1 + 2, 2 + 1", learnt("aaa AB", -1), "2");
        CHECK.due("aaaa by two: 1 + 3, 3 + 1, not 2 + 2", learnt("aaaa AB", -1), "2");
        CHECK.due("aaaaa by two: 2 + 3, 3 + 2", learnt("aaaaa AB", -1), "2");
        CHECK.due("aaaaaa by two: not 3 + 3", learnt("aaaaaa AB", -1), "0");
        CHECK.due("aaaaaa by three: 1, 2, 3 in each order", learnt("aaaaaa ABC", -1), "6");
        CHECK.due("aaaaa by three: none unlike", learnt("aaaaa ABC", -1), "0");
        CHECK.due("aba by A B A", learnt("aba ABA", -1), "1");
        CHECK.due("the same kind has the same WORD", learnt("abb ABA", -1), "0");
        CHECK.due("18 strokes by six of three each", learnt("aaabbbabaaaabbbaba ABCABC", -1), "1");
        CHECK.due("19 strokes by six", learnt("aaabbbabaaaabbbabaa ABCABC", -1), "0");
    }

    // LEARNT: "the first (by the WORD's number of the first kind as it came, then the next one's)"; "(NONE without)"

    private static void firstLearnt() {
        int[] due = {2, 4, 8};
        for (int kind = 0; kind < 3; kind++) {
            CHECK.due("kind " + kind + " of aaaaaa ABC", learnt("aaaaaa ABC", kind), Integer.toString(due[kind]));
            CHECK.due("kind " + kind + " of aaaaa ABC", learnt("aaaaa ABC", kind), "-1");
        }
        // the same first one: a, then b ab aab .. : a b abb, a ba bb, a bab b; then ab a bb, ab ab b (no), aba b b (no)
        CHECK.due("ways of ababb ABC", learnt("ababb ABC", -1), "4");
        CHECK.due("A of ababb ABC", learnt("ababb ABC", 0), "2");
        CHECK.due("B of ababb ABC", learnt("ababb ABC", 1), "3");
        CHECK.due("C of ababb ABC", learnt("ababb ABC", 2), "11");
    }

    /** What was on the TAPE before does not count. */
    private static void learntAgain() {
        BellTown town = new BellTown();
        String[][] tapes = {{"aaabbbabaaaabbbaba ABCABC", "-1", "1"}, {"aab AB", "-1", "2"}, {"aab AB", "2", IAE}, {"ab A", "0", "5"},
            {"aaaaaa ABC", "-1", "6"}, {"aaaaaa ABCD", "-1", IAE}, {"aaaa AB", "-1", "2"}, {"abababab AAAAAAA", "-1", IAE}, {"aa AA", "-1", "1"},
            {"aa AB", "-1", "0"}, {"aa AB", "0", "-1"}, {"b Z", "0", "3"}, {"", "-1", IAE}, {"aaa ZA", "1", "4"}, {"bbbbb A", "-1", "0"},
            {"bbbbb A", "0", "-1"}};
        for (String[] one : tapes) {
            Check.feed(town, one[0]);
            int kind = Integer.parseInt(one[1]);
            CHECK.due("learn(" + kind + ") of '" + one[0] + "'", Check.answer(() -> town.learn(kind)), one[2]);
        }
    }

    // WORTH: "(COST of what it has, or 17 without, less that WORD's COST)"

    private static void worthOfEachWord() {
        for (int word = 0; word <= 513; word++) {
            int w = word;
            BellTown town = Check.townOf("house 0 0 9 0;house 0 0 9 0;house 0 0 9 0;want 99;code 1 0 a;code 2 0 bbbbbbbb");
            if (word < 2 || word > 511) {
                CHECK.illegal("worth of " + word, () -> town.worth(0, 0, w));
                CHECK.illegal("sale of " + word, () -> town.sale(0, w, false));
                CHECK.illegal("fee of " + word, () -> town.sale(0, w, true));
                continue;
            }
            CHECK.due("WORTH without a WORD of " + word, town.worth(0, 0, word), 99 * (17 - Check.costOf(word)));
            CHECK.due("WORTH in place of a of " + word, town.worth(1, 0, word), 99 * (1 - Check.costOf(word)));
            CHECK.due("WORTH in place of bbbbbbbb of " + word, town.worth(2, 0, word), 99 * (16 - Check.costOf(word)));
            CHECK.due("SALE of " + word, town.sale(0, word, false), 0);
            CHECK.due("FEE of " + word, town.sale(0, word, true), 99 * (16 - Check.costOf(word)));
        }
        for (int word : FAR_OFF) {
            BellTown town = Check.townOf("house 0 0 9 0;want 99");
            CHECK.illegal("worth of " + word, () -> town.worth(0, 0, word));
            CHECK.illegal("sale of " + word, () -> town.sale(0, word, true));
        }
    }

    private static void worthOfNoWord() {
        BellTown town = Check.townOf("house 0 0 9 0;" + TEN_WANTS, "code 0 9 abab");
        CHECK.due("a begin of the last one's", town.worth(0, 0, 5), -1000000);
        CHECK.due("just the last one's", town.worth(0, 0, 21), -1000000);
        CHECK.due("longer than the last one's", town.worth(0, 0, 42), -1000000);
        CHECK.due("beside the last one's", town.worth(0, 0, 20), 17 - 5);
        CHECK.due("a begin of what it has itself", town.worth(0, 9, 5), 6 - 3);
        CHECK.due("just what it has itself", town.worth(0, 9, 21), 0);
        CHECK.due("longer than what it has itself", town.worth(0, 9, 42), -1);
        // BEGINS that are there already do not count, only those that it would be in
        Check.feed(town, "code 0 1 abab");
        town.town();
        CHECK.due("two alike beside it", town.worth(0, 0, 3), 15);
    }

    // SALE: "the HOUSE to which it is WORTH the most, above 0"

    private static void saleAboveNothing() {
        BellTown town = Check.townOf("house 0 0 9 0;want 1;code 0 0 ab");
        CHECK.due("of one minute less: 1", town.sale(0, 4, false), 0);
        CHECK.due("its FEE", town.sale(0, 4, true), 0);
        CHECK.due("of as many minutes: 0", town.sale(0, 6, false), -1);
        CHECK.due("no FEE", town.sale(0, 6, true), -1);
        CHECK.due("of one minute more: below 0", town.sale(0, 7, false), -1);
        CHECK.due("no FEE below 0", town.sale(0, 7, true), -1);
        CHECK.due("of no HOUSE", Check.townOf("want 1").sale(0, 2, false), -1);
        CHECK.due("no FEE of no HOUSE", Check.townOf("want 1").sale(0, 2, true), -1);
        BellTown begins = Check.townOf("house 0 0 9 0;house 0 0 9 0;want 1;want 1;code 0 1 ab;code 1 1 ba");
        CHECK.due("none to 0, so to 1", begins.sale(0, 5, false), 1);
        CHECK.due("none to the other: 0 at least", begins.sale(0, 5, true), 0);
        CHECK.due("none to 1, so to 0", begins.sale(0, 6, false), 0);
        CHECK.due("none to the other: 0 at least", begins.sale(0, 6, true), 0);
        BellTown none = Check.townOf("house 0 0 9 0;house 0 0 9 0;want 1;want 1;code 0 1 ab;code 1 1 aba");
        CHECK.due("none to both", none.sale(0, 5, false), -1);
        CHECK.due("none to both: no FEE", none.sale(0, 5, true), -1);
    }

    // SALE: "of several the least number; its FEE: the most that it is WORTH to any other one (0 at least)"

    private static void salesAndFees() {
        String[] words = {"", "bb", "ab", "aa", "a"};
        int[] costs = {17, 4, 3, 2, 1};
        for (int way = 0; way < 625; way++) {
            StringBuilder text = new StringBuilder();
            int buyer = -1;
            int[] worths = new int[4];
            for (int house = 0, rest = way; house < 4; house++, rest /= 5) {
                String word = words[rest % 5];
                text.append(word.isEmpty() ? "" : ";code " + house + " 0 " + word);
                worths[house] = 3 * (costs[rest % 5] - 2);
                buyer = worths[house] > 0 && (buyer == -1 || worths[house] > worths[buyer]) ? house : buyer;
            }
            int fee = buyer == -1 ? -1 : 0;
            for (int house = 0; house < 4 && buyer != -1; house++) {
                fee = house != buyer ? Math.max(fee, worths[house]) : fee;
            }
            BellTown town = Check.townOf("house 0 0 9 0;house 0 0 9 0;house 0 0 9 0;house 0 0 9 0;want 3" + text);
            CHECK.due("SALE of aa" + text, town.sale(0, 4, false), buyer);
            CHECK.due("FEE of aa" + text, town.sale(0, 4, true), fee);
        }
    }
}
