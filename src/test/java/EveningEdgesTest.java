/** Promises 12 to 17, 30 to 33 and 36, edge by edge: each bound at the case itself and on both sides of it. */
public final class EveningEdgesTest {
    private static final Check CHECK = new Check("EveningEdgesTest");
    private static final int[] FAR_OFF = {Integer.MIN_VALUE, -256, 256, 1 << 16, Integer.MAX_VALUE};
    private static final String EIGHT_TOGETHER = "house 5 5 30 0;house 5 5 30 0;house 5 5 30 0;house 5 5 30 0;"
        + "house 5 5 30 0;house 5 5 30 0;house 5 5 30 0;house 5 5 30 0";

    public static void main(String[] args) {
        minutes();
        ringingsAtMost();
        undone();
        noWordAnyMore();
        ringingsOverTexts();
        ringingsOfTheImage();
        cutByClear();
        mixedOrNot();
        threeThatMix();
        theLastMinutes();
        takenForTheLeast();
        takenForNone();
        rightAndWrong();
        couldBe();
        understoodByAll();
        understoodAtTheEdge();
        strokesOfChildren();
        fooledByAlike();
        minutesOfQuiet();
        quietOfMany();
        quietAmongRingings();
        manyOfAnEvening();
        drawnEvenings();
        drawnMinutes();
        eveningsAmongRingings();
        eveningsOfNothing();
        CHECK.finish();
    }

    // Promise 12: "IllegalArgumentException: the minute is none" (0 to 999)

    private static void minutes() {
        for (int minute : new int[] {-2, -1, 0, 1, 2, 500, 998, 999, 1000, 1001, Integer.MIN_VALUE, Integer.MAX_VALUE}) {
            BellTown town = Check.townOf("house 0 0 9 0;want 1;code 0 0 a");
            boolean may = minute >= 0 && minute <= 999;
            CHECK.due("ring at " + minute, Check.answer(() -> town.ring(minute, 0, 0)), may ? "0" : "throws.IllegalArgumentException");
            CHECK.due("RINGINGS behind it", town.count(4), may ? 1 : 0);
        }
    }

    // ==== 2: "RINGINGS are told (at most 12, numbered from 0 on)"; promise 12: "UnsupportedOperationException: there are 12"

    private static void ringingsAtMost() {
        BellTown town = Check.townOf("house 0 0 9 0;house 0 0 9 0;want 1;code 0 0 a");
        for (int n = 0; n < 12; n++) {
            CHECK.due("RINGINGS", town.count(4), n);
            CHECK.due("ring", town.ring(5 * n, 0, 0), n);
            CHECK.due("it is heard", town.heard(n, 1), 2);
        }
        for (int again = 0; again < 2; again++) {
            CHECK.unsupported("a 13th", () -> town.ring(500, 0, 0));
            CHECK.due("RINGINGS", town.count(4), 12);
        }
        CHECK.due("undo()", town.undo(), 11);
        CHECK.due("a 12th anew", town.ring(600, 0, 0), 11);
        CHECK.unsupported("a 13th", () -> town.ring(500, 0, 0));
        CHECK.due("hush()", town.hush(), 12);
        CHECK.due("the first one anew", town.ring(600, 0, 0), 0);
    }

    // Promises 13 and 14: "NONE without"

    private static void undone() {
        BellTown town = Check.townOf("house 0 0 9 0;house 0 0 9 0;want 1;want 2;code 0 0 ab;code 0 1 b");
        CHECK.due("undo() without", town.undo(), -1);
        town.ring(3, 0, 0);
        town.ring(4, 0, 1);
        CHECK.due("the second mixes the first", town.heard(0, 1), 2);
        CHECK.due("undo() of the second", town.undo(), 1);
        CHECK.due("the first is not mixed any more", town.heard(0, 1), 5);
        CHECK.due("undo() of the first", town.undo(), 0);
        CHECK.due("undo() of none", town.undo(), -1);
        CHECK.due("hush() of none", town.hush(), 0);
        CHECK.due("ring", town.ring(5, 0, 1), 0);
        CHECK.due("hush() of one", town.hush(), 1);
        CHECK.due("hush() again", town.hush(), 0);
        CHECK.due("undo() behind hush()", town.undo(), -1);
        CHECK.due("hush() and undo() leave the words", town.house(0, 5), 2);
    }

    // Promise 12: "or there is no WORD"

    private static void noWordAnyMore() {
        BellTown town = Check.townOf("house 0 0 9 0;house 0 0 9 0;want 1;want 2;code 0 0 ab");
        CHECK.illegal("ring without a WORD", () -> town.ring(0, 0, 1));
        CHECK.illegal("ring of one without WORDS", () -> town.ring(0, 1, 0));
        CHECK.due("ring with a WORD", town.ring(0, 0, 0), 0);
        Check.feed(town, "none 0 0");
        town.town();
        CHECK.illegal("ring of a WORD that is no more", () -> town.ring(0, 0, 0));
        CHECK.due("the RINGING has the WORD of then", town.heard(0, 1), 5);
        town.trade(0, 1, 0);
        CHECK.illegal("ring of a WORD traded for none", () -> town.ring(0, 1, 0));
    }

    /** 1 rings aab for want 2 at 7, of which 0 hears all, and 2 the first stroke, which is its word for want 1. */
    private static BellTown rungBySecond() {
        BellTown town = Check.townOf("house 0 1 1 0;house 0 0 7 0;house 5 0 1 0;want 1;want 1;want 1;code 1 0 b;code 1 1 a;"
            + "code 1 2 aab;code 0 0 b");
        town.ring(30, 1, 0);
        town.ring(7, 1, 2);
        return town;
    }

    private static void isRungBySecond(String when, BellTown town) {
        CHECK.due("RINGINGS " + when, town.count(4), 2);
        CHECK.due("what came to 0 " + when, town.heard(1, 0), 9);
        CHECK.due("what came to 2 " + when, town.heard(1, 2), 2);
        CHECK.due("taken at 0 " + when, town.taken(1, 0), 2);
        CHECK.due("taken at 2 " + when, town.taken(1, 2), 1);
        CHECK.due("could be at 2 " + when, town.could(1, 2), 6);
        CHECK.due("RIGHT " + when, town.sure(1, false), 1);
        CHECK.due("WRONG " + when, town.sure(1, true), 1);
        CHECK.due("RIGHT of the other " + when, town.sure(0, false), 2);
        CHECK.due("what came to the ringer " + when, town.heard(1, 1), 0);
        CHECK.due("QUIET " + when, town.quiet(1, 0, 6, 12), 11);
    }

    /** A RINGING has the minute, the HOUSE, the WANT and the WORD that were told, whatever comes behind. */
    private static void ringingsOverTexts() {
        BellTown town = rungBySecond();
        isRungBySecond("at first", town);
        Check.feed(town, "want 9");
        town.town();
        isRungBySecond("behind a text", town);
        Check.feed(town, "code 0 0 bb;wind 0 0;bell");
        CHECK.illegal("a wrong text", town::town);
        isRungBySecond("behind a wrong text", town);
        Check.feed(town, "first 5");
        town.law();
        Check.feed(town, "want 9");
        town.town();
        isRungBySecond("behind a LAW and a text", town);
        town.evening(3, 12, 0);
        isRungBySecond("behind a DRAWN EVENING", town);
        town.ring(7, 0, 0);
        CHECK.due("undo()", town.undo(), 2);
        isRungBySecond("behind undo()", town);
    }

    private static void ringingsOfTheImage() {
        BellTown town = rungBySecond();
        town.image();
        town.hush();
        town.ring(100, 0, 0);
        town.ring(200, 1, 1);
        CHECK.due("back()", town.back(), true);
        isRungBySecond("behind back()", town);
        town.hush();
        Check.feed(town, "none 1 2;wind 9 9");
        town.town();
        CHECK.due("back()", town.back(), true);
        isRungBySecond("behind back() again", town);
    }

    // Terms: "so many STROKES of a WORD, from the first on, come to I; the rest is cut"

    private static void cutByClear() {
        for (int clear = 0; clear <= 11; clear++) {
            // LOUD is as little as can be for that CLEAR, with one step between
            int loud = clear == 0 ? 1 : Math.min(30, 3 * clear - 2);
            String place = clear == 0 ? "0 2" : clear == 11 ? "0 0" : "0 1";
            for (int length = 1; length <= 8; length++) {
                String word = "abbabaab".substring(0, length);
                BellTown town = Check.townOf("house 0 0 " + loud + " 0;house " + place + " 1 0;want 1;code 0 0 " + word);
                CHECK.due("CLEAR", town.way(1, 0, 2), clear);
                town.ring(7, 0, 0);
                int came = clear == 0 ? 0 : Check.number(word.substring(0, Math.min(clear, length)));
                CHECK.due("heard of " + word + " by CLEAR " + clear, town.heard(0, 1), came);
                CHECK.due("taken of " + word + " by CLEAR " + clear, town.taken(0, 1), clear >= length ? 0 : -1);
                CHECK.due("heard by itself", town.heard(0, 0), 0);
                CHECK.due("RIGHT", town.sure(0, false), clear >= length ? 1 : 0);
                CHECK.due("could", town.could(0, 1), clear > 0 ? 1 : 0);
                CHECK.due("understood", town.understood(0), clear >= length ? 1 : 0);
            }
        }
    }

    // ==== 2: "MIXED if in some of its minutes a STROKE that comes to I of another RINGING sounds, too"

    private static void mixedOrNot() {
        for (int one = 2; one <= 15; one++) {
            for (int other = 2; other <= 15; other++) {
                BellTown town = Check.townOf("house 0 0 30 0;house 0 0 30 0;house 0 0 30 0;want 1;code 0 0 " + Check.strokes(one)
                    + ";code 1 0 " + Check.strokes(other));
                for (int apart = -8; apart <= 8; apart++) {
                    town.ring(20, 0, 0);
                    town.ring(20 + apart, 1, 0);
                    String call = Check.strokes(one) + " and " + Check.strokes(other) + " " + apart + " later: ";
                    CHECK.due(call + "the first", town.heard(0, 2), ahead(Check.strokes(one), 20, Check.strokes(other), 20 + apart));
                    CHECK.due(call + "the second", town.heard(1, 2), ahead(Check.strokes(other), 20 + apart, Check.strokes(one), 20));
                    CHECK.due(call + "the first to the second's", town.heard(0, 1), one);
                    town.hush();
                }
            }
        }
    }

    /** The strokes ahead of the first in whose minutes the other one sounds. */
    private static int ahead(String word, int minute, String other, int its) {
        int over = its;
        for (char stroke : other.toCharArray()) {
            over += stroke == 'a' ? 1 : 2;
        }
        int at = minute;
        for (int n = 0; n < word.length(); n++) {
            int last = word.charAt(n) == 'a' ? at : at + 1;
            for (int m = at; m <= last; m++) {
                if (m >= its && m < over) {
                    return Check.number(word.substring(0, n));
                }
            }
            at = last + 1;
        }
        return Check.number(word);
    }

    private static void threeThatMix() {
        BellTown town = Check.townOf("house 0 0 30 0;house 0 0 30 0;house 0 0 30 0;house 0 0 30 0 deaf;want 1;want 2;"
            + "code 0 0 abab;code 1 0 a;code 2 0 a;code 3 1 b");
        // abab sounds at 10, 11 and 12, 13, 14 and 15
        town.ring(10, 0, 0);
        town.ring(16, 1, 0);
        town.ring(9, 2, 0);
        CHECK.due("one right ahead and one right behind mix nothing", town.heard(0, 3), 0);
        CHECK.due("to 1", town.heard(0, 1), 21);
        CHECK.due("to 2", town.heard(0, 2), 21);
        town.undo();
        town.undo();
        town.ring(15, 1, 0);
        town.ring(12, 2, 0);
        CHECK.due("to 1 comes 2's, which mixes the second", town.heard(0, 1), 2);
        CHECK.due("to 2 comes 1's, which mixes the fourth", town.heard(0, 2), 10);
        town.ring(10, 3, 1);
        CHECK.due("one who is DEAF rings, too", town.heard(0, 1), 1);
        CHECK.due("and is heard mixed", town.heard(3, 2), 1);
        town.undo();
        town.ring(8, 3, 1);
        CHECK.due("b that is over at 10", town.heard(0, 2), 10);
        town.undo();
        town.ring(9, 3, 1);
        CHECK.due("b that is over at 11", town.heard(0, 2), 1);
    }

    /** The minutes go on behind 999, and none of them is minute 0. */
    private static void theLastMinutes() {
        BellTown town = Check.townOf("house 0 0 30 0;house 0 0 30 0;house 0 0 30 0;want 1;want 2;code 0 0 bbbbbbbb;code 1 0 b;"
            + "code 0 1 b");
        town.ring(999, 0, 0);
        CHECK.due("nothing else sounds", town.heard(0, 2), 511);
        town.ring(0, 1, 0);
        CHECK.due("minute 0 is not one of its minutes", town.heard(0, 2), 511);
        CHECK.due("the other one", town.heard(1, 2), 3);
        town.undo();
        town.ring(998, 1, 0);
        CHECK.due("mixed in minute 999", town.heard(0, 2), 1);
        town.undo();
        town.ring(997, 1, 0);
        CHECK.due("one that is over at 999", town.heard(0, 2), 511);
        town.undo();
        town.ring(999, 1, 0);
        CHECK.due("both in minute 999", town.heard(0, 2), 1);
        town.hush();
        town.ring(984, 0, 0);
        town.ring(999, 0, 1);
        CHECK.due("mixed in its last minute", town.heard(0, 2), 255);
        CHECK.due("the other one in its first minute", town.heard(1, 2), 1);
        town.hush();
        town.ring(983, 0, 0);
        town.ring(999, 0, 1);
        CHECK.due("one right behind the other", town.heard(0, 2), 511);
    }

    // TAKEN for: "(of several the least)"

    private static void takenForTheLeast() {
        for (int first = 0; first < 10; first++) {
            for (int second = 0; second < 10; second++) {
                BellTown town = Check.townOf("house 0 0 9 0;house 0 0 9 0;" + "want 1;".repeat(9) + "want 1",
                    "code 0 " + first + " ab;code 0 " + second + " ab;code 1 0 ab");
                town.ring(0, 0, second);
                CHECK.due("taken of alike " + first + " and " + second, town.taken(0, 1), Math.min(first, second));
                CHECK.due("RIGHT", town.sure(0, false), second <= first ? 1 : 0);
                CHECK.due("WRONG", town.sure(0, true), second <= first ? 0 : 1);
                CHECK.due("COULD", town.could(0, 1), 1 << first | 1 << second);
                CHECK.due("UNDERSTOOD", town.understood(0), 1);
            }
        }
    }

    // TAKEN for: "none (nothing came, or no such)"

    private static void takenForNone() {
        BellTown town = Check.townOf("house 0 0 30 0;house 0 0 30 0;house 0 0 30 0;want 1;want 2;want 3;code 0 0 ab;"
            + "code 0 1 aba;code 0 2 b;code 1 0 a;code 1 1 a");
        town.ring(10, 0, 1);
        CHECK.due("aba", town.taken(0, 2), 1);
        town.ring(13, 1, 0);
        CHECK.due("ab", town.taken(0, 2), 0);
        town.undo();
        town.ring(12, 1, 0);
        CHECK.due("a, which only the other one has", town.taken(0, 2), -1);
        CHECK.due("it could be ab or aba", town.could(0, 2), 3);
        town.undo();
        town.ring(10, 1, 0);
        CHECK.due("nothing came", town.taken(0, 2), -1);
        CHECK.due("heard 1", town.heard(0, 2), 1);
        CHECK.due("it could be all", town.could(0, 2), 7);
        CHECK.due("to itself", town.taken(0, 0), -1);
        CHECK.due("heard 0", town.heard(0, 0), 0);
        CHECK.due("it could be none", town.could(0, 0), 0);
    }

    // RIGHT: "at how many HOUSES that HEAR it"

    private static void rightAndWrong() {
        for (int many = 1; many <= 8; many++) {
            BellTown town = Check.townOf(EIGHT_TOGETHER.substring(0, many * 15 - 1), "want 1;code 0 0 bab");
            town.ring(0, 0, 0);
            CHECK.due("RIGHT at all but the ringer of " + many, town.sure(0, false), many - 1);
            CHECK.due("WRONG at none of " + many, town.sure(0, true), 0);
            Check.feed(town, "want 2;none 0 0;code 0 1 bab");
            town.town();
            CHECK.due("RIGHT at none of " + many, town.sure(0, false), 0);
            CHECK.due("WRONG at all but the ringer of " + many, town.sure(0, true), many - 1);
            Check.feed(town, "none 0 1");
            town.town();
            CHECK.due("neither RIGHT nor WRONG: RIGHT", town.sure(0, false), 0);
            CHECK.due("neither RIGHT nor WRONG: WRONG", town.sure(0, true), 0);
        }
        // LOUD 4 at FAR 4, 5, 3, 1, and at 0 one who is DEAF: CLEAR 1, none, 1, 2
        BellTown far = Check.townOf("house 0 0 4 0;house 4 0 1 0;house 5 0 1 0;house 3 0 1 0;house 1 0 1 0;house 0 0 1 0 deaf;"
            + "want 1;want 2;code 0 0 aa;code 0 1 a");
        far.ring(0, 0, 0);
        CHECK.due("RIGHT at FAR 1", far.sure(0, false), 1);
        CHECK.due("WRONG at FAR 3 and 4", far.sure(0, true), 2);
    }

    // COULD: "(as bits; none, if that one does not HEAR it)"

    private static void couldBe() {
        String words = "code 0 0 a;code 0 1 ab;code 0 2 aba;code 0 3 abab;code 0 4 b;code 0 5 abb;code 0 6 ababa;code 0 8 aa;"
            + "code 0 9 abababab";
        int[] due = {0, 0x36f, 0x26e, 0x24c, 0x248, 0x240};
        for (int clear = 0; clear <= 5; clear++) {
            BellTown town = Check.townOf("house 0 0 " + (clear == 0 ? 1 : 3 * clear - 2) + " 0;house 0 "
                + (clear == 0 ? 2 : 1) + " 1 0;want 1;want 1;want 1;want 1;want 1;want 1;want 1;want 1;want 1;want 1", words);
            town.ring(0, 0, 9);
            CHECK.due("COULD by CLEAR " + clear, town.could(0, 1), due[clear]);
            CHECK.due("COULD to the ringer", town.could(0, 0), 0);
        }
        BellTown town = Check.townOf("house 0 0 9 0;house 0 0 9 0;want 1;want 1;want 1;want 1;want 1;want 1;want 1;want 1;want 1;"
            + "want 1", words + ";code 0 7 bb");
        town.ring(0, 0, 0);
        town.ring(0, 0, 1);
        CHECK.due("no STROKE: all ten", town.could(0, 1), 1023);
        CHECK.due("no STROKE of the other: all ten", town.could(1, 1), 1023);
    }

    // UNDERSTOOD: "pairs of another HOUSE and a WANT for which this one has a WORD"

    private static void understoodByAll() {
        for (int many = 1; many <= 8; many++) {
            BellTown town = Check.townOf(EIGHT_TOGETHER.substring(0, many * 15 - 1),
                "want 1;want 1;want 1;want 1;want 1;want 1;want 1;want 1;want 1;want 1");
            CHECK.due("without a WORD", town.understood(0), 0);
            StringBuilder words = new StringBuilder();
            for (int want = 0; want < 10; want++) {
                words.append(want > 0 ? ";" : "").append("code 0 ").append(want).append(' ').append(Check.strokes(20 + want));
            }
            Check.feed(town, words.toString());
            town.town();
            CHECK.due("ten WORDS and " + (many - 1) + " others", town.understood(0), 10 * (many - 1));
            Check.feed(town, "code 0 3 " + Check.strokes(29));
            town.town();
            CHECK.due("two alike: the least alone", town.understood(0), 9 * (many - 1));
        }
    }

    private static void understoodAtTheEdge() {
        // LOUD 5: at FAR 2 CLEAR 2, at FAR 3 and 5 CLEAR 1, at FAR 6 none; and one who is DEAF
        BellTown town = Check.townOf("house 0 0 5 0;house 0 2 1 0;house 0 3 1 0;house 0 5 1 0;house 0 6 1 0;house 0 1 1 0 deaf;"
            + "want 1;want 1;code 0 0 ab;code 0 1 b");
        // b is understood at 1, 2 and 3, ab at 1
        CHECK.due("ab and b", town.understood(0), 4);
        Check.feed(town, "code 0 1 a");
        town.town();
        CHECK.due("ab and a: ab cut to a is no ab", town.understood(0), 4);
        Check.feed(town, "code 0 1 aab");
        town.town();
        CHECK.due("ab and aab, which comes nowhere", town.understood(0), 1);
        town.ring(0, 0, 0);
        town.ring(0, 0, 1);
        CHECK.due("nothing else sounding", town.understood(0), 1);
    }

    // Promise 30: "IllegalArgumentException: STROKES are none" (1 to 8)

    private static void strokesOfChildren() {
        // a WORD of each length
        String words = "code 0 0 a;code 0 1 ab;code 0 2 abb;code 0 3 abbb;code 0 4 abbbb;code 0 5 abbbbb;code 0 6 abbbbbb;"
            + "code 0 7 abbbbbbb";
        for (int clear = 0; clear <= 11; clear++) {
            BellTown town = Check.townOf("house 0 0 " + (clear == 0 ? 1 : Math.min(30, 3 * clear - 2)) + " 0;house 0 "
                + (clear == 0 ? 2 : clear == 11 ? 0 : 1) + " 1 0;want 1;want 1;want 1;want 1;want 1;want 1;want 1;want 1", words);
            for (int strokes = -2; strokes <= 11; strokes++) {
                int s = strokes;
                if (strokes < 1 || strokes > 8) {
                    CHECK.illegal("fooled by " + strokes, () -> town.fooled(0, 1, s));
                    CHECK.illegal("fooled by " + strokes + " at one alone", () -> town.fooled(0, 0, s));
                } else {
                    CHECK.due("fooled by " + strokes + " at CLEAR " + clear, town.fooled(0, 1, strokes),
                        clear == 0 ? 0 : 1 << strokes - Math.min(strokes, clear));
                    CHECK.due("no other HOUSE", town.fooled(0, 0, strokes), 0);
                    CHECK.due("no WORDS", town.fooled(1, 0, strokes), 0);
                }
            }
            for (int strokes : FAR_OFF) {
                CHECK.illegal("fooled by " + strokes, () -> town.fooled(0, 1, strokes));
            }
        }
    }

    private static void fooledByAlike() {
        BellTown town = Check.townOf("house 0 0 30 0;house 0 0 30 0;house 0 0 30 0 deaf;want 1;want 1;want 1;want 1;code 0 0 ab;"
            + "code 0 1 ab;code 0 2 bb;code 0 3 b");
        int[] due = {1, 2, 0, 0, 0, 0, 0, 0};
        for (int strokes = 1; strokes <= 8; strokes++) {
            CHECK.due("fooled(0, 1, " + strokes + ")", town.fooled(0, 1, strokes), due[strokes - 1]);
            CHECK.due("one who is DEAF is not fooled", town.fooled(0, 2, strokes), 0);
        }
        Check.feed(town, "code 0 0 a");
        town.town();
        CHECK.due("a and b", town.fooled(0, 1, 1), 2);
        // of one stroke that comes of eight, both are WORDS: all 256
        BellTown all = Check.townOf("house 0 0 1 0;house 0 1 1 0;want 1;want 1;code 0 0 a;code 0 1 b");
        CHECK.due("all 256", all.fooled(0, 1, 8), 256);
    }

    // Promise 33: "a minute is none, the second is ahead of the first, or more than 60 behind"

    private static void minutesOfQuiet() {
        int[] all = {Integer.MIN_VALUE, -61, -60, -2, -1, 0, 1, 2, 59, 60, 61, 62, 120, 937, 938, 939, 940, 998, 999, 1000, 1001,
            1059, 1060, Integer.MAX_VALUE};
        for (int from : all) {
            BellTown town = Check.townOf("house 0 0 9 0;house 0 0 9 0;want 1;want 2;code 0 0 ab");
            for (int to : all) {
                boolean may = from >= 0 && from <= 999 && to >= from && to <= 999 && to <= from + 60;
                String call = "quiet from " + from + " to " + to;
                CHECK.due(call, Check.answer(() -> town.quiet(0, 0, from, to)),
                    may ? Integer.toString(from) : "throws.IllegalArgumentException");
                CHECK.due(call + " without a WORD", Check.answer(() -> town.quiet(0, 1, from, to)),
                    may ? "-1" : "throws.IllegalArgumentException");
            }
        }
    }

    // Promise 33: "UnsupportedOperationException: there are 12 RINGINGS"

    private static void quietOfMany() {
        BellTown town = Check.townOf("house 0 0 9 0;house 0 0 9 0;want 1;want 2;code 0 0 a");
        for (int n = 0; n < 12; n++) {
            CHECK.due("quiet with " + n, town.quiet(0, 0, 0, 60), n);
            town.ring(n, 0, 0);
        }
        CHECK.unsupported("quiet with 12", () -> town.quiet(0, 0, 0, 60));
        CHECK.unsupported("quiet with 12 in one minute", () -> town.quiet(0, 0, 999, 999));
        town.undo();
        CHECK.due("quiet with 11", town.quiet(0, 0, 0, 60), 11);
        CHECK.due("quiet with 11 where nothing is RIGHT", town.quiet(0, 0, 0, 10), 0);
        CHECK.due("quiet with 11 at the last", town.quiet(0, 0, 0, 11), 11);
        CHECK.due("no WORD", town.quiet(0, 1, 0, 60), -1);
    }

    // QUIET: "would be RIGHT at the most HOUSES; of several the least"

    private static void quietAmongRingings() {
        // 0 rings b; 1 hears 0 and 2, 3 hears 0 alone
        BellTown town = Check.townOf("house 5 0 9 0;house 6 0 1 0;house 7 0 1 0;house 5 9 1 0;want 1;code 0 0 b;code 2 0 b");
        town.ring(10, 2, 0);
        town.ring(20, 0, 0);
        // to 1 what begins at 9 to 11 or 19 to 21 is mixed, to 3 what begins at 19 to 21 alone; 2 hears 0, too
        CHECK.due("from 9 to 11 as good", town.quiet(0, 0, 9, 11), 9);
        CHECK.due("12 is better", town.quiet(0, 0, 9, 12), 12);
        CHECK.due("8 is as good and less", town.quiet(0, 0, 8, 12), 8);
        CHECK.due("19 to 21 are worse than 9 to 11", town.quiet(0, 0, 19, 21), 19);
        CHECK.due("22 is better", town.quiet(0, 0, 19, 22), 22);
        CHECK.due("18", town.quiet(0, 0, 18, 22), 18);
        CHECK.due("one minute alone", town.quiet(0, 0, 20, 20), 20);
    }

    // Promise 36: "IllegalArgumentException: N is none; NoSuchElementException: another what"

    private static void manyOfAnEvening() {
        BellTown town = Check.townOf("house 0 0 9 0;want 1;code 0 0 a");
        for (int n = -2; n <= 15; n++) {
            int many = n;
            boolean may = n >= 1 && n <= 12;
            CHECK.due("evening of " + n, Check.answer(() -> town.evening(5, many, 3)),
                may ? Integer.toString(n) : "throws.IllegalArgumentException");
            CHECK.due("evening of " + n + " and another what", Check.answer(() -> town.evening(5, many, 4)),
                may ? "throws.NoSuchElementException" : "throws.IllegalArgumentException");
        }
        for (int what = -3; what <= 7; what++) {
            int w = what;
            boolean may = what >= 0 && what <= 3;
            CHECK.due("evening of what " + what, Check.answer(() -> town.evening(5, 4, w)),
                may ? what < 2 ? "0" : "4" : "throws.NoSuchElementException");
        }
        for (int off : FAR_OFF) {
            CHECK.illegal("evening of " + off, () -> town.evening(5, off, 0));
            CHECK.noElement("evening of what " + off, () -> town.evening(5, 1, off));
        }
    }

    // A DRAWN EVENING: "DRAW modulo 20 its minute, one modulo how many HOUSES there are, one modulo how many WANTS"

    private static void drawnEvenings() {
        int[] seeds = {0, 1, -1, 2, 12345, -12345, Integer.MAX_VALUE, Integer.MIN_VALUE, Integer.MAX_VALUE - 1,
            Integer.MIN_VALUE + 1, 1 << 16, -(1 << 16), 1 << 30, 1103515245, 77, 4711, 99991};
        for (int first : seeds) {
            // one stroke of each RINGING of 0 comes to 1, and nothing of 1's to 0: mixed is what begins in the same minute
            BellTown town = Check.townOf("house 0 0 1 0;house 0 1 1 0;house 9 9 1 0;want 1;want 2;want 3;want 4;code 0 0 ab;"
                + "code 0 1 a;code 0 3 a;code 2 0 a");
            for (int n = 1; n <= 12; n++) {
                int[] due = drawn(first, n);
                for (int what = 0; what < 4; what++) {
                    CHECK.due("evening(" + first + ", " + n + ", " + what + ")", town.evening(first, n, what), due[what]);
                }
            }
        }
    }

    private static int[] drawn(int first, int n) {
        Check.Draws draws = new Check.Draws(first);
        int[] minutes = new int[n];
        int[] wants = new int[n];
        int[] due = new int[4];
        for (int i = 0; i < n; i++) {
            minutes[i] = draws.next() % 20;
            int house = draws.next() % 3;
            int want = draws.next() % 4;
            boolean comes = house == 0 && want != 2 || house == 2 && want == 0;
            wants[i] = !comes ? -1 : house == 2 ? 9 : want;
            due[3] += comes ? 1 : 0;
        }
        for (int i = 0; i < n; i++) {
            boolean mixed = false;
            for (int j = 0; j < n; j++) {
                mixed |= j != i && wants[j] >= 0 && wants[j] < 9 && minutes[j] == minutes[i];
            }
            boolean heard = wants[i] >= 0 && wants[i] < 9 && !mixed;
            // all of 0's come as a, which is taken for 1
            due[0] += heard && wants[i] == 1 ? 1 : 0;
            due[1] += heard && wants[i] != 1 ? 1 : 0;
            due[2] += wants[i] >= 0 && !heard ? 1 : 0;
        }
        return due;
    }

    /** Two that hear one stroke of each other: mixed is what the same one begins in the same minute. */
    private static void drawnMinutes() {
        for (int n = 0; n < 40; n++) {
            int first = n * 107374182 - 12;
            BellTown town = Check.townOf("house 0 0 1 0;house 0 1 1 0;want 1;code 0 0 a;code 1 0 a");
            Check.Draws draws = new Check.Draws(first);
            int[] places = new int[12];
            for (int i = 0; i < 12; i++) {
                int minute = draws.next() % 20;
                places[i] = 2 * minute + draws.next() % 2;
                CHECK.due("of one WANT", draws.next() % 1, 0);
            }
            int alone = 0;
            for (int i = 0; i < 12; i++) {
                int alike = 0;
                for (int j = 0; j < 12; j++) {
                    alike += places[j] == places[i] ? 1 : 0;
                }
                alone += alike == 1 ? 1 : 0;
            }
            CHECK.due("RIGHT of twelve by " + first, town.evening(first, 12, 0), alone);
            CHECK.due("WRONG of twelve by " + first, town.evening(first, 12, 1), 0);
            CHECK.due("taken for nothing of twelve by " + first, town.evening(first, 12, 2), 12 - alone);
        }
    }

    // A DRAWN EVENING: "nothing stays, those that are there being gone for it"

    private static void eveningsAmongRingings() {
        BellTown town = Check.townOf("house 0 0 9 0;house 0 1 9 0;want 1;code 0 0 a;code 1 0 a");
        int[] due = new int[4];
        for (int what = 0; what < 4; what++) {
            due[what] = town.evening(31, 12, what);
        }
        CHECK.due("all twelve come", due[3], 12);
        for (int n = 0; n < 12; n++) {
            town.ring(n, n % 2, 0);
            for (int what = 0; what < 4; what++) {
                CHECK.due("evening among " + (n + 1), town.evening(31, 12, what), due[what]);
            }
            CHECK.due("RINGINGS that stay", town.count(4), n + 1);
        }
        CHECK.due("the RINGINGS are as they were", town.heard(3, 0), 2);
        CHECK.unsupported("a 13th RINGING", () -> town.ring(0, 0, 0));
    }

    // Promise 36: "0 without HOUSES or WANTS"

    private static void eveningsOfNothing() {
        BellTown[] towns = {new BellTown(), Check.townOf("house 0 0 9 0;house 0 0 9 0"), Check.townOf("want 1;want 2"),
            Check.townOf("house 0 0 9 0;house 0 0 9 0;want 1;want 2")};
        for (BellTown town : towns) {
            for (int what = 0; what < 4; what++) {
                for (int n : new int[] {1, 2, 11, 12}) {
                    CHECK.due("evening of nothing", town.evening(n * 7, n, what), 0);
                }
            }
        }
        BellTown one = Check.townOf("house 0 0 9 0;want 1;code 0 0 b");
        CHECK.due("one HOUSE and one WANT", one.evening(9, 1, 3), 1);
        CHECK.due("nobody takes it for anything", one.evening(9, 1, 2), 1);
    }
}
