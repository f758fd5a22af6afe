/** Promises 2 to 6 and the grammar of 'Terms', edge by edge: each bound at the case itself and on both sides of it. */
public final class TextEdgesTest {
    private static final Check CHECK = new Check("TextEdgesTest");
    private static final int RIGHT = -1;
    private static final int LAW = -1;
    private static final String ONE_OF_EACH = "house 0 0 1 0;want 1";

    public static void main(String[] args) {
        feedUpTo400();
        endAtEachLength();
        bytesOfEachNumber();
        tapeIsUsedUp();
        numbersOfTowns();
        numbersOfLaws();
        numbersThatTellNone();
        digits();
        wordsOfStrokes();
        noLine();
        linesOfTowns();
        linesOfLaws();
        housesAtMost();
        wantsAtMost();
        textsAtMost();
        deepAtMost();
        deepAnew();
        eachByteAhead();
        eachByteBehind();
        eachByteBetween();
        eachByteOfAWord();
        eachByteOfALaw();
        eachPlaceOfATown();
        eachPlaceOfALaw();
        textsOf400();
        blanks();
        faultOfTheLatest();
        upToTheLastCall();
        CHECK.finish();
    }

    /** Reads a text into a town (LAW: as a law) and looks at what is thrown and at fault(). */
    private static void reads(BellTown town, String text, int due, int fault) {
        Check.feed(town, text);
        String call = (due == LAW ? "law() of '" : "town() of '") + text + "'";
        String answer = Check.answer(due == LAW ? town::law : town::town);
        if (fault != RIGHT) {
            CHECK.due(call, answer, "throws.IllegalArgumentException");
        } else if (due == LAW) {
            CHECK.due(call, answer, Integer.toString(town.count(3)));
        } else {
            CHECK.due(call, answer, Integer.toString(due));
        }
        CHECK.due("fault() of '" + text + "'", town.fault(), fault);
        CHECK.due("the TAPE behind '" + text + "'", town.end(1), false);
    }

    private static BellTown town(String text, int fault) {
        BellTown town = new BellTown();
        reads(town, text, 1, fault);
        return town;
    }

    private static BellTown law(String text, int fault) {
        BellTown town = new BellTown();
        reads(town, text, LAW, fault);
        return town;
    }

    // Promise 2: "NONE, and none come, if it would have more than 400"

    private static void feedUpTo400() {
        for (int had = 0; had <= 400; had++) {
            BellTown town = new BellTown();
            for (int n = 0; n < had; n += 20) {
                town.feed(0x20202020, 0x20202020, 0x20202020, 0x20202020, 0x20202020);
            }
            CHECK.due("end(" + had + ")", town.end(had), true);
            boolean comes = had <= 380;
            CHECK.due("feed behind " + had, town.feed(0, 0, 0, 0, 0), comes ? had + 20 : -1);
            CHECK.due("end of one more than there are", town.end((comes ? had + 20 : had) + 1), false);
            CHECK.due("end of all that there are", town.end(comes ? had + 20 : had), true);
            // the bytes of 0 are the first wrong ones, if they came
            CHECK.due("town()", Check.answer(town::town), comes ? "throws.IllegalArgumentException" : "1");
            CHECK.due("fault()", town.fault(), comes ? had : RIGHT);
        }
    }

    // Promise 3: "false, and nothing happens, if it has fewer, or n is below 0"

    private static void endAtEachLength() {
        for (int n = -2; n <= 22; n++) {
            BellTown town = new BellTown();
            town.feed(0x77616e74, 0x20352020, 0x20202020, 0x20202020, 0x20202020);
            boolean may = n >= 0 && n <= 20;
            CHECK.due("end(" + n + ") of 20", town.end(n), may);
            CHECK.due("feed behind it", town.feed(0x20202020, 0x20202020, 0x20202020, 0x20202020, 0x20202020),
                (may ? n : 20) + 20);
        }
        BellTown town = new BellTown();
        CHECK.due("end(0) of none", town.end(0), true);
        CHECK.due("end(1) of none", town.end(1), false);
        CHECK.due("end(-1) of none", town.end(-1), false);
        CHECK.due("end of the least int", town.end(Integer.MIN_VALUE), false);
        CHECK.due("end of the greatest int", town.end(Integer.MAX_VALUE), false);
        // want 123 cut to want 12, which then goes on
        town.feed(0x77616e74, 0x20313233, 0, 0, 0);
        CHECK.due("end(7) of want 123", town.end(7), true);
        CHECK.due("end(8) of what is no more", town.end(8), false);
        town.town();
        CHECK.due("the first 7 bytes alone", town.want(0), 12);
    }

    // Promise 2: "of each number the highest first"

    private static void bytesOfEachNumber() {
        String text = "want 1;want 2;want 3";
        for (int at = 0; at < 20; at++) {
            // a byte of 255 at one place alone is the first wrong thing, or the number or word ahead of it ends there
            int[] n = Check.numbersOf(text.getBytes(java.nio.charset.StandardCharsets.ISO_8859_1), 0);
            n[at / 4] |= 0xff << 24 - 8 * (at % 4);
            BellTown town = new BellTown();
            CHECK.due("feed", town.feed(n[0], n[1], n[2], n[3], n[4]), 20);
            CHECK.illegal("town() with 255 at " + at, town::town);
            int inLine = at % 7;
            // within "want" the word that is cut short is wrong, so its begin is the first wrong byte
            CHECK.due("fault() with 255 at " + at, town.fault(), inLine > 0 && inLine < 4 ? at - inLine : at);
        }
    }

    // Promises 4, 5 and 29: "Uses the TAPE up"

    private static void tapeIsUsedUp() {
        for (int way = 0; way < 6; way++) {
            BellTown town = new BellTown();
            Check.feed(town, new String[] {"want 5", "bell", "first 5", "bell", "ab A", "bell"}[way]);
            int which = way / 2;
            String answer = Check.answer(which == 0 ? town::town : which == 1 ? town::law : () -> town.learn(-1));
            CHECK.due("call " + way, answer, way % 2 == 0 ? "1" : "throws.IllegalArgumentException");
            CHECK.due("end(1) behind call " + way, town.end(1), false);
            CHECK.due("feed behind call " + way, town.feed(0, 0, 0, 0, 0), 20);
        }
    }

    // Terms: "X and Y 0 to 15, LOUD 1 to 30, COINS 0 to 999", "URGENT 1 to 99", "wind: 0 to 9 each; gale: 0 less these"

    private static void numbersOfTowns() {
        inTown("house # 5 5 5", 0, 15, t -> t.house(0, 0));
        inTown("house 5 # 5 5", 0, 15, t -> t.house(0, 1));
        inTown("house 5 5 # 5", 1, 30, t -> t.house(0, 2));
        inTown("house 5 5 5 #", 0, 999, t -> t.house(0, 3));
        inTown("house 5 5 5 # deaf", 0, 999, t -> t.count(6));
        inTown("want #", 1, 99, t -> t.want(0));
        inTown("wind # 5", 0, 9, t -> t.count(8));
        inTown("wind 5 #", 0, 9, t -> t.count(9));
        inTown("gale # 5", 0, 9, t -> -t.count(8));
        inTown("gale 5 #", 0, 9, t -> -t.count(9));
    }

    private interface Asked {
        long of(BellTown town);
    }

    private static void inTown(String text, int low, int high, Asked asked) {
        for (int n = 0; n <= 1001; n++) {
            boolean may = n >= low && n <= high;
            BellTown town = town(text.replace("#", Integer.toString(n)), may ? RIGHT : text.indexOf('#'));
            if (may) {
                CHECK.due("what '" + text + "' told with " + n, asked.of(town), n);
            } else {
                CHECK.due("nothing stays of '" + text + "' with " + n, town.count(0) + town.count(1) + town.count(2), 0);
            }
        }
        town(text.replace("#", "-1"), text.indexOf('#'));
        town(text.replace("#", "+1"), text.indexOf('#'));
        town(text.replace("#", "one"), text.indexOf('#'));
        town(text.replace("#", "4294967297"), text.indexOf('#'));
    }

    // Terms: "All numbers are of 1 to 3 digits (N 0 to 999)"

    private static void numbersOfLaws() {
        for (String text : new String[] {"first #", "first # if 1 < 2", "first 1 if # < 2", "first 1 if 1 > #",
            "first 1 if 1 + # > 2", "first 1 if 1 > 2 + #", "first 1 if ( # < 5 )", "first 1 if not # < 5"}) {
            for (int n : new int[] {0, 1, 9, 10, 99, 100, 998, 999, 1000, 1001, 9999}) {
                law(text.replace("#", Integer.toString(n)), n <= 999 ? RIGHT : text.indexOf('#'));
            }
            law(text.replace("#", "-1"), text.indexOf('#'));
        }
    }

    // Terms: "a number .. that tells none that is there", "a HOUSE, W: a WANT that there is by then"

    private static void numbersThatTellNone() {
        for (int many = 0; many <= 8; many++) {
            for (int n = 0; n <= 12; n++) {
                BellTown town = Check.townOf(Check.lines(many, "house 0 0 1 0"), "want 1");
                reads(town, "code " + n + " 0 ab", 3, n < many ? RIGHT : 5);
                BellTown other = Check.townOf(Check.lines(many, "house 0 0 1 0"), "want 1");
                reads(other, "none " + n + " 0", 3, n < many ? RIGHT : 5);
                CHECK.due("WORDS of all", town.count(5), n < many ? 1 : 0);
            }
        }
        for (int many = 0; many <= 10; many++) {
            for (int n = 0; n <= 12; n++) {
                BellTown town = Check.townOf("house 0 0 1 0", Check.lines(many, "want 1"));
                reads(town, "code 0 " + n + " ab", 3, n < many ? RIGHT : 7);
                BellTown other = Check.townOf("house 0 0 1 0", Check.lines(many, "want 1"));
                reads(other, "none 0 " + n, 3, n < many ? RIGHT : 7);
                CHECK.due("WORDS of all", town.count(5), n < many ? 1 : 0);
            }
        }
        town("want 1;code 0 0 a;house 0 0 1 0", 12);
        town("want 1;house 0 0 1 0;code 0 0 a", RIGHT);
        town("house 0 0 1 0;none 0 0;want 1", 21);
        town("house 0 0 1 0;want 1;none 0 0", RIGHT);
        town(ONE_OF_EACH + ";code 1 0 a;house 0 0 1 0", 26);
        town(ONE_OF_EACH + ";house 0 0 1 0;code 1 0 a", RIGHT);
        town(ONE_OF_EACH + ";code 0 1 a;want 1", 28);
        town(ONE_OF_EACH + ";want 1;code 0 1 a", RIGHT);
        town(ONE_OF_EACH + ";code 00 000 a", RIGHT);
        town(ONE_OF_EACH + ";code 0000 0 a", 26);
        town(ONE_OF_EACH + ";code 0 0000 a", 28);
    }

    // Terms: "a number of more digits"

    private static void digits() {
        for (String text : new String[] {"house # 1 1 1", "house 1 # 1 1", "house 1 1 # 1", "house 1 1 1 #", "want #",
            "wind # 1", "wind 1 #", "gale # 1", "gale 1 #"}) {
            for (String number : new String[] {"1", "01", "001", "0001", "00001"}) {
                town(text.replace("#", number), number.length() <= 3 ? RIGHT : text.indexOf('#'));
            }
        }
        for (String number : new String[] {"0", "00", "000", "0000"}) {
            law("first " + number, number.length() <= 3 ? RIGHT : 6);
            law("first 1 if " + number + " < 1", number.length() <= 3 ? RIGHT : 11);
        }
        CHECK.due("001 is 1", town("want 001", RIGHT).want(0), 1);
        CHECK.due("010 is 10", town("want 010", RIGHT).want(0), 10);
        town("want 000", 5);
        town("house 1 1 000 1", 10);
    }

    // Terms: "A WORD: 1 to 8 STROKES", "a WORD with other letters, or more than 8"

    private static void wordsOfStrokes() {
        String ahead = ONE_OF_EACH + ";code 0 0 ";
        int at = ahead.length();
        String word = "";
        int number = 1;
        town(ahead, at);
        town(ahead.trim(), at - 1);
        town(ahead + ";", at);
        for (int strokes = 1; strokes <= 10; strokes++) {
            word += strokes % 3 == 0 ? "b" : "a";
            number = number * 2 + (strokes % 3 == 0 ? 1 : 0);
            BellTown town = town(ahead + word, strokes <= 8 ? RIGHT : at);
            if (strokes <= 8) {
                CHECK.due("code(0, 0) of " + word, town.code(0, 0), number);
            }
            town(ahead + word.substring(1) + "c", at);
            town(ahead + "`" + word, at);
            town(ahead + "1" + word, at);
            town(ahead + word + " a", strokes <= 8 ? at + strokes + 1 : at);
        }
        for (int all = 0; all < 2; all++) {
            String eight = all == 0 ? "aaaaaaaa" : "bbbbbbbb";
            CHECK.due("code(0, 0) of " + eight, town(ahead + eight, RIGHT).code(0, 0), all == 0 ? 256 : 511);
            town(ahead + eight + eight.charAt(0), at);
        }
    }

    // Terms: "A text that is empty, or blanks alone, has no LINE"

    private static void noLine() {
        for (int blanks : new int[] {0, 1, 2, 19, 20, 21, 399, 400}) {
            BellTown town = town(" ".repeat(blanks), RIGHT);
            CHECK.due("a text of " + blanks + " blanks is one text", town.count(2), 1);
            BellTown law = law(" ".repeat(blanks), RIGHT);
            CHECK.due("LINES of " + blanks + " blanks", law.count(3), 0);
            if (blanks < 400) {
                town(" ".repeat(blanks) + ";", blanks);
                law(" ".repeat(blanks) + ";", blanks);
            }
        }
        BellTown town = new BellTown();
        reads(town, "first 5;first 6", LAW, RIGHT);
        reads(town, "", LAW, RIGHT);
        CHECK.due("a LAW of no LINE in place of one of two", town.count(3), 0);
    }

    // Terms: "LINE { ; LINE }, at most 14", "of a LINE too many .. the first word"

    private static void linesOfTowns() {
        for (int lines = 1; lines <= 17; lines++) {
            BellTown town = town(Check.lines(lines, "wind 1 " + lines % 10), lines <= 14 ? RIGHT : 14 * 9);
            CHECK.due("WIND's Y of " + lines, town.count(9), lines <= 14 ? lines % 10 : 0);
            town(Check.lines(lines, "wind 1 1") + ";", Math.min(lines, 14) * 9);
            town(Check.lines(lines, "wind 1 1") + " ; ", lines <= 14 ? lines * 9 + 2 : 14 * 9);
        }
        town(Check.lines(14, "wind 1 1") + "; gale 1 1", 14 * 9 + 1);
        town(Check.lines(14, "wind 1 1") + ";  7", 14 * 9 + 2);
        town(Check.lines(13, "wind 1 1") + ";;gale 1 1", 13 * 9);
        town(Check.lines(14, "wind 1 1") + " wind", 14 * 9);
        town(Check.lines(13, "wind 1 1") + ";wind 1", 13 * 9 + 6);
    }

    private static void linesOfLaws() {
        for (int lines = 1; lines <= 15; lines++) {
            BellTown town = law(Check.lines(lines, "first 1"), lines <= 12 ? RIGHT : 12 * 8);
            CHECK.due("LINES of " + lines, town.count(3), lines <= 12 ? lines : -1);
            law(Check.lines(lines, "first 1") + ";", Math.min(lines, 12) * 8);
        }
        law(Check.lines(12, "first 1") + ";  first 1", 12 * 8 + 2);
        law(Check.lines(12, "first 1") + ";if", 12 * 8);
        law(Check.lines(11, "first 1") + ";first", 11 * 8 + 5);
        law(Check.lines(11, "first 1") + ";first 1 if 1<2", RIGHT);
    }

    // Terms: "HOUSES (at most 8 ..", "WANTS (at most 10 ..", "of a HOUSE, WANT too many, the first word"

    private static void housesAtMost() {
        for (int first = 0; first <= 8; first++) {
            for (int more = 0; more <= 10; more++) {
                BellTown town = Check.townOf(Check.lines(first, "house 0 0 1 0"));
                boolean may = first + more <= 8;
                reads(town, Check.lines(more, "house 1 1 1 1"), 2, may ? RIGHT : (8 - first) * 14);
                CHECK.due("HOUSES of " + first + " and " + more, town.count(0), may ? first + more : first);
            }
        }
        BellTown full = Check.townOf(Check.lines(8, "house 0 0 1 0"));
        reads(full, "wind 1 1; house bell", 2, 10);
        reads(full, "want 1", 2, RIGHT);
    }

    private static void wantsAtMost() {
        for (int first = 0; first <= 10; first++) {
            for (int more = 0; more <= 12; more++) {
                BellTown town = Check.townOf(Check.lines(first, "want 2"));
                boolean may = first + more <= 10;
                reads(town, Check.lines(more, "want 3"), 2, may ? RIGHT : (10 - first) * 7);
                CHECK.due("WANTS of " + first + " and " + more, town.count(1), may ? first + more : first);
            }
        }
        BellTown full = Check.townOf(Check.lines(10, "want 1"));
        reads(full, "wind 1 1; want bell", 2, 10);
        reads(full, "house 1 1 1 1", 2, RIGHT);
    }

    // Terms: "texts (at most 10, one behind another)"; promise 4: "UnsupportedOperationException: there are 10"

    private static void textsAtMost() {
        BellTown town = new BellTown();
        for (int n = 1; n <= 10; n++) {
            reads(town, "bell", 0, 0);
            CHECK.due("a wrong text is none of them", town.count(2), n - 1);
            reads(town, n == 1 ? "" : n == 2 ? "want 3;house 0 0 1 0" : "wind " + (n - 1) + " 1", n, RIGHT);
            CHECK.due("texts", town.count(2), n);
        }
        for (int again = 0; again < 2; again++) {
            Check.feed(town, again == 0 ? "" : "wind 5 5");
            CHECK.unsupported("an 11th text", town::town);
            CHECK.due("the TAPE behind an 11th text", town.end(1), false);
            CHECK.due("texts behind an 11th text", town.count(2), 10);
            CHECK.due("WIND's X behind an 11th text", town.count(8), 9);
        }
        reads(town, "wind 5", 0, 6);
        reads(town, "first 5", LAW, RIGHT);
        CHECK.due("a LAW is none of the ten", town.count(2), 10);
        town.image();
        CHECK.due("back()", town.back(), true);
        Check.feed(town, "");
        CHECK.unsupported("an 11th text behind back()", town::town);
    }

    // Terms: "( and not within one another at most 6 deep", "the ( or not that is a 7th one deep"

    private static void deepAtMost() {
        for (int deep = 0; deep <= 8; deep++) {
            for (int kinds = 0; kinds < 1 << deep; kinds++) {
                StringBuilder text = new StringBuilder("first 1 if ");
                StringBuilder behind = new StringBuilder();
                int seventh = RIGHT;
                for (int i = 0; i < deep; i++) {
                    seventh = i == 6 ? text.length() : seventh;
                    boolean not = (kinds >> i & 1) == 1;
                    text.append(not ? "not " : "(");
                    behind.append(not ? "" : ")");
                }
                law(text + "1<2" + behind, seventh);
            }
        }
    }

    private static void deepAnew() {
        String six = "((((((1<2))))))";
        law("first 1 if " + six + " and " + six + " or " + six, RIGHT);
        law("first 1 if not not not not not not 1<2 and not not not not not not 1<2", RIGHT);
        law("first 1 if " + six + ";first 2 if " + six, RIGHT);
        law("first 1 if (((((1<2) and (1<2) or not 1<2))))", RIGHT);
        law("first 1 if (((((1<2 and (1<2 or not 1<2))))))", 32);
        law("first 1 if (((((1<2 and (1<2 or 1<2))))))", RIGHT);
        law("first 1 if not (not (not (1<2 or 3<4)))", RIGHT);
        law("first 1 if not (not (not (1<2 or not 3<4)))", 33);
        law("first 1 if (((((((", 17);
        law("first 1 if ((((((", 17);
        law("first 1 if (((((", 16);
        law("first 1 if ((((((1<2)))))", 25);
        law("first 1 if ((((((1<2)))))))", 26);
    }

    // Terms: "between all there may be blanks (32), also ahead and behind", and no other byte

    private static void eachByteAhead() {
        for (int sign = 0; sign < 256; sign++) {
            int fault = sign == ' ' ? RIGHT : 0;
            town((char) sign + "want 1", fault);
            law((char) sign + "first 1", fault);
        }
    }

    private static boolean isDigit(int sign) {
        return sign >= '0' && sign <= '9';
    }

    private static boolean isLetter(int sign) {
        return sign >= 'a' && sign <= 'z';
    }

    private static void eachByteBehind() {
        for (int sign = 0; sign < 256; sign++) {
            boolean may = sign == ' ' || isDigit(sign);
            town("want 1" + (char) sign, may ? RIGHT : sign == ';' ? 7 : 6);
            law("first 1" + (char) sign, may ? RIGHT : sign == ';' ? 8 : 7);
            town("house 1 1 1 1 deaf" + (char) sign,
                sign == ' ' ? RIGHT : sign == ';' ? 19 : isLetter(sign) ? 14 : 18);
            law("first 1 if 1<cost" + (char) sign,
                sign == ' ' ? RIGHT : sign == ';' || sign == '+' ? 18 : isLetter(sign) ? 13 : 17);
        }
    }

    private static void eachByteBetween() {
        for (int sign = 0; sign < 256; sign++) {
            boolean may = sign == ' ' || isDigit(sign);
            town("want" + (char) sign + "1", may ? RIGHT : isLetter(sign) ? 0 : 4);
            law("first" + (char) sign + "1", may ? RIGHT : isLetter(sign) ? 0 : 5);
            // a digit makes one number of both, which is above 9
            town("wind 1" + (char) sign + "1", sign == ' ' ? RIGHT : isDigit(sign) ? 5 : 6);
        }
    }

    private static void eachByteOfAWord() {
        String ahead = ONE_OF_EACH + ";code 0 0 ";
        int at = ahead.length();
        for (int sign = 0; sign < 256; sign++) {
            boolean stroke = sign == 'a' || sign == 'b';
            town(ahead + (char) sign, stroke ? RIGHT : sign == ' ' ? at + 1 : at);
            town(ahead + "a" + (char) sign,
                stroke || sign == ' ' ? RIGHT : isLetter(sign) ? at : sign == ';' ? at + 2 : at + 1);
            // each letter of a word of the text counts
            for (int place = 0; place < 4; place++) {
                StringBuilder text = new StringBuilder("want 1");
                if (text.charAt(place) != sign) {
                    text.setCharAt(place, (char) sign);
                    town(text.toString(), sign == ' ' && place == 0 ? 1 : 0);
                }
            }
        }
    }

    private static void eachByteOfALaw() {
        for (int sign = 0; sign < 256; sign++) {
            boolean may = sign == '<' || sign == '>';
            law("first 1 if 1" + (char) sign + "1", may ? RIGHT : isDigit(sign) || sign == '+' ? 14 : sign == ' ' ? 13 : 12);
            law("first 1 if 1<1" + (char) sign + "1",
                sign == '+' || isDigit(sign) ? RIGHT : sign == ' ' || sign == ';' ? 15 : 14);
            law("first 1 if (1<1" + (char) sign, sign == ')' ? RIGHT
                : sign == '+' || sign == ' ' || isDigit(sign) ? 16 : 15);
            law("first 1 if " + (char) sign + "1<1",
                sign == ' ' || isDigit(sign) ? RIGHT : sign == '(' ? 15 : 11);
        }
    }

    // Terms: "The first wrong byte: the begin of the first thing that cannot stand there .. or the text's length,
    // if more must come"

    private static void eachPlaceOfATown() {
        eachPlace("house 0 0 1 0 | ; house 15 15 30 999 | deaf | ; want 1 | ; want 99 | ; code 1 1 abababab | ; none 0 0 | "
            + "; code 0 1 b | ; wind 0 9 | ; gale 9 0 |", false);
    }

    private static void eachPlaceOfALaw() {
        eachPlace("first 0 | ; first 999 | if house < 1 | ; first 1 | if not coins + 5 + cost > waited | + 1 | or urgent < 2 | "
            + "and ( 1 < 2 or not 3 > 4 and 5 < 6 ) | ; first 2 | if ( ( 1 < 2 ) ) |", true);
    }

    /** Cuts a text behind each of its things (a | tells where it may end), and puts a wrong thing in place of each. */
    private static void eachPlace(String marked, boolean law) {
        String[] things = marked.split(" ");
        StringBuilder text = new StringBuilder();
        boolean mayEnd = true;
        for (String thing : things) {
            if (thing.equals("|")) {
                mayEnd = true;
                continue;
            }
            place(text.toString(), law, mayEnd ? RIGHT : text.length());
            place(text + "  ", law, mayEnd ? RIGHT : text.length() + 2);
            for (String wrong : new String[] {"?", "bell", "0000", "(", "@", "~", "-"}) {
                // a bracket may stand where an atom begins: then more must come
                boolean bracket = law && wrong.equals("(") && isAtAtom(text.toString());
                place(text + " " + wrong, law, bracket ? text.length() + 2 : text.length() + 1);
            }
            text.append(text.length() > 0 ? " " : "").append(thing);
            mayEnd = false;
        }
        place(text.toString(), law, RIGHT);
    }

    private static boolean isAtAtom(String text) {
        return text.endsWith("if") || text.endsWith("and") || text.endsWith("or") || text.endsWith("not") || text.endsWith("(");
    }

    private static void place(String text, boolean law, int fault) {
        if (law) {
            law(text, fault);
        } else {
            town(text, fault);
        }
    }

    private static void textsOf400() {
        town("want 5" + " ".repeat(394), RIGHT);
        town(" ".repeat(394) + "want 5", RIGHT);
        town(" ".repeat(395) + "want ", 400);
        town(" ".repeat(396) + "want", 400);
        town(" ".repeat(397) + "wan", 397);
        town(" ".repeat(399) + "5", 399);
        town("want 5;" + " ".repeat(393), 400);
        law("first 5" + " ".repeat(393), RIGHT);
        law(" ".repeat(392) + "first 5;", 400);
        // 11 + 3 bytes, and 193 times +1: 400
        BellTown long400 = law("first 9 if 1<1" + "+1".repeat(193), RIGHT);
        CHECK.due("LINES", long400.count(3), 1);
        law("first 9 if 1<1" + "+1".repeat(192) + "+ ", 400);
        law("first 9 if " + "0<1 or ".repeat(55) + "0<1 ", RIGHT);
        law("first 9 if " + "0<1 or ".repeat(55) + "0<1+", 400);
    }

    private static void blanks() {
        CHECK.due("WORDS", town("  house  0  0  1  0  ;  want  1  ;  code  0  0  ab  ", RIGHT).count(5), 1);
        CHECK.due("DEAF without a blank", town("house0 0 1 0deaf;want1;code0 0ab;wind1 2;gale1 2;none0 0", RIGHT).house(0, 4), 1);
        town("house00 1 1", 11);
        town("house 0 0 1 0 d eaf", 14);
        town("w ant 1", 0);
        town("want 1 0", 7);
        town("wantwant 1", 0);
        town("want 1want 1", 6);
        law("first1if1<2or3>4and5<6", RIGHT);
        law("first1if not1<2", RIGHT);
        law("first1ifnot 1<2", 6);
        law("first 1 if house<cost", RIGHT);
        law("first 1 if housecost<1", 11);
        law("first 1 if 1 < 2andcost<1", 16);
        law("first 1 if(1<2)and(1<2)or(1<2)", RIGHT);
        law(" first  1  if  not  (  1  <  2  +  3  )  ;  first  2  ", RIGHT);
    }

    // Promise 6: "The first wrong byte of the latest text that was read; NONE without one, and ahead of any"

    private static void faultOfTheLatest() {
        BellTown town = new BellTown();
        CHECK.due("fault() ahead of any", town.fault(), -1);
        reads(town, "want 1;bell", 0, 7);
        CHECK.due("fault() stays till the next", town.fault(), 7);
        town.feed(0, 0, 0, 0, 0);
        town.end(0);
        town.image();
        town.back();
        CHECK.due("fault() is not changed by other calls", town.fault(), 7);
        reads(town, "first", LAW, 5);
        reads(town, "want 1", 1, RIGHT);
        reads(town, "first x", LAW, 6);
        reads(town, "first 1", LAW, RIGHT);
        reads(town, "", 2, RIGHT);
        reads(town, "wind 1", 0, 6);
        reads(town, "", LAW, RIGHT);
    }

    // "An object is used for at most 512 calls after it has been made"

    private static void upToTheLastCall() {
        BellTown town = new BellTown();
        for (int n = 0; n < 166; n++) {
            CHECK.due("feed", town.feed(n, n, n, n, n), 20);
            CHECK.due("end", town.end(0), true);
            town.image();
        }
        for (int n = 1; n <= 10; n++) {
            CHECK.due("town", town.town(), n);
        }
        CHECK.due("end of none, the 509th", town.end(1), false);
        CHECK.unsupported("town, the 510th", town::town);
        CHECK.due("back, the 511th", town.back(), true);
        CHECK.due("texts, the 512th", town.count(2), 0);
    }
}
