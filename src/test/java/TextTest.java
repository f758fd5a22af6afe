/** Promises 2 to 6: the tape, the texts of the town, the law, and the first wrong byte. */
public final class TextTest {
    private static final Check CHECK = new Check("TextTest");

    public static void main(String[] args) {
        feedAndEnd();
        bytesInOrder();
        rightTowns();
        wrongTowns();
        limitsOverTexts();
        tenTexts();
        rightLaws();
        wrongLaws();
        nothingStays();
        CHECK.finish();
    }

    private static void feedAndEnd() {
        BellTown town = new BellTown();
        for (int n = 20; n <= 400; n += 20) {
            CHECK.due("feed", town.feed(0, 0, 0, 0, 0), n);
        }
        CHECK.due("feed beyond 400", town.feed(0, 0, 0, 0, 0), -1);
        CHECK.due("end(401)", town.end(401), false);
        CHECK.due("end(-1)", town.end(-1), false);
        CHECK.due("end(400)", town.end(400), true);
        CHECK.due("end(381)", town.end(381), true);
        CHECK.due("feed to 401", town.feed(0, 0, 0, 0, 0), -1);
        CHECK.due("end(382) behind end(381)", town.end(382), false);
        CHECK.due("end(380)", town.end(380), true);
        CHECK.due("feed to 400", town.feed(0, 0, 0, 0, 0), 400);
        CHECK.due("end(0)", town.end(0), true);
        CHECK.due("feed anew", town.feed(-1, 0, 0, 0, 0), 20);
    }

    private static void bytesInOrder() {
        BellTown town = new BellTown();
        // "want 31;" and "wind 2 9" twice over the borders of the numbers
        town.feed(0x77616e74, 0x2033313b, 0x77696e64, 0x20322039, 0x20202020);
        CHECK.due("town() of bytes, the highest first", town.town(), 1);
        CHECK.due("want(0)", town.want(0), 31);
        CHECK.due("WIND's X", town.count(8), 2);
        CHECK.due("WIND's Y", town.count(9), 9);
        CHECK.due("the TAPE is used up", town.end(1), false);
        town.feed(0xffffffff, 0, 0, 0, 0);
        CHECK.illegal("town() of a byte 255", () -> town.town());
        CHECK.due("its fault()", town.fault(), 0);
        CHECK.due("the TAPE is used up by a wrong text, too", town.end(1), false);
    }

    private static void townIs(String text, int houses, int wants, int words) {
        BellTown town = new BellTown();
        Check.feed(town, text);
        CHECK.due("town() of '" + text + "'", Check.answer(town::town), "1");
        CHECK.due("fault() of '" + text + "'", town.fault(), -1);
        CHECK.due("HOUSES of '" + text + "'", town.count(0), houses);
        CHECK.due("WANTS of '" + text + "'", town.count(1), wants);
        CHECK.due("WORDS of '" + text + "'", town.count(5), words);
    }

    private static void rightTowns() {
        townIs("", 0, 0, 0);
        townIs("     ", 0, 0, 0);
        townIs("house 15 15 30 999 deaf", 1, 0, 0);
        townIs("house0 0 1 0deaf", 1, 0, 0);
        townIs("  house  007 00 01 0  ;  want   099  ", 1, 1, 0);
        townIs("house 0 0 1 0;want 1;code 0 0 abababab;code 0 0 b", 1, 1, 1);
        townIs("house 0 0 1 0;want 1;code 0 0a;none 0 0", 1, 1, 0);
        townIs("wind 0 9;gale 9 0;wind9 9", 0, 0, 0);
        townIs("want 1;want 1;want 1;want 1;want 1;want 1;want 1;want 1;want 1;want 1;wind 0 0;wind 0 0;wind 0 0;gale 1 2",
            0, 10, 0);
    }

    private static void townFault(String text, int fault) {
        BellTown town = new BellTown();
        Check.feed(town, text);
        CHECK.illegal("town() of '" + text + "'", town::town);
        CHECK.due("fault() of '" + text + "'", town.fault(), fault);
        for (int what : new int[] {0, 1, 2, 5, 6, 8, 9}) {
            CHECK.due("count(" + what + ") behind '" + text + "'", town.count(what), 0);
        }
    }

    private static void wrongTowns() {
        townFault(";", 0);
        townFault("  ;", 2);
        townFault("houses 1 1 1 1", 0);
        townFault("housez 1 1 1 1", 0);
        townFault("house`1 1 1 1", 5);
        townFault("house{1 1 1 1", 5);
        townFault("house 1/1 1 1", 7);
        townFault("house 1:1 1 1", 7);
        townFault("House 1 1 1 1", 0);
        townFault("house", 5);
        townFault("house  ", 7);
        townFault("house 1 1 1", 11);
        townFault("house 1 1 1 ;", 12);
        townFault("house 16 1 1 1", 6);
        townFault("house 1 16 1 1", 8);
        townFault("house 1 1 0 1", 10);
        townFault("house 1 1 31 1", 10);
        townFault("house 1 1 1 1000", 12);
        townFault("house 0001 1 1 1", 6);
        townFault("house -1 1 1 1", 6);
        townFault("house 1 1 1 1 deafen", 14);
        townFault("house 1 1 1 1 deaf deaf", 19);
        townFault("house 1 1 1 1 1", 14);
        townFault("house 1,1 1 1", 7);
        townFault("want", 4);
        townFault("want 0", 5);
        townFault("want 100", 5);
        townFault("want 1 want 1", 7);
        townFault("want 1;;want 1", 7);
        townFault("want 1; ", 8);
        townFault("wants 1", 0);
        townFault("wind 1", 6);
        townFault("wind 1 10", 7);
        townFault("gale 10 1", 5);
        townFault("wind 1 1 1", 9);
        townFault("code 0 0 a", 5);
        townFault("none 0 0", 5);
        townFault("house 0 0 1 0;code 0 0 a;want 1", 21);
        townFault("house 0 0 1 0;want 1;code 1 0 a", 26);
        townFault("house 0 0 1 0;want 1;code 0 1 a", 28);
        townFault("house 0 0 1 0;want 1;code 0 0", 29);
        townFault("house 0 0 1 0;want 1;code 0 0 abc", 30);
        townFault("house 0 0 1 0;want 1;code 0 0 A", 30);
        townFault("house 0 0 1 0;want 1;code 0 0 aaaabbbba", 30);
        townFault("house 0 0 1 0;want 1;code 0 0 a b", 32);
        townFault("house 0 0 1 0;want 1;none 0 0 a", 30);
        townFault("house 0 0 1 0;want 1;none 0 0;bell", 30);
        townFault("want 5" + (char) 9, 6);
        townFault("want 5" + (char) 0, 6);
        townFault("want " + (char) 0xb2, 5);
        townFault("want 1;want 1;want 1;want 1;want 1;want 1;want 1;want 1;want 1;want 1; want 1", 71);
        townFault("wind 1 1;".repeat(14) + "wind 1 1", 126);
        townFault("wind 1 1;".repeat(14) + " bell", 127);
        townFault("wind 1 1;".repeat(14), 126);
        townFault("house 1 1 1 1;".repeat(8) + " house", 113);
    }

    private static void limitsOverTexts() {
        BellTown town = Check.townOf("house 1 1 1 1;".repeat(7) + "house 1 1 1 1", "want 5;".repeat(9) + "want 5");
        Check.feed(town, "wind 1 1;house 1 1 1 1");
        CHECK.illegal("a 9th HOUSE in a later text", town::town);
        CHECK.due("its fault()", town.fault(), 9);
        Check.feed(town, "want 5");
        CHECK.illegal("an 11th WANT in a later text", town::town);
        CHECK.due("its fault()", town.fault(), 0);
        Check.feed(town, "code 7 9 ab;none 7 8");
        CHECK.due("a code for what earlier texts told", Check.answer(town::town), "3");
        CHECK.due("code(7, 9)", town.code(7, 9), 5);
        CHECK.due("fault() is NONE again", town.fault(), -1);
    }

    private static void tenTexts() {
        BellTown town = new BellTown();
        for (int n = 1; n <= 10; n++) {
            Check.feed(town, n == 5 ? "want 7" : "");
            CHECK.due("town()", Check.answer(town::town), Integer.toString(n));
        }
        Check.feed(town, "want 1;bell");
        CHECK.illegal("a wrong 11th text", town::town);
        CHECK.due("its fault()", town.fault(), 7);
        Check.feed(town, "want 1");
        CHECK.unsupported("a right 11th text", town::town);
        CHECK.due("that one was read and is right", town.fault(), -1);
        CHECK.due("nothing of it stays", town.count(1), 1);
        CHECK.due("texts", town.count(2), 10);
        CHECK.due("the TAPE is used up", town.end(1), false);
    }

    private static void lawIs(String text, int lines) {
        BellTown town = new BellTown();
        Check.feed(town, text);
        CHECK.due("law() of '" + text + "'", Check.answer(town::law), Integer.toString(lines));
        CHECK.due("fault() of '" + text + "'", town.fault(), -1);
        CHECK.due("LINES of '" + text + "'", town.count(3), lines);
        CHECK.due("the TAPE is used up", town.end(1), false);
    }

    private static void rightLaws() {
        lawIs("", 0);
        lawIs("   ", 0);
        lawIs("first 0", 1);
        lawIs("first999if 1<2", 1);
        lawIs("first 1 if house+coins+urgent+cost+waited>999+0", 1);
        lawIs("first 1 if not not not not not not 1<2", 1);
        lawIs("first 1 if ((((((1<2))))))", 1);
        lawIs("first 1 if not(not(not(1<2)))and not(1>2)or(not 2<1)", 1);
        lawIs("first 1 if ((((((1<2)))))) and ((((((1<2)))))) or not not not not not not 1<2", 1);
        lawIs(" first 1 ; first 2 if waited > 3 ; first 3 ", 3);
        lawIs("first 1;".repeat(11) + "first 1", 12);
    }

    private static void lawFault(String text, int fault) {
        BellTown town = new BellTown();
        Check.feed(town, text);
        CHECK.illegal("law() of '" + text + "'", town::law);
        CHECK.due("fault() of '" + text + "'", town.fault(), fault);
        CHECK.due("no LAW behind '" + text + "'", town.count(3), -1);
        CHECK.due("the TAPE is used up", town.end(1), false);
    }

    private static void wrongLaws() {
        lawFault("firsts 1", 0);
        lawFault("first", 5);
        lawFault("first x", 6);
        lawFault("first 0000", 6);
        lawFault("first 1 if", 10);
        lawFault("first 1 ifs", 8);
        lawFault("first 1 2", 8);
        lawFault("first 1;", 8);
        lawFault("first 1;;", 8);
        lawFault("first 1 if 1", 12);
        lawFault("first 1 if 1+", 13);
        lawFault("first 1 if 1<", 13);
        lawFault("first 1 if 1=2", 12);
        lawFault("first 1 if 1<2<3", 14);
        lawFault("first 1 if 1<2+", 15);
        lawFault("first 1 if 1<2)", 14);
        lawFault("first 1 if (1<2", 15);
        lawFault("first 1 if (1+2)<3", 15);
        lawFault("first 1 if (1<2)<3", 16);
        lawFault("first 1 if ()", 12);
        lawFault("first 1 if 1<2 and", 18);
        lawFault("first 1 if 1<2 or or 1<2", 18);
        lawFault("first 1 if 1<2 if 1<2", 15);
        lawFault("first 1 if notcost<1", 11);
        lawFault("first 1 if want<1", 11);
        lawFault("first 1 if 1000<1", 11);
        lawFault("first 1 if 1<cost cost", 18);
        lawFault("first 1 if not", 14);
        lawFault("first 1 if not not not not not not not 1<2", 35);
        lawFault("first 1 if (((((((1<2)))))))", 17);
        lawFault("first 1 if (not(not(not(1<2))))", 23);
        lawFault("first 1 if ((((((not 1<2))))))", 17);
        lawFault("first 1;".repeat(12) + " first 1", 97);
        lawFault("first 1;".repeat(12), 96);
    }

    private static void nothingStays() {
        BellTown town = Check.townOf("house 1 2 3 4;want 5;code 0 0 ab;wind 1 2");
        Check.feed(town, "first 5 if house < 3;first 6");
        town.law();
        Check.feed(town, "house 1 1 1 1;want 9;code 0 0 b;wind 9 9;bell");
        CHECK.illegal("a wrong text behind a right one", town::town);
        Check.feed(town, "first 1;bell");
        CHECK.illegal("a wrong law behind a right one", town::law);
        int[] due = {1, 1, 1, 2, 0, 1, 4, 0, 1, 2, 3};
        for (int what = 0; what < due.length; what++) {
            CHECK.due("count(" + what + ") is as it was", town.count(what), due[what]);
        }
        CHECK.due("code(0, 0) is as it was", town.code(0, 0), 5);
        Check.feed(town, "first 7");
        CHECK.due("a law in place of the one before", Check.answer(town::law), "1");
    }
}
