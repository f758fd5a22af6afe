import java.util.Map;

/** For every call of the face: what it changes, told by hand, and that all else stays as it was. */
public final class StaysTest {
    private static final Check CHECK = new Check("StaysTest");
    private static final Seen SEEN = new Seen(CHECK);

    public static void main(String[] args) {
        askedOfWhatThereIs();
        askedOfRingings();
        askedOfCodes();
        askedOfAllTogether();
        nothingHappens();
        nothingHappensWithout();
        fed();
        ended();
        toldATown();
        toldATownOfNothing();
        toldALaw();
        rung();
        hushed();
        undone();
        bought();
        traded();
        tradedForNone();
        learnt();
        imageKept();
        goneBack();
        CHECK.finish();
    }

    /** What the call answers is looked at elsewhere: here it is what it answers in a town just like that. */
    private static void asked(String name, Seen.Call call) {
        long due = call.of(Seen.rich(3));
        long inPlain = call.of(Seen.plain(3));
        if (due == inPlain) {
            SEEN.nothingChanges(name, 3, call, "" + due);
        } else {
            SEEN.nothingChanges(name, 3, t -> call.of(t) * 0, "0");
        }
    }

    private static void askedOfWhatThereIs() {
        asked("fault()", t -> t.fault());
        for (int what = 0; what <= 5; what++) {
            int one = what;
            asked("house(1, " + what + ")", t -> t.house(1, one));
        }
        asked("want(1)", t -> t.want(1));
        asked("code(0, 0)", t -> t.code(0, 0));
        asked("code(2, 1)", t -> t.code(2, 1));
        asked("cost(5)", t -> t.cost(5));
        for (int what = 0; what <= 3; what++) {
            int one = what;
            asked("way(2, 0, " + what + ")", t -> t.way(2, 0, one));
        }
        for (int what = -1; what <= 11; what++) {
            int one = what;
            asked("count(" + what + ")", t -> t.count(one));
        }
    }

    private static void askedOfRingings() {
        asked("heard(1, 2)", t -> t.heard(1, 2));
        asked("taken(0, 2)", t -> t.taken(0, 2));
        asked("taken(0, 1)", t -> t.taken(0, 1));
        asked("sure(2, false)", t -> t.sure(2, false));
        asked("sure(2, true)", t -> t.sure(2, true));
        asked("could(0, 2)", t -> t.could(0, 2));
        asked("could(0, 1)", t -> t.could(0, 1));
        asked("understood(0)", t -> t.understood(0));
        asked("fooled(0, 2, 8)", t -> t.fooled(0, 2, 8));
        asked("quiet(0, 0, 0, 60)", t -> t.quiet(0, 0, 0, 60));
        asked("quiet(0, 1, 999, 999)", t -> t.quiet(0, 1, 999, 999));
        asked("quiet(2, 0, 0, 60)", t -> t.quiet(2, 0, 0, 60));
        for (int n = 1; n <= 12; n++) {
            int many = n;
            asked("evening(77, " + n + ", 0)", t -> t.evening(77, many, many % 4));
        }
    }

    private static void askedOfCodes() {
        asked("begins(0)", t -> t.begins(0));
        asked("safe(0, 1)", t -> t.safe(0, 1) ? 1 : 0);
        asked("safe(2, 0)", t -> t.safe(2, 0) ? 1 : 0);
        asked("least(3)", t -> t.least(3));
        asked("least(0)", t -> t.least(0));
        asked("room(2, 0, false)", t -> t.room(2, 0, false));
        asked("room(2, 1, true)", t -> t.room(2, 1, true));
        asked("worth(1, 1, 2)", t -> t.worth(1, 1, 2));
        asked("worth(0, 0, 3)", t -> t.worth(0, 0, 3));
        asked("sale(1, 2, false)", t -> t.sale(1, 2, false));
        asked("sale(1, 2, true)", t -> t.sale(1, 2, true));
    }

    private static void askedOfAllTogether() {
        asked("colours(NONE)", t -> t.colours(-1));
        asked("colours(2)", t -> t.colours(2));
        asked("relay(0, 0, 2)", t -> t.relay(0, 0, 2));
        asked("relay(0, 0, 1)", t -> t.relay(0, 0, 1));
        asked("ringers(0, 0)", t -> t.ringers(0, 0));
        asked("six(0, 0)", t -> t.six(0, 0));
        asked("six(1, 1)", t -> t.six(1, 1));
        asked("lot(0, 5, 0)", t -> t.lot(0, 5, 0));
        asked("lot(0, 6, 1)", t -> t.lot(0, 6, 1));
    }

    // Promises 3 and 20: ".. and nothing happens"

    private static void nothingHappens() {
        asked("end(-1)", t -> t.end(-1) ? 1 : 0);
        asked("end of one more", t -> t.end(Seen.ON_TAPE.length() + 1) ? 1 : 0);
        asked("end of what there is", t -> t.end(Seen.ON_TAPE.length()) ? 1 : 0);
        SEEN.nothingChanges("buy without COINS enough", 3, t -> t.buy(2, 0, 2), "-1");
        SEEN.nothingChanges("buy in place of a WORD that is dearer", 3, t -> t.buy(2, 1, 511), "-1");
    }

    // Promises 2, 13, 14 and 38: "NONE, and none come", "NONE without", "false, and nothing happens"

    private static void nothingHappensWithout() {
        BellTown full = Seen.rich(3);
        for (int bytes = 35; bytes <= 395; bytes += 20) {
            CHECK.due("feed up to " + bytes, full.feed(0, 0, 0, 0, 0), bytes);
        }
        Map<String, String> before = Seen.of(full);
        CHECK.due("feed beyond 400", full.feed(1, 2, 3, 4, 5), -1);
        SEEN.same("what there is behind a feed beyond 400", Seen.of(full), before);
        CHECK.due("end(396)", full.end(396), false);
        CHECK.due("end(15)", full.end(15), true);
        SEEN.tapeIsUntouched("a feed beyond 400", full);
        SEEN.imageIsUntouched("a feed beyond 400", full, true);
        SEEN.nothingChanges("undo() without", 0, t -> t.count(4) == 0 ? t.undo() : -1, "-1");
        SEEN.nothingChanges("hush() without", 0, t -> t.count(4) == 0 ? t.hush() : 0, "0");
        BellTown plain = Seen.plain(3);
        before = Seen.of(plain);
        CHECK.due("back() without THE IMAGE", plain.back(), false);
        SEEN.same("what there is behind it", Seen.of(plain), before);
        SEEN.tapeIsUntouched("back() without THE IMAGE", plain);
    }

    // Promises 2 and 3: bytes come behind the TAPE, or go, and nothing else does

    private static void fed() {
        for (boolean isRich : new boolean[] {true, false}) {
            BellTown town = isRich ? Seen.rich(3) : Seen.plain(3);
            Map<String, String> before = Seen.of(town);
            CHECK.due("feed", town.feed(0x20202020, 0x20202020, 0x20202020, 0x20202020, 0x20203b20), 35);
            SEEN.same("what there is behind feed", Seen.of(town), before);
            CHECK.due("end(36) behind feed", town.end(36), false);
            CHECK.due("the 20 that came are behind", Check.answer(town::town), "throws.IllegalArgumentException");
            CHECK.due("the first wrong byte", town.fault(), 35);
            SEEN.imageIsUntouched("feed", town, isRich);
        }
    }

    private static void ended() {
        for (boolean isRich : new boolean[] {true, false}) {
            BellTown town = isRich ? Seen.rich(3) : Seen.plain(3);
            Map<String, String> before = Seen.of(town);
            CHECK.due("end(6)", town.end(6), true);
            SEEN.same("what there is behind end", Seen.of(town), before);
            CHECK.due("end(7) behind end(6)", town.end(7), false);
            CHECK.due("'want 9'", Check.answer(town::town), isRich ? "3" : "2");
            CHECK.due("its want", town.want(2), 9);
            CHECK.due("no WIND of it", town.count(8), isRich ? -1 : 0);
            SEEN.imageIsUntouched("end", town, isRich);
        }
    }

    private static BellTown with(boolean isRich, String text) {
        BellTown town = isRich ? Seen.rich(3) : Seen.plain(3);
        town.end(0);
        Check.feed(town, text);
        return town;
    }

    /** Looks at all there is, then at the TAPE, which is used up, and at THE IMAGE. */
    private static void texted(String name, BellTown town, boolean isRich, Map<String, String> due) {
        SEEN.same("what there is behind " + name, Seen.of(town), due);
        SEEN.tapeIsEmpty(name, town);
        SEEN.imageIsUntouched(name, town, isRich);
    }

    // Promise 4: the LAW, the RINGINGS, COINS and WORDS that there are stay

    private static void toldATown() {
        for (boolean isRich : new boolean[] {true, false}) {
            BellTown town = with(isRich, "want 4;code 2 2 ab;code 2 0 aa;none 0 0");
            Map<String, String> before = Seen.of(town);
            CHECK.due("town()", town.town(), isRich ? 3 : 2);
            String own = isRich ? "3" : "2";
            String minutes = before.get("count(10)");
            texted("town()", town, isRich, Seen.changed(before, "count(1)", "3", "count(2)", own,
                "count(5)", isRich ? "5" : "4", "count(10)", "" + (Integer.parseInt(minutes) + 2), "want(2)", "4",
                "code(0, 0)", "-1", "code(0, 2)", "-1", "code(1, 2)", "-1", "code(2, 2)", "5", "code(2, 0)", "4",
                "house(0, 5)", "1", "house(2, 5)", "2", "six(0, 0)", "2", "six(0, 1)", "4", "six(2, 0)", "0",
                "six(2, 1)", "3", "sure(0, false)", "0", "sure(2, false)", "0", "quiet(0, 0, 0, 60)", "-1", "fault()", "-1"));
        }
    }

    private static void toldATownOfNothing() {
        for (boolean isRich : new boolean[] {true, false}) {
            BellTown town = with(isRich, "  ");
            Map<String, String> before = Seen.of(town);
            CHECK.due("town() of blanks", town.town(), isRich ? 3 : 2);
            texted("town() of blanks", town, isRich, Seen.changed(before, "count(2)", isRich ? "3" : "2", "fault()", "-1"));
        }
    }

    // Promise 5: it is in place of the one before, and of nothing else

    private static void toldALaw() {
        for (boolean isRich : new boolean[] {true, false}) {
            BellTown town = with(isRich, "first 1 if house > 0");
            Map<String, String> before = Seen.of(town);
            CHECK.due("law()", town.law(), 1);
            texted("law()", town, isRich, Seen.changed(before, "count(3)", "1", "six(0, 0)", "2", "six(1, 0)", isRich ? "2" : "0",
                "fault()", "-1"));
        }
    }

    // Promise 12: house 2 hears it in minute 900 as ab, for which 0 has want 0

    private static void rung() {
        for (boolean isRich : new boolean[] {true, false}) {
            BellTown town = isRich ? Seen.rich(3) : Seen.plain(3);
            Map<String, String> before = Seen.of(town);
            CHECK.due("ring(900, 0, 0)", town.ring(900, 0, 0), 3);
            SEEN.same("what there is behind ring", Seen.of(town), Seen.changed(before, "count(4)", "4", "heard(3, 0)", "0",
                "heard(3, 1)", "0", "heard(3, 2)", "5", "sure(3, false)", "1", "fault()", isRich ? "7" : "-1"));
            SEEN.tapeIsUntouched("ring", town);
            SEEN.imageIsUntouched("ring", town, isRich);
        }
    }

    // Promise 13

    private static void hushed() {
        for (boolean isRich : new boolean[] {true, false}) {
            BellTown town = isRich ? Seen.rich(3) : Seen.plain(3);
            Map<String, String> due = Seen.changed(Seen.of(town), "count(4)", "0", "quiet(0, 0, 0, 60)", "0");
            due.keySet().removeIf(what -> what.startsWith("heard") || what.startsWith("sure"));
            CHECK.due("hush()", town.hush(), 3);
            SEEN.same("what there is behind hush", Seen.of(town), due);
            SEEN.tapeIsUntouched("hush", town);
            SEEN.imageIsUntouched("hush", town, isRich);
        }
    }

    // Promise 14: the latest is gone, from minute 5 on

    private static void undone() {
        for (boolean isRich : new boolean[] {true, false}) {
            BellTown town = isRich ? Seen.rich(3) : Seen.plain(3);
            Map<String, String> due = Seen.changed(Seen.of(town), "count(4)", "2", "quiet(0, 0, 0, 60)", "5");
            due.keySet().removeIf(what -> what.startsWith("heard(2") || what.startsWith("sure(2"));
            CHECK.due("undo()", town.undo(), 2);
            SEEN.same("what there is behind undo", Seen.of(town), due);
            SEEN.tapeIsUntouched("undo", town);
            SEEN.imageIsUntouched("undo", town, isRich);
        }
    }

    // Promise 20: aab has COST 4, so its PRICE is 11; the RINGINGS have the WORD of then

    private static void bought() {
        for (boolean isRich : new boolean[] {true, false}) {
            BellTown town = isRich ? Seen.rich(3) : Seen.plain(3);
            Map<String, String> before = Seen.of(town);
            int minutes = Integer.parseInt(before.get("count(10)"));
            CHECK.due("buy(0, 0, 9)", town.buy(0, 0, 9), 11);
            SEEN.same("what there is behind buy", Seen.of(town), Seen.changed(before,
                "house(0, 3)", isRich ? "75" : "89", "count(6)", isRich ? "1053" : "1088", "count(7)", isRich ? "46" : "11",
                "code(0, 0)", "9", "count(10)", "" + (minutes + 1), "six(0, 0)", "4", "six(0, 1)", "6",
                "sure(0, false)", "0", "sure(2, false)", "0"));
            SEEN.tapeIsUntouched("buy", town);
            SEEN.imageIsUntouched("buy", town, isRich);
        }
    }

    // Promise 21: 0 has b for want 0 then, and 1 has ab; what came of the RINGINGS is told otherwise

    private static void traded() {
        for (boolean isRich : new boolean[] {true, false}) {
            BellTown town = isRich ? Seen.rich(3) : Seen.plain(3);
            Map<String, String> before = Seen.of(town);
            town.trade(0, 1, 0);
            SEEN.same("what there is behind trade", Seen.of(town), Seen.changed(before, "code(0, 0)", "3", "code(1, 0)", "5",
                "six(0, 0)", "2", "sure(0, false)", "0", "sure(1, false)", "0", "sure(2, false)", "0"));
            SEEN.tapeIsUntouched("trade", town);
            SEEN.imageIsUntouched("trade", town, isRich);
        }
    }

    private static void tradedForNone() {
        for (boolean isRich : new boolean[] {true, false}) {
            BellTown town = isRich ? Seen.rich(3) : Seen.plain(3);
            Map<String, String> before = Seen.of(town);
            town.trade(1, 2, 0);
            SEEN.same("what there is behind trade for none", Seen.of(town), Seen.changed(before, "code(1, 0)", "-1",
                "code(2, 0)", "3", "house(1, 5)", isRich ? "1" : "0", "house(2, 5)", "1", "sure(1, false)", "0"));
            SEEN.tapeIsUntouched("trade for none", town);
            SEEN.imageIsUntouched("trade for none", town, isRich);
        }
    }

    // Promise 29: the TAPE is used up, and fault() is of texts

    private static void learnt() {
        for (boolean isRich : new boolean[] {true, false}) {
            for (int kind = -1; kind <= 1; kind++) {
                BellTown town = with(isRich, "abba ABA");
                Map<String, String> before = Seen.of(town);
                CHECK.due("learn(" + kind + ")", town.learn(kind), kind < 0 ? 1 : kind == 0 ? 2 : 7);
                texted("learn(" + kind + ")", town, isRich, before);
            }
        }
    }

    // Promise 37: one goes back to what there is now, whatever was kept before

    private static void imageKept() {
        for (boolean isRich : new boolean[] {true, false}) {
            BellTown town = isRich ? Seen.rich(3) : Seen.plain(3);
            Map<String, String> before = Seen.of(town);
            town.image();
            SEEN.same("what there is behind image", Seen.of(town), before);
            SEEN.tapeIsUntouched("image", town);
            town.hush();
            town.buy(1, 0, 8);
            CHECK.due("back() behind image", town.back(), true);
            SEEN.same("THE IMAGE", Seen.of(town), Seen.changed(before, "fault()", "-1"));
        }
    }

    // Promise 38: but for the TAPE, fault() and THE IMAGE itself

    private static void goneBack() {
        BellTown town = Seen.rich(3);
        CHECK.due("back()", town.back(), true);
        Map<String, String> due = Seen.changed(Seen.of(Seen.imaged()), "fault()", "" + Seen.FAULT);
        SEEN.same("what there is behind back", Seen.of(town), due);
        SEEN.tapeIsUntouched("back", town);
        SEEN.imageIsUntouched("back", town, true);
    }
}
