import java.util.LinkedHashMap;
import java.util.Map;
import java.util.TreeSet;

/** All that can be asked of a town, so that a test can say what a call changes and that it leaves the rest. */
final class Seen {
    interface Call {
        long of(BellTown town);
    }

    static final String ON_TAPE = "want 9;wind 3 2";
    /** The first wrong byte of the latest text in a rich town. */
    static final int FAULT = 7;

    private static final String HOUSES = "house 1 2 30 100;house 3 4 29 999 deaf;house 5 6 28 0;want 7;want 8;code 0 0 ab;"
        + "code 0 1 bb;code 1 0 b";

    private final Check check;

    Seen(Check check) {
        this.check = check;
    }

    /** House 2 hears all of them, each right behind the one before: a minute sooner or later, and two would mix. */
    static void ring(BellTown town, int from, int to) {
        for (int n = from; n < to; n++) {
            town.ring(n / 2 * 5 + n % 2 * 3, n % 2, 0);
        }
    }

    /** No LAW, no THE IMAGE, no wrong byte. */
    static BellTown plain(int ringings) {
        BellTown town = Check.townOf(HOUSES);
        ring(town, 0, ringings);
        Check.feed(town, ON_TAPE);
        return town;
    }

    /** What a rich town's THE IMAGE has, with one RINGING; its two LINES weigh the same, so that one more in a LINE is seen. */
    static BellTown imaged() {
        BellTown town = Check.townOf(HOUSES);
        Check.feed(town, "first 2 if house > 0;first 2 if house < 1");
        town.law();
        ring(town, 0, 1);
        town.buy(1, 1, 4);
        return town;
    }

    /** All is otherwise than in THE IMAGE, and there is a wrong byte. */
    static BellTown rich(int ringings) {
        BellTown town = imaged();
        town.image();
        Check.feed(town, "gale 1 0");
        town.town();
        Check.feed(town, "first 3 if house > 0;first 3 if house < 1;first 1 if waited > 0 and cost > 3");
        town.law();
        ring(town, 1, ringings);
        town.buy(0, 1, 6);
        Check.feed(town, "want 5;bell");
        Check.answer(town::town);
        Check.feed(town, ON_TAPE);
        return town;
    }

    /** All but the TAPE and THE IMAGE, which cannot be seen without using them. */
    static Map<String, String> of(BellTown town) {
        Map<String, String> all = new LinkedHashMap<>();
        for (int what = 0; what <= 10; what++) {
            all.put("count(" + what + ")", "" + town.count(what));
        }
        int houses = Integer.parseInt(all.get("count(0)"));
        int wants = Integer.parseInt(all.get("count(1)"));
        int ringings = Integer.parseInt(all.get("count(4)"));
        for (int house = 0; house < houses; house++) {
            for (int what = 0; what <= 5; what++) {
                all.put("house(" + house + ", " + what + ")", "" + town.house(house, what));
            }
            for (int want = 0; want < wants; want++) {
                all.put("code(" + house + ", " + want + ")", "" + town.code(house, want));
            }
            for (int other = 0; other < houses; other++) {
                all.put("way(" + house + ", " + other + ", 2)", "" + town.way(house, other, 2));
            }
            for (int ringing = 0; ringing < ringings; ringing++) {
                all.put("heard(" + ringing + ", " + house + ")", "" + town.heard(ringing, house));
            }
        }
        for (int want = 0; want < wants; want++) {
            all.put("want(" + want + ")", "" + town.want(want));
            all.put("six(" + want + ", 0)", "" + town.six(want, 0));
            all.put("six(" + want + ", 1)", "" + town.six(want, 1));
        }
        for (int ringing = 0; ringing < ringings; ringing++) {
            all.put("sure(" + ringing + ", false)", "" + town.sure(ringing, false));
        }
        all.put("quiet(0, 0, 0, 60)", Check.answer(() -> town.quiet(0, 0, 0, 60)));
        all.put("fault()", "" + town.fault());
        return all;
    }

    /** Tells what differs, in the form "what: got, due". */
    void same(String name, Map<String, String> got, Map<String, String> due) {
        StringBuilder differing = new StringBuilder();
        TreeSet<String> all = new TreeSet<>(got.keySet());
        all.addAll(due.keySet());
        for (String one : all) {
            String was = got.getOrDefault(one, "not there");
            String should = due.getOrDefault(one, "not there");
            if (!was.equals(should)) {
                differing.append(one).append(": ").append(was).append(", due ").append(should).append("; ");
            }
        }
        check.due(name, differing.toString(), "");
    }

    void is(String name, BellTown town, Call call, String due) {
        check.due(name, Check.answer(() -> call.of(town)), due);
    }

    /** Changes as in "what", "answer", ..; an answer of null says that it is not there any more. */
    static Map<String, String> changed(Map<String, String> before, String... changes) {
        Map<String, String> all = new LinkedHashMap<>(before);
        for (int at = 0; at + 1 < changes.length; at += 2) {
            if (changes[at + 1] == null) {
                all.remove(changes[at]);
            } else {
                all.put(changes[at], changes[at + 1]);
            }
        }
        return all;
    }

    /** Uses the TAPE up. */
    void tapeIsUntouched(String name, BellTown town) {
        int texts = town.count(2);
        int wants = town.count(1);
        check.due("one more on the TAPE behind " + name, town.end(ON_TAPE.length() + 1), false);
        check.due("the TAPE behind " + name, town.end(ON_TAPE.length()), true);
        check.due("the text on the TAPE behind " + name, Check.answer(town::town), "" + (texts + 1));
        check.due("its want behind " + name, Check.answer(() -> town.want(wants)), "9");
        check.due("its WIND behind " + name, town.count(8) * 10 + town.count(9), 32);
    }

    void tapeIsEmpty(String name, BellTown town) {
        check.due("a byte on the TAPE behind " + name, town.end(1), false);
        check.due("feed behind " + name, town.feed(0, 0, 0, 0, 0), 20);
    }

    /** Goes back to THE IMAGE of a rich town; a plain one has none. */
    void imageIsUntouched(String name, BellTown town, boolean rich) {
        check.due("back() behind " + name, town.back(), rich);
        if (rich) {
            Map<String, String> due = of(imaged());
            due.put("fault()", "" + town.fault());
            same("THE IMAGE behind " + name, of(town), due);
        }
    }

    void nothingChanges(String name, int ringings, Call call, String due) {
        for (boolean isRich : new boolean[] {true, false}) {
            String told = name + (isRich ? " in a rich town" : " in a plain town");
            BellTown town = isRich ? rich(ringings) : plain(ringings);
            Map<String, String> before = of(town);
            is(told, town, call, due);
            same("what there is behind " + told, of(town), before);
            tapeIsUntouched(told, town);
            imageIsUntouched(told, town, isRich);
        }
    }
}
