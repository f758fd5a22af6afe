import java.nio.charset.StandardCharsets;
import java.util.Random;

/** Long runs of drawn calls, each answered by BellTown and by PlainTown alike; every seed is fixed. */
public final class RandomRunsTest {
    /** An object is good for 512 calls, of which telling a text may take forty. */
    private static final int LAST_BEGIN = 512 - 40;

    private final Check check;
    private final Random random;
    private final int run;
    private final BellTown town = new BellTown();
    private final PlainTown plain = new PlainTown();
    private int calls;
    private int houses;
    private int wants;

    private RandomRunsTest(Check check, int run) {
        this.check = check;
        this.run = run;
        this.random = new Random(run);
    }

    public static void main(String[] args) {
        int runs = args.length > 0 ? Integer.parseInt(args[0]) : 900;
        int from = args.length > 1 ? Integer.parseInt(args[1]) : 0;
        Check check = new Check("RandomRunsTest");
        for (int run = from; run < from + runs; run++) {
            new RandomRunsTest(check, run).go();
        }
        check.finish();
    }

    private void go() {
        int texts = random.nextInt(7);
        for (int i = 0; i < texts; i++) {
            tell(townText(), 0);
        }
        while (calls <= LAST_BEGIN) {
            if (random.nextInt(60) == 0) {
                tell(townText(), 0);
            } else if (random.nextInt(30) == 0) {
                tell(lawText(), 1);
            } else if (random.nextInt(25) == 0) {
                tell(learnText(), 2);
            } else {
                ask();
            }
        }
    }

    private void same(String call, Check.Call got, Check.Call due) {
        calls++;
        check.due("run " + run + ": " + call, Check.answer(got), Check.answer(due));
    }

    private int n(int below) {
        return random.nextInt(below);
    }

    private int index(int size) {
        if (n(25) == 0 || size == 0) {
            return n(4) == 0 ? random.nextInt() : n(size + 3) - 1;
        }
        return n(size);
    }

    private int word() {
        if (n(20) == 0) {
            return n(3) == 0 ? random.nextInt() : n(2) == 0 ? n(3) - 1 : 509 + n(5);
        }
        return 2 + n(2 << n(8) + 1);
    }

    private int minute() {
        return n(20) == 0 ? n(1100) - 50 : n(15) == 0 ? 980 + n(20) : n(25);
    }

    private int seed() {
        return n(2) == 0 ? random.nextInt() : n(50) - 10;
    }

    private void tell(String text, int kind) {
        byte[] bytes = text.getBytes(StandardCharsets.ISO_8859_1);
        if (n(12) > 0) {
            same("end(0)", () -> town.end(0) ? 1 : 0, () -> plain.end(0) ? 1 : 0);
        }
        for (int from = 0; from < bytes.length; from += 20) {
            int[] f = Check.numbersOf(bytes, from);
            same("feed", () -> town.feed(f[0], f[1], f[2], f[3], f[4]), () -> plain.feed(f[0], f[1], f[2], f[3], f[4]));
        }
        int length = bytes.length;
        int cut = n(40) == 0 ? length - n(3) + 1 : length;
        same("end(" + cut + ")", () -> town.end(cut) ? 1 : 0, () -> plain.end(cut) ? 1 : 0);
        if (kind == 0) {
            same("town() of '" + text + "'", () -> town.town(), () -> plain.town());
            houses = plain.count(0);
            wants = plain.count(1);
        } else if (kind == 1) {
            same("law() of '" + text + "'", () -> town.law(), () -> plain.law());
        } else {
            int k = n(5) - 1;
            same("learn(" + k + ") of '" + text + "'", () -> town.learn(k), () -> plain.learn(k));
        }
        same("fault() of '" + text + "'", () -> town.fault(), () -> plain.fault());
        for (int what = -2; what < 12; what++) {
            int w = what;
            same("count(" + w + ")", () -> town.count(w), () -> plain.count(w));
        }
    }

    private String blank() {
        return n(30) == 0 ? "  " : " ";
    }

    private String gap() {
        return n(4) == 0 ? blank() : "";
    }

    private String spoiled(String text) {
        if (n(7) > 0 || text.isEmpty()) {
            return text.length() > 400 ? text.substring(0, 400) : text;
        }
        StringBuilder s = new StringBuilder(text);
        String signs = " ;()<>+0123456789abcdefghijklmnopqrstuvwxyzAZ_" + (char) 0 + (char) 200 + (char) 9;
        int at = n(s.length());
        switch (n(4)) {
            case 0:
                s.deleteCharAt(at);
                break;
            case 1:
                s.insert(at, signs.charAt(n(signs.length())));
                break;
            case 2:
                s.setCharAt(at, signs.charAt(n(signs.length())));
                break;
            default:
                s.setLength(at);
                break;
        }
        return s.length() > 400 ? s.substring(0, 400) : s.toString();
    }

    private String townText() {
        int h = houses;
        int w = wants;
        StringBuilder s = new StringBuilder(gap());
        int lines = n(20) == 0 ? 13 + n(3) : n(12);
        for (int line = 0; line < lines; line++) {
            if (line > 0) {
                s.append(gap()).append(';').append(gap());
            }
            int kind = n(20);
            if (kind < 4 && (h < 8 || n(20) == 0) || h == 0 && n(8) > 0) {
                s.append("house").append(blank()).append(n(n(15) == 0 ? 18 : 12)).append(' ').append(n(8)).append(blank())
                    .append(n(40) == 0 ? n(35) : 1 + n(n(3) == 0 ? 30 : 12)).append(' ').append(n(4) == 0 ? n(1000) : n(90));
                s.append(n(8) == 0 ? " deaf" : "");
                h++;
            } else if (kind < 7 && (w < 10 || n(20) == 0) || w == 0 && n(8) > 0) {
                s.append("want").append(blank()).append(n(40) == 0 ? n(110) : 1 + n(n(2) == 0 ? 99 : 9));
                w++;
            } else if (kind < 17) {
                s.append("code").append(blank()).append(n(Math.max(1, h) + n(20) / 19)).append(' ')
                    .append(n(Math.max(1, w) + n(20) / 19)).append(blank()).append(strokes());
            } else if (kind < 18) {
                s.append("none ").append(n(Math.max(1, h))).append(' ').append(n(Math.max(1, w)));
            } else {
                s.append(kind == 18 ? "wind " : "gale ").append(n(n(2) == 0 ? 10 : 4)).append(blank()).append(n(4));
            }
        }
        return spoiled(s.append(gap()).toString());
    }

    private String strokes() {
        StringBuilder s = new StringBuilder();
        int many = n(30) == 0 ? 7 + n(3) : 1 + n(n(3) == 0 ? 8 : 4);
        for (int i = 0; i < many; i++) {
            s.append(n(2) == 0 ? 'a' : 'b');
        }
        return s.toString();
    }

    private String lawText() {
        StringBuilder s = new StringBuilder(gap());
        int lines = n(20) == 0 ? 11 + n(3) : n(6);
        for (int line = 0; line < lines; line++) {
            s.append(line > 0 ? ";" : "").append(gap()).append("first ").append(n(30) == 0 ? n(1200) : n(50)).append(gap());
            if (n(5) > 0) {
                s.append("if ");
                condition(s, n(8) == 0 ? 8 : 3);
            }
        }
        return spoiled(s.append(gap()).toString());
    }

    private void condition(StringBuilder s, int deep) {
        int many = n(6) == 0 ? 3 : n(4) == 0 ? 2 : 1;
        for (int i = 0; i < many; i++) {
            s.append(i == 0 ? "" : n(2) == 0 ? " and " : " or ");
            int kind = n(deep > 3 ? 3 : 8);
            if (kind == 0 && deep > 0) {
                s.append("not ");
                atomOf(s, deep - 1);
            } else if (kind == 1 && deep > 0) {
                s.append("(").append(gap());
                condition(s, deep - 1);
                s.append(gap()).append(")");
            } else {
                sum(s);
                s.append(gap()).append(n(2) == 0 ? "<" : ">").append(gap());
                sum(s);
            }
        }
    }

    private void atomOf(StringBuilder s, int deep) {
        if (n(2) == 0 && deep > 0) {
            s.append("not ");
            atomOf(s, deep - 1);
        } else {
            s.append("(");
            condition(s, Math.max(0, deep - 1));
            s.append(")");
        }
    }

    private void sum(StringBuilder s) {
        String[] facts = {"house", "coins", "urgent", "cost", "waited"};
        int many = n(3) == 0 ? 2 : 1;
        for (int i = 0; i < many; i++) {
            s.append(i == 0 ? "" : gap() + "+" + gap());
            s.append(n(3) == 0 ? Integer.toString(n(n(2) == 0 ? 9 : 60)) : facts[n(5)]);
        }
    }

    private String learnText() {
        String[] words = new String[3];
        for (int i = 0; i < 3; i++) {
            words[i] = strokes();
            words[i] = words[i].substring(0, Math.min(words[i].length(), 3));
        }
        StringBuilder row = new StringBuilder();
        StringBuilder letters = new StringBuilder();
        int many = n(20) == 0 ? 7 : 1 + n(6);
        int kinds = n(20) == 0 ? 4 : 1 + n(3);
        for (int i = 0; i < many; i++) {
            int kind = n(kinds);
            row.append(words[kind % 3]);
            letters.append("QAZB".charAt(kind));
        }
        String strokes = row.substring(0, Math.min(row.length(), n(20) == 0 ? 22 : 20));
        return spoiled(strokes + " " + letters);
    }

    private void ask() {
        int a = index(houses);
        int b = index(houses);
        int w = index(wants);
        int r = index(plain.count(4));
        int word = word();
        int minute = minute();
        int seed = seed();
        boolean flag = random.nextBoolean();
        int what;
        switch (n(38)) {
            case 0:
                what = n(8) - 1;
                same("house(" + a + ", " + what + ")", () -> town.house(a, what), () -> plain.house(a, what));
                break;
            case 1:
                same("want(" + w + ")", () -> town.want(w), () -> plain.want(w));
                break;
            case 2:
                same("code(" + a + ", " + w + ")", () -> town.code(a, w), () -> plain.code(a, w));
                break;
            case 3:
                same("cost(" + word + ")", () -> town.cost(word), () -> plain.cost(word));
                break;
            case 4:
            case 5:
                what = n(20) == 0 ? n(9) - 4 : n(4);
                same("way(" + a + ", " + b + ", " + what + ")", () -> town.way(a, b, what), () -> plain.way(a, b, what));
                break;
            case 6:
            case 7:
            case 8:
            case 9:
                same("ring(" + minute + ", " + a + ", " + w + ")",
                    () -> town.ring(minute, a, w), () -> plain.ring(minute, a, w));
                break;
            case 10:
                if (n(4) == 0) {
                    same("hush()", () -> town.hush(), () -> plain.hush());
                } else {
                    same("undo()", () -> town.undo(), () -> plain.undo());
                }
                break;
            case 11:
            case 12:
            case 13:
                same("heard(" + r + ", " + a + ")", () -> town.heard(r, a), () -> plain.heard(r, a));
                break;
            case 14:
                same("taken(" + r + ", " + a + ")", () -> town.taken(r, a), () -> plain.taken(r, a));
                break;
            case 15:
                same("sure(" + r + ", " + flag + ")", () -> town.sure(r, flag), () -> plain.sure(r, flag));
                break;
            case 16:
                same("begins(" + a + ")", () -> town.begins(a), () -> plain.begins(a));
                break;
            case 17:
                what = n(11) - 1;
                same("safe(" + a + ", " + what + ")", () -> town.safe(a, what) ? 1 : 0, () -> plain.safe(a, what) ? 1 : 0);
                break;
            case 18:
                same("buy(" + a + ", " + w + ", " + word + ")", () -> town.buy(a, w, word), () -> plain.buy(a, w, word));
                break;
            case 19:
                same("trade(" + a + ", " + b + ", " + w + ")", () -> {
                    town.trade(a, b, w);
                    return 0;
                }, () -> {
                    plain.trade(a, b, w);
                    return 0;
                });
                break;
            default:
                askMore(a, b, w, r, word, seed, flag);
                break;
        }
    }

    private void askMore(int a, int b, int w, int r, int word, int seed, boolean flag) {
        int what = n(15) == 0 ? n(7) - 3 : n(2);
        switch (n(19)) {
            case 0:
                int set = n(3) == 0 ? random.nextInt() : random.nextInt() & random.nextInt();
                same("least(" + set + ")", () -> town.least(set), () -> plain.least(set));
                break;
            case 1:
                int painted = n(3) == 0 ? -1 : a;
                same("colours(" + painted + ")", () -> town.colours(painted), () -> plain.colours(painted));
                break;
            case 2:
            case 3:
                same("relay(" + a + ", " + w + ", " + b + ")", () -> town.relay(a, w, b), () -> plain.relay(a, w, b));
                break;
            case 4:
                if (n(3) == 0) {
                    same("ringers(" + a + ", " + w + ")", () -> town.ringers(a, w), () -> plain.ringers(a, w));
                }
                break;
            case 5:
            case 6:
                same("six(" + w + ", " + what + ")", () -> town.six(w, what), () -> plain.six(w, what));
                break;
            case 7:
                same("lot(" + w + ", " + seed + ", " + what + ")", () -> town.lot(w, seed, what), () -> plain.lot(w, seed, what));
                break;
            case 8:
            case 9:
                if (n(4) == 0) {
                    same("room(" + a + ", " + w + ", " + flag + ")", () -> town.room(a, w, flag), () -> plain.room(a, w, flag));
                }
                break;
            case 10:
                int many = n(10) == 0 ? n(12) - 1 : 1 + n(5);
                same("fooled(" + a + ", " + b + ", " + many + ")", () -> town.fooled(a, b, many), () -> plain.fooled(a, b, many));
                break;
            case 11:
                same("could(" + r + ", " + a + ")", () -> town.could(r, a), () -> plain.could(r, a));
                break;
            case 12:
                same("understood(" + a + ")", () -> town.understood(a), () -> plain.understood(a));
                break;
            case 13:
                if (n(3) == 0) {
                    int from = minute();
                    int to = n(10) == 0 ? from + 57 + n(5) : n(10) == 0 ? minute() : from + n(20);
                    same("quiet(" + a + ", " + w + ", " + from + ", " + to + ")",
                        () -> town.quiet(a, w, from, to), () -> plain.quiet(a, w, from, to));
                }
                break;
            case 14:
                same("worth(" + a + ", " + w + ", " + word + ")", () -> town.worth(a, w, word), () -> plain.worth(a, w, word));
                break;
            case 15:
                same("sale(" + w + ", " + word + ", " + flag + ")", () -> town.sale(w, word, flag), () -> plain.sale(w, word, flag));
                break;
            case 16:
                int drawn = n(15) == 0 ? n(16) - 1 : 1 + n(12);
                int about = n(20) == 0 ? n(8) - 2 : n(4);
                same("evening(" + seed + ", " + drawn + ", " + about + ")",
                    () -> town.evening(seed, drawn, about), () -> plain.evening(seed, drawn, about));
                break;
            case 17:
                if (n(3) == 0) {
                    calls++;
                    town.image();
                    plain.image();
                }
                break;
            default:
                if (n(4) == 0) {
                    same("back()", () -> town.back() ? 1 : 0, () -> plain.back() ? 1 : 0);
                    houses = plain.count(0);
                    wants = plain.count(1);
                }
                break;
        }
    }
}
