import java.math.BigInteger;
import java.nio.charset.StandardCharsets;

/** What all tests share: comparing, counting, and feeding a text. */
final class Check {
    interface Call {
        long run();
    }

    private final String name;
    private int passed;
    private int failed;

    Check(String name) {
        this.name = name;
    }

    void due(String call, long got, long due) {
        if (got == due) {
            passed++;
        } else {
            failed++;
            System.out.println(name + ": " + call + " answered " + got + ", due is " + due);
        }
    }

    void due(String call, boolean got, boolean due) {
        due(call, got ? 1 : 0, due ? 1 : 0);
    }

    void due(String call, String got, String due) {
        if (got.equals(due)) {
            passed++;
        } else {
            failed++;
            System.out.println(name + ": " + call + " answered " + got + ", due is " + due);
        }
    }

    void outOfBounds(String call, Call it) {
        due(call, answer(it), "throws.IndexOutOfBoundsException");
    }

    void illegal(String call, Call it) {
        due(call, answer(it), "throws.IllegalArgumentException");
    }

    void unsupported(String call, Call it) {
        due(call, answer(it), "throws.UnsupportedOperationException");
    }

    void noElement(String call, Call it) {
        due(call, answer(it), "throws.NoSuchElementException");
    }

    /** The answer as the issues write it, so that two programs can be compared by it. */
    static String answer(Call it) {
        try {
            return Long.toString(it.run());
        } catch (RuntimeException e) {
            return "throws." + e.getClass().getSimpleName();
        }
    }

    static int[] numbersOf(byte[] bytes, int from) {
        int[] numbers = new int[5];
        for (int at = 0; at < 20; at++) {
            int sign = from + at < bytes.length ? bytes[from + at] & 255 : 0;
            numbers[at / 4] = numbers[at / 4] << 8 | sign;
        }
        return numbers;
    }

    /** Puts a text on an empty tape. */
    static void feed(BellTown town, String text) {
        byte[] bytes = text.getBytes(StandardCharsets.ISO_8859_1);
        for (int from = 0; from < bytes.length; from += 20) {
            int[] n = numbersOf(bytes, from);
            town.feed(n[0], n[1], n[2], n[3], n[4]);
        }
        town.end(bytes.length);
    }

    static BellTown townOf(String... texts) {
        BellTown town = new BellTown();
        for (String text : texts) {
            feed(town, text);
            town.town();
        }
        return town;
    }

    /** A text of the same line so many times. */
    static String lines(int many, String line) {
        StringBuilder text = new StringBuilder();
        for (int i = 0; i < many; i++) {
            text.append(i > 0 ? ";" : "").append(line);
        }
        return text.toString();
    }

    /** The strokes of a word that is told as a number. */
    static String strokes(int word) {
        return Integer.toBinaryString(word).substring(1).replace('0', 'a').replace('1', 'b');
    }

    static int number(String strokes) {
        return Integer.parseInt("1" + strokes.replace('a', '0').replace('b', '1'), 2);
    }

    static int costOf(int word) {
        int sum = 0;
        for (char stroke : strokes(word).toCharArray()) {
            sum += stroke == 'a' ? 1 : 2;
        }
        return sum;
    }

    /** Draws as the document says it, by numbers that do not go round by themselves. */
    static final class Draws {
        private BigInteger seed;

        Draws(int seed) {
            this.seed = BigInteger.valueOf(seed);
        }

        int next() {
            seed = seed.multiply(BigInteger.valueOf(1103515245)).add(BigInteger.valueOf(12345)).mod(BigInteger.ONE.shiftLeft(32));
            return seed.shiftRight(16).mod(BigInteger.valueOf(32768)).intValue();
        }
    }

    void finish() {
        System.out.println(name + ": " + passed + " answers as due, " + failed + " not");
        if (failed > 0) {
            System.exit(1);
        }
    }
}
