import java.math.BigInteger;

/** Promises 15 to 25: lips, words, the row, signs, what arrives. */
public final class WordsTest {
    private static final int MIN = Integer.MIN_VALUE, MAX = Integer.MAX_VALUE;

    public static void main(String[] args) {
        promise15();
        promise16();
        promise16Digits();
        promise17();
        promise18();
        promise19();
        promise20Number();
        promise20Best();
        promise20Anew();
        promise20None();
        promise20EachPlace();
        promise21();
        promise21Ten();
        promise22();
        promise22Ten();
        promise23();
        promise24();
        promise24Cut();
        promise24EachTurn();
        promise24Large();
        promise24Ten();
        promise25();
        promise25EachTurn();
        Due.end();
    }

    private static void promise15() {
        ShedTalk x = new ShedTalk();
        int[][] bad = {{-1, 0}, {6, 0}, {0, -1}, {0, 6}, {MIN, 0}, {0, MAX}, {6, 6}};
        for (int[] b : bad) {
            Due.due("like(" + b[0] + ", " + b[1] + ")", x.like(b[0], b[1]), -2);
        }
        Due.due("a LIP looks like itself", x.like(3, 3), -3);
        Due.due("like(1, 2)", x.like(1, 2), 1);
        Due.due("like(1, 2) again", x.like(1, 2), -3);
        Due.due("like(2, 1)", x.like(2, 1), -3);
        Due.due("like(5, 4)", x.like(5, 4), 1);
        Due.due("like(2, 4)", x.like(2, 4), 1);
        Due.due("by all these", x.like(1, 5), -3);
        Due.due("by all these", x.like(5, 2), -3);
        Due.due("like(0, 3)", x.like(0, 3), 1);
        Due.due("like(0, 5)", x.like(0, 5), 1);
        Due.due("all are alike", x.like(3, 4), -3);
    }

    private static void promise16() {
        ShedTalk x = new ShedTalk();
        int[][] bad = {{0, 0, 1}, {7, 0, 1}, {-1, 0, 1}, {1, -1, 1}, {1, 6, 1}, {2, 36, 1}, {6, 46656, 1}, {1, 0, 0},
            {1, 0, 10}, {MIN, 0, 1}, {MAX, 0, 1}, {6, MAX, 1}, {6, MIN, 1}, {1, 0, MAX}, {1, 0, MIN}};
        for (int[] b : bad) {
            Due.due("word(" + b[0] + ", " + b[1] + ", " + b[2] + ")", x.word(b[0], b[1], b[2]), -2);
        }
        Due.due("word(1, 5, 1)", x.word(1, 5, 1), 0);
        Due.due("word(2, 35, 9)", x.word(2, 35, 9), 1);
        Due.due("word(6, 46655, 1)", x.word(6, 46655, 1), 2);
        Due.due("word(6, 0, 1)", x.word(6, 0, 1), 3);
        Due.due("the same once more", x.word(6, 0, 1), 4);
        for (int i = 5; i < 10; i++) {
            Due.due("word " + i, x.word(3, i, 5), i);
        }
        Due.due("an eleventh", x.word(1, 0, 1), -4);
        Due.due("an eleventh that does not fit", x.word(1, 6, 1), -2);
        Due.due("words", x.count(3), 10);
        // The first LIP is the highest digit.
        ShedTalk y = new ShedTalk();
        y.word(3, 1 * 36 + 2 * 6 + 3, 1);
        y.lip(1);
        y.lip(2);
        y.lip(3);
        Due.due("1 2 3", y.reads(-1), 1);
        y.hush();
        y.lip(3);
        y.lip(2);
        y.lip(1);
        Due.due("3 2 1", y.reads(-1), 0);
    }

    // The least and the greatest digits of each number of LIPS, the first LIP the highest.
    private static void promise16Digits() {
        int above = 1;
        for (int n = 1; n <= 6; n++) {
            above *= 6;
            ShedTalk x = new ShedTalk();
            Due.due("digits one too many for " + n, x.word(n, above, 1), -2);
            Due.due("the greatest of " + n, x.word(n, above - 1, 9), 0);
            Due.due("the least of " + n, x.word(n, 0, 1), 1);
            say(x, 5, n);
            Due.due("5 in each place of " + n, x.reads(0), 0);
            x.hush();
            say(x, 0, n);
            Due.due("0 in each place of " + n, x.reads(0), 1);
            Due.due("all of it", x.reads(24), 1);
            for (int at = 0; at < n; at++) {
                ShedTalk y = new ShedTalk();
                int digit = 1;
                for (int i = at + 1; i < n; i++) {
                    digit *= 6;
                }
                y.word(n, 3 * digit, 1);
                for (int i = 0; i < n; i++) {
                    y.lip(i == at ? 3 : 0);
                }
                Due.due("a 3 in place " + at + " of " + n, y.reads(-1), 1);
            }
        }
    }

    private static void promise17() {
        ShedTalk x = Due.told("word 1 1 2;word 1 2 1;word 1 1 2 1;word 1 1 2;like 4 1;word 1 4 2;");
        Due.due("itself", x.alike(0, 0), 1);
        Due.due("the same LIPS", x.alike(0, 3), 1);
        Due.due("others", x.alike(0, 1), 0);
        Due.due("more LIPS", x.alike(0, 2), 0);
        Due.due("LIPS alike", x.alike(0, 4), 1);
        Due.due("and back", x.alike(4, 0), 1);
        x.like(1, 2);
        Due.due("each alike", x.alike(0, 1), 1);
        int[][] bad = {{-1, 0}, {5, 0}, {0, -1}, {0, 5}, {MIN, 0}, {0, MAX}};
        for (int[] b : bad) {
            Due.due("alike(" + b[0] + ", " + b[1] + ")", x.alike(b[0], b[1]), -2);
        }
        ShedTalk y = Due.told("word 1 1 2;word 1 1 3;word 1 0 2;");
        Due.due("the last is another", y.alike(0, 1), 0);
        Due.due("the first is another", y.alike(0, 2), 0);
    }

    private static void promise18() {
        ShedTalk x = new ShedTalk();
        int[] bad = {-1, 6, MIN, MAX};
        for (int b : bad) {
            Due.due("lip(" + b + ")", x.lip(b), -2);
        }
        for (int i = 1; i <= 24; i++) {
            Due.due("lip " + i, x.lip(i % 6), i);
        }
        Due.due("a 25th", x.lip(0), -4);
        Due.due("a 25th that is none", x.lip(6), -2);
        Due.due("LIPS", x.count(4), 24);
    }

    private static void promise19() {
        ShedTalk x = new ShedTalk();
        Due.due("nothing to hush", x.hush(), 0);
        for (int i = 0; i < 24; i++) {
            x.lip(0);
        }
        Due.due("hush", x.hush(), 24);
        Due.due("LIPS", x.count(4), 0);
        Due.due("hush again", x.hush(), 0);
        Due.due("room again", x.lip(1), 1);
    }

    private static void say(ShedTalk x, int lip, int times) {
        for (int i = 0; i < times; i++) {
            x.lip(lip);
        }
    }

    private static void promise20Number() {
        ShedTalk x = Due.told("word 1 0;word 1 0 0;");
        Due.due("an empty ROW", x.reads(-1), 1);
        say(x, 0, 24);
        Due.due("by ones and twos", x.reads(-1), 75025);
        for (int i = 0; i < 8; i++) {
            x.word(1, 0, 1);
        }
        // f(n) = 9 f(n - 1) + f(n - 2), f(0) = 1, f(1) = 9.
        long before = 1, now = 9;
        for (int i = 2; i <= 24; i++) {
            long next = (9 * now + before) % 1000000007;
            before = now;
            now = next;
        }
        Due.due("modulo", x.reads(-1), now);
        Due.due("as many as one may be", x.reads(24), 12);
        ShedTalk y = Due.told("word 1 0;word 1 1;like 2 0;");
        y.lip(2);
        Due.due("a LIP that looks alike", y.reads(-1), 1);
        y.lip(3);
        Due.due("one that does not", y.reads(-1), 0);
        int[] bad = {-2, 25, MIN, MAX};
        for (int b : bad) {
            Due.due("reads(" + b + ")", y.reads(b), -10);
        }
    }

    private static void promise20Best() {
        ShedTalk x = Due.told("word 1 0;word 9 0 0;word 3 0 0 0;word 2 0 0 0;word 3 0 0 0;");
        say(x, 0, 4);
        // Two words: 2 and 2 weigh 18, 1 and 3 as many as 4 at most.
        Due.due("the fewest", x.reads(24), 2);
        Due.due("with most WEIGHTS", x.reads(0), 1);
        Due.due("with most WEIGHTS", x.reads(1), 1);
        Due.due("no third", x.reads(2), -5);
        x.lip(0);
        Due.due("2 and 3 together", x.reads(24), 2);
        Due.due("the first row of them", x.reads(0), 1);
        Due.due("the first of like words", x.reads(1), 2);
        ShedTalk y = Due.told("word 1 0 0;word 1 0;word 9 0 0 0;");
        say(y, 0, 3);
        Due.due("the fewest, whatever they weigh", y.reads(24), 1);
        Due.due("the long one", y.reads(0), 2);
        say(y, 0, 21);
        Due.due("eight", y.reads(24), 8);
        Due.due("the last place", y.reads(7), 2);
        Due.due("behind it", y.reads(8), -5);
        Due.due("far behind it", y.reads(23), -5);
        ShedTalk z = Due.told("word 1 1;word 1 1;");
        say(z, 1, 24);
        Due.due("a word for each LIP", z.reads(24), 24);
        Due.due("in the last place", z.reads(23), 0);
        Due.due("two to the 24th", z.reads(-1), 16777216);
    }

    private static void promise20Anew() {
        ShedTalk x = Due.told("word 4 0 0;word 3 0;");
        say(x, 0, 9);
        Due.due("nine", x.reads(24), 5);
        for (int lips = 1; lips <= 8; lips++) {
            x.hush();
            say(x, 0, lips);
            Due.due("a shorter ROW", x.reads(24), (lips + 1) / 2);
            Due.due("a shorter ROW, its first", x.reads(0), lips == 1 ? 1 : 0);
            Due.due("a shorter ROW, behind its last", x.reads((lips + 1) / 2), -5);
        }
        x.hush();
        Due.due("an empty one again", x.reads(24), 0);
        Due.due("an empty one again", x.reads(-1), 1);
    }

    private static void promise20None() {
        ShedTalk x = Due.told("word 1 0 1;");
        Due.due("an empty ROW has 0", x.reads(24), 0);
        Due.due("an empty ROW has no word", x.reads(0), -5);
        Due.due("an empty ROW has no word", x.reads(23), -5);
        x.lip(0);
        Due.due("half a word", x.reads(-1), 0);
        Due.due("none", x.reads(24), -5);
        Due.due("none", x.reads(0), -5);
        x.lip(1);
        Due.due("a word", x.reads(24), 1);
        Due.due("a word", x.reads(0), 0);
        x.lip(1);
        Due.due("one LIP over", x.reads(24), -5);
        Due.due("one LIP over", x.reads(0), -5);
        ShedTalk y = new ShedTalk();
        Due.due("no words, an empty ROW", y.reads(-1), 1);
        y.lip(0);
        Due.due("no words, a ROW", y.reads(-1), 0);
    }

    // Words of one LIP each, so that the place in the best reading is the place in the ROW: 0 to 23.
    private static void promise20EachPlace() {
        ShedTalk x = new ShedTalk();
        for (int lip = 0; lip < 6; lip++) {
            x.word(1, 5 - lip, 1);
        }
        for (int i = 0; i < 24; i++) {
            x.lip(i * i % 6);
            Due.due("how many of " + (i + 1), x.reads(24), i + 1);
            Due.due("behind the last", x.reads(i + 1 > 23 ? 25 : i + 1), i + 1 > 23 ? -10 : -5);
        }
        for (int i = 0; i < 24; i++) {
            Due.due("in place " + i, x.reads(i), 5 - i * i % 6);
        }
        // Of as few words as heavy together the first row of WORDS, though another word would begin it as well.
        ShedTalk y = Due.told("word 2 0 0;word 3 0 0 0;word 2 0 0 0 0;word 3 0;");
        say(y, 0, 5);
        Due.due("two", y.reads(24), 2);
        Due.due("0 and 1 are as heavy as 1 and 0, 2 and 3, 3 and 2", y.reads(0), 0);
        Due.due("the heavier follows", y.reads(1), 1);
    }

    private static void promise21() {
        ShedTalk x = Due.told("word 5 1 2;word 3 2 1;word 2 1;word 9 2 2;like 1 2;word 4 3;word 7 3;");
        Due.due("mistaken(0)", x.mistaken(0), 15 + 45 + 27 + 28);
        Due.due("mistaken(1)", x.mistaken(1), 27 + 28);
        Due.due("mistaken(8)", x.mistaken(8), 15 + 28);
        Due.due("mistaken(16)", x.mistaken(16), 87);
        Due.due("mistaken(4): nobody mistakes it", x.mistaken(4), 115);
        Due.due("mistaken(63)", x.mistaken(63), 0);
        int[] bad = {-1, 64, MIN, MAX};
        for (int b : bad) {
            Due.due("mistaken(" + b + ")", x.mistaken(b), -2);
        }
        x.girl(63);
        x.gets();
        Due.due("mistaken(0) behind gets()", x.mistaken(0), 115);
        Due.due("no words", new ShedTalk().mistaken(0), 0);
        Due.due("no words", new ShedTalk().mistaken(1), -2);
    }

    private static ShedTalk tenAlike() {
        ShedTalk x = new ShedTalk();
        for (int w = 0; w < 10; w++) {
            x.word(1, 0, 9);
        }
        return x;
    }

    private static void promise21Ten() {
        ShedTalk x = tenAlike();
        Due.due("45 pairs", x.mistaken(0), 45 * 81);
        for (int k = 1; k <= 10; k++) {
            Due.due("SIGNS of the first " + k, x.mistaken((1 << k) - 1), (10 - k) * (9 - k) / 2 * 81);
            Due.due("SIGNS of the last " + k, x.mistaken(1023 - (1023 >> k)), (10 - k) * (9 - k) / 2 * 81);
        }
        Due.due("an eleventh bit", x.mistaken(1024), -2);
        ShedTalk y = Due.told("word 1 0;");
        Due.due("one is never mistaken", y.mistaken(0), 0);
        Due.due("its SIGN", y.mistaken(1), 0);
        Due.due("a SIGN of none", y.mistaken(2), -2);
    }

    private static void promise22Ten() {
        ShedTalk x = tenAlike();
        for (int k = 0; k <= 10; k++) {
            Due.due("k = " + k + ", of like ones the least", x.signs(k), (1 << k) - 1);
        }
        Due.due("k = 11", x.signs(11), -2);
        ShedTalk y = Due.told("word 1 0;word 2 0;word 3 0;");
        Due.due("the last", y.signs(1), 4);
        Due.due("the last two: one is left, so two first ones are as good", y.signs(2), 3);
        Due.due("three", y.signs(3), 7);
        Due.due("more than there are", y.signs(4), -2);
    }

    private static void promise22() {
        ShedTalk x = Due.told("word 5 1 2;word 3 2 1;word 2 1;word 9 2 2;like 1 2;word 4 3;word 7 3;");
        Due.due("none", x.signs(0), 0);
        Due.due("the heaviest", x.signs(1), 8);
        Due.due("that, and the dearer of the rest", x.signs(2), 8 + 16);
        Due.due("nothing is left, by the least bits", x.signs(3), 1 + 2 + 16);
        Due.due("one too many is the least", x.signs(4), 1 + 2 + 4 + 16);
        Due.due("all", x.signs(6), 63);
        int[] bad = {-1, 7, MIN, MAX};
        for (int b : bad) {
            Due.due("signs(" + b + ")", x.signs(b), -2);
        }
        ShedTalk y = Due.told("word 1 0;word 1 1;word 1 2;");
        Due.due("of like ones the least", y.signs(2), 3);
        Due.due("no words", new ShedTalk().signs(0), 0);
        Due.due("no words", new ShedTalk().signs(1), -2);
    }

    private static void promise23() {
        ShedTalk x = Due.told("word 5 1;word 5 1;");
        int[] bad = {0, 100, -1, MIN, MAX};
        for (int b : bad) {
            Due.due("plain(" + b + ")", x.plain(b), -2);
        }
        Due.due("plain(99)", x.plain(99), 20);
        Due.due("plain(1)", x.plain(1), 99);
        x.arrives(0, 0, 1);
        Due.fraction("1 of 1 and 5", x, 1, 6);
        Due.due("plain(5)", x.plain(5), 1);
        x.arrives(0, 0, 1);
        Due.fraction("5 of 5 and 5", x, 1, 2);
        Due.due("a text leaves it", Due.tell(x, "word 1 1;"), 1);
        Due.due("plain(20)", x.plain(20), 5);
    }

    private static void promise24() {
        // Of 0: 20 itself, 4 for 9 by 2 (one LIP is another), 5 for one alike, 3 for 7 by 2; the short one never.
        ShedTalk x = Due.told("word 8 0 1;word 9 0 2;word 5 3 1;word 7 3 2;word 9 0;like 0 3;");
        Due.due("arrives(0, 0, 1)", x.arrives(0, 0, 1), 1);
        Due.fraction("itself: 20 of 32", x, 5, 8);
        x.arrives(0, 1, 1);
        Due.fraction("one LIP another, cut", x, 1, 8);
        x.arrives(0, 2, 1);
        Due.fraction("alike", x, 5, 32);
        x.arrives(0, 3, 1);
        Due.fraction("one LIP another", x, 3, 32);
        x.arrives(0, 4, 1);
        Due.fraction("other length", x, 0, 1);
        x.arrives(4, 4, 12);
        Due.fraction("nothing else that it could be", x, 1, 1);
        ShedTalk y = Due.told("word 6 0;word 8 1;");
        y.arrives(0, 1, 2);
        // 20 by 24 of 4 by 24, and 4 by 24 of 20 by 23.
        Due.fraction("two hearers", y, 235, 828);
        int[][] bad = {{-1, 0, 1}, {2, 0, 1}, {0, -1, 1}, {0, 2, 1}, {0, 0, 0}, {0, 0, 13}, {MIN, 0, 1}, {0, MAX, 1},
            {0, 0, MIN}, {0, 0, MAX}};
        for (int[] b : bad) {
            Due.due("arrives(" + b[0] + ", " + b[1] + ", " + b[2] + ")", y.arrives(b[0], b[1], b[2]), -2);
        }
        Due.fraction("what is refused changes nothing", y, 235, 828);
        ShedTalk z = Due.told("word 1 0 0;word 1 1 1;");
        z.arrives(0, 1, 1);
        Due.fraction("1 by 4, cut: never", z, 0, 1);
    }

    // A WEIGHT of 9 by 1, 2, 4, 8, 16, 32, 64, cut, beside 20.
    private static void promise24Cut() {
        int[] cut = {9, 4, 2, 1, 0, 0, 0};
        int ones = 0;
        for (int unlike = 0; unlike <= 6; unlike++) {
            ShedTalk x = new ShedTalk();
            x.word(6, 0, 1);
            x.word(6, ones, 9);
            x.arrives(0, 1, 1);
            int divisor = BigInteger.valueOf(20 + cut[unlike]).gcd(BigInteger.valueOf(cut[unlike])).intValue();
            Due.fraction(unlike + " LIPS unlike", x, cut[unlike] / divisor, (20 + cut[unlike]) / divisor);
            x.like(0, 1);
            x.arrives(0, 1, 1);
            Due.fraction("all alike", x, 9, 29);
            ones = 6 * ones + 1;
        }
        // What is another one is its own WEIGHT, what is itself is CLEAR.
        ShedTalk y = Due.told("word 9 0;word 1 0;");
        y.arrives(0, 1, 1);
        Due.fraction("by the WEIGHT of the other one", y, 1, 21);
        y.arrives(1, 0, 1);
        Due.fraction("by the WEIGHT of the other one", y, 9, 29);
        y.plain(1);
        y.arrives(0, 0, 1);
        Due.fraction("the least CLEAR", y, 1, 2);
        y.plain(99);
        y.arrives(0, 0, 1);
        Due.fraction("the greatest CLEAR", y, 99, 100);
    }

    /** The chances behind n, of words that are all alike: above, by the product of all totals n times. */
    private static BigInteger[] above(int clear, int[] weights, int word, int n) {
        BigInteger[] now = new BigInteger[weights.length];
        for (int w = 0; w < weights.length; w++) {
            now[w] = BigInteger.valueOf(w == word ? 1 : 0);
        }
        for (int i = 0; i < n; i++) {
            BigInteger[] next = new BigInteger[weights.length];
            for (int as = 0; as < weights.length; as++) {
                next[as] = BigInteger.ZERO;
                for (int w = 0; w < weights.length; w++) {
                    BigInteger heard = BigInteger.valueOf(as == w ? clear : weights[as]);
                    next[as] = next[as].add(now[w].multiply(heard).multiply(product(clear, weights))
                        .divide(BigInteger.valueOf(total(clear, weights, w))));
                }
            }
            now = next;
        }
        return now;
    }

    private static int total(int clear, int[] weights, int w) {
        int total = clear - weights[w];
        for (int weight : weights) {
            total += weight;
        }
        return total;
    }

    private static BigInteger product(int clear, int[] weights) {
        BigInteger product = BigInteger.ONE;
        for (int w = 0; w < weights.length; w++) {
            product = product.multiply(BigInteger.valueOf(total(clear, weights, w)));
        }
        return product;
    }

    private static ShedTalk alikeWords(int clear, int[] weights) {
        ShedTalk x = new ShedTalk();
        for (int weight : weights) {
            x.word(1, 0, weight);
        }
        x.plain(clear);
        return x;
    }

    private static void lowestTerms(ShedTalk x, BigInteger above, BigInteger below) {
        BigInteger divisor = above.gcd(below);
        large(x, above.divide(divisor), below.divide(divisor));
    }

    private static void promise24EachTurn() {
        int[] weights = {6, 8, 1};
        for (int n = 1; n <= 12; n++) {
            ShedTalk x = alikeWords(20, weights);
            BigInteger below = product(20, weights).pow(n);
            for (int as = 0; as < 3; as++) {
                Due.due("row of " + n, x.arrives(0, as, n), 1);
                lowestTerms(x, above(20, weights, 0, n)[as], below);
            }
        }
    }

    // Ten words, one of whom makes 180, the others less: the longest numbers that there are.
    private static void promise24Ten() {
        int[][] rows = {{1, 9, 9, 9, 9, 9, 9, 9, 9, 9}, {9, 8, 7, 6, 5, 4, 3, 2, 1, 1}, {9, 9, 9, 9, 9, 9, 9, 9, 9, 9},
            {1, 2, 3, 4, 5, 6, 7, 8, 9, 9}, {1, 1, 1, 1, 1, 1, 1, 1, 1, 1}};
        for (int[] weights : rows) {
            for (int clear = 94; clear <= 99; clear++) {
                ShedTalk x = alikeWords(clear, weights);
                x.arrives(1, 9, 12);
                lowestTerms(x, above(clear, weights, 1, 12)[9], product(clear, weights).pow(12));
                x.arrives(0, 0, 12);
                lowestTerms(x, above(clear, weights, 0, 12)[0], product(clear, weights).pow(12));
            }
        }
        // 179 makes the total of 0 alone, and must not stand below what 1 is heard as.
        ShedTalk x = alikeWords(98, rows[0]);
        x.arrives(1, 1, 1);
        Due.fraction("98 of 98, 1 and eight 9", x, 98, 171);
        x.arrives(0, 0, 1);
        Due.fraction("98 of 98 and nine 9", x, 98, 179);
    }

    // (1 + (1/3)^12) by 2, of two like words that are heard as themselves with 2 of 3.
    private static void promise24Large() {
        ShedTalk x = Due.told("word 5 0;word 5 0;");
        x.plain(10);
        x.arrives(1, 1, 12);
        Due.fraction("twelve hearers", x, (531441 + 1) / 2, 531441);
        ShedTalk y = Due.told("word 8 0;word 8 0;");
        y.plain(99);
        y.arrives(0, 0, 12);
        // (107^12 + 91^12) by 2 by 107^12, both odd.
        BigInteger below = BigInteger.valueOf(107).pow(12);
        large(y, below.add(BigInteger.valueOf(91).pow(12)).shiftRight(1), below);
        // (96^12 + 84^12) by 2 by 96^12, of which both have 12^12.
        ShedTalk z = Due.told("word 6 0;word 6 0;");
        z.plain(90);
        z.arrives(0, 0, 12);
        large(z, BigInteger.valueOf(8).pow(12).add(BigInteger.valueOf(7).pow(12)), BigInteger.ONE.shiftLeft(37));
    }

    private static void large(ShedTalk y, BigInteger above, BigInteger below) {
        Due.due("sign", y.sign(0), 1);
        Due.due("limbs above", y.sign(1), (above.bitLength() + 29) / 30);
        Due.due("limbs below", y.sign(2), (below.bitLength() + 29) / 30);
        for (int i = 0; i < 1 + Math.max(y.sign(1), y.sign(2)); i++) {
            Due.due("limb above " + i, y.limb(0, i), i < y.sign(1) ? above.shiftRight(30 * i).intValue() & 1073741823 : -1);
            Due.due("limb below " + i, y.limb(1, i), i < y.sign(2) ? below.shiftRight(30 * i).intValue() & 1073741823 : -1);
        }
    }

    private static void promise25() {
        ShedTalk x = Due.told("word 5 0;word 5 0;word 5 1 1;");
        x.plain(10);
        // 2/3, 5/9, 14/27, 41/81, ...: from above to a half.
        Due.due("turns(0, 99, 99)", x.turns(0, 99, 99), 1);
        Due.due("turns(0, 2, 3): 2/3 is not below it", x.turns(0, 2, 3), 2);
        Due.due("turns(0, 5, 9)", x.turns(0, 5, 9), 3);
        Due.due("turns(0, 14, 27)", x.turns(0, 14, 27), 4);
        Due.due("turns(0, 50, 99)", x.turns(0, 50, 99), 5);
        Due.due("turns(0, 1, 2): never", x.turns(0, 1, 2), -1);
        Due.due("turns(0, 0, 1): never", x.turns(0, 0, 1), -1);
        Due.due("turns(2, 99, 99): it is all there is", x.turns(2, 99, 99), -1);
        Due.due("turns(2, 99, 98): more than all", x.turns(2, 99, 98), 1);
        int[][] bad = {{-1, 1, 2}, {3, 1, 2}, {0, -1, 2}, {0, 100, 2}, {0, 1, 0}, {0, 1, 100}, {MIN, 1, 2}, {0, MAX, 2},
            {0, 1, MIN}};
        for (int[] b : bad) {
            Due.due("turns(" + b[0] + ", " + b[1] + ", " + b[2] + ")", x.turns(b[0], b[1], b[2]), -10);
        }
        Due.fraction("THE FRACTION is as it was", x, 0, 1);
        // Behind n it is still itself by 1 and (5 by 6)^n, by 2.
        ShedTalk y = Due.told("word 9 0;word 9 0;");
        y.plain(99);
        Due.due("above 5 by 9 behind twelve", y.turns(0, 5, 9), -1);
        Due.due("below 5 by 8", y.turns(0, 5, 8), 8);
        Due.due("the last of twelve", y.turns(0, 9, 16), 12);
    }

    // Two alike words of all WEIGHTS: the first turn by which itself times b is below all times a, by whole numbers.
    private static void promise25EachTurn() {
        int[] clears = {1, 9, 40, 76, 99};
        int[][] bounds = {{1, 2}, {5, 9}, {77, 95}, {32, 50}, {2, 8}, {1, 9}, {82, 98}, {99, 99}, {99, 98}, {0, 1}, {99, 1}, {1, 99},
            {98, 99}, {50, 99}, {49, 99}};
        for (int clear : clears) {
            for (int weight = 1; weight <= 9; weight++) {
                int[] weights = {weight, 10 - weight};
                ShedTalk x = alikeWords(clear, weights);
                for (int[] bound : bounds) {
                    turnsAsDue(x, clear, weights, bound[0], bound[1]);
                }
            }
            int[] light = {1, 2};
            ShedTalk y = alikeWords(clear, light);
            for (int a = 0; a <= 99; a++) {
                turnsAsDue(y, clear, light, a, 99);
                turnsAsDue(y, clear, light, a, 98);
            }
            // Of ten words what stands below is long at once.
            int[] ten = {1, 2, 3, 4, 5, 6, 7, 8, 9, 9};
            ShedTalk z = alikeWords(clear, ten);
            for (int a = 0; a <= 99; a += 9) {
                turnsAsDue(z, clear, ten, a, 1);
                turnsAsDue(z, clear, ten, a, 50);
                turnsAsDue(z, clear, ten, a, 99);
            }
        }
    }

    private static void turnsAsDue(ShedTalk x, int clear, int[] weights, int a, int b) {
        String call = "CLEAR " + clear + ", WEIGHT " + weights[0] + ": turns(0, " + a + ", " + b + ")";
        Due.due(call, x.turns(0, a, b), firstBelow(clear, weights, a, b));
    }

    private static int firstBelow(int clear, int[] weights, int a, int b) {
        for (int n = 1; n <= 12; n++) {
            BigInteger itself = above(clear, weights, 0, n)[0].multiply(BigInteger.valueOf(b));
            if (itself.compareTo(product(clear, weights).pow(n).multiply(BigInteger.valueOf(a))) < 0) {
                return n;
            }
        }
        return -1;
    }
}
