import java.math.BigInteger;

/** Promises 15 to 25: lips, words, the row, signs, what arrives. */
public final class WordsTest {
    private static final int MIN = Integer.MIN_VALUE, MAX = Integer.MAX_VALUE;

    public static void main(String[] args) {
        promise15();
        promise16();
        promise17();
        promise18();
        promise19();
        promise20Number();
        promise20Best();
        promise20Anew();
        promise20None();
        promise21();
        promise22();
        promise23();
        promise24();
        promise24Large();
        promise25();
        Due.end();
    }

    private static void promise15() {
        ShedTalk x = new ShedTalk();
        int[][] bad = {{-1, 0}, {6, 0}, {0, -1}, {0, 6}, {MIN, 0}, {0, MAX}, {6, 6}};
        for (int[] b : bad) {
            Due.due("like(" + b[0] + ", " + b[1] + ")", x.like(b[0], b[1]), -2);
        }
        Due.due("a LIP looks like itself", x.like(3, 3), -3);
        Due.due("like(1, 2)", x.like(1, 2), 1);
        Due.due("like(1, 2) again", x.like(1, 2), -3);
        Due.due("like(2, 1)", x.like(2, 1), -3);
        Due.due("like(5, 4)", x.like(5, 4), 1);
        Due.due("like(2, 4)", x.like(2, 4), 1);
        Due.due("by all these", x.like(1, 5), -3);
        Due.due("by all these", x.like(5, 2), -3);
        Due.due("like(0, 3)", x.like(0, 3), 1);
        Due.due("like(0, 5)", x.like(0, 5), 1);
        Due.due("all are alike", x.like(3, 4), -3);
    }

    private static void promise16() {
        ShedTalk x = new ShedTalk();
        int[][] bad = {{0, 0, 1}, {7, 0, 1}, {-1, 0, 1}, {1, -1, 1}, {1, 6, 1}, {2, 36, 1}, {6, 46656, 1}, {1, 0, 0},
            {1, 0, 10}, {MIN, 0, 1}, {MAX, 0, 1}, {6, MAX, 1}, {6, MIN, 1}, {1, 0, MAX}, {1, 0, MIN}};
        for (int[] b : bad) {
            Due.due("word(" + b[0] + ", " + b[1] + ", " + b[2] + ")", x.word(b[0], b[1], b[2]), -2);
        }
        Due.due("word(1, 5, 1)", x.word(1, 5, 1), 0);
        Due.due("word(2, 35, 9)", x.word(2, 35, 9), 1);
        Due.due("word(6, 46655, 1)", x.word(6, 46655, 1), 2);
        Due.due("word(6, 0, 1)", x.word(6, 0, 1), 3);
        Due.due("the same once more", x.word(6, 0, 1), 4);
        for (int i = 5; i < 10; i++) {
            Due.due("word " + i, x.word(3, i, 5), i);
        }
        Due.due("an eleventh", x.word(1, 0, 1), -4);
        Due.due("an eleventh that does not fit", x.word(1, 6, 1), -2);
        Due.due("words", x.count(3), 10);
        // The first LIP is the highest digit.
        ShedTalk y = new ShedTalk();
        y.word(3, 1 * 36 + 2 * 6 + 3, 1);
        y.lip(1);
        y.lip(2);
        y.lip(3);
        Due.due("1 2 3", y.reads(-1), 1);
        y.hush();
        y.lip(3);
        y.lip(2);
        y.lip(1);
        Due.due("3 2 1", y.reads(-1), 0);
    }

    private static void promise17() {
        ShedTalk x = Due.told("word 1 1 2;word 1 2 1;word 1 1 2 1;word 1 1 2;like 4 1;word 1 4 2;");
        Due.due("itself", x.alike(0, 0), 1);
        Due.due("the same LIPS", x.alike(0, 3), 1);
        Due.due("others", x.alike(0, 1), 0);
        Due.due("more LIPS", x.alike(0, 2), 0);
        Due.due("LIPS alike", x.alike(0, 4), 1);
        Due.due("and back", x.alike(4, 0), 1);
        x.like(1, 2);
        Due.due("each alike", x.alike(0, 1), 1);
        int[][] bad = {{-1, 0}, {5, 0}, {0, -1}, {0, 5}, {MIN, 0}, {0, MAX}};
        for (int[] b : bad) {
            Due.due("alike(" + b[0] + ", " + b[1] + ")", x.alike(b[0], b[1]), -2);
        }
        ShedTalk y = Due.told("word 1 1 2;word 1 1 3;word 1 0 2;");
        Due.due("the last is another", y.alike(0, 1), 0);
        Due.due("the first is another", y.alike(0, 2), 0);
    }

    private static void promise18() {
        ShedTalk x = new ShedTalk();
        int[] bad = {-1, 6, MIN, MAX};
        for (int b : bad) {
            Due.due("lip(" + b + ")", x.lip(b), -2);
        }
        for (int i = 1; i <= 24; i++) {
            Due.due("lip " + i, x.lip(i % 6), i);
        }
        Due.due("a 25th", x.lip(0), -4);
        Due.due("a 25th that is none", x.lip(6), -2);
        Due.due("LIPS", x.count(4), 24);
    }

    private static void promise19() {
        ShedTalk x = new ShedTalk();
        Due.due("nothing to hush", x.hush(), 0);
        for (int i = 0; i < 24; i++) {
            x.lip(0);
        }
        Due.due("hush", x.hush(), 24);
        Due.due("LIPS", x.count(4), 0);
        Due.due("hush again", x.hush(), 0);
        Due.due("room again", x.lip(1), 1);
    }

    private static void say(ShedTalk x, int lip, int times) {
        for (int i = 0; i < times; i++) {
            x.lip(lip);
        }
    }

    private static void promise20Number() {
        ShedTalk x = Due.told("word 1 0;word 1 0 0;");
        Due.due("an empty ROW", x.reads(-1), 1);
        say(x, 0, 24);
        Due.due("by ones and twos", x.reads(-1), 75025);
        for (int i = 0; i < 8; i++) {
            x.word(1, 0, 1);
        }
        // f(n) = 9 f(n - 1) + f(n - 2), f(0) = 1, f(1) = 9.
        long before = 1, now = 9;
        for (int i = 2; i <= 24; i++) {
            long next = (9 * now + before) % 1000000007;
            before = now;
            now = next;
        }
        Due.due("modulo", x.reads(-1), now);
        Due.due("as many as one may be", x.reads(24), 12);
        ShedTalk y = Due.told("word 1 0;word 1 1;like 2 0;");
        y.lip(2);
        Due.due("a LIP that looks alike", y.reads(-1), 1);
        y.lip(3);
        Due.due("one that does not", y.reads(-1), 0);
        int[] bad = {-2, 25, MIN, MAX};
        for (int b : bad) {
            Due.due("reads(" + b + ")", y.reads(b), -10);
        }
    }

    private static void promise20Best() {
        ShedTalk x = Due.told("word 1 0;word 9 0 0;word 3 0 0 0;word 2 0 0 0;word 3 0 0 0;");
        say(x, 0, 4);
        // Two words: 2 and 2 weigh 18, 1 and 3 as many as 4 at most.
        Due.due("the fewest", x.reads(24), 2);
        Due.due("with most WEIGHTS", x.reads(0), 1);
        Due.due("with most WEIGHTS", x.reads(1), 1);
        Due.due("no third", x.reads(2), -5);
        x.lip(0);
        Due.due("2 and 3 together", x.reads(24), 2);
        Due.due("the first row of them", x.reads(0), 1);
        Due.due("the first of like words", x.reads(1), 2);
        ShedTalk y = Due.told("word 1 0 0;word 1 0;word 9 0 0 0;");
        say(y, 0, 3);
        Due.due("the fewest, whatever they weigh", y.reads(24), 1);
        Due.due("the long one", y.reads(0), 2);
        say(y, 0, 21);
        Due.due("eight", y.reads(24), 8);
        Due.due("the last place", y.reads(7), 2);
        Due.due("behind it", y.reads(8), -5);
        Due.due("far behind it", y.reads(23), -5);
        ShedTalk z = Due.told("word 1 1;word 1 1;");
        say(z, 1, 24);
        Due.due("a word for each LIP", z.reads(24), 24);
        Due.due("in the last place", z.reads(23), 0);
        Due.due("two to the 24th", z.reads(-1), 16777216);
    }

    private static void promise20Anew() {
        ShedTalk x = Due.told("word 4 0 0;word 3 0;");
        say(x, 0, 9);
        Due.due("nine", x.reads(24), 5);
        for (int lips = 1; lips <= 8; lips++) {
            x.hush();
            say(x, 0, lips);
            Due.due("a shorter ROW", x.reads(24), (lips + 1) / 2);
            Due.due("a shorter ROW, its first", x.reads(0), lips == 1 ? 1 : 0);
            Due.due("a shorter ROW, behind its last", x.reads((lips + 1) / 2), -5);
        }
        x.hush();
        Due.due("an empty one again", x.reads(24), 0);
        Due.due("an empty one again", x.reads(-1), 1);
    }

    private static void promise20None() {
        ShedTalk x = Due.told("word 1 0 1;");
        Due.due("an empty ROW has 0", x.reads(24), 0);
        Due.due("an empty ROW has no word", x.reads(0), -5);
        Due.due("an empty ROW has no word", x.reads(23), -5);
        x.lip(0);
        Due.due("half a word", x.reads(-1), 0);
        Due.due("none", x.reads(24), -5);
        Due.due("none", x.reads(0), -5);
        x.lip(1);
        Due.due("a word", x.reads(24), 1);
        Due.due("a word", x.reads(0), 0);
        x.lip(1);
        Due.due("one LIP over", x.reads(24), -5);
        Due.due("one LIP over", x.reads(0), -5);
        ShedTalk y = new ShedTalk();
        Due.due("no words, an empty ROW", y.reads(-1), 1);
        y.lip(0);
        Due.due("no words, a ROW", y.reads(-1), 0);
    }

    private static void promise21() {
        ShedTalk x = Due.told("word 5 1 2;word 3 2 1;word 2 1;word 9 2 2;like 1 2;word 4 3;word 7 3;");
        Due.due("mistaken(0)", x.mistaken(0), 15 + 45 + 27 + 28);
        Due.due("mistaken(1)", x.mistaken(1), 27 + 28);
        Due.due("mistaken(8)", x.mistaken(8), 15 + 28);
        Due.due("mistaken(16)", x.mistaken(16), 87);
        Due.due("mistaken(4): nobody mistakes it", x.mistaken(4), 115);
        Due.due("mistaken(63)", x.mistaken(63), 0);
        int[] bad = {-1, 64, MIN, MAX};
        for (int b : bad) {
            Due.due("mistaken(" + b + ")", x.mistaken(b), -2);
        }
        x.girl(63);
        x.gets();
        Due.due("mistaken(0) behind gets()", x.mistaken(0), 115);
        Due.due("no words", new ShedTalk().mistaken(0), 0);
        Due.due("no words", new ShedTalk().mistaken(1), -2);
    }

    private static void promise22() {
        ShedTalk x = Due.told("word 5 1 2;word 3 2 1;word 2 1;word 9 2 2;like 1 2;word 4 3;word 7 3;");
        Due.due("none", x.signs(0), 0);
        Due.due("the heaviest", x.signs(1), 8);
        Due.due("that, and the dearer of the rest", x.signs(2), 8 + 16);
        Due.due("nothing is left, by the least bits", x.signs(3), 1 + 2 + 16);
        Due.due("one too many is the least", x.signs(4), 1 + 2 + 4 + 16);
        Due.due("all", x.signs(6), 63);
        int[] bad = {-1, 7, MIN, MAX};
        for (int b : bad) {
            Due.due("signs(" + b + ")", x.signs(b), -2);
        }
        ShedTalk y = Due.told("word 1 0;word 1 1;word 1 2;");
        Due.due("of like ones the least", y.signs(2), 3);
        Due.due("no words", new ShedTalk().signs(0), 0);
        Due.due("no words", new ShedTalk().signs(1), -2);
    }

    private static void promise23() {
        ShedTalk x = Due.told("word 5 1;word 5 1;");
        int[] bad = {0, 100, -1, MIN, MAX};
        for (int b : bad) {
            Due.due("plain(" + b + ")", x.plain(b), -2);
        }
        Due.due("plain(99)", x.plain(99), 20);
        Due.due("plain(1)", x.plain(1), 99);
        x.arrives(0, 0, 1);
        Due.fraction("1 of 1 and 5", x, 1, 6);
        Due.due("plain(5)", x.plain(5), 1);
        x.arrives(0, 0, 1);
        Due.fraction("5 of 5 and 5", x, 1, 2);
        Due.due("a text leaves it", Due.tell(x, "word 1 1;"), 1);
        Due.due("plain(20)", x.plain(20), 5);
    }

    private static void promise24() {
        // Of 0: 20 itself, 4 for 9 by 2 (one LIP is another), 5 for one alike, 3 for 7 by 2; the short one never.
        ShedTalk x = Due.told("word 8 0 1;word 9 0 2;word 5 3 1;word 7 3 2;word 9 0;like 0 3;");
        Due.due("arrives(0, 0, 1)", x.arrives(0, 0, 1), 1);
        Due.fraction("itself: 20 of 32", x, 5, 8);
        x.arrives(0, 1, 1);
        Due.fraction("one LIP another, cut", x, 1, 8);
        x.arrives(0, 2, 1);
        Due.fraction("alike", x, 5, 32);
        x.arrives(0, 3, 1);
        Due.fraction("one LIP another", x, 3, 32);
        x.arrives(0, 4, 1);
        Due.fraction("other length", x, 0, 1);
        x.arrives(4, 4, 12);
        Due.fraction("nothing else that it could be", x, 1, 1);
        ShedTalk y = Due.told("word 6 0;word 8 1;");
        y.arrives(0, 1, 2);
        // 20 by 24 of 4 by 24, and 4 by 24 of 20 by 23.
        Due.fraction("two hearers", y, 235, 828);
        int[][] bad = {{-1, 0, 1}, {2, 0, 1}, {0, -1, 1}, {0, 2, 1}, {0, 0, 0}, {0, 0, 13}, {MIN, 0, 1}, {0, MAX, 1},
            {0, 0, MIN}, {0, 0, MAX}};
        for (int[] b : bad) {
            Due.due("arrives(" + b[0] + ", " + b[1] + ", " + b[2] + ")", y.arrives(b[0], b[1], b[2]), -2);
        }
        Due.fraction("what is refused changes nothing", y, 235, 828);
        ShedTalk z = Due.told("word 1 0 0;word 1 1 1;");
        z.arrives(0, 1, 1);
        Due.fraction("1 by 4, cut: never", z, 0, 1);
    }

    // (1 + (1/3)^12) by 2, of two like words that are heard as themselves with 2 of 3.
    private static void promise24Large() {
        ShedTalk x = Due.told("word 5 0;word 5 0;");
        x.plain(10);
        x.arrives(1, 1, 12);
        Due.fraction("twelve hearers", x, (531441 + 1) / 2, 531441);
        ShedTalk y = Due.told("word 8 0;word 8 0;");
        y.plain(99);
        y.arrives(0, 0, 12);
        // (107^12 + 91^12) by 2 by 107^12, both odd.
        BigInteger below = BigInteger.valueOf(107).pow(12);
        large(y, below.add(BigInteger.valueOf(91).pow(12)).shiftRight(1), below);
        // (96^12 + 84^12) by 2 by 96^12, of which both have 12^12.
        ShedTalk z = Due.told("word 6 0;word 6 0;");
        z.plain(90);
        z.arrives(0, 0, 12);
        large(z, BigInteger.valueOf(8).pow(12).add(BigInteger.valueOf(7).pow(12)), BigInteger.ONE.shiftLeft(37));
    }

    private static void large(ShedTalk y, BigInteger above, BigInteger below) {
        Due.due("sign", y.sign(0), 1);
        Due.due("limbs above", y.sign(1), (above.bitLength() + 29) / 30);
        Due.due("limbs below", y.sign(2), (below.bitLength() + 29) / 30);
        for (int i = 0; i < 4; i++) {
            Due.due("limb above " + i, y.limb(0, i), i < y.sign(1) ? above.shiftRight(30 * i).intValue() & 1073741823 : -1);
            Due.due("limb below " + i, y.limb(1, i), i < y.sign(2) ? below.shiftRight(30 * i).intValue() & 1073741823 : -1);
        }
    }

    private static void promise25() {
        ShedTalk x = Due.told("word 5 0;word 5 0;word 5 1 1;");
        x.plain(10);
        // 2/3, 5/9, 14/27, 41/81, ...: from above to a half.
        Due.due("turns(0, 99, 99)", x.turns(0, 99, 99), 1);
        Due.due("turns(0, 2, 3): 2/3 is not below it", x.turns(0, 2, 3), 2);
        Due.due("turns(0, 5, 9)", x.turns(0, 5, 9), 3);
        Due.due("turns(0, 14, 27)", x.turns(0, 14, 27), 4);
        Due.due("turns(0, 50, 99)", x.turns(0, 50, 99), 5);
        Due.due("turns(0, 1, 2): never", x.turns(0, 1, 2), -1);
        Due.due("turns(0, 0, 1): never", x.turns(0, 0, 1), -1);
        Due.due("turns(2, 99, 99): it is all there is", x.turns(2, 99, 99), -1);
        Due.due("turns(2, 99, 98): more than all", x.turns(2, 99, 98), 1);
        int[][] bad = {{-1, 1, 2}, {3, 1, 2}, {0, -1, 2}, {0, 100, 2}, {0, 1, 0}, {0, 1, 100}, {MIN, 1, 2}, {0, MAX, 2},
            {0, 1, MIN}};
        for (int[] b : bad) {
            Due.due("turns(" + b[0] + ", " + b[1] + ", " + b[2] + ")", x.turns(b[0], b[1], b[2]), -10);
        }
        Due.fraction("THE FRACTION is as it was", x, 0, 1);
        // Behind n it is still itself by 1 and (5 by 6)^n, by 2.
        ShedTalk y = Due.told("word 9 0;word 9 0;");
        y.plain(99);
        Due.due("above 5 by 9 behind twelve", y.turns(0, 5, 9), -1);
        Due.due("below 5 by 8", y.turns(0, 5, 8), 8);
        Due.due("the last of twelve", y.turns(0, 9, 16), 12);
    }
}
