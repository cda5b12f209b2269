/** Promises 26 to 32: the girl, the deaf, looms anew. */
public final class GirlTest {
    private static final int MIN = Integer.MIN_VALUE, MAX = Integer.MAX_VALUE;
    // Words 0, 1, 4 are alike, 2 and 5 are, 3 is like none.
    private static final String WORDS = "word 3 0;word 5 1;word 4 2 2;word 2 3;word 5 0;word 4 2 2;like 0 1;";

    public static void main(String[] args) {
        promise26();
        promise26Ten();
        promise27();
        promise27Pairs();
        promise28();
        promise28EachKnown();
        promise29();
        promise29Ten();
        promise30();
        promise30Bounds();
        promise31();
        promise31Bounds();
        promise32();
        promise32Rows();
        promise32Six();
        promise32Again();
        Due.end();
    }

    private static void promise26() {
        ShedTalk x = Due.told(WORDS);
        Due.due("girl(63)", x.girl(63), 0);
        Due.due("girl(5)", x.girl(5), 63);
        int[] bad = {-1, 64, MIN, MAX};
        for (int b : bad) {
            Due.due("girl(" + b + ")", x.girl(b), -2);
        }
        Due.due("girl(0)", x.girl(0), 5);
        Due.due("girl(0)", x.girl(0), 0);
        Due.due("no words", new ShedTalk().girl(1), -2);
        Due.due("no words", new ShedTalk().girl(0), 0);
    }

    private static void promise26Ten() {
        ShedTalk x = new ShedTalk();
        for (int words = 1; words <= 10; words++) {
            x.word(1, 0, 1);
            int all = (1 << words) - 1;
            Due.due("one bit too many for " + words, x.girl(all + 1), -2);
            Due.due("all " + words, x.girl(all), all >> 1);
            Due.due("all " + words + ", once more", x.girl(all), all);
        }
        Due.due("an eleventh bit", x.girl(1024), -2);
        Due.due("as she knew", x.girl(0), 1023);
        x.girl(512);
        x.word(1, 0, 1);
        Due.due("a WORD that is refused is not known", x.girl(512), 512);
    }

    private static void promise27() {
        ShedTalk x = Due.told(WORDS);
        Due.due("she knows none", x.gets(), 0);
        int[][] known = {{63, 2 + 4 + 8}, {1, 1}, {1 + 2, 2}, {1 + 16, 16}, {2 + 16, 2}, {4 + 32, 4}, {32, 32}, {8, 8},
            {1 + 8 + 32, 1 + 8 + 32}};
        for (int[] k : known) {
            x.girl(k[0]);
            Due.due("she knows " + k[0], x.gets(), k[1]);
            x.signs(1);
        }
        ShedTalk y = Due.told("word 9 0;word 8 1;like 0 1;");
        y.girl(3);
        Due.due("the first is the heaviest", y.gets(), 1);
    }

    // Two words of all WEIGHTS: the heavier is got, of as heavy ones the first, of unlike ones both.
    private static void promise27Pairs() {
        for (int weight = 1; weight <= 9; weight++) {
            for (int other = 1; other <= 9; other++) {
                ShedTalk x = Due.told("word " + weight + " 0;word " + other + " 1;");
                x.girl(3);
                Due.due("unlike, " + weight + " and " + other, x.gets(), 3);
                x.like(0, 1);
                Due.due("alike, " + weight + " and " + other, x.gets(), weight >= other ? 1 : 2);
                x.girl(2);
                Due.due("the other alone", x.gets(), 2);
                x.girl(1);
                Due.due("the one alone", x.gets(), 1);
                x.girl(0);
                Due.due("none", x.gets(), 0);
            }
        }
        ShedTalk y = new ShedTalk();
        Due.due("no WORDS", y.gets(), 0);
        for (int w = 0; w < 10; w++) {
            y.word(1, 0, 9);
        }
        for (int w = 0; w < 10; w++) {
            y.girl(1023 >> w << w);
            Due.due("of as heavy ones the first", y.gets(), 1 << w);
        }
    }

    private static void promise28() {
        ShedTalk x = Due.told(WORDS);
        Due.due("share", x.share(), 1);
        Due.fraction("of none", x, 0, 1);
        x.girl(63);
        Due.due("share", x.share(), 1);
        Due.fraction("5, 4 and 2 of 23", x, 11, 23);
        x.word(1, 5, 1);
        x.girl(16 + 8 + 64);
        x.share();
        Due.fraction("8 of 24", x, 1, 3);
        Due.due("no WORDS", new ShedTalk().share(), -3);
        ShedTalk y = Due.told("word 9 0;");
        y.girl(1);
        y.share();
        Due.fraction("all", y, 1, 1);
        Due.tell(y, "");
        Due.due("no WORDS", y.share(), -3);
        Due.fraction("changing nothing", y, 1, 1);
    }

    private static void promise28EachKnown() {
        ShedTalk x = Due.told("word 1 0;word 2 1;word 4 2;");
        int[] above = {0, 1, 2, 3, 4, 5, 6, 1}, below = {1, 7, 7, 7, 7, 7, 7, 1};
        for (int known = 0; known < 8; known++) {
            x.girl(known);
            Due.due("share", x.share(), 1);
            Due.fraction("known " + known, x, above[known], below[known]);
        }
        ShedTalk y = new ShedTalk();
        for (int w = 0; w < 10; w++) {
            y.word(1, w % 5, 9);
        }
        y.girl(1023);
        y.share();
        Due.fraction("45 of 90", y, 1, 2);
        y.girl(31);
        y.share();
        Due.fraction("45 of 90", y, 1, 2);
    }

    private static void promise29() {
        ShedTalk x = Due.told(WORDS);
        Due.due("none more", x.teach(0), 0);
        Due.due("the heaviest, the least", x.teach(1), 2);
        Due.due("two", x.teach(2), 2 + 4);
        Due.due("three", x.teach(3), 2 + 4 + 8);
        Due.due("four: nothing is won", x.teach(4), 1 + 2 + 4 + 8);
        Due.due("all", x.teach(6), 63);
        Due.due("more than there are", x.teach(7), -2);
        x.girl(2);
        Due.due("not what she knows", x.teach(1), 4);
        Due.due("five more", x.teach(5), 61);
        Due.due("six more are not there", x.teach(6), -2);
        x.girl(1 + 4 + 8);
        // 5 rather than 3: 2 more.
        Due.due("a better one", x.teach(1), 2);
        x.girl(63);
        Due.due("none more", x.teach(0), 0);
        Due.due("there are none", x.teach(1), -2);
        int[] bad = {-1, 11, MIN, MAX};
        for (int b : bad) {
            Due.due("teach(" + b + ")", x.teach(b), -2);
        }
        Due.due("no words", new ShedTalk().teach(0), 0);
        Due.due("no words", new ShedTalk().teach(1), -2);
    }

    private static void promise29Ten() {
        ShedTalk x = new ShedTalk();
        for (int w = 0; w < 10; w++) {
            x.word(2, w, w < 9 ? w + 1 : 9);
        }
        int[] best = {0, 256, 768, 896, 960, 992, 1008, 1016, 1020, 1022, 1023};
        for (int k = 0; k <= 10; k++) {
            Due.due("the heaviest " + k, x.teach(k), best[k]);
        }
        Due.due("eleven", x.teach(11), -2);
        for (int known = 1; known <= 10; known++) {
            x.girl((1 << known) - 1);
            Due.due("all that are left", x.teach(10 - known), 1024 - (1 << known));
            Due.due("one more than are left", x.teach(11 - known), -2);
            Due.due("none", x.teach(0), 0);
        }
        ShedTalk y = new ShedTalk();
        for (int w = 0; w < 10; w++) {
            y.word(1, 0, 9);
        }
        for (int k = 0; k <= 10; k++) {
            Due.due("of like ones the least", y.teach(k), (1 << k) - 1);
        }
        y.girl(1);
        Due.due("nothing is won, the least that she does not know", y.teach(1), 2);
        Due.due("nothing is won", y.teach(9), 1022);
        Due.due("ten are not left", y.teach(10), -2);
    }

    private static void promise30() {
        ShedTalk x = new ShedTalk();
        int[][] bad = {{-1, 0, 0}, {6, 0, 0}, {0, -1, 0}, {0, 100, 0}, {0, 0, -1}, {0, 0, 10}, {MIN, 0, 0}, {MAX, 0, 0},
            {0, MAX, 0}, {0, 0, MIN}};
        for (int[] b : bad) {
            Due.due("band(" + b[0] + ", " + b[1] + ", " + b[2] + ")", x.band(b[0], b[1], b[2]), -2);
        }
        Due.due("nothing is HEARD", x.heard(0, 0), 0);
        Due.due("band(0, 99, 9)", x.band(0, 99, 9), 1);
        Due.due("band(5, 1, 0)", x.band(5, 1, 0), 1);
        Due.due("both", x.heard(0, 0), 33);
        Due.due("band(0, 0, 0)", x.band(0, 0, 0), 1);
        Due.due("one", x.heard(0, 0), 32);
        Due.due("a text leaves them", Due.tell(x, ""), 0);
        Due.due("one", x.heard(0, 0), 32);
    }

    private static void promise30Bounds() {
        for (int band = 0; band < 6; band++) {
            ShedTalk x = new ShedTalk();
            Due.due("nothing at first", x.heard(0, 0), 0);
            Due.due("LEVEL 0", x.band(band, 0, 0), 1);
            Due.due("is not above 0", x.heard(0, 0), 0);
            Due.due("LEVEL 1", x.band(band, 1, 0), 1);
            Due.due("is above 0", x.heard(0, 0), 1 << band);
            Due.due("is not above 1", x.heard(0, 1), 0);
            Due.due("for 60 years", x.heard(60, 0), 1 << band);
            Due.due("LEVEL 99, LOSS 9", x.band(band, 99, 9), 1);
            Due.due("10 years", x.heard(10, 8), 1 << band);
            Due.due("10 years", x.heard(10, 9), 0);
            Due.due("11 years", x.heard(11, 0), 0);
            Due.due("LEVEL 99, LOSS 0", x.band(band, 99, 0), 1);
            Due.due("60 years", x.heard(60, 98), 1 << band);
            Due.due("60 years", x.heard(60, 99), 0);
        }
    }

    // LEVEL 99 less LOSS a year is above NOISE or not, for all that there are.
    private static void promise31Bounds() {
        for (int loss = 0; loss <= 9; loss++) {
            ShedTalk x = new ShedTalk();
            x.band(3, 99, loss);
            for (int years = 0; years <= 60; years++) {
                int left = 99 - loss * years;
                if (left > 0 && left <= 99) {
                    Due.due(left + " above " + (left - 1), x.heard(years, left - 1), 8);
                }
                if (left >= 0) {
                    Due.due(left + " not above itself", x.heard(years, left), 0);
                } else {
                    Due.due(left + " not above 0", x.heard(years, 0), 0);
                }
            }
            Due.due("a year ahead", x.heard(-1, 0), -2);
            Due.due("a 61st", x.heard(61, 0), -2);
            Due.due("less than no NOISE", x.heard(0, -1), -2);
            Due.due("NOISE of 100", x.heard(0, 100), -2);
        }
    }

    private static void promise31() {
        ShedTalk x = new ShedTalk();
        for (int i = 0; i < 6; i++) {
            x.band(i, 50 + i, i);
        }
        Due.due("at first", x.heard(0, 49), 63);
        Due.due("above it, not at it", x.heard(0, 50), 62);
        // Behind 10 years 50, 41, 32, 23, 14, 5.
        Due.due("behind 10 years", x.heard(10, 22), 15);
        Due.due("behind 10 years", x.heard(10, 23), 7);
        // Behind 60 years 50, -9, ...
        Due.due("behind 60 years", x.heard(60, 0), 1);
        Due.due("in much NOISE", x.heard(0, 99), 0);
        int[][] bad = {{-1, 0}, {61, 0}, {0, -1}, {0, 100}, {MIN, 0}, {MAX, 0}, {0, MIN}, {0, MAX}};
        for (int[] b : bad) {
            Due.due("heard(" + b[0] + ", " + b[1] + ")", x.heard(b[0], b[1]), -2);
        }
    }

    private static void promise32() {
        ShedTalk x = new ShedTalk();
        Due.due("nobody", x.anew(0, -1), 0);
        Due.due("nobody", x.anew(1, -1), 0);
        Due.due("nobody", x.anew(0, 0), -10);
        x.weaver(9, 2);
        Due.due("one", x.anew(0, -1), 0);
        Due.due("one faces 0", x.anew(0, 0), 0);
        x.weaver(11, 2);
        Due.due("two", x.anew(0, -1), 1);
        Due.due("the first looks right", x.anew(0, 0), 1);
        Due.due("the other left", x.anew(0, 1), 3);
        Due.due("fewest", x.anew(1, -1), 0);
        Due.due("fewest", x.anew(1, 0), 0);
        Due.due("fewest", x.anew(1, 1), 0);
        Due.due("nobody turned", x.face(0, 2), 2);
        int[][] bad = {{-1, -1}, {2, -1}, {0, -2}, {0, 2}, {1, 2}, {MIN, 0}, {MAX, 0}, {0, MIN}, {0, MAX}};
        for (int[] b : bad) {
            Due.due("anew(" + b[0] + ", " + b[1] + ")", x.anew(b[0], b[1]), -10);
        }
        x.pillar(10);
        Due.due("a PILLAR between", x.anew(0, -1), 0);
        Due.due("a PILLAR between", x.anew(0, 1), 0);
        for (int w = 2; w < 6; w++) {
            x.weaver(56 + w, 0);
        }
        Due.due("six in two groups", x.anew(0, -1), 4);
        x.weaver(63, 0);
        Due.due("seven", x.anew(0, -1), -20);
        Due.due("seven", x.anew(1, 6), -20);
        Due.due("seven, and none such", x.anew(1, 7), -10);
        Due.due("seven, and what is it", x.anew(2, 0), -10);
    }

    // Three in a bend: 0 and 1 in a row, 2 below 0.
    private static void promise32Rows() {
        ShedTalk x = Due.told("weaver 0 0;weaver 2 0;weaver 16 0;");
        // 0 right and 2 up: 0 reads 1 (left); 2 reads 1 aslant, who looks left.
        Due.due("most", x.anew(0, -1), 2);
        Due.due("0 right", x.anew(0, 0), 1);
        Due.due("1 left", x.anew(0, 1), 3);
        Due.due("2 up", x.anew(0, 2), 0);
        x.far(0, 7);
        Due.due("2 is too far from 1", x.anew(0, -1), 1);
        Due.due("0 right", x.anew(0, 0), 1);
        Due.due("1 left", x.anew(0, 1), 3);
        Due.due("2 up, of like ones the first", x.anew(0, 2), 0);
        Due.due("of like ones the first", x.anew(1, 2), 0);
        // Three above look down on three below.
        ShedTalk y = Due.told("far 98 1;weaver 0 0;weaver 7 0;weaver 56 0;weaver 63 0;weaver 27 0;weaver 36 0;");
        Due.due("most of six", y.anew(0, -1), 9);
        Due.due("the last of six looks up", y.anew(0, 5), 0);
        ShedTalk z = Due.told("far 98 1;weaver 56 3;weaver 0 3;");
        Due.due("the first stands below", z.anew(0, -1), 1);
        Due.due("and looks up", z.anew(0, 0), 0);
        Due.due("the other down", z.anew(0, 1), 2);
        int pairs = 0;
        for (int w = 0; w < 6; w++) {
            y.face(w, y.anew(0, w));
        }
        for (int a = 0; a < 6; a++) {
            for (int b = 0; b < a; b++) {
                pairs += y.sees(a, b, 0);
            }
        }
        Due.due("as the looms are turned", pairs, 9);
    }

    // From nobody to six in a row: each who looks right and each right of her who looks left; the first way has more of
    // those who look right, if they are odd.
    private static void promise32Six() {
        StringBuilder text = new StringBuilder("far 98 98;");
        for (int n = 0; n <= 6; n++) {
            ShedTalk x = Due.told(text.toString());
            long before = x.digest();
            Due.due("most of " + n, x.anew(0, -1), n * n / 4);
            Due.due("fewest of " + n, x.anew(1, -1), 0);
            for (int w = 0; w < n; w++) {
                Due.due("most, " + w + " of " + n, x.anew(0, w), n == 1 ? 0 : 2 * w < n ? 1 : 3);
                Due.due("fewest, " + w + " of " + n, x.anew(1, w), 0);
            }
            Due.due("one who is not there", x.anew(0, n), -10);
            Due.due("nobody is turned by it", x.digest(), before);
            text.append("weaver ").append(24 + n).append(" 2;");
        }
        ShedTalk seven = Due.told(text.toString());
        Due.due("seven", seven.anew(0, -1), -20);
        Due.due("the last of seven", seven.anew(1, 6), -20);
        Due.due("an eighth of seven", seven.anew(1, 7), -10);
        // At the bound of MOUTHS and one below it.
        ShedTalk y = Due.told("far 5 98;weaver 0 0;weaver 10 0;");
        Due.due("5 is 5 at most", y.anew(0, -1), 1);
        Due.due("0 right", y.anew(0, 0), 1);
        Due.due("1 up", y.anew(0, 1), 0);
        y.far(0, 4);
        Due.due("5 is above 4", y.anew(0, -1), 0);
        Due.due("of like ones the first", y.anew(0, 0), 0);
    }

    // Asked again when less is seen than before, and of one who is too far for all.
    private static void promise32Again() {
        ShedTalk x = Due.told("far 98 98;weaver 24 2;weaver 25 2;weaver 26 2;weaver 27 2;weaver 28 2;weaver 29 2;");
        Due.due("each half the other one", x.anew(0, -1), 9);
        x.far(0, 4);
        Due.due("two away at most: right, right, left, right, left, left", x.anew(0, -1), 4);
        x.far(0, 1);
        Due.due("one away at most: three couples", x.anew(0, -1), 3);
        for (int w = 0; w < 6; w++) {
            Due.due("each other", x.anew(0, w), w % 2 == 0 ? 1 : 3);
        }
        x.far(0, 98);
        Due.due("as before", x.anew(0, -1), 9);
        int[] besides = {0, 17, 2};
        for (int place : besides) {
            // 1 stands in (0, 1); 2 is left of her, below her, right of her.
            ShedTalk y = Due.told("far 4 98;weaver 63 2;weaver 1 0;weaver " + place + " 0;");
            Due.due("0 is too far", y.anew(0, -1), 1);
            Due.due("so she looks up", y.anew(0, 0), 0);
            Due.due("1 looks to 2", y.anew(0, 1), place == 0 ? 3 : place == 17 ? 2 : 1);
            Due.due("2 looks to 1", y.anew(0, 2), place == 0 ? 1 : place == 17 ? 0 : 3);
        }
    }
}
