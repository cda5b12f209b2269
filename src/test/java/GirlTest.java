/** Promises 26 to 32: the girl, the deaf, looms anew. */
public final class GirlTest {
    private static final int MIN = Integer.MIN_VALUE, MAX = Integer.MAX_VALUE;
    // Words 0, 1, 4 are alike, 2 and 5 are, 3 is like none.
    private static final String WORDS = "word 3 0;word 5 1;word 4 2 2;word 2 3;word 5 0;word 4 2 2;like 0 1;";

    public static void main(String[] args) {
        promise26();
        promise27();
        promise28();
        promise29();
        promise30();
        promise31();
        promise32();
        promise32Rows();
        Due.end();
    }

    private static void promise26() {
        ShedTalk x = Due.told(WORDS);
        Due.due("girl(63)", x.girl(63), 0);
        Due.due("girl(5)", x.girl(5), 63);
        int[] bad = {-1, 64, MIN, MAX};
        for (int b : bad) {
            Due.due("girl(" + b + ")", x.girl(b), -2);
        }
        Due.due("girl(0)", x.girl(0), 5);
        Due.due("girl(0)", x.girl(0), 0);
        Due.due("no words", new ShedTalk().girl(1), -2);
        Due.due("no words", new ShedTalk().girl(0), 0);
    }

    private static void promise27() {
        ShedTalk x = Due.told(WORDS);
        Due.due("she knows none", x.gets(), 0);
        int[][] known = {{63, 2 + 4 + 8}, {1, 1}, {1 + 2, 2}, {1 + 16, 16}, {2 + 16, 2}, {4 + 32, 4}, {32, 32}, {8, 8},
            {1 + 8 + 32, 1 + 8 + 32}};
        for (int[] k : known) {
            x.girl(k[0]);
            Due.due("she knows " + k[0], x.gets(), k[1]);
            x.signs(1);
        }
        ShedTalk y = Due.told("word 9 0;word 8 1;like 0 1;");
        y.girl(3);
        Due.due("the first is the heaviest", y.gets(), 1);
    }

    private static void promise28() {
        ShedTalk x = Due.told(WORDS);
        Due.due("share", x.share(), 1);
        Due.fraction("of none", x, 0, 1);
        x.girl(63);
        Due.due("share", x.share(), 1);
        Due.fraction("5, 4 and 2 of 23", x, 11, 23);
        x.word(1, 5, 1);
        x.girl(16 + 8 + 64);
        x.share();
        Due.fraction("8 of 24", x, 1, 3);
        Due.due("no WORDS", new ShedTalk().share(), -3);
        ShedTalk y = Due.told("word 9 0;");
        y.girl(1);
        y.share();
        Due.fraction("all", y, 1, 1);
        Due.tell(y, "");
        Due.due("no WORDS", y.share(), -3);
        Due.fraction("changing nothing", y, 1, 1);
    }

    private static void promise29() {
        ShedTalk x = Due.told(WORDS);
        Due.due("none more", x.teach(0), 0);
        Due.due("the heaviest, the least", x.teach(1), 2);
        Due.due("two", x.teach(2), 2 + 4);
        Due.due("three", x.teach(3), 2 + 4 + 8);
        Due.due("four: nothing is won", x.teach(4), 1 + 2 + 4 + 8);
        Due.due("all", x.teach(6), 63);
        Due.due("more than there are", x.teach(7), -2);
        x.girl(2);
        Due.due("not what she knows", x.teach(1), 4);
        Due.due("five more", x.teach(5), 61);
        Due.due("six more are not there", x.teach(6), -2);
        x.girl(1 + 4 + 8);
        // 5 rather than 3: 2 more.
        Due.due("a better one", x.teach(1), 2);
        x.girl(63);
        Due.due("none more", x.teach(0), 0);
        Due.due("there are none", x.teach(1), -2);
        int[] bad = {-1, 11, MIN, MAX};
        for (int b : bad) {
            Due.due("teach(" + b + ")", x.teach(b), -2);
        }
        Due.due("no words", new ShedTalk().teach(0), 0);
        Due.due("no words", new ShedTalk().teach(1), -2);
    }

    private static void promise30() {
        ShedTalk x = new ShedTalk();
        int[][] bad = {{-1, 0, 0}, {6, 0, 0}, {0, -1, 0}, {0, 100, 0}, {0, 0, -1}, {0, 0, 10}, {MIN, 0, 0}, {MAX, 0, 0},
            {0, MAX, 0}, {0, 0, MIN}};
        for (int[] b : bad) {
            Due.due("band(" + b[0] + ", " + b[1] + ", " + b[2] + ")", x.band(b[0], b[1], b[2]), -2);
        }
        Due.due("nothing is HEARD", x.heard(0, 0), 0);
        Due.due("band(0, 99, 9)", x.band(0, 99, 9), 1);
        Due.due("band(5, 1, 0)", x.band(5, 1, 0), 1);
        Due.due("both", x.heard(0, 0), 33);
        Due.due("band(0, 0, 0)", x.band(0, 0, 0), 1);
        Due.due("one", x.heard(0, 0), 32);
        Due.due("a text leaves them", Due.tell(x, ""), 0);
        Due.due("one", x.heard(0, 0), 32);
    }

    private static void promise31() {
        ShedTalk x = new ShedTalk();
        for (int i = 0; i < 6; i++) {
            x.band(i, 50 + i, i);
        }
        Due.due("at first", x.heard(0, 49), 63);
        Due.due("above it, not at it", x.heard(0, 50), 62);
        // Behind 10 years 50, 41, 32, 23, 14, 5.
        Due.due("behind 10 years", x.heard(10, 22), 15);
        Due.due("behind 10 years", x.heard(10, 23), 7);
        // Behind 60 years 50, -9, ...
        Due.due("behind 60 years", x.heard(60, 0), 1);
        Due.due("in much NOISE", x.heard(0, 99), 0);
        int[][] bad = {{-1, 0}, {61, 0}, {0, -1}, {0, 100}, {MIN, 0}, {MAX, 0}, {0, MIN}, {0, MAX}};
        for (int[] b : bad) {
            Due.due("heard(" + b[0] + ", " + b[1] + ")", x.heard(b[0], b[1]), -2);
        }
    }

    private static void promise32() {
        ShedTalk x = new ShedTalk();
        Due.due("nobody", x.anew(0, -1), 0);
        Due.due("nobody", x.anew(1, -1), 0);
        Due.due("nobody", x.anew(0, 0), -10);
        x.weaver(9, 2);
        Due.due("one", x.anew(0, -1), 0);
        Due.due("one faces 0", x.anew(0, 0), 0);
        x.weaver(11, 2);
        Due.due("two", x.anew(0, -1), 1);
        Due.due("the first looks right", x.anew(0, 0), 1);
        Due.due("the other left", x.anew(0, 1), 3);
        Due.due("fewest", x.anew(1, -1), 0);
        Due.due("fewest", x.anew(1, 0), 0);
        Due.due("fewest", x.anew(1, 1), 0);
        Due.due("nobody turned", x.face(0, 2), 2);
        int[][] bad = {{-1, -1}, {2, -1}, {0, -2}, {0, 2}, {1, 2}, {MIN, 0}, {MAX, 0}, {0, MIN}, {0, MAX}};
        for (int[] b : bad) {
            Due.due("anew(" + b[0] + ", " + b[1] + ")", x.anew(b[0], b[1]), -10);
        }
        x.pillar(10);
        Due.due("a PILLAR between", x.anew(0, -1), 0);
        Due.due("a PILLAR between", x.anew(0, 1), 0);
        for (int w = 2; w < 6; w++) {
            x.weaver(56 + w, 0);
        }
        Due.due("six in two groups", x.anew(0, -1), 4);
        x.weaver(63, 0);
        Due.due("seven", x.anew(0, -1), -20);
        Due.due("seven", x.anew(1, 6), -20);
        Due.due("seven, and none such", x.anew(1, 7), -10);
        Due.due("seven, and what is it", x.anew(2, 0), -10);
    }

    // Three in a bend: 0 and 1 in a row, 2 below 0.
    private static void promise32Rows() {
        ShedTalk x = Due.told("weaver 0 0;weaver 2 0;weaver 16 0;");
        // 0 right and 2 up: 0 reads 1 (left); 2 reads 1 aslant, who looks left.
        Due.due("most", x.anew(0, -1), 2);
        Due.due("0 right", x.anew(0, 0), 1);
        Due.due("1 left", x.anew(0, 1), 3);
        Due.due("2 up", x.anew(0, 2), 0);
        x.far(0, 7);
        Due.due("2 is too far from 1", x.anew(0, -1), 1);
        Due.due("0 right", x.anew(0, 0), 1);
        Due.due("1 left", x.anew(0, 1), 3);
        Due.due("2 up, of like ones the first", x.anew(0, 2), 0);
        Due.due("of like ones the first", x.anew(1, 2), 0);
        // Three above look down on three below.
        ShedTalk y = Due.told("far 98 1;weaver 0 0;weaver 7 0;weaver 56 0;weaver 63 0;weaver 27 0;weaver 36 0;");
        Due.due("most of six", y.anew(0, -1), 9);
        Due.due("the last of six looks up", y.anew(0, 5), 0);
        ShedTalk z = Due.told("far 98 1;weaver 56 3;weaver 0 3;");
        Due.due("the first stands below", z.anew(0, -1), 1);
        Due.due("and looks up", z.anew(0, 0), 0);
        Due.due("the other down", z.anew(0, 1), 2);
        int pairs = 0;
        for (int w = 0; w < 6; w++) {
            y.face(w, y.anew(0, w));
        }
        for (int a = 0; a < 6; a++) {
            for (int b = 0; b < a; b++) {
                pairs += y.sees(a, b, 0);
            }
        }
        Due.due("as the looms are turned", pairs, 9);
    }
}
