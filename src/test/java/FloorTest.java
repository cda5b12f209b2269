/** Promises 1 to 8: a new object, and the floor. */
public final class FloorTest {
    private static final int MIN = Integer.MIN_VALUE, MAX = Integer.MAX_VALUE;

    public static void main(String[] args) {
        promise1();
        promise2();
        promise3();
        promise4();
        promise5();
        promise6();
        promise7Reads();
        promise7Watches();
        promise8();
        Due.end();
    }

    private static void promise1() {
        ShedTalk x = new ShedTalk();
        for (int what = 0; what <= 5; what++) {
            Due.due("count of a new object", x.count(what), 0);
        }
        Due.due("MOUTHS at first", x.far(0, 1), 18);
        Due.due("HANDS at first", x.far(1, 1), 50);
        Due.due("CLEAR of HEARD at first", x.plain(1), 20);
        Due.due("THE GIRL at first", x.girl(0), 0);
        Due.due("bands at first", x.heard(0, 0), 0);
        Due.due("source of nobody", x.source(), 0);
        Due.fraction("THE FRACTION at first", x, 0, 1);
        Due.due("no image at first", x.from(0), -3);
        Due.due("no image at first", x.from(1), -3);
        Due.due("no LIPS alike at first", x.like(0, 5), 1);
        x.weaver(0, 2);
        Due.due("an object apart", new ShedTalk().count(1), 0);
    }

    private static void promise2() {
        ShedTalk x = new ShedTalk();
        Due.due("pillar(0)", x.pillar(0), 1);
        Due.due("pillar(63)", x.pillar(63), 1);
        Due.due("pillar(0) again", x.pillar(0), -3);
        Due.due("pillar(63) again", x.pillar(63), -3);
        int[] bad = {-1, 64, MIN, MAX};
        for (int p : bad) {
            Due.due("pillar(" + p + ")", x.pillar(p), -2);
        }
        x.weaver(32, 0);
        Due.due("pillar where a WEAVER is", x.pillar(32), -2);
        Due.due("pillars", x.count(0), 2);
        Due.due("pillar(31)", x.pillar(31), 1);
        Due.due("pillars", x.count(0), 3);
    }

    private static void promise3() {
        ShedTalk x = new ShedTalk();
        x.pillar(9);
        int[][] bad = {{-1, 0}, {64, 0}, {0, -1}, {0, 4}, {9, 0}, {MIN, 0}, {MAX, 0}, {0, MIN}, {0, MAX}};
        for (int[] b : bad) {
            Due.due("weaver(" + b[0] + ", " + b[1] + ")", x.weaver(b[0], b[1]), -2);
        }
        for (int w = 0; w < 8; w++) {
            Due.due("weaver " + w, x.weaver(w, w % 4), w);
            Due.due("weaver where one is", x.weaver(w, 0), -2);
        }
        Due.due("a ninth", x.weaver(20, 0), -4);
        Due.due("a ninth where one is", x.weaver(7, 0), -2);
        Due.due("a ninth with no such face", x.weaver(20, 4), -2);
        Due.due("a ninth on a PILLAR", x.weaver(9, 0), -2);
        Due.due("weavers", x.count(1), 8);
    }

    private static void promise4() {
        ShedTalk x = Due.told("weaver 9 1;weaver 12 3;");
        Due.due("sees", x.sees(0, 1, 0), 1);
        Due.due("face(0, 3)", x.face(0, 3), 1);
        Due.due("face(0, 0)", x.face(0, 0), 3);
        Due.due("turned away", x.sees(0, 1, 0), 0);
        Due.due("face(0, 1)", x.face(0, 1), 0);
        Due.due("turned back", x.sees(0, 1, 0), 1);
        int[][] bad = {{-1, 0}, {2, 0}, {0, -1}, {0, 4}, {MIN, 1}, {MAX, 1}, {1, MIN}, {1, MAX}};
        for (int[] b : bad) {
            Due.due("face(" + b[0] + ", " + b[1] + ")", x.face(b[0], b[1]), -2);
        }
        Due.due("the other as she was", x.face(1, 3), 3);
    }

    private static void promise5() {
        ShedTalk x = Due.told("weaver 9 1;weaver 12 3;");
        Due.due("free(0, 0, 11, 11)", x.free(0, 0, 11, 11), 1);
        Due.due("told in 11", x.knows(0, 1, 0, -1), 12);
        Due.due("free(0, 0, 0, 0)", x.free(0, 0, 0, 0), 1);
        Due.due("told in 0 alone", x.knows(0, 1, 0, -1), 1);
        Due.due("free(1, 1, 2, 4)", x.free(1, 1, 2, 4), 1);
        Due.due("never both", x.knows(0, 1, 0, -1), -1);
        Due.due("free(0, 0, 4, 5)", x.free(0, 0, 4, 5), 1);
        Due.due("both in 4", x.knows(0, 1, 0, -1), 5);
        Due.due("free(0, 1, 7, 7) is of her LOOK", x.free(0, 1, 7, 7), 1);
        Due.due("both in 4", x.knows(0, 1, 0, -1), 5);
        Due.due("back in 7", x.knows(1, 0, 0, -1), 8);
        int[][] bad = {{-1, 0, 0, 1}, {2, 0, 0, 1}, {0, -1, 0, 1}, {0, 2, 0, 1}, {0, 0, -1, 1}, {0, 0, 0, 12},
            {0, 0, 3, 2}, {0, 0, 12, 12}, {0, 1, MIN, MAX}, {MAX, 0, 0, 1}};
        for (int[] b : bad) {
            Due.due("free(" + b[0] + ", " + b[1] + ", " + b[2] + ", " + b[3] + ")", x.free(b[0], b[1], b[2], b[3]), -2);
        }
        Due.due("as it was", x.knows(0, 1, 0, -1), 5);
    }

    private static void promise6() {
        ShedTalk x = Due.told("weaver 0 1;weaver 7 3;");
        Due.due("49 is too far", x.sees(0, 1, 0), 0);
        Due.due("hands at 49", x.sees(0, 1, 1), 1);
        Due.due("far(0, 49)", x.far(0, 49), 18);
        Due.due("mouths at 49", x.sees(0, 1, 0), 1);
        Due.due("far(0, 48)", x.far(0, 48), 49);
        Due.due("mouths below 49", x.sees(0, 1, 0), 0);
        Due.due("far(1, 49)", x.far(1, 49), 50);
        Due.due("hands at 49", x.sees(0, 1, 1), 1);
        Due.due("far(1, 48)", x.far(1, 48), 49);
        Due.due("hands below 49", x.sees(0, 1, 1), 0);
        Due.due("far(1, 1)", x.far(1, 1), 48);
        Due.due("far(1, 98)", x.far(1, 98), 1);
        int[][] bad = {{-1, 5}, {2, 5}, {0, 0}, {0, 99}, {1, 0}, {1, 99}, {0, MIN}, {1, MAX}, {MIN, 5}};
        for (int[] b : bad) {
            Due.due("far(" + b[0] + ", " + b[1] + ")", x.far(b[0], b[1]), -2);
        }
        Due.due("far as it was", x.far(0, 1), 48);
    }

    private static void promise7Reads() {
        // One in the middle (27), others around her; each looks at her from where she stands.
        ShedTalk x = Due.told("weaver 27 1;weaver 29 3;weaver 11 2;weaver 36 0;weaver 26 1;");
        Due.due("face to face", x.sees(0, 1, 0), 1);
        Due.due("and back", x.sees(1, 0, 0), 1);
        Due.due("beside: by nothing to where she faces", x.sees(0, 2, 0), 0);
        Due.due("she is seen, but does not see", x.sees(2, 0, 0), 0);
        Due.due("aslant", x.sees(0, 3, 0), 1);
        Due.due("behind", x.sees(0, 4, 0), 0);
        Due.due("from behind", x.sees(4, 0, 0), 0);
        int[][] bad = {{0, 0, 0}, {0, 0, 1}, {-1, 0, 0}, {5, 0, 0}, {0, -1, 0}, {0, 5, 0}, {0, 1, -1}, {0, 1, 2},
            {MIN, MAX, 0}, {0, 1, MAX}};
        for (int[] b : bad) {
            Due.due("sees(" + b[0] + ", " + b[1] + ", " + b[2] + ")", x.sees(b[0], b[1], b[2]), -2);
        }
        for (int face = 0; face < 4; face++) {
            ShedTalk y = Due.told("weaver 27 " + face + ";weaver 19 2;weaver 28 3;weaver 35 0;weaver 26 1;");
            for (int other = 1; other <= 4; other++) {
                Due.due("only where she faces " + face, y.sees(0, other, 0), other == face + 1 ? 1 : 0);
                Due.due("only where she faces " + face, y.sees(other, 0, 0), other == face + 1 ? 1 : 0);
            }
        }
    }

    private static void promise7Watches() {
        ShedTalk x = Due.told("weaver 27 1;weaver 29 3;weaver 11 2;weaver 36 0;weaver 26 1;");
        Due.due("from beside her", x.sees(2, 0, 1), 1);
        Due.due("she does not see who is beside", x.sees(0, 2, 1), 0);
        Due.due("from behind her", x.sees(4, 0, 1), 0);
        Due.due("face to face", x.sees(1, 0, 1), 1);
        Due.due("from ahead aslant", x.sees(3, 0, 1), 1);
        Due.due("far(1, 1)", x.far(1, 1), 50);
        Due.due("too far", x.sees(1, 0, 1), 0);
        Due.due("mouths are another matter", x.sees(1, 0, 0), 1);
        ShedTalk y = Due.told("weaver 0 1;weaver 2 3;pillar 1;");
        Due.due("past a PILLAR", y.sees(0, 1, 1), 0);
        Due.due("past a PILLAR", y.sees(0, 1, 0), 0);
    }

    private static void promise8() {
        Due.due("straight through", clearPast(0, 2, 1), 0);
        Due.due("past the end", clearPast(0, 2, 3), 1);
        Due.due("ahead of the beginning", clearPast(1, 3, 0), 1);
        Due.due("beside by a whole one", clearPast(0, 2, 9), 1);
        Due.due("aslant past by more than a half", clearPast(0, 9, 1), 1);
        // From (0, 0) to (1, 2) the middles of (0, 1), (1, 1) are away by the root of a fifth: nearer than a half.
        Due.due("a knight's way", clearPast(0, 10, 1), 0);
        Due.due("a knight's way", clearPast(10, 0, 9), 0);
        // From (0, 0) to (2, 4): (1, 1) and (1, 3) as near as that, (0, 1) too, (0, 2) is not.
        Due.due("a long knight's way", clearPast(0, 20, 9), 0);
        Due.due("a long knight's way", clearPast(0, 20, 1), 0);
        Due.due("a long knight's way", clearPast(0, 20, 2), 1);
        // From (0, 0) to (1, 7): (0, 3) is away by 3, (0, 4) by 4, of the root of 50.
        Due.due("a flat way", clearPast(0, 15, 3), 0);
        Due.due("a flat way", clearPast(0, 15, 4), 1);
        Due.due("a flat way", clearPast(0, 15, 12), 0);
        // The nearest point is the end itself.
        Due.due("behind the end", clearPast(0, 9, 18), 1);
        ShedTalk x = Due.told("weaver 0 0;weaver 2 0;");
        Due.due("whoever faces where", x.clear(0, 1), 1);
        int[][] bad = {{0, 0}, {-1, 0}, {0, 2}, {2, 0}, {MIN, 0}, {0, MAX}};
        for (int[] b : bad) {
            Due.due("clear(" + b[0] + ", " + b[1] + ")", x.clear(b[0], b[1]), -2);
        }
        x.weaver(1, 0);
        Due.due("a WEAVER is no PILLAR", x.clear(0, 1), 1);
        x.pillar(63);
        Due.due("a PILLAR elsewhere", x.clear(0, 1), 1);
    }

    private static int clearPast(int from, int to, int pillar) {
        ShedTalk x = Due.told("weaver " + from + " 0;weaver " + to + " 0;pillar " + pillar + ";");
        Due.due("the same back", x.clear(1, 0), x.clear(0, 1));
        return x.clear(0, 1);
    }
}
