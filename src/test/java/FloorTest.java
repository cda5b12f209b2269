/** Promises 1 to 8: a new object, and the floor. */
public final class FloorTest {
    private static final int MIN = Integer.MIN_VALUE, MAX = Integer.MAX_VALUE;

    public static void main(String[] args) {
        promise1();
        promise2();
        promise2FullFloor();
        promise3();
        promise3RowsAndColumns();
        promise4();
        promise5();
        promise5EachSecond();
        promise6();
        promise6Bounds();
        promise7Reads();
        promise7Watches();
        promise7FrontAndBehind();
        promise8();
        promise8EveryPillar();
        Due.end();
    }

    private static void promise1() {
        ShedTalk x = new ShedTalk();
        for (int what = 0; what <= 5; what++) {
            Due.due("count of a new object", x.count(what), 0);
        }
        Due.due("MOUTHS at first", x.far(0, 1), 18);
        Due.due("HANDS at first", x.far(1, 1), 50);
        Due.due("CLEAR of HEARD at first", x.plain(1), 20);
        Due.due("THE GIRL at first", x.girl(0), 0);
        Due.due("bands at first", x.heard(0, 0), 0);
        Due.due("source of nobody", x.source(), 0);
        Due.fraction("THE FRACTION at first", x, 0, 1);
        Due.due("no image at first", x.from(0), -3);
        Due.due("no image at first", x.from(1), -3);
        Due.due("no LIPS alike at first", x.like(0, 5), 1);
        x.weaver(0, 2);
        Due.due("an object apart", new ShedTalk().count(1), 0);
    }

    private static void promise2() {
        ShedTalk x = new ShedTalk();
        Due.due("pillar(0)", x.pillar(0), 1);
        Due.due("pillar(63)", x.pillar(63), 1);
        Due.due("pillar(0) again", x.pillar(0), -3);
        Due.due("pillar(63) again", x.pillar(63), -3);
        int[] bad = {-1, 64, MIN, MAX};
        for (int p : bad) {
            Due.due("pillar(" + p + ")", x.pillar(p), -2);
        }
        x.weaver(32, 0);
        Due.due("pillar where a WEAVER is", x.pillar(32), -2);
        Due.due("pillars", x.count(0), 2);
        Due.due("pillar(31)", x.pillar(31), 1);
        Due.due("pillars", x.count(0), 3);
    }

    private static void promise2FullFloor() {
        ShedTalk x = new ShedTalk();
        for (int p = 0; p < 64; p++) {
            Due.due("pillar(" + p + ")", x.pillar(p), 1);
            Due.due("pillars", x.count(0), p + 1);
        }
        for (int p = 0; p < 64; p++) {
            Due.due("pillar(" + p + ") again", x.pillar(p), -3);
            Due.due("weaver on it", x.weaver(p, 0), -2);
        }
        Due.due("pillar(64) of a full floor", x.pillar(64), -2);
        Due.due("pillars", x.count(0), 64);
        Due.due("weavers", x.count(1), 0);
        ShedTalk y = new ShedTalk();
        y.weaver(63, 0);
        for (int p = 0; p < 63; p++) {
            y.pillar(p);
        }
        Due.due("all but where she is", y.count(0), 63);
        Due.due("where she is", y.pillar(63), -2);
        Due.due("no other one", y.weaver(62, 0), -2);
    }

    private static void promise3() {
        ShedTalk x = new ShedTalk();
        x.pillar(9);
        int[][] bad = {{-1, 0}, {64, 0}, {0, -1}, {0, 4}, {9, 0}, {MIN, 0}, {MAX, 0}, {0, MIN}, {0, MAX}};
        for (int[] b : bad) {
            Due.due("weaver(" + b[0] + ", " + b[1] + ")", x.weaver(b[0], b[1]), -2);
        }
        for (int w = 0; w < 8; w++) {
            Due.due("weaver " + w, x.weaver(w, w % 4), w);
            Due.due("weaver where one is", x.weaver(w, 0), -2);
        }
        Due.due("a ninth", x.weaver(20, 0), -4);
        Due.due("a ninth where one is", x.weaver(7, 0), -2);
        Due.due("a ninth with no such face", x.weaver(20, 4), -2);
        Due.due("a ninth on a PILLAR", x.weaver(9, 0), -2);
        Due.due("weavers", x.count(1), 8);
    }

    private static void promise3RowsAndColumns() {
        // The end of a row is not beside the beginning of the next: 7 is (0, 7), 8 is (1, 0).
        Due.due("right of 7 is nothing", readsFacing(7, 1, 8, 3), 0);
        Due.due("8 is left of 7", readsFacing(7, 3, 8, 1), 1);
        Due.due("8 is below 7", readsFacing(7, 2, 8, 0), 1);
        Due.due("8 is below 0", readsFacing(0, 2, 8, 0), 1);
        Due.due("up is to lesser rows", readsFacing(0, 0, 8, 2), 0);
        Due.due("1 is right of 0", readsFacing(0, 1, 1, 3), 1);
        Due.due("left is to lesser columns", readsFacing(0, 3, 1, 1), 0);
        Due.due("corner to corner", readsFacing(0, 1, 63, 0), 1);
        Due.due("corner to corner", readsFacing(0, 2, 63, 3), 1);
        Due.due("corner to corner", readsFacing(7, 3, 56, 0), 1);
        Due.due("corner to corner", readsFacing(7, 1, 56, 0), 0);
        ShedTalk x = new ShedTalk();
        for (int w = 0; w < 4; w++) {
            Due.due("each face", x.weaver(63 - w, w), w);
            Due.due("as she came", x.face(w, w), w);
        }
    }

    private static int readsFacing(int place, int face, int other, int otherFace) {
        ShedTalk x = Due.told("far 98 98;weaver " + place + " " + face + ";weaver " + other + " " + otherFace + ";");
        Due.due("and back", x.sees(1, 0, 0), x.sees(0, 1, 0));
        return x.sees(0, 1, 0);
    }

    private static void promise4() {
        ShedTalk x = Due.told("weaver 9 1;weaver 12 3;");
        Due.due("sees", x.sees(0, 1, 0), 1);
        Due.due("face(0, 3)", x.face(0, 3), 1);
        Due.due("face(0, 0)", x.face(0, 0), 3);
        Due.due("turned away", x.sees(0, 1, 0), 0);
        Due.due("face(0, 1)", x.face(0, 1), 0);
        Due.due("turned back", x.sees(0, 1, 0), 1);
        int[][] bad = {{-1, 0}, {2, 0}, {0, -1}, {0, 4}, {MIN, 1}, {MAX, 1}, {1, MIN}, {1, MAX}};
        for (int[] b : bad) {
            Due.due("face(" + b[0] + ", " + b[1] + ")", x.face(b[0], b[1]), -2);
        }
        Due.due("the other as she was", x.face(1, 3), 3);
    }

    private static void promise5() {
        ShedTalk x = Due.told("weaver 9 1;weaver 12 3;");
        Due.due("free(0, 0, 11, 11)", x.free(0, 0, 11, 11), 1);
        Due.due("told in 11", x.knows(0, 1, 0, -1), 12);
        Due.due("free(0, 0, 0, 0)", x.free(0, 0, 0, 0), 1);
        Due.due("told in 0 alone", x.knows(0, 1, 0, -1), 1);
        Due.due("free(1, 1, 2, 4)", x.free(1, 1, 2, 4), 1);
        Due.due("never both", x.knows(0, 1, 0, -1), -1);
        Due.due("free(0, 0, 4, 5)", x.free(0, 0, 4, 5), 1);
        Due.due("both in 4", x.knows(0, 1, 0, -1), 5);
        Due.due("free(0, 1, 7, 7) is of her LOOK", x.free(0, 1, 7, 7), 1);
        Due.due("both in 4", x.knows(0, 1, 0, -1), 5);
        Due.due("back in 7", x.knows(1, 0, 0, -1), 8);
        int[][] bad = {{-1, 0, 0, 1}, {2, 0, 0, 1}, {0, -1, 0, 1}, {0, 2, 0, 1}, {0, 0, -1, 1}, {0, 0, 0, 12},
            {0, 0, 3, 2}, {0, 0, 12, 12}, {0, 1, MIN, MAX}, {MAX, 0, 0, 1}};
        for (int[] b : bad) {
            Due.due("free(" + b[0] + ", " + b[1] + ", " + b[2] + ", " + b[3] + ")", x.free(b[0], b[1], b[2], b[3]), -2);
        }
        Due.due("as it was", x.knows(0, 1, 0, -1), 5);
    }

    private static void promise5EachSecond() {
        for (int t = 0; t < 12; t++) {
            ShedTalk x = Due.told("weaver 9 1;weaver 12 3;");
            x.free(0, 0, t, t);
            Due.due("TELL in " + t + " alone, LOOK in all at first", x.knows(0, 1, 0, -1), t + 1);
            Due.due("TELL in all at first", x.knows(1, 0, 0, -1), 1);
            x.free(1, 1, t, t);
            Due.due("LOOK in " + t + " too", x.knows(0, 1, 0, -1), t + 1);
            x.free(0, 0, 0, 11);
            Due.due("TELL in all again", x.knows(0, 1, 0, -1), t + 1);
            Due.due("her LOOK is not her TELL", x.knows(1, 0, 0, -1), 1);
            if (t > 0) {
                x.free(0, 0, 0, t - 1);
                Due.due("up to the one ahead", x.knows(0, 1, 0, -1), -1);
            }
            if (t < 11) {
                x.free(0, 0, t + 1, 11);
                Due.due("from the next one on", x.knows(0, 1, 0, -1), -1);
            }
        }
    }

    private static void promise6() {
        ShedTalk x = Due.told("weaver 0 1;weaver 7 3;");
        Due.due("49 is too far", x.sees(0, 1, 0), 0);
        Due.due("hands at 49", x.sees(0, 1, 1), 1);
        Due.due("far(0, 49)", x.far(0, 49), 18);
        Due.due("mouths at 49", x.sees(0, 1, 0), 1);
        Due.due("far(0, 48)", x.far(0, 48), 49);
        Due.due("mouths below 49", x.sees(0, 1, 0), 0);
        Due.due("far(1, 49)", x.far(1, 49), 50);
        Due.due("hands at 49", x.sees(0, 1, 1), 1);
        Due.due("far(1, 48)", x.far(1, 48), 49);
        Due.due("hands below 49", x.sees(0, 1, 1), 0);
        Due.due("far(1, 1)", x.far(1, 1), 48);
        Due.due("far(1, 98)", x.far(1, 98), 1);
        int[][] bad = {{-1, 5}, {2, 5}, {0, 0}, {0, 99}, {1, 0}, {1, 99}, {0, MIN}, {1, MAX}, {MIN, 5}};
        for (int[] b : bad) {
            Due.due("far(" + b[0] + ", " + b[1] + ")", x.far(b[0], b[1]), -2);
        }
        Due.due("far as it was", x.far(0, 1), 48);
    }

    private static void promise6Bounds() {
        // At first 18 of MOUTHS, 50 of HANDS: 3 by 3 and 1 by 7; the next squares there are 20 and 52.
        Due.due("18 is 18 at most", firstSees(0, 27, 0), 1);
        Due.due("20 is not", firstSees(0, 34, 0), 0);
        Due.due("50 is 50 at most", firstSees(0, 57, 1), 1);
        Due.due("50 is 50 at most", firstSees(0, 45, 1), 1);
        Due.due("52 is not", firstSees(0, 52, 1), 0);
        int[][] squares = {{1, 8}, {2, 9}, {4, 16}, {98, 63}};
        for (int[] s : squares) {
            ShedTalk x = Due.told("weaver 0 2;weaver " + s[1] + " 0;");
            for (int what = 0; what <= 1; what++) {
                x.far(what, s[0]);
                Due.due("FAR " + s[0] + " is far enough", x.sees(0, 1, what), 1);
                if (s[0] > 1) {
                    x.far(what, s[0] - 1);
                    Due.due("one less is not", x.sees(0, 1, what), 0);
                }
            }
        }
    }

    private static int firstSees(int from, int to, int what) {
        ShedTalk x = new ShedTalk();
        x.weaver(from, 2);
        x.weaver(to, 0);
        return x.sees(0, 1, what);
    }

    private static void promise7Reads() {
        // One in the middle (27), others around her; each looks at her from where she stands.
        ShedTalk x = Due.told("weaver 27 1;weaver 29 3;weaver 11 2;weaver 36 0;weaver 26 1;");
        Due.due("face to face", x.sees(0, 1, 0), 1);
        Due.due("and back", x.sees(1, 0, 0), 1);
        Due.due("beside: by nothing to where she faces", x.sees(0, 2, 0), 0);
        Due.due("she is seen, but does not see", x.sees(2, 0, 0), 0);
        Due.due("aslant", x.sees(0, 3, 0), 1);
        Due.due("behind", x.sees(0, 4, 0), 0);
        Due.due("from behind", x.sees(4, 0, 0), 0);
        int[][] bad = {{0, 0, 0}, {0, 0, 1}, {-1, 0, 0}, {5, 0, 0}, {0, -1, 0}, {0, 5, 0}, {0, 1, -1}, {0, 1, 2},
            {MIN, MAX, 0}, {0, 1, MAX}};
        for (int[] b : bad) {
            Due.due("sees(" + b[0] + ", " + b[1] + ", " + b[2] + ")", x.sees(b[0], b[1], b[2]), -2);
        }
        for (int face = 0; face < 4; face++) {
            ShedTalk y = Due.told("weaver 27 " + face + ";weaver 19 2;weaver 28 3;weaver 35 0;weaver 26 1;");
            for (int other = 1; other <= 4; other++) {
                Due.due("only where she faces " + face, y.sees(0, other, 0), other == face + 1 ? 1 : 0);
                Due.due("only where she faces " + face, y.sees(other, 0, 0), other == face + 1 ? 1 : 0);
            }
        }
    }

    private static void promise7Watches() {
        ShedTalk x = Due.told("weaver 27 1;weaver 29 3;weaver 11 2;weaver 36 0;weaver 26 1;");
        Due.due("from beside her", x.sees(2, 0, 1), 1);
        Due.due("she does not see who is beside", x.sees(0, 2, 1), 0);
        Due.due("from behind her", x.sees(4, 0, 1), 0);
        Due.due("face to face", x.sees(1, 0, 1), 1);
        Due.due("from ahead aslant", x.sees(3, 0, 1), 1);
        Due.due("far(1, 1)", x.far(1, 1), 50);
        Due.due("too far", x.sees(1, 0, 1), 0);
        Due.due("mouths are another matter", x.sees(1, 0, 0), 1);
        ShedTalk y = Due.told("weaver 0 1;weaver 2 3;pillar 1;");
        Due.due("past a PILLAR", y.sees(0, 1, 1), 0);
        Due.due("past a PILLAR", y.sees(0, 1, 0), 0);
    }

    // From (3, 3), facing each way, to all other places: in FRONT by more than nothing, behind by less.
    private static void promise7FrontAndBehind() {
        int[] down = {-1, 0, 1, 0}, right = {0, 1, 0, -1};
        for (int face = 0; face < 4; face++) {
            for (int place = 0; place < 64; place++) {
                if (place == 27) {
                    continue;
                }
                int by = (place / 8 - 3) * down[face] + (place % 8 - 3) * right[face];
                for (int other = 0; other < 4; other++) {
                    int back = (3 - place / 8) * down[other] + (3 - place % 8) * right[other];
                    ShedTalk x = new ShedTalk();
                    x.far(0, 98);
                    x.far(1, 98);
                    x.weaver(27, face);
                    x.weaver(place, other);
                    String ways = "27 facing " + face + ", " + place + " facing " + other;
                    Due.due(ways + ": reads", x.sees(0, 1, 0), by > 0 && back > 0 ? 1 : 0);
                    Due.due(ways + ": is read", x.sees(1, 0, 0), by > 0 && back > 0 ? 1 : 0);
                    Due.due(ways + ": watches", x.sees(0, 1, 1), by > 0 && back >= 0 ? 1 : 0);
                    Due.due(ways + ": is watched", x.sees(1, 0, 1), back > 0 && by >= 0 ? 1 : 0);
                }
            }
        }
    }

    private static void promise8() {
        Due.due("straight through", clearPast(0, 2, 1), 0);
        Due.due("past the end", clearPast(0, 2, 3), 1);
        Due.due("ahead of the beginning", clearPast(1, 3, 0), 1);
        Due.due("beside by a whole one", clearPast(0, 2, 9), 1);
        Due.due("aslant past by more than a half", clearPast(0, 9, 1), 1);
        // From (0, 0) to (1, 2) the middles of (0, 1), (1, 1) are away by the root of a fifth: nearer than a half.
        Due.due("a knight's way", clearPast(0, 10, 1), 0);
        Due.due("a knight's way", clearPast(10, 0, 9), 0);
        // From (0, 0) to (2, 4): (1, 1) and (1, 3) as near as that, (0, 1) too, (0, 2) is not.
        Due.due("a long knight's way", clearPast(0, 20, 9), 0);
        Due.due("a long knight's way", clearPast(0, 20, 1), 0);
        Due.due("a long knight's way", clearPast(0, 20, 2), 1);
        // From (0, 0) to (1, 7): (0, 3) is away by 3, (0, 4) by 4, of the root of 50.
        Due.due("a flat way", clearPast(0, 15, 3), 0);
        Due.due("a flat way", clearPast(0, 15, 4), 1);
        Due.due("a flat way", clearPast(0, 15, 12), 0);
        // The nearest point is the end itself.
        Due.due("behind the end", clearPast(0, 9, 18), 1);
        ShedTalk x = Due.told("weaver 0 0;weaver 2 0;");
        Due.due("whoever faces where", x.clear(0, 1), 1);
        int[][] bad = {{0, 0}, {-1, 0}, {0, 2}, {2, 0}, {MIN, 0}, {0, MAX}};
        for (int[] b : bad) {
            Due.due("clear(" + b[0] + ", " + b[1] + ")", x.clear(b[0], b[1]), -2);
        }
        x.weaver(1, 0);
        Due.due("a WEAVER is no PILLAR", x.clear(0, 1), 1);
        x.pillar(63);
        Due.due("a PILLAR elsewhere", x.clear(0, 1), 1);
    }

    private static int clearPast(int from, int to, int pillar) {
        ShedTalk x = Due.told("weaver " + from + " 0;weaver " + to + " 0;pillar " + pillar + ";");
        Due.due("the same back", x.clear(1, 0), x.clear(0, 1));
        return x.clear(0, 1);
    }

    // Ways of each kind, past a PILLAR in every place.
    private static void promise8EveryPillar() {
        int[][] ways = {{0, 1}, {0, 7}, {0, 56}, {0, 63}, {7, 56}, {27, 29}, {27, 43}, {27, 45}, {0, 10}, {0, 17}, {9, 54}, {62, 1},
            {15, 48}, {24, 39}};
        for (int[] way : ways) {
            for (int p = 0; p < 64; p++) {
                if (p == way[0] || p == way[1]) {
                    continue;
                }
                Due.due("from " + way[0] + " to " + way[1] + " past " + p, clearPast(way[0], way[1], p),
                    isNear(way[0], way[1], p) ? 0 : 1);
            }
        }
    }

    // By 839 points of the way: no square of a nearest way lies between 24 by 97 and a quarter, so these are enough.
    private static boolean isNear(int from, int to, int p) {
        double nearest = 99;
        for (int i = 1; i < 840; i++) {
            double down = from / 8 + (to / 8 - from / 8) * i / 840.0 - p / 8;
            double right = from % 8 + (to % 8 - from % 8) * i / 840.0 - p % 8;
            nearest = Math.min(nearest, down * down + right * right);
        }
        return nearest < 0.2499;
    }
}
