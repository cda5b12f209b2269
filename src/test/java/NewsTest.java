/** Promises 9 to 14: news. */
public final class NewsTest {
    private static final int MIN = Integer.MIN_VALUE, MAX = Integer.MAX_VALUE;
    // Four in a ring: 0 reads 1 and 2, both of whom read 3; nobody else reads another.
    private static final String RING = "weaver 0 2;weaver 16 0;weaver 17 0;weaver 1 2;";

    public static void main(String[] args) {
        promise9();
        promise9Round();
        promise9KeptFrom();
        promise9KeptInEachSecond();
        promise10();
        promise10Least();
        promise11();
        promise11Last();
        promise12();
        promise12Bounds();
        promise13();
        promise13Bounds();
        promise14();
        promise14Most();
        Due.end();
    }

    private static void promise9() {
        // 2 stands beside 0, and too far from 1 to read her.
        ShedTalk x = Due.told("weaver 0 1;weaver 2 3;weaver 24 0;far 12 50;");
        Due.due("0 reads 1", x.sees(0, 1, 0), 1);
        Due.due("2 does not read 1", x.sees(2, 1, 0), 0);
        Due.due("2 reads 0 not", x.sees(2, 0, 0), 0);
        Due.due("she began", x.knows(0, 0, 0, -1), 0);
        Due.due("the next second", x.knows(0, 1, 0, -1), 1);
        Due.due("never", x.knows(0, 2, 0, -1), -1);
        Due.due("by SIGNS", x.knows(0, 2, 1, -1), 1);
        int[][] bad = {{-1, 0, 0, -1}, {3, 0, 0, -1}, {0, -1, 0, -1}, {0, 3, 0, -1}, {0, 1, -1, -1}, {0, 1, 2, -1},
            {0, 1, 0, -2}, {0, 1, 0, 3}, {0, 1, 0, 0}, {MIN, 0, 0, -1}, {0, MAX, 0, -1}, {0, 1, 0, MAX}, {0, 1, 0, MIN}};
        for (int[] b : bad) {
            String call = "(" + b[0] + ", " + b[1] + ", " + b[2] + ", " + b[3] + ")";
            Due.due("knows" + call, x.knows(b[0], b[1], b[2], b[3]), -10);
            Due.due("teller" + call, x.teller(b[0], b[1], b[2], b[3]), -10);
        }
        ShedTalk ring = Due.told(RING);
        Due.due("two seconds", ring.knows(0, 3, 0, -1), 2);
        ring.free(1, 0, 0, 0);
        ring.free(2, 0, 0, 0);
        Due.due("who knows from 1 on tells in 12", ring.knows(0, 3, 0, -1), 13);
        ring.free(0, 0, 11, 11);
        Due.due("told in 11, on in 12", ring.knows(0, 3, 0, -1), 13);
        ring.free(3, 1, 11, 11);
        Due.due("never both", ring.knows(0, 3, 0, -1), -1);
        promise9Chain();
    }

    // A chain of eight: each can tell but one second ahead of the one in which she is told, so it rests for eleven.
    private static void promise9Chain() {
        ShedTalk x = Due.told("far 5 5;weaver 0 2;weaver 17 0;weaver 2 2;weaver 19 0;weaver 4 2;weaver 21 0;weaver 6 2;"
            + "weaver 23 0;");
        for (int w = 0; w < 8; w++) {
            Due.due("at once down the chain", x.knows(0, w, 0, -1), w);
        }
        for (int w = 0; w < 8; w++) {
            x.free(w, 0, 11 - w, 11 - w);
        }
        for (int w = 1; w < 8; w++) {
            Due.due("a round less one for each", x.knows(0, w, 0, -1), 1 + 11 * w);
            Due.due("by the one ahead", x.teller(0, w, 0, -1), w - 1);
        }
        Due.due("up the chain", x.knows(7, 0, 0, -1), 11);
    }

    // SECOND 12 is 0 again, and nobody tells in the SECOND in which she is told.
    private static void promise9Round() {
        for (int t = 0; t < 12; t++) {
            ShedTalk x = Due.told("far 5 5;weaver 0 2;weaver 17 0;weaver 2 2;");
            Due.due("0 is read by 1", x.sees(1, 0, 0), 1);
            Due.due("1 is read by 2", x.sees(2, 1, 0), 1);
            Due.due("0 is not read by 2", x.sees(2, 0, 0), 0);
            for (int u = 0; u < 12; u++) {
                x.free(0, 0, t, t);
                x.free(1, 0, u, u);
                x.free(2, 1, 0, 11);
                int due = (u > t ? u : u + 12) + 1;
                Due.due("told in " + t + ", on in " + u, x.knows(0, 2, 0, -1), due);
                Due.due("1 ahead of it", x.knows(0, 1, 0, -1), t + 1);
                x.free(2, 1, u, u);
                Due.due("looking in " + u + " alone", x.knows(0, 2, 0, -1), due);
            }
        }
    }

    // 2 watches 0, whom 1 reads: 0 tells in the first SECOND in which she can and 2 can not LOOK.
    private static void promise9KeptInEachSecond() {
        ShedTalk x = Due.told("weaver 0 1;weaver 2 3;weaver 24 0;");
        for (int from = 0; from < 12; from++) {
            for (int to = from; to < 12; to++) {
                x.free(2, 1, from, to);
                int due = from > 0 ? 1 : to < 11 ? to + 2 : -1;
                Due.due("2 looks in " + from + " to " + to, x.knows(0, 1, 0, 2), due);
                Due.due("kept from nobody", x.knows(0, 1, 0, -1), 1);
                Due.due("2 is told nothing by SIGNS", x.knows(0, 2, 1, 2), -1);
                Due.due("nor by anybody", x.teller(0, 2, 1, 2), -1);
                Due.due("she who began knows", x.knows(0, 0, 1, 2), 0);
            }
        }
        // Whose TELL are the SECONDS of 2's LOOK, to the bound and one beyond it.
        x.free(2, 1, 3, 8);
        x.free(0, 0, 3, 8);
        Due.due("never", x.knows(0, 1, 0, 2), -1);
        x.free(0, 0, 2, 8);
        Due.due("one ahead", x.knows(0, 1, 0, 2), 3);
        x.free(0, 0, 3, 9);
        Due.due("one behind", x.knows(0, 1, 0, 2), 10);
    }

    private static void promise9KeptFrom() {
        ShedTalk x = Due.told(RING);
        Due.due("kept from 3", x.knows(0, 1, 0, 3), 1);
        Due.due("3 is told nothing", x.knows(0, 3, 0, 3), -1);
        Due.due("kept from 2, who looks on always", x.knows(0, 3, 0, 2), -1);
        Due.due("so 0 tells nobody", x.knows(0, 1, 0, 2), -1);
        x.free(2, 1, 0, 3);
        Due.due("2 does not look in 4", x.knows(0, 1, 0, 2), 5);
        Due.due("and on past her", x.knows(0, 3, 0, 2), 6);
        Due.due("2 knows nothing", x.knows(0, 2, 0, 2), -1);
        Due.due("0 herself is told", x.knows(3, 0, 0, 2), 6);
        promise9KeptFromEitherWay();
    }

    private static void promise9KeptFromEitherWay() {
        // 2 watches 0 from beside, and can not read her: she hinders words, too.
        ShedTalk y = Due.told("weaver 0 1;weaver 2 3;weaver 24 0;");
        Due.due("2 watches 0", y.sees(2, 0, 1), 1);
        Due.due("2 does not read 0", y.sees(2, 0, 0), 0);
        Due.due("signs are kept", y.knows(0, 1, 1, 2), -1);
        Due.due("words are kept", y.knows(0, 1, 0, 2), -1);
        Due.due("so nobody told her", y.teller(0, 1, 0, 2), -1);
        y.free(2, 1, 4, 11);
        Due.due("2 looks from 4 on", y.knows(0, 1, 0, 2), 1);
        y.free(2, 1, 0, 3);
        Due.due("2 does not look in 4", y.knows(0, 1, 0, 2), 5);
        Due.due("0 told her", y.teller(0, 1, 0, 2), 0);
        y.free(0, 0, 2, 2);
        Due.due("0 tells in 2 alone, when 2 looks", y.knows(0, 1, 0, 2), -1);
        y.free(0, 0, 4, 4);
        y.free(1, 1, 4, 4);
        Due.due("signs in 4, past her", y.knows(0, 1, 1, 2), 5);
        Due.due("2 knows nothing", y.knows(0, 2, 0, 2), -1);
        Due.due("2 reads 1", y.sees(2, 1, 0), 1);
        y.free(0, 1, 4, 5);
        Due.due("back, past 2 who reads 1", y.knows(1, 0, 0, 2), 5);
        // 2 reads 0 from too far to watch her: she hinders signs, too.
        ShedTalk z = Due.told("far 50 4;weaver 0 1;weaver 2 3;weaver 4 3;");
        Due.due("2 reads 0", z.sees(2, 0, 0), 1);
        Due.due("2 does not watch 0", z.sees(2, 0, 1), 0);
        Due.due("signs, kept from nobody", z.knows(0, 1, 1, -1), 1);
        Due.due("signs, kept from 2", z.knows(0, 1, 1, 2), -1);
        Due.due("nobody told her", z.teller(0, 1, 1, 2), -1);
        z.free(2, 1, 0, 0);
        Due.due("signs in 1", z.knows(0, 1, 1, 2), 2);
        Due.due("by 0", z.teller(0, 1, 1, 2), 0);
        // 1 and 2 read 0 and are read by 3; 4 watches 1 alone.
        ShedTalk v = Due.told("far 18 16;weaver 4 2;weaver 20 0;weaver 21 0;weaver 5 2;weaver 16 1;");
        for (int w = 0; w < 4; w++) {
            Due.due("4 reads not " + w, v.sees(4, w, 0), 0);
            Due.due("4 watches " + w, v.sees(4, w, 1), w == 1 ? 1 : 0);
        }
        Due.due("by 1, kept from nobody", v.teller(0, 3, 0, -1), 1);
        Due.due("by 2, as 1 is hindered", v.teller(0, 3, 0, 4), 2);
        Due.due("as soon", v.knows(0, 3, 0, 4), 2);
        v.free(4, 1, 2, 11);
        Due.due("by 1 while 4 does not look", v.teller(0, 3, 0, 4), 1);
    }

    private static void promise10() {
        ShedTalk x = Due.told(RING);
        Due.due("she began", x.teller(0, 0, 0, -1), -1);
        Due.due("by 0", x.teller(0, 1, 0, -1), 0);
        Due.due("by 1 and by 2: the least", x.teller(0, 3, 0, -1), 1);
        x.free(1, 0, 5, 6);
        Due.due("by 2, who was earlier", x.teller(0, 3, 0, -1), 2);
        x.free(2, 0, 5, 6);
        Due.due("by both again", x.teller(0, 3, 0, -1), 1);
        Due.due("back by 1", x.teller(3, 0, 0, -1), 1);
        x.free(1, 0, 1, 1);
        x.free(2, 0, 0, 0);
        Due.due("from SECOND 0: 1 tells in 1, ahead of 2 in 12", x.teller(0, 3, 0, -1), 1);
        x.face(3, 0);
        Due.due("does not know", x.teller(0, 3, 0, -1), -1);
        ShedTalk y = Due.told("weaver 0 1;weaver 2 3;weaver 24 0;far 12 50;");
        Due.due("by SIGNS of 0", y.teller(0, 2, 1, -1), 0);
        Due.due("by WORDS none", y.teller(0, 2, 0, -1), -1);
        Due.due("kept from her", y.teller(0, 2, 1, 2), -1);
    }

    // 7 reads all others, who stand left of her; 0 tells them all at once, and each tells 7.
    private static void promise10Least() {
        String others = "far 98 98;weaver 0 2;weaver 56 0;weaver 57 0;weaver 58 0;weaver 59 0;weaver 60 0;weaver 61 0;weaver 1 2;";
        ShedTalk x = Due.told(others);
        for (int w = 1; w < 7; w++) {
            Due.due("0 tells " + w, x.teller(0, w, 0, -1), 0);
            Due.due("7 knows from 2 on", x.knows(0, 7, 0, -1), 2);
            Due.due("by the least who can TELL in 1", x.teller(0, 7, 0, -1), w);
            x.free(w, 0, 0, 0);
        }
        Due.due("all tell in 12", x.knows(0, 7, 0, -1), 13);
        Due.due("the least of all", x.teller(0, 7, 0, -1), 1);
        x.free(6, 0, 11, 11);
        Due.due("a greater one is earlier", x.teller(0, 7, 0, -1), 6);
        Due.due("7 began", x.teller(7, 7, 0, -1), -1);
        Due.due("7 tells 3", x.teller(7, 3, 0, -1), 7);
    }

    private static void promise11() {
        ShedTalk x = Due.told(RING);
        Due.due("the first", x.meet(0, 3, 0, 0), 0);
        Due.due("the other", x.meet(0, 3, 0, 3), 1);
        Due.due("both at once", x.meet(0, 3, 0, 1), 2);
        Due.due("the other began later", x.meet(0, 3, 1, 1), 0);
        Due.due("3 hears it in 2, begins in 2", x.meet(0, 3, 2, 3), 2);
        Due.due("3 begins in 1", x.meet(0, 3, 1, 3), 1);
        Due.due("3 begins in 240", x.meet(0, 3, 240, 3), 0);
        x.weaver(63, 0);
        Due.due("none", x.meet(0, 3, 0, 4), -1);
        Due.due("just the other", x.meet(4, 0, 17, 1), 1);
        Due.due("just the first", x.meet(0, 4, 17, 1), 0);
        Due.due("her own, begun last", x.meet(0, 4, 240, 4), 1);
        Due.due("begun in 239, told in it", x.meet(4, 0, 239, 1), 1);
        Due.due("begun in 240: too late", x.meet(4, 0, 240, 1), -1);
        Due.due("begun in 239, not two on", x.meet(4, 0, 239, 3), -1);
        int[][] bad = {{0, 0, 0, 0}, {-1, 0, 0, 0}, {5, 0, 0, 0}, {0, -1, 0, 0}, {0, 5, 0, 0}, {0, 1, -1, 0},
            {0, 1, 241, 0}, {0, 1, 0, -1}, {0, 1, 0, 5}, {0, 1, MAX, 0}, {MIN, 1, 0, 0}};
        for (int[] b : bad) {
            Due.due("meet(" + b[0] + ", " + b[1] + ", " + b[2] + ", " + b[3] + ")", x.meet(b[0], b[1], b[2], b[3]), -10);
        }
    }

    // 4 is alone, so that only the news of 0 from s on can be heard by 1: in 240 at the latest.
    private static void promise11Last() {
        ShedTalk x = Due.told(RING + "weaver 63 0;");
        for (int t = 0; t < 12; t++) {
            x.free(0, 0, t, t);
            // The last SECOND below 240 in which 0 can TELL.
            int last = 228 + t;
            Due.due("begun in " + last + ", told in it", x.meet(4, 0, last, 1), 1);
            Due.due("begun behind it", x.meet(4, 0, last + 1, 1), -1);
        }
        x.free(0, 0, 11, 11);
        Due.due("known from 240 on: none is later", x.meet(4, 0, 239, 1), 1);
        Due.due("begun in 240", x.meet(4, 0, 240, 0), 1);
        Due.due("0 herself is told by nobody else", x.meet(4, 0, 240, 3), -1);
        for (int s = 0; s <= 240; s++) {
            ShedTalk y = Due.told(RING);
            int due = s < 1 ? 1 : s == 1 ? 2 : 0;
            Due.due("1 hears of 0 from 1 on, begins in " + s, y.meet(0, 1, s, 1), due);
            due = s < 2 ? 1 : s == 2 ? 2 : 0;
            Due.due("3 hears of 0 from 2 on, begins in " + s, y.meet(0, 3, s, 3), due);
            Due.due("0 begins in 0", y.meet(0, 3, s, 0), 0);
        }
    }

    private static void promise12() {
        ShedTalk x = Due.told(RING);
        Object[][] bad = {{-1, 0}, {4, 0}, {0, -1}, {0, 241}, {MIN, 0}, {0, MAX}};
        for (Object[] b : bad) {
            Due.due("seen(" + b[0] + ", " + b[1] + ")", x.seen((int) b[0], (int) b[1], true), -2);
        }
        for (int i = 1; i <= 10; i++) {
            Due.due("seen " + i, x.seen(i % 4, i * 24, true), i);
        }
        Due.due("an eleventh", x.seen(0, 0, true), -4);
        Due.due("an eleventh of nobody", x.seen(4, 0, true), -2);
        Due.due("an eleventh never", x.seen(0, 241, true), -2);
        Due.due("count", x.count(2), 10);
    }

    private static void promise12Bounds() {
        ShedTalk x = Due.told(RING);
        Due.due("the first WEAVER, the first SECOND", x.seen(0, 0, true), 1);
        Due.due("the last WEAVER, the last SECOND", x.seen(3, 240, false), 2);
        Due.due("the same once more", x.seen(3, 240, false), 3);
        Due.due("the contrary", x.seen(3, 240, true), 4);
        Due.due("one that none can bear", x.source(), 0);
        Due.due("count", x.count(2), 4);
        for (int i = 5; i <= 10; i++) {
            Due.due("seen " + i, x.seen(1, i, true), i);
        }
        Due.due("an eleventh", x.seen(0, 0, true), -4);
        Due.due("an eleventh by nobody", x.seen(-1, 0, true), -2);
        Due.due("an eleventh ahead of all", x.seen(0, -1, true), -2);
        Due.due("count", x.count(2), 10);
    }

    private static void promise13() {
        ShedTalk x = Due.told(RING);
        Due.due("nothing seen", x.source(), 15);
        x.seen(3, 1, true);
        Due.due("3 knew in 1", x.source(), 14);
        x.seen(3, 0, false);
        Due.due("3 did not know in 0", x.source(), 6);
        x.seen(1, 0, true);
        Due.due("1 knew in 0", x.source(), 2);
        x.seen(1, 240, false);
        Due.due("it can not be", x.source(), 0);
        ShedTalk y = Due.told(RING + "weaver 63 0;");
        y.seen(3, 240, false);
        Due.due("who never knows did not know yet", y.source(), 16);
        ShedTalk z = Due.told(RING);
        z.seen(3, 2, true);
        Due.due("from 2 on is in 2", z.source(), 15);
        Due.due("nobody", new ShedTalk().source(), 0);
    }

    private static void promise13Bounds() {
        ShedTalk x = new ShedTalk();
        for (int w = 0; w < 8; w++) {
            x.weaver(9 * w, 0);
            Due.due("nothing seen of " + (w + 1), x.source(), (1 << w + 1) - 1);
        }
        x.seen(7, 0, true);
        Due.due("7 knew in 0", x.source(), 128);
        x.seen(0, 240, false);
        Due.due("0 did not know in 240", x.source(), 128);
        x.seen(0, 240, true);
        Due.due("0 knew in 240", x.source(), 0);
        // 3 knows of 0 from 2 on: in 1 not yet, in 2 she knew.
        for (int second = 0; second <= 240; second++) {
            ShedTalk y = Due.told(RING);
            y.seen(3, second, true);
            Due.due("3 knew in " + second, y.source(), second == 0 ? 8 : second == 1 ? 14 : 15);
            ShedTalk z = Due.told(RING);
            z.seen(3, second, false);
            Due.due("3 did not know in " + second, z.source(), second == 0 ? 7 : second == 1 ? 1 : 0);
        }
        // The tenth SEEN counts like the first.
        ShedTalk v = Due.told(RING);
        for (int i = 0; i < 9; i++) {
            v.seen(3, 2 + i, true);
        }
        Due.due("nine that all bear", v.source(), 15);
        v.seen(0, 0, true);
        Due.due("a tenth that 0 bears", v.source(), 1);
    }

    private static void promise14() {
        ShedTalk x = Due.told(RING);
        Due.due("past 1 and past 2", x.apart(0, 3), 2);
        Due.due("straight, and round", x.apart(0, 1), 2);
        x.face(1, 2);
        Due.due("past 2", x.apart(0, 3), 1);
        Due.due("no way", x.apart(0, 1), 0);
        int[][] bad = {{0, 0}, {-1, 0}, {4, 0}, {0, 4}, {MIN, 0}, {0, MAX}};
        for (int[] b : bad) {
            Due.due("apart(" + b[0] + ", " + b[1] + ")", x.apart(b[0], b[1]), -2);
        }
        // Three above, three below read each other crosswise: a way shares nobody else.
        ShedTalk y = Due.told("weaver 0 2;weaver 1 2;weaver 2 2;weaver 16 0;weaver 17 0;weaver 18 0;");
        Due.due("three ways", y.apart(0, 3), 3);
        Due.due("three between two above", y.apart(0, 1), 3);
        Due.due("the same back", y.apart(1, 0), 3);
        // All must go past one: 0 - 1 - 2, and 3 hangs on 1 alone.
        ShedTalk z = Due.told("far 1 1;weaver 8 1;weaver 9 3;");
        Due.due("one next to another", z.apart(0, 1), 1);
    }

    // 0 looks down, 1 up; up to six between them look right and read both.
    private static void promise14Most() {
        StringBuilder text = new StringBuilder("far 98 1;weaver 4 2;weaver 36 0;");
        for (int between = 0; between <= 6; between++) {
            ShedTalk x = Due.told(text.toString());
            Due.due("straight, and past " + between, x.apart(0, 1), 1 + between);
            Due.due("the same back", x.apart(1, 0), 1 + between);
            for (int w = 2; w < 2 + between; w++) {
                Due.due("straight, and round", x.apart(0, w), 2);
            }
            x.face(0, 0);
            Due.due("0 reads nobody", x.apart(0, 1), 0);
            text.append("weaver ").append(8 + 8 * (between % 3) + between / 3).append(" 1;");
        }
        // A PILLAR takes the straight one away, and what all go past is shared.
        ShedTalk y = Due.told("far 98 1;weaver 4 2;weaver 36 0;weaver 8 1;weaver 24 1;pillar 20;");
        Due.due("0 and 1 past a PILLAR", y.clear(0, 1), 0);
        Due.due("past 2, past 3", y.apart(0, 1), 2);
        y.face(3, 3);
        Due.due("past 2 alone", y.apart(0, 1), 1);
        y.face(2, 3);
        Due.due("no way", y.apart(0, 1), 0);
    }
}
