/** Promises 9 to 14: news. */
public final class NewsTest {
    private static final int MIN = Integer.MIN_VALUE, MAX = Integer.MAX_VALUE;
    // Four in a ring: 0 reads 1 and 2, both of whom read 3; nobody else reads another.
    private static final String RING = "weaver 0 2;weaver 16 0;weaver 17 0;weaver 1 2;";

    public static void main(String[] args) {
        promise9();
        promise9KeptFrom();
        promise10();
        promise11();
        promise12();
        promise13();
        promise14();
        Due.end();
    }

    private static void promise9() {
        // 2 stands beside 0, and too far from 1 to read her.
        ShedTalk x = Due.told("weaver 0 1;weaver 2 3;weaver 24 0;far 12 50;");
        Due.due("0 reads 1", x.sees(0, 1, 0), 1);
        Due.due("2 does not read 1", x.sees(2, 1, 0), 0);
        Due.due("2 reads 0 not", x.sees(2, 0, 0), 0);
        Due.due("she began", x.knows(0, 0, 0, -1), 0);
        Due.due("the next second", x.knows(0, 1, 0, -1), 1);
        Due.due("never", x.knows(0, 2, 0, -1), -1);
        Due.due("by SIGNS", x.knows(0, 2, 1, -1), 1);
        int[][] bad = {{-1, 0, 0, -1}, {3, 0, 0, -1}, {0, -1, 0, -1}, {0, 3, 0, -1}, {0, 1, -1, -1}, {0, 1, 2, -1},
            {0, 1, 0, -2}, {0, 1, 0, 3}, {0, 1, 0, 0}, {MIN, 0, 0, -1}, {0, MAX, 0, -1}, {0, 1, 0, MAX}, {0, 1, 0, MIN}};
        for (int[] b : bad) {
            String call = "(" + b[0] + ", " + b[1] + ", " + b[2] + ", " + b[3] + ")";
            Due.due("knows" + call, x.knows(b[0], b[1], b[2], b[3]), -10);
            Due.due("teller" + call, x.teller(b[0], b[1], b[2], b[3]), -10);
        }
        ShedTalk ring = Due.told(RING);
        Due.due("two seconds", ring.knows(0, 3, 0, -1), 2);
        ring.free(1, 0, 0, 0);
        ring.free(2, 0, 0, 0);
        Due.due("who knows from 1 on tells in 12", ring.knows(0, 3, 0, -1), 13);
        ring.free(0, 0, 11, 11);
        Due.due("told in 11, on in 12", ring.knows(0, 3, 0, -1), 13);
        ring.free(3, 1, 11, 11);
        Due.due("never both", ring.knows(0, 3, 0, -1), -1);
        promise9Chain();
    }

    // A chain of eight: each can tell but one second ahead of the one in which she is told, so it rests for eleven.
    private static void promise9Chain() {
        ShedTalk x = Due.told("far 5 5;weaver 0 2;weaver 17 0;weaver 2 2;weaver 19 0;weaver 4 2;weaver 21 0;weaver 6 2;"
            + "weaver 23 0;");
        for (int w = 0; w < 8; w++) {
            Due.due("at once down the chain", x.knows(0, w, 0, -1), w);
        }
        for (int w = 0; w < 8; w++) {
            x.free(w, 0, 11 - w, 11 - w);
        }
        for (int w = 1; w < 8; w++) {
            Due.due("a round less one for each", x.knows(0, w, 0, -1), 1 + 11 * w);
            Due.due("by the one ahead", x.teller(0, w, 0, -1), w - 1);
        }
        Due.due("up the chain", x.knows(7, 0, 0, -1), 11);
    }

    private static void promise9KeptFrom() {
        ShedTalk x = Due.told(RING);
        Due.due("kept from 3", x.knows(0, 1, 0, 3), 1);
        Due.due("3 is told nothing", x.knows(0, 3, 0, 3), -1);
        Due.due("kept from 2, who looks on always", x.knows(0, 3, 0, 2), -1);
        Due.due("so 0 tells nobody", x.knows(0, 1, 0, 2), -1);
        x.free(2, 1, 0, 3);
        Due.due("2 does not look in 4", x.knows(0, 1, 0, 2), 5);
        Due.due("and on past her", x.knows(0, 3, 0, 2), 6);
        Due.due("2 knows nothing", x.knows(0, 2, 0, 2), -1);
        Due.due("0 herself is told", x.knows(3, 0, 0, 2), 6);
        promise9KeptFromEitherWay();
    }

    private static void promise9KeptFromEitherWay() {
        // 2 watches 0 from beside, and can not read her: she hinders words, too.
        ShedTalk y = Due.told("weaver 0 1;weaver 2 3;weaver 24 0;");
        Due.due("2 watches 0", y.sees(2, 0, 1), 1);
        Due.due("2 does not read 0", y.sees(2, 0, 0), 0);
        Due.due("signs are kept", y.knows(0, 1, 1, 2), -1);
        Due.due("words are kept", y.knows(0, 1, 0, 2), -1);
        Due.due("so nobody told her", y.teller(0, 1, 0, 2), -1);
        y.free(2, 1, 4, 11);
        Due.due("2 looks from 4 on", y.knows(0, 1, 0, 2), 1);
        y.free(2, 1, 0, 3);
        Due.due("2 does not look in 4", y.knows(0, 1, 0, 2), 5);
        Due.due("0 told her", y.teller(0, 1, 0, 2), 0);
        y.free(0, 0, 2, 2);
        Due.due("0 tells in 2 alone, when 2 looks", y.knows(0, 1, 0, 2), -1);
        y.free(0, 0, 4, 4);
        y.free(1, 1, 4, 4);
        Due.due("signs in 4, past her", y.knows(0, 1, 1, 2), 5);
        Due.due("2 knows nothing", y.knows(0, 2, 0, 2), -1);
        Due.due("2 reads 1", y.sees(2, 1, 0), 1);
        y.free(0, 1, 4, 5);
        Due.due("back, past 2 who reads 1", y.knows(1, 0, 0, 2), 5);
        // 2 reads 0 from too far to watch her: she hinders signs, too.
        ShedTalk z = Due.told("far 50 4;weaver 0 1;weaver 2 3;weaver 4 3;");
        Due.due("2 reads 0", z.sees(2, 0, 0), 1);
        Due.due("2 does not watch 0", z.sees(2, 0, 1), 0);
        Due.due("signs, kept from nobody", z.knows(0, 1, 1, -1), 1);
        Due.due("signs, kept from 2", z.knows(0, 1, 1, 2), -1);
        Due.due("nobody told her", z.teller(0, 1, 1, 2), -1);
        z.free(2, 1, 0, 0);
        Due.due("signs in 1", z.knows(0, 1, 1, 2), 2);
        Due.due("by 0", z.teller(0, 1, 1, 2), 0);
        // 1 and 2 read 0 and are read by 3; 4 watches 1 alone.
        ShedTalk v = Due.told("far 18 16;weaver 4 2;weaver 20 0;weaver 21 0;weaver 5 2;weaver 16 1;");
        for (int w = 0; w < 4; w++) {
            Due.due("4 reads not " + w, v.sees(4, w, 0), 0);
            Due.due("4 watches " + w, v.sees(4, w, 1), w == 1 ? 1 : 0);
        }
        Due.due("by 1, kept from nobody", v.teller(0, 3, 0, -1), 1);
        Due.due("by 2, as 1 is hindered", v.teller(0, 3, 0, 4), 2);
        Due.due("as soon", v.knows(0, 3, 0, 4), 2);
        v.free(4, 1, 2, 11);
        Due.due("by 1 while 4 does not look", v.teller(0, 3, 0, 4), 1);
    }

    private static void promise10() {
        ShedTalk x = Due.told(RING);
        Due.due("she began", x.teller(0, 0, 0, -1), -1);
        Due.due("by 0", x.teller(0, 1, 0, -1), 0);
        Due.due("by 1 and by 2: the least", x.teller(0, 3, 0, -1), 1);
        x.free(1, 0, 5, 6);
        Due.due("by 2, who was earlier", x.teller(0, 3, 0, -1), 2);
        x.free(2, 0, 5, 6);
        Due.due("by both again", x.teller(0, 3, 0, -1), 1);
        Due.due("back by 1", x.teller(3, 0, 0, -1), 1);
        x.free(1, 0, 1, 1);
        x.free(2, 0, 0, 0);
        Due.due("from SECOND 0: 1 tells in 1, ahead of 2 in 12", x.teller(0, 3, 0, -1), 1);
        x.face(3, 0);
        Due.due("does not know", x.teller(0, 3, 0, -1), -1);
        ShedTalk y = Due.told("weaver 0 1;weaver 2 3;weaver 24 0;far 12 50;");
        Due.due("by SIGNS of 0", y.teller(0, 2, 1, -1), 0);
        Due.due("by WORDS none", y.teller(0, 2, 0, -1), -1);
        Due.due("kept from her", y.teller(0, 2, 1, 2), -1);
    }

    private static void promise11() {
        ShedTalk x = Due.told(RING);
        Due.due("the first", x.meet(0, 3, 0, 0), 0);
        Due.due("the other", x.meet(0, 3, 0, 3), 1);
        Due.due("both at once", x.meet(0, 3, 0, 1), 2);
        Due.due("the other began later", x.meet(0, 3, 1, 1), 0);
        Due.due("3 hears it in 2, begins in 2", x.meet(0, 3, 2, 3), 2);
        Due.due("3 begins in 1", x.meet(0, 3, 1, 3), 1);
        Due.due("3 begins in 240", x.meet(0, 3, 240, 3), 0);
        x.weaver(63, 0);
        Due.due("none", x.meet(0, 3, 0, 4), -1);
        Due.due("just the other", x.meet(4, 0, 17, 1), 1);
        Due.due("just the first", x.meet(0, 4, 17, 1), 0);
        Due.due("her own, begun last", x.meet(0, 4, 240, 4), 1);
        Due.due("begun in 239, told in it", x.meet(4, 0, 239, 1), 1);
        Due.due("begun in 240: too late", x.meet(4, 0, 240, 1), -1);
        Due.due("begun in 239, not two on", x.meet(4, 0, 239, 3), -1);
        int[][] bad = {{0, 0, 0, 0}, {-1, 0, 0, 0}, {5, 0, 0, 0}, {0, -1, 0, 0}, {0, 5, 0, 0}, {0, 1, -1, 0},
            {0, 1, 241, 0}, {0, 1, 0, -1}, {0, 1, 0, 5}, {0, 1, MAX, 0}, {MIN, 1, 0, 0}};
        for (int[] b : bad) {
            Due.due("meet(" + b[0] + ", " + b[1] + ", " + b[2] + ", " + b[3] + ")", x.meet(b[0], b[1], b[2], b[3]), -10);
        }
    }

    private static void promise12() {
        ShedTalk x = Due.told(RING);
        Object[][] bad = {{-1, 0}, {4, 0}, {0, -1}, {0, 241}, {MIN, 0}, {0, MAX}};
        for (Object[] b : bad) {
            Due.due("seen(" + b[0] + ", " + b[1] + ")", x.seen((int) b[0], (int) b[1], true), -2);
        }
        for (int i = 1; i <= 10; i++) {
            Due.due("seen " + i, x.seen(i % 4, i * 24, true), i);
        }
        Due.due("an eleventh", x.seen(0, 0, true), -4);
        Due.due("an eleventh of nobody", x.seen(4, 0, true), -2);
        Due.due("an eleventh never", x.seen(0, 241, true), -2);
        Due.due("count", x.count(2), 10);
    }

    private static void promise13() {
        ShedTalk x = Due.told(RING);
        Due.due("nothing seen", x.source(), 15);
        x.seen(3, 1, true);
        Due.due("3 knew in 1", x.source(), 14);
        x.seen(3, 0, false);
        Due.due("3 did not know in 0", x.source(), 6);
        x.seen(1, 0, true);
        Due.due("1 knew in 0", x.source(), 2);
        x.seen(1, 240, false);
        Due.due("it can not be", x.source(), 0);
        ShedTalk y = Due.told(RING + "weaver 63 0;");
        y.seen(3, 240, false);
        Due.due("who never knows did not know yet", y.source(), 16);
        ShedTalk z = Due.told(RING);
        z.seen(3, 2, true);
        Due.due("from 2 on is in 2", z.source(), 15);
        Due.due("nobody", new ShedTalk().source(), 0);
    }

    private static void promise14() {
        ShedTalk x = Due.told(RING);
        Due.due("past 1 and past 2", x.apart(0, 3), 2);
        Due.due("straight, and round", x.apart(0, 1), 2);
        x.face(1, 2);
        Due.due("past 2", x.apart(0, 3), 1);
        Due.due("no way", x.apart(0, 1), 0);
        int[][] bad = {{0, 0}, {-1, 0}, {4, 0}, {0, 4}, {MIN, 0}, {0, MAX}};
        for (int[] b : bad) {
            Due.due("apart(" + b[0] + ", " + b[1] + ")", x.apart(b[0], b[1]), -2);
        }
        // Three above, three below read each other crosswise: a way shares nobody else.
        ShedTalk y = Due.told("weaver 0 2;weaver 1 2;weaver 2 2;weaver 16 0;weaver 17 0;weaver 18 0;");
        Due.due("three ways", y.apart(0, 3), 3);
        Due.due("three between two above", y.apart(0, 1), 3);
        Due.due("the same back", y.apart(1, 0), 3);
        // All must go past one: 0 - 1 - 2, and 3 hangs on 1 alone.
        ShedTalk z = Due.told("far 1 1;weaver 8 1;weaver 9 3;");
        Due.due("one next to another", z.apart(0, 1), 1);
    }
}
