import java.util.Arrays;

/**
 * Each number of each call at its bounds and one beyond them on either side, and what else is refused: on a new object,
 * on one that has some of all, and on one that is full. What is refused answers what is due and changes nothing, not
 * even what THE TEXT and the IMAGES hold.
 */
public final class RefusedTest {
    private static final int MIN = Integer.MIN_VALUE, MAX = Integer.MAX_VALUE;
    private static final int BAD = -2, NO = -3, FULL = -4, BAD_ASKED = -10, NO_ASKED = -20, NO_READING = -5;
    private static final int NEW = 0, SOME = 1, ALL = 2;
    private static final int[] WEAVERS = {0, 3, 8}, WORDS = {0, 3, 10}, KNOWN = {0, 2, 5};
    // Of each kind of object: the digest, and what the text and the images are, as it was made.
    private static final long[][] AS_MADE = {inside(made(NEW)), inside(made(SOME)), inside(made(ALL))};

    private interface Call {
        long of(ShedTalk x, int[] v);
    }

    public static void main(String[] args) {
        theObjectsThemselves();
        for (int kind = NEW; kind <= ALL; kind++) {
            floor(kind);
            news(kind);
            words(kind);
            girlAndDeaf(kind);
            textsAndImages(kind);
        }
        floorByWhatIsThere();
        newsByWhoIsAsked();
        wordsByWhatIsThere();
        textsByWhatIsThere();
        shedsByItems();
        Due.end();
    }

    // ---- the objects

    private static ShedTalk made(int kind) {
        return kind == NEW ? new ShedTalk() : kind == SOME ? some() : all();
    }

    private static ShedTalk some() {
        ShedTalk x = Due.told("pillar 18;weaver 16 1;weaver 20 3;weaver 34 0;tell 1 2 5;look 2 0 7;far 30 40;"
            + "word 5 1 2;word 3 2 1;word 4 3;like 1 2;");
        x.image(1);
        x.seen(1, 7, true);
        x.lip(1);
        x.lip(2);
        x.girl(3);
        x.plain(30);
        x.band(2, 60, 2);
        x.face(0, 2);
        x.share();
        x.erase();
        Due.type(x, "pillar 5; weaver 9 1; word 2 5;");
        return x;
    }

    private static ShedTalk all() {
        ShedTalk x = some();
        x.image(0);
        for (int w = 3; w < 8; w++) {
            x.weaver(40 + w, w % 4);
        }
        for (int i = 1; i < 10; i++) {
            x.seen(i % 8, 20 * i, i % 2 == 0);
        }
        for (int w = 3; w < 10; w++) {
            x.word(2, w, 1 + w % 9);
        }
        for (int i = 2; i < 24; i++) {
            x.lip(i % 6);
        }
        x.girl(31);
        x.arrives(0, 1, 12);
        x.erase();
        Due.type(x, "weaver 1 1;far 2 3;" + " ".repeat(221));
        return x;
    }

    private static void theObjectsThemselves() {
        int[][] due = {{0, 0, 0, 0, 0, 0}, {1, 3, 1, 3, 2, 31}, {1, 8, 10, 10, 24, 240}};
        for (int kind = NEW; kind <= ALL; kind++) {
            for (int what = 0; what <= 5; what++) {
                Due.due("count(" + what + ") of object " + kind, made(kind).count(what), due[kind][what]);
            }
        }
        Due.due("limbs of the fraction", made(ALL).sign(2) > 1 ? 1 : 0, 1);
        Due.due("images of a new one", made(NEW).from(0) + made(NEW).from(1), 2 * NO);
        Due.due("images of some", made(SOME).from(0) + made(SOME).from(1), NO + 1);
        Due.due("images of all", made(ALL).from(0) + made(ALL).from(1), 2);
        Due.due("texts", made(NEW).shed() * 100 + made(SOME).shed() * 10 + made(ALL).shed(), 32);
    }

    /** All that can be told of an object, which is used up by it. */
    private static long[] inside(ShedTalk x) {
        return new long[] {x.digest(), x.shed(), x.digest(), x.from(0), x.digest(), x.from(1), x.digest()};
    }

    // ---- how it is asked

    private static int[] range(int least, int most) {
        return new int[] {least, most};
    }

    private static int[] weavers(int kind) {
        return range(0, WEAVERS[kind] - 1);
    }

    private static int[] wordNumbers(int kind) {
        return range(0, WORDS[kind] - 1);
    }

    /** Refused: the answer is the due one, and all is as it was. */
    private static void refused(int kind, String what, long due, Call call, int... v) {
        ShedTalk x = made(kind);
        Due.due(what + " on object " + kind, call.of(x, v), due);
        Due.due(what + " on object " + kind + " changes nothing", Arrays.equals(inside(x), AS_MADE[kind]) ? 1 : 0, 1);
    }

    private static String named(String name, int[] v) {
        return name + Arrays.toString(v);
    }

    /** One number at each of its bounds, all others at their least: not refused so. One beyond: refused so. */
    private static void bounds(int kind, String name, int bad, Call call, int[]... ranges) {
        boolean canBe = true;
        int[] least = new int[ranges.length];
        for (int i = 0; i < ranges.length; i++) {
            least[i] = ranges[i][0];
            canBe &= ranges[i][0] <= ranges[i][1];
        }
        for (int i = 0; i < ranges.length; i++) {
            for (int at : ranges[i]) {
                int[] v = least.clone();
                v[i] = at;
                if (canBe) {
                    Due.due(named(name, v) + " on object " + kind + " is not refused", call.of(made(kind), v) == bad ? 1 : 0, 0);
                } else {
                    refused(kind, named(name, v), bad, call, v);
                }
            }
            for (int beyond : new int[] {ranges[i][0] - 1, ranges[i][1] + 1, MIN, MAX}) {
                int[] v = least.clone();
                v[i] = beyond;
                refused(kind, named(name, v), bad, call, v);
            }
        }
        int[] v = new int[ranges.length];
        for (int i = 0; i < v.length; i++) {
            v[i] = ranges[i][1] + 1;
        }
        refused(kind, named(name, v), bad, call, v);
    }

    // ---- promises 2 to 8

    private static void floor(int kind) {
        int[] who = weavers(kind);
        bounds(kind, "pillar", BAD, (x, v) -> x.pillar(v[0]), range(0, 63));
        bounds(kind, "weaver", BAD, (x, v) -> x.weaver(v[0], v[1]), range(0, 63), range(0, 3));
        bounds(kind, "face", BAD, (x, v) -> x.face(v[0], v[1]), who, range(0, 3));
        bounds(kind, "free a", BAD, (x, v) -> x.free(v[0], v[1], v[2], 11), who, range(0, 1), range(0, 11));
        bounds(kind, "free b", BAD, (x, v) -> x.free(v[0], v[1], 0, v[2]), who, range(0, 1), range(0, 11));
        bounds(kind, "far", BAD, (x, v) -> x.far(v[0], v[1]), range(0, 1), range(1, 98));
        bounds(kind, "sees a", BAD, (x, v) -> x.sees(v[0], 1, v[1]), who, range(0, 1));
        bounds(kind, "sees b", BAD, (x, v) -> x.sees(1, v[0], v[1]), who, range(0, 1));
        bounds(kind, "clear a", BAD, (x, v) -> x.clear(v[0], 1), who);
        bounds(kind, "clear b", BAD, (x, v) -> x.clear(1, v[0]), who);
    }

    private static void floorByWhatIsThere() {
        for (int kind = SOME; kind <= ALL; kind++) {
            for (int place : new int[] {16, 20, 34}) {
                refused(kind, "pillar where a WEAVER is", BAD, (x, v) -> x.pillar(v[0]), place);
                refused(kind, "weaver where a WEAVER is", BAD, (x, v) -> x.weaver(v[0], 0), place);
            }
            refused(kind, "pillar where one is", NO, (x, v) -> x.pillar(18));
            refused(kind, "weaver where a PILLAR is", BAD, (x, v) -> x.weaver(18, 3));
            for (int a = 0; a < WEAVERS[kind]; a++) {
                refused(kind, "sees herself", BAD, (x, v) -> x.sees(v[0], v[0], 0), a);
                refused(kind, "watches herself", BAD, (x, v) -> x.sees(v[0], v[0], 1), a);
                refused(kind, "clear to herself", BAD, (x, v) -> x.clear(v[0], v[0]), a);
            }
            for (int a = 1; a <= 11; a++) {
                refused(kind, "tell to an earlier one", BAD, (x, v) -> x.free(1, 0, v[0], v[0] - 1), a);
                refused(kind, "look to an earlier one", BAD, (x, v) -> x.free(1, 1, v[0], 0), a);
            }
        }
        for (int face = 0; face < 4; face++) {
            refused(ALL, "a ninth", FULL, (x, v) -> x.weaver(0, v[0]), face);
        }
        refused(ALL, "a ninth in the last place", FULL, (x, v) -> x.weaver(63, 3));
    }

    // ---- promises 9 to 14

    private static void news(int kind) {
        int[] who = weavers(kind);
        int[] hidden = range(-1, WEAVERS[kind] - 1);
        int[] by = range(0, 1);
        // Kept from 1, so that neither bound of the others is herself.
        bounds(kind, "knows a", BAD_ASKED, (x, v) -> x.knows(v[0], v[1], v[2], 1), who, who, by);
        bounds(kind, "knows x", BAD_ASKED, (x, v) -> x.knows(1, v[0], v[1], v[2]), who, by, hidden);
        bounds(kind, "teller a", BAD_ASKED, (x, v) -> x.teller(v[0], v[1], v[2], 1), who, who, by);
        bounds(kind, "teller x", BAD_ASKED, (x, v) -> x.teller(1, v[0], v[1], v[2]), who, by, hidden);
        bounds(kind, "meet a", BAD_ASKED, (x, v) -> x.meet(v[0], 1, v[1], v[2]), who, range(0, 240), who);
        bounds(kind, "meet b", BAD_ASKED, (x, v) -> x.meet(1, v[0], v[1], v[2]), who, range(0, 240), who);
        bounds(kind, "seen", BAD, (x, v) -> x.seen(v[0], v[1], true), who, range(0, 240));
        bounds(kind, "seen not", BAD, (x, v) -> x.seen(v[0], v[1], false), who, range(0, 240));
        bounds(kind, "apart a", BAD, (x, v) -> x.apart(v[0], 1), who);
        bounds(kind, "apart b", BAD, (x, v) -> x.apart(1, v[0]), who);
    }

    private static void newsByWhoIsAsked() {
        for (int kind = SOME; kind <= ALL; kind++) {
            for (int a = 0; a < WEAVERS[kind]; a++) {
                for (int by = 0; by <= 1; by++) {
                    refused(kind, "knows, kept from her who began", BAD_ASKED, (x, v) -> x.knows(v[0], 1, v[1], v[0]), a, by);
                    refused(kind, "teller, kept from her who began", BAD_ASKED, (x, v) -> x.teller(v[0], 1, v[1], v[0]), a, by);
                }
                refused(kind, "meet of herself", BAD_ASKED, (x, v) -> x.meet(v[0], v[0], 5, 1), a);
                refused(kind, "apart from herself", BAD, (x, v) -> x.apart(v[0], v[0]), a);
            }
        }
        refused(ALL, "an eleventh SEEN", FULL, (x, v) -> x.seen(0, 0, true));
        refused(ALL, "an eleventh SEEN, at the last", FULL, (x, v) -> x.seen(7, 240, false));
    }

    // ---- promises 15 to 25

    private static void words(int kind) {
        int[] word = wordNumbers(kind);
        int bits = (1 << WORDS[kind]) - 1;
        bounds(kind, "like a", BAD, (x, v) -> x.like(v[0], 4), range(0, 5));
        bounds(kind, "like b", BAD, (x, v) -> x.like(4, v[0]), range(0, 5));
        bounds(kind, "word", BAD, (x, v) -> x.word(v[0], 0, v[1]), range(1, 6), range(1, 9));
        int digits = 1;
        for (int n = 1; n <= 6; n++) {
            int lips = n;
            digits *= 6;
            bounds(kind, "word of " + n, BAD, (x, v) -> x.word(lips, v[0], 5), range(0, digits - 1));
        }
        bounds(kind, "alike", BAD, (x, v) -> x.alike(v[0], v[1]), word, word);
        bounds(kind, "lip", BAD, (x, v) -> x.lip(v[0]), range(0, 5));
        bounds(kind, "reads", BAD_ASKED, (x, v) -> x.reads(v[0]), range(-1, 24));
        bounds(kind, "mistaken", BAD, (x, v) -> x.mistaken(v[0]), range(0, bits));
        bounds(kind, "signs", BAD, (x, v) -> x.signs(v[0]), range(0, WORDS[kind]));
        bounds(kind, "plain", BAD, (x, v) -> x.plain(v[0]), range(1, 99));
        bounds(kind, "arrives", BAD, (x, v) -> x.arrives(v[0], v[1], v[2]), word, word, range(1, 12));
        bounds(kind, "turns", BAD_ASKED, (x, v) -> x.turns(v[0], v[1], v[2]), word, range(0, 99), range(1, 99));
    }

    private static void wordsByWhatIsThere() {
        for (int kind = NEW; kind <= ALL; kind++) {
            for (int lip = 0; lip < 6; lip++) {
                refused(kind, "a LIP like itself", NO, (x, v) -> x.like(v[0], v[0]), lip);
            }
            refused(kind, "seven LIPS, all of them 0", BAD, (x, v) -> x.word(7, 0, 1));
            refused(kind, "no LIPS", BAD, (x, v) -> x.word(0, 0, 1));
        }
        for (int kind = SOME; kind <= ALL; kind++) {
            refused(kind, "alike already", NO, (x, v) -> x.like(1, 2));
            refused(kind, "alike already, the other way", NO, (x, v) -> x.like(2, 1));
        }
        refused(ALL, "an eleventh WORD", FULL, (x, v) -> x.word(1, 0, 1));
        refused(ALL, "an eleventh WORD, the greatest", FULL, (x, v) -> x.word(6, 46655, 9));
        for (int lip = 0; lip < 6; lip++) {
            refused(ALL, "a 25th LIP", FULL, (x, v) -> x.lip(v[0]), lip);
        }
        for (int what = 0; what <= 23; what++) {
            refused(NEW, "no WORD in place", NO_READING, (x, v) -> x.reads(v[0]), what);
        }
        refused(SOME, "not so many", NO_READING, (x, v) -> x.reads(1));
        refused(NEW, "share without WORDS", NO, (x, v) -> x.share());
    }

    // ---- promises 26 to 32

    private static void girlAndDeaf(int kind) {
        bounds(kind, "girl", BAD, (x, v) -> x.girl(v[0]), range(0, (1 << WORDS[kind]) - 1));
        bounds(kind, "teach", BAD, (x, v) -> x.teach(v[0]), range(0, WORDS[kind] - KNOWN[kind]));
        bounds(kind, "band", BAD, (x, v) -> x.band(v[0], v[1], v[2]), range(0, 5), range(0, 99), range(0, 9));
        bounds(kind, "heard", BAD, (x, v) -> x.heard(v[0], v[1]), range(0, 60), range(0, 99));
        bounds(kind, "anew", BAD_ASKED, (x, v) -> x.anew(v[0], v[1]), range(0, 1), range(-1, WEAVERS[kind] - 1));
        if (kind == ALL) {
            for (int what = -1; what < 8; what++) {
                refused(kind, "anew of eight, most", NO_ASKED, (x, v) -> x.anew(0, v[0]), what);
                refused(kind, "anew of eight, fewest", NO_ASKED, (x, v) -> x.anew(1, v[0]), what);
            }
        }
    }

    // ---- promises 33 to 40

    private static void textsAndImages(int kind) {
        bounds(kind, "type", BAD, (x, v) -> x.type(0x3b3b3b3b3b3b3b3bL, v[0]), range(1, 8));
        bounds(kind, "sign", BAD, (x, v) -> x.sign(v[0]), range(0, 2));
        bounds(kind, "limb", BAD, (x, v) -> x.limb(v[0], 0), range(0, 1));
        for (int which : new int[] {-1, 0, 1, 2}) {
            refused(kind, "limb(" + which + ", -1)", BAD, (x, v) -> x.limb(v[0], -1), which);
            refused(kind, "limb(" + which + ", MIN)", BAD, (x, v) -> x.limb(v[0], MIN), which);
            if (which == 0 || which == 1) {
                refused(kind, "limb(" + which + ", MAX)", -1, (x, v) -> x.limb(v[0], MAX), which);
                refused(kind, "the limb behind the last", -1, (x, v) -> x.limb(v[0], x.sign(1 + v[0])), which);
            }
        }
        bounds(kind, "image", BAD, (x, v) -> x.image(v[0]), range(0, 1));
        bounds(kind, "from", BAD, (x, v) -> x.from(v[0]), range(0, 1));
        bounds(kind, "count", BAD, (x, v) -> x.count(v[0]), range(0, 5));
    }

    private static void textsByWhatIsThere() {
        for (int n = 1; n <= 8; n++) {
            refused(ALL, "more than 240 bytes", FULL, (x, v) -> x.type(0x2020202020202020L, v[0]), n);
        }
        refused(NEW, "none was kept", NO, (x, v) -> x.from(0));
        refused(NEW, "none was kept", NO, (x, v) -> x.from(1));
        refused(SOME, "the other was not kept", NO, (x, v) -> x.from(0));
    }

    /** An ITEM, or a FAULT, that is refused leaves all, behind however many that are not. */
    private static void shedsByItems() {
        String good = "pillar 1;weaver 2 3;tell 0 5 6;word 7 0;like 3 4;far 1 1;";
        String[] wrong = {"pillar 1;", "pillar 2;", "pillar 64;", "weaver 1 0;", "weaver 2 0;", "weaver 3 4;", "tell 1 0 0;",
            "tell 0 1 0;", "look 0 0 12;", "far 0 1;", "far 1 99;", "word 0 0;", "word 10 0;", "word 1 6;", "like 3 3;",
            "like 4 3;", "like 0 6;"};
        String[] faults = {"pillar", "pillar 1", ";", "5", "pillar 1 2;", "x", "pillar 0001;", "like 1;", "@"};
        int[] at = {6, 8, 0, 0, 9, 0, 7, 6, 0};
        for (String text : wrong) {
            refusedShed(good + text, -1000 - 6);
        }
        for (int i = 0; i < faults.length; i++) {
            refusedShed(good + faults[i], -10 - good.length() - at[i]);
        }
    }

    private static void refusedShed(String text, int due) {
        for (int kind = NEW; kind <= ALL; kind++) {
            ShedTalk x = made(kind);
            ShedTalk other = made(kind);
            x.erase();
            other.erase();
            Due.type(x, text);
            Due.type(other, text);
            Due.due(text + " on object " + kind, x.shed(), due);
            Due.due(text + " on object " + kind + " changes nothing", Arrays.equals(inside(x), inside(other)) ? 1 : 0, 1);
        }
    }
}
