import java.math.BigInteger;
import java.util.ArrayList;
import java.util.List;

/** Promises 33 to 41: the text, the fraction, images, counts, the digest. */
public final class TextTest {
    private static final int MIN = Integer.MIN_VALUE, MAX = Integer.MAX_VALUE;

    public static void main(String[] args) {
        promise33();
        promise33EachNumber();
        promise34();
        promise34Full();
        promise35Items();
        promise35Bounds();
        promise35Numbers();
        promise35AllBytes();
        promise35Length();
        promise35Fault();
        promise35Blanks();
        promise35Refused();
        promise35Anew();
        promise36And37();
        promise37EachLimb();
        promise38And39();
        promise38Empty();
        promise40();
        promise40Full();
        promise41();
        promise41Asking();
        Due.end();
    }

    private static void promise33() {
        ShedTalk x = new ShedTalk();
        int[] bad = {0, 9, -1, MIN, MAX};
        for (int b : bad) {
            Due.due("type(59, " + b + ")", x.type(59, b), -2);
        }
        // "far 1 1;" and what stands above the lowest bytes does not count.
        long far = 0x666172203120313bL;
        Due.due("eight bytes", x.type(far, 8), 8);
        Due.due("they tell an ITEM", x.shed(), 1);
        Due.due("a byte of many", x.type(0x6661722031203120L, 1), 9);
        Due.due("two bytes", x.type(-1L << 16 | ' ' << 8 | ';', 2), 11);
        Due.due("the last one is not an ITEM", x.shed(), -10 - 10);
        for (int i = 0; i < 28; i++) {
            x.type(0x2020202020202020L, 8);
        }
        Due.due("five more are too many for eight", x.type(0, 8), -4);
        Due.due("six are too many", x.type(0, 6), -4);
        Due.due("too many, and not so many at once", x.type(0, 9), -2);
        Due.due("just five", x.type(0, 5), 240);
        Due.due("one more", x.type(0, 1), -4);
        Due.due("bytes", x.count(5), 240);
    }

    // The lowest 1 to 8 bytes of one number, the highest of them first.
    private static void promise33EachNumber() {
        String bytes = "ar 1  1;";
        long v = 0;
        for (int i = 0; i < 8; i++) {
            v = v << 8 | bytes.charAt(i);
        }
        for (int n = 1; n <= 8; n++) {
            ShedTalk x = new ShedTalk();
            Due.type(x, "far 1 1;f");
            Due.type(x, bytes.substring(0, 8 - n));
            Due.due("how many", x.type(v, n), 17);
            Due.due("told by the last " + n, x.shed(), 2);
        }
        ShedTalk y = new ShedTalk();
        for (int i = 1; i <= 30; i++) {
            Due.due("eight more", y.type(0x2020202020202020L, 8), 8 * i);
        }
        for (int n = 1; n <= 8; n++) {
            Due.due(n + " more", y.type(0, n), -4);
        }
        Due.due("none more", y.type(0, 0), -2);
        Due.due("nine more", y.type(0, 9), -2);
        Due.due("blanks alone", y.shed(), 0);
        for (int n = 1; n <= 8; n++) {
            ShedTalk z = new ShedTalk();
            for (int i = 0; i < 29; i++) {
                z.type(0x2020202020202020L, 8);
            }
            if (n < 8) {
                z.type(0x2020202020202020L, 8 - n);
            }
            if (n > 1) {
                Due.due("one byte less is free", z.type(32, 1), 241 - n);
                Due.due("so " + n + " are too many", z.type(0x2020202020202020L, n), -4);
                Due.due("but one less is not", z.type(0x2020202020202020L, n - 1), 240);
            } else {
                Due.due("just one", z.type(32, 1), 240);
            }
        }
    }

    private static void promise34Full() {
        ShedTalk x = new ShedTalk();
        for (int i = 0; i < 30; i++) {
            x.type(-1, 8);
        }
        long before = x.digest();
        Due.due("full", x.erase(), 240);
        Due.due("bytes", x.count(5), 0);
        Due.due("erased", x.digest() == before ? 1 : 0, 0);
        Due.due("a digest as of a new one", x.digest(), new ShedTalk().digest());
        Due.due("room again", x.type(0x2020202020202020L, 8), 8);
        Due.due("nothing of the old", x.shed(), 0);
    }

    private static void promise34() {
        ShedTalk x = new ShedTalk();
        Due.due("nothing to erase", x.erase(), 0);
        x.type(-1, 8);
        x.type(-1, 3);
        Due.due("a byte that begins none", x.shed(), -10);
        Due.due("erase", x.erase(), 11);
        Due.due("nothing is left", x.shed(), 0);
        Due.due("erase again", x.erase(), 0);
        Due.due("from the beginning", x.type(0, 1), 1);
    }

    private static void promise35Items() {
        ShedTalk x = new ShedTalk();
        Due.due("all kinds of ITEMS", Due.tell(x, "pillar 17;weaver 16 1;weaver 18 3;tell 0 2 4;look 1 3 11;far 20 30;"
            + "word 4 1 2;word 9 5 5 5 5 5 5;word 1 0;like 0 1;like 2 1;"), 11);
        Due.due("a PILLAR", x.pillar(17), -3);
        Due.due("a PILLAR between", x.clear(0, 1), 0);
        Due.due("PILLARS", x.count(0), 1);
        Due.due("MOUTHS", x.far(0, 18), 20);
        Due.due("HANDS", x.far(1, 50), 30);
        Due.due("0 faces", x.face(0, 1), 1);
        Due.due("1 faces", x.face(1, 3), 3);
        Due.due("LIPS alike by all these", x.like(0, 2), -3);
        Due.due("WORDS", x.count(3), 3);
        for (int i = 0; i < 6; i++) {
            x.lip(5);
        }
        Due.due("six LIPS", x.reads(0), 1);
        Due.tell(x, "weaver 16 1;weaver 18 3;tell 0 2 4;look 1 3 11;");
        Due.due("tell in 2 to 4, look in 3 to 11", x.knows(0, 1, 0, -1), 4);
        Due.due("the other way, all at first", x.knows(1, 0, 0, -1), 1);
        Due.tell(x, "weaver 16 1;weaver 18 3;tell 0 3 3;look 1 0 2;");
        Due.due("alone", x.knows(0, 1, 0, -1), -1);
        StringBuilder most = new StringBuilder();
        for (int i = 0; i < 34; i++) {
            most.append("far1 ").append(i % 10).append(';');
        }
        Due.due("a far of 0 is refused", Due.tell(x, most.toString()), -1000);
        Due.due("as many as there may be", Due.tell(x, most.toString().replace("1 0", "1 5")), 34);
        Due.due("the last of them", x.far(1, 50), 3);
        x.type(';', 1);
        Due.due("one token too many", x.shed(), -10 - 238);
    }

    // Each number of each ITEM at its bounds, and beyond them: that ITEM is refused.
    private static void promise35Bounds() {
        String[] good = {"pillar 0;pillar 63;", "weaver 0 0;weaver 63 3;", "weaver 9 0;tell 0 0 0;tell 0 11 11;tell 0 0 11;",
            "weaver 9 0;look 0 0 0;look 0 11 11;look 0 0 11;", "weaver 9 0;weaver 8 0;tell 1 5 5;look 1 4 6;",
            "far 1 98;far 98 1;far 98 98;far 1 1;", "word 1 0;word 9 5;word 1 5 5 5 5 5 5;word 9 0 0 0 0 0 0;",
            "like 0 5;like 5 1;like 4 0;", "pillar 000;pillar 063;", "tell 0 0 0;weaver 9 0;"};
        int[] items = {2, 2, 4, 4, 4, 4, 4, 3, 2, -1000};
        for (int i = 0; i < good.length; i++) {
            Due.due(good[i], Due.tell(new ShedTalk(), good[i]), items[i]);
        }
        String[] refused = {"pillar 64;", "pillar 999;", "weaver 64 0;", "weaver 0 4;", "weaver 999 0;", "weaver 0 999;",
            "tell 1 0 0;", "tell 999 0 0;", "tell 0 12 12;", "tell 0 0 12;", "tell 0 1 0;", "tell 0 11 10;", "tell 0 999 999;",
            "look 1 0 0;", "look 999 0 0;", "look 0 12 12;", "look 0 0 12;", "look 0 1 0;", "look 0 11 10;", "look 0 999 999;",
            "far 0 1;", "far 1 0;", "far 99 1;", "far 1 99;", "far 999 999;", "word 0 0;", "word 10 0;", "word 999 0;",
            "word 1 6;", "word 1 999;", "word 1 0 0 0 0 0 6;", "word 1 6 0 0 0 0 0;", "like 0 6;", "like 6 0;", "like 999 0;",
            "like 0 0;", "like 5 5;", "pillar 9;", "weaver 9 1;"};
        for (String item : refused) {
            ShedTalk x = new ShedTalk();
            Due.due("weaver 9 0;" + item, Due.tell(x, "weaver 9 0;" + item), -1001);
            Due.due("nobody is there", x.count(1), 0);
            // Alone, these two may stand on 9, and refuse it to her.
            boolean takesHerPlace = item.equals("pillar 9;") || item.equals("weaver 9 1;");
            Due.due(item + "weaver 9 0;", Due.tell(x, item + "weaver 9 0;"), takesHerPlace ? -1001 : -1000);
        }
    }

    // The number of the first ITEM that is refused, from 0 to the last of 34.
    private static void promise35Numbers() {
        for (int wrong = 0; wrong < 34; wrong++) {
            StringBuilder text = new StringBuilder();
            for (int i = 0; i < 34; i++) {
                text.append("far").append(i == wrong ? 0 : 1 + i % 9).append(' ').append(1 + i % 8).append(';');
            }
            ShedTalk x = Due.told("far 3 4;");
            Due.due("the ITEM " + wrong, Due.tell(x, text.toString()), -1000 - wrong);
            Due.due("MOUTHS as they were", x.far(0, 3), 3);
            Due.due("HANDS as they were", x.far(1, 4), 4);
        }
        StringBuilder text = new StringBuilder();
        for (int w = 0; w < 8; w++) {
            text.append("weaver ").append(w).append(" 0;");
        }
        Due.due("eight WEAVERS", Due.tell(new ShedTalk(), text.toString()), 8);
        Due.due("nine", Due.tell(new ShedTalk(), text + "weaver 8 0;"), -1008);
        Due.due("a ninth where one is", Due.tell(new ShedTalk(), text + "weaver 7 0;"), -1008);
        text.setLength(0);
        for (int w = 0; w < 10; w++) {
            text.append("word 1 ").append(w % 6).append(';');
        }
        Due.due("ten WORDS", Due.tell(new ShedTalk(), text.toString()), 10);
        Due.due("eleven", Due.tell(new ShedTalk(), text + "word 1 0;"), -1010);
        Due.due("like those that are alike by all these", Due.tell(new ShedTalk(), "like 0 1;like 1 2;like 2 0;"), -1002);
    }

    // A byte of each kind where a word, a number or an end is due: only a blank, and what is due, is no FAULT there.
    private static void promise35AllBytes() {
        for (int b = 0; b < 256; b++) {
            ShedTalk x = new ShedTalk();
            x.type(b, 1);
            boolean letter = b >= 'a' && b <= 'z';
            boolean figure = b >= '0' && b <= '9';
            Due.due("byte " + b + " alone", x.shed(), b == ' ' ? 0 : -10);
            Due.type(x, "far 1 1;");
            Due.due("byte " + b + " ahead of a word", x.shed(), b == ' ' ? 1 : -10);
            Due.due("byte " + b + " where a number is due", told("far ", b, " 1 1;"),
                b == ' ' ? 1 : figure ? -10 - 8 : -10 - 4);
            Due.due("byte " + b + " behind a number", told("far 1", b, " 1;"), b == ' ' ? 1 : figure ? 1 : -10 - 5);
            Due.due("byte " + b + " where an end is due", told("far 1 1", b, ";"),
                b == ' ' || figure ? 1 : b == ';' ? -10 - 8 : -10 - 7);
            Due.due("byte " + b + " within a word", told("fa", b, "r 1 1;"), -10);
            Due.due("byte " + b + " behind a word", told("far", b, "1 1;"),
                b == ' ' ? 1 : letter ? -10 : figure ? 1 : -10 - 3);
            Due.due("byte " + b + " behind an ITEM", told("far 1 1;", b, ""), b == ' ' ? 1 : -10 - 8);
        }
    }

    private static int told(String ahead, int b, String behind) {
        ShedTalk x = new ShedTalk();
        Due.type(x, ahead);
        x.type(b, 1);
        Due.type(x, behind);
        return x.shed();
    }

    // THE TEXT up to 240 bytes, with an ITEM at its beginning or at its end, or cut short there.
    private static void promise35Length() {
        for (int blanks = 0; blanks <= 232; blanks++) {
            String far = blanks == 232 ? "far 1 1;" : "far  1 1;";
            Due.due(blanks + " blanks ahead", Due.tell(new ShedTalk(), " ".repeat(blanks) + far), 1);
            Due.due(blanks + " blanks behind", Due.tell(new ShedTalk(), far + " ".repeat(blanks)), 1);
            Due.due(blanks + " blanks between", Due.tell(new ShedTalk(), "far" + " ".repeat(blanks) + "1 1;"), 1);
            Due.due(blanks + " blanks alone", Due.tell(new ShedTalk(), " ".repeat(blanks)), 0);
            Due.due("cut short", Due.tell(new ShedTalk(), " ".repeat(blanks) + "far 1 1"), -10 - blanks - 7);
            Due.due("cut short, with blanks behind", Due.tell(new ShedTalk(), "far 1 1" + " ".repeat(blanks)), -10 - blanks - 7);
            Due.due("cut short behind a word", Due.tell(new ShedTalk(), "far" + " ".repeat(blanks)), -10 - blanks - 3);
            Due.due("cut short within a word", Due.tell(new ShedTalk(), " ".repeat(blanks) + "fa"), -10 - blanks);
        }
        Due.due("240 blanks", Due.tell(new ShedTalk(), " ".repeat(240)), 0);
        Due.due("239 blanks", Due.tell(new ShedTalk(), " ".repeat(239) + ";"), -249);
        Due.due("letters alone", Due.tell(new ShedTalk(), "a".repeat(240)), -10);
        Due.due("figures alone", Due.tell(new ShedTalk(), "1".repeat(240)), -10);
        Due.due("figures where a number is due", Due.tell(new ShedTalk(), "far " + "1".repeat(236)), -14);
        Due.due("ends alone", Due.tell(new ShedTalk(), ";".repeat(240)), -10);
        Due.due("zeros", Due.tell(new ShedTalk(), "far 001 " + "0".repeat(232)), -18);
    }

    private static void promise35Fault() {
        ShedTalk x = new ShedTalk();
        String[] texts = {
            // Each fault stands at the sign ^, which is taken out.
            "^;", "^5;", "^5 pillar;", "^pill;", "^qillar 5;", "^pillars 5;", "^Pillar 5;", "pillar ^;", "pillar 5 ^6;", "pillar^",
            "pillar  ^", "pillar 5^", "pillar 5  ^", "pillar ^five;", "pillar ^pillar;", "pillar 5^pillar 6;",
            "pillar ^1234;", "pillar ^12345678;", "pillar 123;^1234", "pillar 5;^;", "weaver 5 ^;", "weaver 5 1 ^1;",
            "weaver 5 ^up;", "tell 0 1 ^;", "tell 0 1 2 ^3;", "look 0 1 ^;", "look 0 1 2 ^3;", "far 5 ^;", "far 5 5 ^5;",
            "like 1 ^;", "like 1 2 ^3;", "word 5 ^;", "word ^;", "word 5 0 0 0 0 0 0 ^0;", "word 5 1 2 3 4 5 0^",
            "pillar 5;^x", "pillar 5;^pill", "pillar 5^.", "pillar ^-1;", "^\t", "pillar^\n5;", "^\u00e9;", "^\u0000",
            "pillar 5;^PILLAR 6;", "pillar 64;^;", "^`", "^{", "^/", "^:", "pillar ^/1;", "pillar 5^:", "^farm",
            "^farm 1 1;", "far 11^;", "^farfar 1 1;", "far 1 1;^farfar", "tell 0 12^;", "like 1^like 2;", "^fa r 1 1;", "far1 1 ^1;", "pillar 5 ^0006;", "pillar ^pill 5", "^#pillar;", "pillar 5;far^",
        };
        for (String text : texts) {
            Due.due("'" + text + "'", Due.tell(x, text.replace("^", "")), -10 - text.indexOf('^'));
        }
        Due.due("blanks behind the last", Due.tell(x, "pillar 5;  "), 1);
        StringBuilder late = new StringBuilder();
        for (int i = 0; i < 234; i++) {
            late.append(' ');
        }
        Due.due("ends too early at 240", Due.tell(x, late + "pillar"), -250);
        Due.due("a FAULT ahead of what is refused", Due.tell(x, "pillar 99;pillar 5"), -28);
    }

    private static void promise35Blanks() {
        ShedTalk x = new ShedTalk();
        Due.due("none at all", Due.tell(x, ""), 0);
        Due.due("blanks alone", Due.tell(x, "    "), 0);
        Due.due("none needed", Due.tell(x, "pillar5;weaver6 1;word5 1 2;like1 2;"), 4);
        Due.due("WORD of two LIPS", x.word(2, 8, 1), 1);
        Due.due("alike", x.alike(0, 1), 1);
        Due.due("many", Due.tell(x, "   pillar    5   ;   weaver 6   1 ;  "), 2);
        Due.due("zeros ahead", Due.tell(x, "pillar 005;pillar 010;"), 2);
        Due.due("5", x.pillar(5), -3);
        Due.due("10", x.pillar(10), -3);
    }

    private static void promise35Refused() {
        String[] texts = {
            "pillar 64", "pillar 999", "pillar 1;pillar 1", "weaver 64 0", "weaver 5 4", "weaver 5 0;weaver 5 0",
            "pillar 5;weaver 5 1", "weaver 5 1;pillar 5", "tell 0 1 2", "weaver 5 0;tell 1 1 2", "weaver 5 0;tell 0 3 2",
            "weaver 5 0;tell 0 0 12", "weaver 5 0;look 0 3 2", "look 0 0 0", "far 0 5", "far 5 0", "far 99 5", "far 5 99",
            "word 0 1", "word 10 1", "word 5 6", "word 5 0 6", "word 5 6 0", "word 5 0 999", "like 0 6", "like 6 0",
            "like 1 1", "like 0 1;like 1 0", "like 0 1;like 1 2;like 0 2", "weaver 999 999",
        };
        for (String text : texts) {
            ShedTalk x = Due.told("weaver 63 1;word 5 1;pillar 0;far 7 8;like 3 4;");
            x.seen(0, 5, true);
            x.lip(1);
            x.girl(1);
            x.erase();
            Due.type(x, text + ";");
            long before = x.digest();
            int item = text.split(";").length - 1;
            Due.due("'" + text + ";'", x.shed(), -1000 - item);
            Due.due("nothing changes by '" + text + ";'", x.digest(), before);
        }
        ShedTalk y = new ShedTalk();
        StringBuilder nine = new StringBuilder();
        for (int i = 0; i < 9; i++) {
            nine.append("weaver").append(i).append(" 0;");
        }
        Due.due("nine WEAVERS", Due.tell(y, nine.toString()), -1008);
        StringBuilder eleven = new StringBuilder();
        for (int i = 0; i < 11; i++) {
            eleven.append("word1 0;");
        }
        Due.due("eleven WORDS", Due.tell(y, eleven.toString()), -1010);
        Due.due("the first of two", Due.tell(y, "pillar 5;pillar 64;pillar 5;"), -1001);
    }

    private static void promise35Anew() {
        ShedTalk x = Due.told("weaver 9 1;weaver 12 3;word 4 1 2;word 5 3;like 0 1;pillar 3;far 20 9;tell 0 1 1;");
        x.seen(0, 5, true);
        x.girl(3);
        x.lip(1);
        x.plain(7);
        x.band(2, 50, 1);
        x.share();
        Due.due("an empty TEXT tells of none", Due.tell(x, ""), 0);
        for (int what = 0; what <= 5; what++) {
            Due.due("none of " + what, x.count(what), 0);
        }
        Due.due("MOUTHS as at first", x.far(0, 18), 18);
        Due.due("HANDS as at first", x.far(1, 50), 50);
        Due.due("LIPS as at first", x.like(0, 1), 1);
        Due.due("a WEAVER anew", x.weaver(9, 1), 0);
        x.weaver(12, 3);
        Due.due("TELL anew", x.knows(0, 1, 0, -1), 1);
        Due.due("THE GIRL anew", x.girl(0), 0);
        Due.due("CLEAR of HEARD stays", x.plain(20), 7);
        Due.due("bands stay", x.heard(0, 0), 4);
        Due.fraction("THE FRACTION stays", x, 1, 1);
        Due.due("THE TEXT stays", Due.tell(x, "pillar 9;"), 1);
        Due.due("THE TEXT stays", x.count(5), 9);
        Due.due("told again, anew", x.shed(), 1);
        Due.due("one PILLAR", x.count(0), 1);
    }

    private static void promise36And37() {
        ShedTalk x = Due.told("word 5 0;word 5 0;");
        int[] bad = {-1, 3, MIN, MAX};
        for (int b : bad) {
            Due.due("sign(" + b + ")", x.sign(b), -2);
        }
        int[][] badLimbs = {{-1, 0}, {2, 0}, {0, -1}, {1, -1}, {MIN, 0}, {MAX, 0}, {0, MIN}, {2, -1}};
        for (int[] b : badLimbs) {
            Due.due("limb(" + b[0] + ", " + b[1] + ")", x.limb(b[0], b[1]), -2);
        }
        Due.fraction("at first", x, 0, 1);
        Due.due("no limb above", x.limb(0, MAX), -1);
        Due.due("one limb below", x.limb(1, 1), -1);
        x.plain(10);
        x.arrives(0, 1, 12);
        // (1 - 3^-12) by 2.
        Due.fraction("twelve hearers", x, 265720, 531441);
        x.plain(98);
        x.arrives(0, 0, 5);
        // 103^5 is 11592740743, (103^5 + 93^5) by 2 is 9274812218.
        Due.due("sign(0)", x.sign(0), 1);
        Due.due("sign(1)", x.sign(1), 2);
        Due.due("sign(2)", x.sign(2), 2);
        Due.due("limb(0, 0)", x.limb(0, 0), 9274812218L % 1073741824);
        Due.due("limb(0, 1)", x.limb(0, 1), 9274812218L / 1073741824);
        Due.due("limb(0, 2)", x.limb(0, 2), -1);
        Due.due("limb(1, 0)", x.limb(1, 0), 11592740743L % 1073741824);
        Due.due("limb(1, 1)", x.limb(1, 1), 11592740743L / 1073741824);
        Due.due("limb(1, 2)", x.limb(1, 2), -1);
    }

    // 2 words of 107 in all: 91 of 107 more often right than wrong, so the limbs grow with the row.
    private static void promise37EachLimb() {
        ShedTalk x = Due.told("word 8 0;word 8 0;");
        x.plain(99);
        BigInteger below = BigInteger.ONE;
        BigInteger more = BigInteger.ONE;
        for (int n = 1; n <= 12; n++) {
            below = below.multiply(BigInteger.valueOf(107));
            more = more.multiply(BigInteger.valueOf(91));
            x.arrives(0, 0, n);
            BigInteger[] due = {below.add(more).shiftRight(1), below};
            for (int which = 0; which <= 1; which++) {
                int limbs = (due[which].bitLength() + 29) / 30;
                Due.due("limbs", x.sign(1 + which), limbs);
                for (int i = 0; i < limbs; i++) {
                    Due.due("limb " + i, x.limb(which, i), due[which].shiftRight(30 * i).intValue() & 1073741823);
                }
                Due.due("not so many", x.limb(which, limbs), -1);
                Due.due("nor one more", x.limb(which, limbs + 1), -1);
                Due.due("nor 40", x.limb(which, 40), -1);
                Due.due("nor the most", x.limb(which, MAX), -1);
            }
            Due.due("above 0", x.sign(0), 1);
        }
        // Short ones behind a long one, in lowest terms all the same.
        x.girl(3);
        x.word(1, 1, 8);
        x.share();
        Due.fraction("8 of 24", x, 1, 3);
        x.arrives(0, 0, 12);
        Due.due("long again", x.sign(2) > 2 ? 1 : 0, 1);
        x.plain(1);
        x.arrives(2, 2, 1);
        Due.fraction("1 of 1 and twice 4", x, 1, 9);
        x.girl(0);
        x.share();
        Due.fraction("0 again", x, 0, 1);
        Due.due("no limb of 0", x.limb(0, 0), -1);
        Due.due("no second one below", x.limb(1, 1), -1);
    }

    // Images of a new object, and of one that has all that there may be.
    private static void promise38Empty() {
        ShedTalk x = new ShedTalk();
        long fresh = x.digest();
        Due.due("image(0) of a new one", x.image(0), 1);
        Due.due("the other is not kept", x.from(1), -3);
        for (int p = 8; p < 64; p++) {
            x.pillar(p);
        }
        for (int w = 0; w < 8; w++) {
            x.weaver(w, w % 4);
        }
        for (int i = 0; i < 10; i++) {
            x.seen(i % 8, i, true);
            x.word(6, 46655 - i, 9);
        }
        for (int i = 0; i < 24; i++) {
            x.lip(i % 6);
        }
        for (int i = 0; i < 6; i++) {
            x.band(i, 99, 9);
            x.like(0, i);
        }
        x.plain(99);
        x.girl(1023);
        long full = x.digest();
        Due.due("image(1) of all", x.image(1), 1);
        for (int i = 0; i < 3; i++) {
            Due.due("from(0)", x.from(0), 1);
            Due.due("a new one again", x.digest(), fresh);
            Due.due("a WEAVER of nobody", x.weaver(63, 1), 0);
            Due.due("from(1)", x.from(1), 1);
            Due.due("all again", x.digest(), full);
            Due.due("a ninth", x.weaver(63, 1), -2);
        }
        Due.due("image(0) anew", x.image(0), 1);
        x.hush();
        Due.due("from(0)", x.from(0), 1);
        Due.due("all again", x.digest(), full);
        ShedTalk y = new ShedTalk();
        Due.due("images of another object", y.from(0), -3);
        Due.due("image of nothing", y.image(1), 1);
        Due.due("told anew", Due.tell(y, "pillar 1;"), 1);
        Due.due("image(0)", y.image(0), 1);
        Due.due("from(1)", y.from(1), 1);
        Due.due("PILLARS", y.count(0), 0);
        Due.due("from(0)", y.from(0), 1);
        Due.due("PILLARS", y.count(0), 1);
    }

    private static void promise38And39() {
        ShedTalk x = Due.told("weaver 9 1;weaver 12 3;word 4 1 2;word 5 3;like 0 1;pillar 3;far 20 9;tell 0 1 1;look 1 2 3;");
        int[] bad = {-1, 2, MIN, MAX};
        for (int b : bad) {
            Due.due("image(" + b + ")", x.image(b), -2);
            Due.due("from(" + b + ")", x.from(b), -2);
        }
        Due.due("none was kept", x.from(1), -3);
        Due.due("image(1)", x.image(1), 1);
        Due.due("the other was not kept", x.from(0), -3);
        long one = x.digest();
        x.seen(0, 5, true);
        x.girl(3);
        x.lip(1);
        x.plain(7);
        x.band(2, 50, 1);
        x.pillar(33);
        x.weaver(50, 2);
        x.face(0, 2);
        x.free(0, 0, 5, 6);
        x.free(1, 1, 5, 6);
        x.far(0, 5);
        x.far(1, 5);
        x.word(1, 1, 1);
        x.like(4, 5);
        long two = x.digest();
        Due.due("image(0)", x.image(0), 1);
        Due.due("from(1)", x.from(1), 1);
        Due.due("all as it was", x.digest(), one);
        Due.due("from(0)", x.from(0), 1);
        Due.due("and back", x.digest(), two);
        x.hush();
        x.girl(0);
        x.seen(1, 1, false);
        Due.due("an image stays as it was kept", x.from(0), 1);
        Due.due("an image stays as it was kept", x.digest(), two);
        // As long as THE TEXT was, for the digest counts its bytes.
        Due.due("another SHED", Due.tell(x, "weaver 1 0;weaver 2 0;word 1 0;" + " ".repeat(61)), 3);
        x.seen(1, 7, false);
        x.lip(5);
        x.from(0);
        Due.due("an image is whole", x.digest(), two);
        Due.due("image(1) again", x.image(1), 1);
        x.from(1);
        Due.due("kept anew", x.digest(), two);
        Due.due("THE TEXT is in no image", x.erase(), 92);
        x.share();
        x.type(59, 1);
        x.from(0);
        Due.due("THE TEXT is in no image", x.count(5), 1);
        Due.fraction("THE FRACTION is in no image", x, 9, 10);
        x.erase();
        x.shed();
        Due.due("images are in no image", x.from(1), 1);
        Due.due("images are not told anew", x.count(1), 3);
    }

    private static void promise40() {
        ShedTalk x = new ShedTalk();
        x.pillar(0);
        for (int i = 0; i < 2; i++) {
            x.weaver(10 + i, 0);
        }
        for (int i = 0; i < 3; i++) {
            x.seen(0, i, true);
        }
        for (int i = 0; i < 4; i++) {
            x.word(1, i, 1);
        }
        for (int i = 0; i < 5; i++) {
            x.lip(i);
        }
        x.type(0, 6);
        for (int what = 0; what <= 5; what++) {
            Due.due("count(" + what + ")", x.count(what), what + 1);
        }
        int[] bad = {-1, 6, MIN, MAX};
        for (int b : bad) {
            Due.due("count(" + b + ")", x.count(b), -2);
        }
    }

    // Up to as many as there may be, one by one.
    private static void promise40Full() {
        ShedTalk x = new ShedTalk();
        for (int i = 1; i <= 56; i++) {
            x.pillar(i + 7);
            Due.due("PILLARS", x.count(0), i);
        }
        for (int i = 1; i <= 9; i++) {
            x.weaver(i - 1, 0);
            Due.due("WEAVERS", x.count(1), Math.min(8, i));
        }
        for (int i = 1; i <= 11; i++) {
            x.seen(0, i, true);
            Due.due("SEEN", x.count(2), Math.min(10, i));
            x.word(1, 0, 1);
            Due.due("WORDS", x.count(3), Math.min(10, i));
        }
        for (int i = 1; i <= 25; i++) {
            x.lip(0);
            Due.due("LIPS", x.count(4), Math.min(24, i));
        }
        ShedTalk y = new ShedTalk();
        for (int i = 1; i <= 241; i++) {
            y.type(0, 1);
            Due.due("bytes", y.count(5), Math.min(240, i));
        }
    }

    /** What only asks changes nothing; what tells THE FRACTION changes nothing else. */
    private static void promise41Asking() {
        ShedTalk x = Due.told("weaver 9 1;weaver 12 3;tell 0 1 2;pillar 3;word 4 1 2;word 5 2 1;like 2 1;");
        x.seen(1, 240, true);
        x.lip(1);
        x.lip(2);
        x.girl(2);
        x.share();
        long before = x.digest();
        for (int v = -1; v <= 2; v++) {
            x.sees(0, 1, v);
            x.clear(0, v);
            x.knows(0, 1, v, -1);
            x.teller(0, 1, 0, v);
            x.meet(0, 1, v, 1);
            x.source();
            x.apart(0, v);
            x.alike(0, v);
            x.reads(v);
            x.mistaken(v);
            x.signs(v);
            x.turns(0, 1, v);
            x.gets();
            x.teach(v);
            x.heard(1, v);
            x.anew(0, v);
            x.anew(1, v);
            x.sign(v);
            x.limb(1, v);
            x.image(v);
            x.count(v);
            Due.due("asked", x.digest(), before);
        }
        Due.due("the image is as it all is", x.from(0), 1);
        Due.due("the image is as it all is", x.digest(), before);
        x.arrives(0, 0, 12);
        Due.due("another FRACTION", x.digest() == before ? 1 : 0, 0);
        x.share();
        Due.due("the same once more", x.digest(), before);
    }

    private static void promise41() {
        ShedTalk x = Due.told("weaver 9 1;weaver 12 3;tell 0 1 2;look 1 11 11;far 20 9;pillar 3;word 4 1 2;word 5 3;like 5 2;"
            + "like 2 1;");
        x.seen(1, 240, true);
        x.seen(0, 3, false);
        x.lip(4);
        x.lip(0);
        x.plain(33);
        x.girl(2);
        for (int i = 0; i < 6; i++) {
            x.band(i, 90 + i, i);
        }
        x.share();
        List<Integer> all = new ArrayList<>(List.of(1, 2, 2, 2, 2, 103));
        for (int p = 0; p < 64; p++) {
            all.add(p == 3 ? 1 : 0);
        }
        all.addAll(List.of(9, 1, 6, 4095, 12, 3, 4095, 2048, 20, 9, 1, 240, 1, 0, 3, 0));
        all.addAll(List.of(0, 1, 1, 3, 4, 1, 2, 8, 4, 1, 3, 5, 4, 0, 33, 2));
        all.addAll(List.of(90, 0, 91, 1, 92, 2, 93, 3, 94, 4, 95, 5, 1, 1, 1, 5, 9));
        long h = 523;
        for (int v : all) {
            h = 31 * h + v;
        }
        Due.due("digest", x.digest(), h);
        Due.due("digest again", x.digest(), h);
        h = 523;
        all = new ArrayList<>(List.of(0, 0, 0, 0, 0, 0));
        for (int p = 0; p < 64; p++) {
            all.add(0);
        }
        all.addAll(List.of(18, 50, 0, 1, 2, 3, 4, 5, 20, 0, 0, 0, 0, 0, 0, 0, 0, 0, 0, 0, 0, 0, 0, 0, 1, 1));
        for (int v : all) {
            h = 31 * h + v;
        }
        Due.due("digest of a new object", new ShedTalk().digest(), h);
    }
}
