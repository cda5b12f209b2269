/** Counts the answers that are not the due ones. */
final class Due {
    private static int asked, wrong;

    private Due() {
    }

    static void due(String what, long got, long want) {
        asked++;
        if (got != want) {
            wrong++;
            System.out.println(what + " answered " + got + ", due is " + want);
        }
    }

    static void type(ShedTalk x, String text) {
        for (int at = 0; at < text.length(); at += 8) {
            int n = Math.min(8, text.length() - at);
            long v = 0;
            for (int i = 0; i < n; i++) {
                v = v << 8 | text.charAt(at + i);
            }
            x.type(v, n);
        }
    }

    /** What shed() answers to a text on an object. */
    static int tell(ShedTalk x, String text) {
        x.erase();
        type(x, text);
        return x.shed();
    }

    static ShedTalk told(String text) {
        ShedTalk x = new ShedTalk();
        due(text, Integer.signum(tell(x, text)), 1);
        return x;
    }

    static void fraction(String what, ShedTalk x, int above, int below) {
        due(what + ": sign", x.sign(0), above == 0 ? 0 : 1);
        due(what + ": limbs above", x.sign(1), above == 0 ? 0 : 1);
        due(what + ": limbs below", x.sign(2), 1);
        due(what + ": above", x.limb(0, 0), above == 0 ? -1 : above);
        due(what + ": below", x.limb(1, 0), below);
    }

    static void end() {
        System.out.println(asked + " answers, " + wrong + " not as due");
        if (wrong != 0) {
            System.exit(1);
        }
    }
}
