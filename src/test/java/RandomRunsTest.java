import java.util.ArrayList;
import java.util.List;
import java.util.Random;

/** Runs of calls by seeds that stand here, each answer compared with the model's. */
public final class RandomRunsTest {
    // What an object answers behind its 512th call is free.
    private static final int RUNS = 1200, CALLS = 512;

    private final Random random;
    private ShedTalk program = new ShedTalk();
    private ShedModel model = new ShedModel();
    private final List<String> told = new ArrayList<>();
    private long got, want;

    private RandomRunsTest(long seed) {
        random = new Random(seed);
    }

    public static void main(String[] args) {
        int runs = args.length > 0 ? Integer.parseInt(args[0]) : RUNS;
        long first = args.length > 1 ? Long.parseLong(args[1]) : 0;
        for (long seed = first; seed < first + runs; seed++) {
            if (!new RandomRunsTest(seed).run(seed)) {
                System.exit(1);
            }
        }
        System.out.println(runs + " random runs answer as the model does");
    }

    private boolean run(long seed) {
        int kind = (int) (seed % 4);
        for (int i = 1; mayCall(); i++) {
            call(pick(kind));
            if (got == want && i % 16 == 0 && mayCall()) {
                say("digest");
                due(program.digest(), model.digest());
            }
            if (got != want) {
                System.out.println("seed " + seed + ", call " + told.size() + ":");
                told.forEach(System.out::println);
                System.out.println("answered " + got + ", the model " + want);
                return false;
            }
        }
        return true;
    }

    private boolean mayCall() {
        return told.size() < CALLS;
    }

    /** Each kind of run has calls that it makes more often. */
    private int pick(int kind) {
        int[][] often = {
            {0, 1, 1, 1, 2, 3, 4, 5, 6, 7, 8, 9, 10, 11, 12, 30},
            {13, 14, 14, 15, 16, 16, 16, 18, 18, 19, 20},
            {14, 14, 21, 22, 23, 24, 25, 26, 27, 34, 35, 35},
            {1, 5, 9, 14, 31, 33, 33, 33, 32, 28, 29, 39},
        };
        return random.nextInt(4) == 0 ? random.nextInt(39) : often[kind][random.nextInt(often[kind].length)];
    }

    private int v(int least, int most) {
        switch (random.nextInt(60)) {
            case 0:
                return least - 1;
            case 1:
                return most + 1;
            case 2:
                return random.nextInt(5) == 0 ? Integer.MAX_VALUE : most;
            case 3:
                return random.nextInt(5) == 0 ? Integer.MIN_VALUE : least;
            default:
                return least + random.nextInt(Math.max(1, most - least + 1));
        }
    }

    private int weaver() {
        return v(0, Math.max(0, model.count(1) - 1));
    }

    private int word() {
        return v(0, Math.max(0, model.count(3) - 1));
    }

    private int words() {
        return v(0, (1 << model.count(3)) - 1);
    }

    private int place() {
        // A small floor has more in it that sees and hides.
        return random.nextInt(3) == 0 ? v(0, 63) : v(0, 4) * 8 + v(0, 4);
    }

    private int hidden() {
        return random.nextInt(2) == 0 ? -1 : weaver();
    }

    private void say(String call, int... args) {
        StringBuilder b = new StringBuilder("x.").append(call).append('(');
        for (int i = 0; i < args.length; i++) {
            b.append(i > 0 ? ", " : "").append(args[i]);
        }
        told.add(b.append(");").toString());
    }

    private void due(long program, long model) {
        got = program;
        want = model;
    }

    private void call(int which) {
        if (which < 13) {
            callOnFloor(which);
        } else if (which < 27) {
            callOnWords(which);
        } else {
            callOnRest(which);
        }
    }

    private void callOnFloor(int which) {
        int a = weaver(), b = weaver(), c = weaver(), x = hidden(), by = v(0, 1), p = place(), f = v(0, 3);
        int s = random.nextInt(3) == 0 ? v(0, 240) : v(0, 15), from = v(0, 11), to = v(0, 11);
        boolean knew = random.nextInt(3) > 0;
        switch (which) {
            case 0:
                say("pillar", p);
                due(program.pillar(p), model.pillar(p));
                break;
            case 1:
                say("weaver", p, f);
                due(program.weaver(p, f), model.weaver(p, f));
                break;
            case 2:
                say("face", a, f);
                due(program.face(a, f), model.face(a, f));
                break;
            case 3:
                say("free", a, by, from, to);
                due(program.free(a, by, from, to), model.free(a, by, from, to));
                break;
            case 4:
                int v = v(1, 98);
                say("far", by, v);
                due(program.far(by, v), model.far(by, v));
                break;
            case 5:
                say("sees", a, b, by);
                due(program.sees(a, b, by), model.sees(a, b, by));
                break;
            case 6:
                say("clear", a, b);
                due(program.clear(a, b), model.clear(a, b));
                break;
            case 7:
                say("knows", a, b, by, x);
                due(program.knows(a, b, by, x), model.knows(a, b, by, x));
                break;
            case 8:
                say("teller", a, b, by, x);
                due(program.teller(a, b, by, x), model.teller(a, b, by, x));
                break;
            case 9:
                say("meet", a, b, s, c);
                due(program.meet(a, b, s, c), model.meet(a, b, s, c));
                break;
            case 10:
                told.add("x.seen(" + a + ", " + s + ", " + knew + ");");
                due(program.seen(a, s, knew), model.seen(a, s, knew));
                break;
            case 11:
                say("source");
                due(program.source(), model.source());
                break;
            default:
                say("apart", a, b);
                due(program.apart(a, b), model.apart(a, b));
                break;
        }
    }

    private void callOnWords(int which) {
        int w = word(), o = word(), bits = words(), l = v(0, 5), m = v(0, 5), k = v(0, model.count(3));
        switch (which) {
            case 13:
                say("like", l, m);
                due(program.like(l, m), model.like(l, m));
                break;
            case 14:
                int n = random.nextInt(3) > 0 ? 1 + random.nextInt(2) : v(1, 6);
                int lips = v(0, (int) Math.pow(6, Math.max(1, Math.min(n, 6))) - 1), weight = v(1, 9);
                say("word", n, lips, weight);
                due(program.word(n, lips, weight), model.word(n, lips, weight));
                break;
            case 15:
                say("alike", w, o);
                due(program.alike(w, o), model.alike(w, o));
                break;
            case 16:
                say("lip", l);
                due(program.lip(l), model.lip(l));
                break;
            case 17:
                say("hush");
                due(program.hush(), model.hush());
                break;
            case 18:
                int what = random.nextInt(3) == 0 ? -1 : v(0, 24);
                say("reads", what);
                due(program.reads(what), model.reads(what));
                break;
            case 19:
                say("mistaken", bits);
                due(program.mistaken(bits), model.mistaken(bits));
                break;
            case 20:
                say("signs", k);
                due(program.signs(k), model.signs(k));
                break;
            case 21:
                int plain = v(1, 99);
                say("plain", plain);
                due(program.plain(plain), model.plain(plain));
                break;
            case 22:
                int row = v(1, 12);
                say("arrives", w, o, row);
                due(program.arrives(w, o, row), model.arrives(w, o, row));
                break;
            case 23:
                int a = v(0, 99), b = v(1, 99);
                say("turns", w, a, b);
                due(program.turns(w, a, b), model.turns(w, a, b));
                break;
            case 24:
                say("girl", bits);
                due(program.girl(bits), model.girl(bits));
                break;
            case 25:
                say("gets");
                due(program.gets(), model.gets());
                break;
            default:
                say("share");
                due(program.share(), model.share());
                break;
        }
    }

    private void callOnRest(int which) {
        int i = v(0, 1), k = v(0, 4);
        switch (which) {
            case 27:
                say("teach", k);
                due(program.teach(k), model.teach(k));
                break;
            case 28:
                int band = v(0, 5), level = v(0, 99), loss = v(0, 9);
                say("band", band, level, loss);
                due(program.band(band, level, loss), model.band(band, level, loss));
                break;
            case 29:
                int years = v(0, 20), noise = v(0, 50);
                say("heard", years, noise);
                due(program.heard(years, noise), model.heard(years, noise));
                break;
            case 30:
                int what = random.nextInt(2) == 0 ? -1 : weaver();
                say("anew", i, what);
                due(program.anew(i, what), model.anew(i, what));
                break;
            case 31:
                say("erase");
                due(program.erase(), model.erase());
                break;
            case 32:
                say("shed");
                due(program.shed(), model.shed());
                break;
            case 33:
                typeText();
                break;
            case 34:
                int sign = v(0, 2);
                say("sign", sign);
                due(program.sign(sign), model.sign(sign));
                break;
            case 35:
                int limb = random.nextInt(3) == 0 ? v(0, 31) : v(0, 3);
                say("limb", i, limb);
                due(program.limb(i, limb), model.limb(i, limb));
                break;
            case 36:
                say("image", i);
                due(program.image(i), model.image(i));
                break;
            case 37:
                say("from", i);
                due(program.from(i), model.from(i));
                break;
            case 38:
                int count = v(0, 5);
                say("count", count);
                due(program.count(count), model.count(count));
                break;
            default:
                tellWholeText();
                break;
        }
    }

    private String item() {
        String gap = " ".repeat(random.nextInt(8) == 0 ? random.nextInt(4) : 1);
        StringBuilder b = new StringBuilder();
        int[] n;
        String[] names = {"pillar", "weaver", "tell", "look", "far", "word", "like"};
        int kind = random.nextInt(7);
        switch (kind) {
            case 0:
                n = new int[] {place()};
                break;
            case 1:
                n = new int[] {place(), v(0, 3)};
                break;
            case 2:
            case 3:
                int a = v(0, 11);
                n = new int[] {random.nextInt(3), a, v(Math.min(a, 11), 11)};
                break;
            case 4:
                n = new int[] {v(1, 98), v(1, 98)};
                break;
            case 5:
                n = new int[2 + random.nextInt(6)];
                n[0] = v(1, 9);
                for (int i = 1; i < n.length; i++) {
                    n[i] = v(0, 5);
                }
                break;
            default:
                n = new int[] {v(0, 5), v(0, 5)};
        }
        b.append(names[kind]);
        for (int v : n) {
            b.append(gap).append(Math.abs(v));
        }
        if (random.nextInt(60) == 0) {
            b.append(' ').append(random.nextInt(2000));
        }
        if (random.nextInt(60) == 0) {
            b.setLength(random.nextInt(b.length()));
        }
        return b.append(random.nextInt(40) == 0 ? "" : gap.length() > 1 ? " ; " : ";").toString();
    }

    private void typeText() {
        String item = random.nextInt(20) == 0 ? "bcd7;;far" : item();
        int n = random.nextInt(25) == 0 ? v(1, 8) : 0;
        if (n != 0) {
            long v = random.nextLong();
            told.add("x.type(" + v + "L, " + n + ");");
            due(program.type(v, n), model.type(v, n));
            return;
        }
        typeAll(item);
    }

    private void typeAll(String text) {
        for (int at = 0; at < text.length() && mayCall(); at += 8) {
            long v = random.nextBoolean() ? 0 : -1;
            int n = Math.min(8, text.length() - at);
            for (int i = 0; i < n; i++) {
                v = v << 8 | text.charAt(at + i);
            }
            told.add("x.type(" + v + "L, " + n + ");");
            due(program.type(v, n), model.type(v, n));
            if (got != want) {
                return;
            }
        }
    }

    private void tellWholeText() {
        say("erase");
        due(program.erase(), model.erase());
        if (got != want) {
            return;
        }
        StringBuilder b = new StringBuilder();
        int items = random.nextInt(12);
        for (int i = 0; i < items; i++) {
            b.append(i == 0 ? "weaver 0 2;" : i == 1 ? "weaver 16 0;" : item());
        }
        typeAll(b.toString());
        if (got == want && mayCall()) {
            say("shed");
            due(program.shed(), model.shed());
        }
    }
}
