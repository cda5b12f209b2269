/**
 * Talking in a weaving shed: who sees whose mouth or hands, how news goes about, which words are mistaken
 * for which, and sheds told by a text. ../shared/DOC.md says what each public method answers.
 */
public final class ShedTalk {
    public static final int NONE = -1, BAD = -2, NO = -3, FULL = -4;

    // Where NONE (or a plain number) is an answer, what is refused is told by these.
    private static final int BAD_ASKED = -10, NO_ASKED = -20, NO_READING = -5;
    private static final int REFUSED_ITEM = -1000;

    private static final int IMAGES = 2, ROW_TURNS = 12, BEST = 24;

    private final Shed now = new Shed();
    private final Shed draft = new Shed();
    private final Shed firstImage = new Shed();
    private final Shed secondImage = new Shed();
    private final News news = new News();
    private final News otherNews = new News();
    private final Readings readings = new Readings();
    private final Chances chances = new Chances();
    private final Turning turning = new Turning();
    private final Text text = new Text();
    private final Fraction fraction = new Fraction();

    public ShedTalk() {
    }

    // ---- the floor

    public int pillar(int place) {
        return now.floor.putPillar(place);
    }

    public int weaver(int place, int face) {
        return now.floor.putWeaver(place, face);
    }

    public int face(int weaver, int face) {
        return now.floor.turn(weaver, face);
    }

    public int free(int weaver, int what, int a, int b) {
        return now.floor.setFree(weaver, what, a, b);
    }

    public int far(int what, int v) {
        return now.floor.setFar(what, v);
    }

    public int sees(int a, int b, int what) {
        if (!now.floor.areTwo(a, b) || !within(what, 0, 1)) {
            return BAD;
        }
        return oneIf(now.floor.perceives(a, b, what));
    }

    public int clear(int a, int b) {
        if (!now.floor.areTwo(a, b)) {
            return BAD;
        }
        return oneIf(now.floor.isClear(a, b));
    }

    // ---- news

    public int knows(int a, int w, int by, int x) {
        if (!canAskNews(a, w, by, x)) {
            return BAD_ASKED;
        }
        news.spread(now.floor, a, 0, by, x);
        return news.since[w];
    }

    public int teller(int a, int w, int by, int x) {
        if (!canAskNews(a, w, by, x)) {
            return BAD_ASKED;
        }
        news.spread(now.floor, a, 0, by, x);
        return news.toldBy[w];
    }

    public int meet(int a, int b, int s, int w) {
        Floor floor = now.floor;
        if (!floor.areTwo(a, b) || !within(s, 0, News.LAST) || !floor.isWeaver(w)) {
            return BAD_ASKED;
        }
        news.spread(floor, a, 0, Floor.WORDS, NONE);
        otherNews.spread(floor, b, s, Floor.WORDS, NONE);
        return firstOf(news.since[w], otherNews.since[w]);
    }

    public int seen(int weaver, int second, boolean knew) {
        if (!now.floor.isWeaver(weaver)) {
            return BAD;
        }
        return now.sightings.add(weaver, second, knew);
    }

    public int source() {
        int from = 0;
        for (int w = 0; w < now.floor.weavers; w++) {
            news.spread(now.floor, w, 0, Floor.WORDS, NONE);
            if (now.sightings.areBorneBy(news)) {
                from |= 1 << w;
            }
        }
        return from;
    }

    public int apart(int a, int b) {
        if (!now.floor.areTwo(a, b)) {
            return BAD;
        }
        return news.waysApart(now.floor, a, b);
    }

    // ---- words

    public int like(int a, int b) {
        return now.lexicon.makeAlike(a, b);
    }

    public int word(int n, int lips, int weight) {
        return now.lexicon.addWord(n, lips, weight);
    }

    public int alike(int a, int b) {
        if (!now.lexicon.isWord(a) || !now.lexicon.isWord(b)) {
            return BAD;
        }
        return oneIf(now.lexicon.areAlike(a, b));
    }

    public int lip(int lip) {
        return now.lexicon.addLip(lip);
    }

    public int hush() {
        int had = now.lexicon.rowLips;
        now.lexicon.rowLips = 0;
        return had;
    }

    public int reads(int what) {
        if (!within(what, NONE, BEST)) {
            return BAD_ASKED;
        }
        readings.reckon(now.lexicon);
        if (what == NONE) {
            return readings.number();
        }
        int answer = what == BEST ? readings.fewestWords() : readings.wordInPlace(now.lexicon, what);
        return answer == NONE ? NO_READING : answer;
    }

    public int mistaken(int signs) {
        if (!now.lexicon.areWords(signs)) {
            return BAD;
        }
        return now.lexicon.mistakenWith(signs);
    }

    public int signs(int k) {
        if (!within(k, 0, now.lexicon.words)) {
            return BAD;
        }
        return now.lexicon.bestSigns(k);
    }

    public int plain(int v) {
        if (!within(v, 1, 99)) {
            return BAD;
        }
        int was = now.clearness;
        now.clearness = v;
        return was;
    }

    public int arrives(int word, int as, int n) {
        Lexicon lexicon = now.lexicon;
        if (!lexicon.isWord(word) || !lexicon.isWord(as) || !within(n, 1, ROW_TURNS)) {
            return BAD;
        }
        chances.say(lexicon, now.clearness, word);
        for (int i = 0; i < n; i++) {
            chances.passOn();
        }
        chances.tellAs(as, fraction);
        return 1;
    }

    public int turns(int word, int a, int b) {
        if (!now.lexicon.isWord(word) || !within(a, 0, 99) || !within(b, 1, 99)) {
            return BAD_ASKED;
        }
        chances.say(now.lexicon, now.clearness, word);
        for (int i = 1; i <= ROW_TURNS; i++) {
            chances.passOn();
            if (chances.isBelow(word, a, b)) {
                return i;
            }
        }
        return NONE;
    }

    // ---- the girl, the deaf, looms anew

    public int girl(int words) {
        if (!now.lexicon.areWords(words)) {
            return BAD;
        }
        int knew = now.lexicon.girlKnows;
        now.lexicon.girlKnows = words;
        return knew;
    }

    public int gets() {
        return now.lexicon.gotten(now.lexicon.girlKnows);
    }

    public int share() {
        Lexicon lexicon = now.lexicon;
        if (lexicon.words == 0) {
            return NO;
        }
        fraction.put(lexicon.weightOf(lexicon.gotten(lexicon.girlKnows)), lexicon.weightOf(lexicon.allWords()));
        return 1;
    }

    public int teach(int k) {
        if (!within(k, 0, now.lexicon.words - Integer.bitCount(now.lexicon.girlKnows))) {
            return BAD;
        }
        return now.lexicon.bestTaught(k);
    }

    public int band(int band, int level, int loss) {
        if (!within(band, 0, Shed.BANDS - 1) || !within(level, 0, 99) || !within(loss, 0, 9)) {
            return BAD;
        }
        now.level[band] = level;
        now.loss[band] = loss;
        return 1;
    }

    public int heard(int years, int noise) {
        if (!within(years, 0, 60) || !within(noise, 0, 99)) {
            return BAD;
        }
        int bands = 0;
        for (int i = 0; i < Shed.BANDS; i++) {
            if (now.level[i] - now.loss[i] * years > noise) {
                bands |= 1 << i;
            }
        }
        return bands;
    }

    public int anew(int least, int what) {
        if (!within(least, 0, 1) || !within(what, NONE, now.floor.weavers - 1)) {
            return BAD_ASKED;
        }
        if (now.floor.weavers > Turning.MOST_WEAVERS) {
            return NO_ASKED;
        }
        turning.search(now.floor, least == 1);
        return what == NONE ? turning.bestPairs : turning.bestWayOf(what);
    }

    // ---- texts, what there is

    public int type(long v, int n) {
        return text.add(v, n);
    }

    public int erase() {
        int had = text.bytes;
        text.bytes = 0;
        return had;
    }

    public int shed() {
        int fault = text.readItems();
        if (fault != NONE) {
            return BAD_ASKED - fault;
        }
        draft.copyFrom(now);
        draft.beginAnew();
        for (int i = 0; i < text.items; i++) {
            if (text.tellItem(i, draft) < 0) {
                return REFUSED_ITEM - i;
            }
        }
        now.copyFrom(draft);
        return text.items;
    }

    public int sign(int what) {
        switch (what) {
            case 0:
                return fraction.signNumber();
            case 1:
                return fraction.above.limbs;
            case 2:
                return fraction.below.limbs;
            default:
                return BAD;
        }
    }

    public int limb(int which, int i) {
        if (!within(which, 0, 1) || i < 0) {
            return BAD;
        }
        return which == 0 ? fraction.above.limbAt(i) : fraction.below.limbAt(i);
    }

    public int image(int i) {
        if (!within(i, 0, IMAGES - 1)) {
            return BAD;
        }
        Shed image = imageNumbered(i);
        image.copyFrom(now);
        image.isKept = true;
        return 1;
    }

    public int from(int i) {
        if (!within(i, 0, IMAGES - 1)) {
            return BAD;
        }
        Shed image = imageNumbered(i);
        if (!image.isKept) {
            return NO;
        }
        now.copyFrom(image);
        return 1;
    }

    public int count(int what) {
        switch (what) {
            case 0:
                return Long.bitCount(now.floor.pillars);
            case 1:
                return now.floor.weavers;
            case 2:
                return now.sightings.many;
            case 3:
                return now.lexicon.words;
            case 4:
                return now.lexicon.rowLips;
            case 5:
                return text.bytes;
            default:
                return BAD;
        }
    }

    public long digest() {
        long h = 523;
        for (int what = 0; what <= 5; what++) {
            h = mixed(h, count(what));
        }
        h = now.floor.digestOnto(h);
        h = now.sightings.digestOnto(h);
        h = now.lexicon.digestWordsOnto(h);
        h = mixed(h, now.clearness);
        h = mixed(h, now.lexicon.girlKnows);
        for (int i = 0; i < Shed.BANDS; i++) {
            h = mixed(mixed(h, now.level[i]), now.loss[i]);
        }
        return fraction.digestOnto(h);
    }

    // ---- helpers

    private Shed imageNumbered(int i) {
        return i == 0 ? firstImage : secondImage;
    }

    private boolean canAskNews(int a, int w, int by, int x) {
        Floor floor = now.floor;
        if (!floor.isWeaver(a) || !floor.isWeaver(w) || !within(by, 0, 1)) {
            return false;
        }
        return x == NONE || floor.isWeaver(x) && x != a;
    }

    private static int firstOf(int since, int otherSince) {
        if (since == NONE && otherSince == NONE) {
            return NONE;
        }
        if (otherSince == NONE) {
            return 0;
        }
        if (since == NONE) {
            return 1;
        }
        if (since == otherSince) {
            return 2;
        }
        return since < otherSince ? 0 : 1;
    }

    private static boolean within(int v, int least, int most) {
        return least <= v && v <= most;
    }

    private static boolean hasBit(int bits, int i) {
        return (bits >>> i & 1) != 0;
    }

    private static int oneIf(boolean b) {
        return b ? 1 : 0;
    }

    private static long mixed(long h, int v) {
        return 31 * h + v;
    }

    private static int commonDivisor(int a, int b) {
        int greater = a;
        int lesser = b;
        for (int i = 0; i < 100 && lesser > 0; i++) {
            int rest = greater % lesser;
            greater = lesser;
            lesser = rest;
        }
        return greater;
    }

    /** All that an image keeps. */
    private static final class Shed {
        static final int BANDS = 6;

        final Floor floor = new Floor();
        final Sightings sightings = new Sightings();
        final Lexicon lexicon = new Lexicon();
        final int[] level = new int[BANDS];
        final int[] loss = new int[BANDS];
        int clearness = 20;
        boolean isKept;

        void copyFrom(Shed other) {
            floor.copyFrom(other.floor);
            sightings.copyFrom(other.sightings);
            lexicon.copyFrom(other.lexicon);
            System.arraycopy(other.level, 0, level, 0, BANDS);
            System.arraycopy(other.loss, 0, loss, 0, BANDS);
            clearness = other.clearness;
        }

        // What a text tells; the clearness and the bands are not among it.
        void beginAnew() {
            floor.makeEmpty();
            sightings.many = 0;
            lexicon.makeEmpty();
        }
    }

    private static final class Floor {
        static final int SIDE = 8, PLACES = 64, WEAVERS = 8, SECONDS = 12;
        static final int TELL = 0, LOOK = 1, MOUTHS = 0, HANDS = 1, WORDS = 0, SIGNS = 1;

        long pillars;
        int weavers;
        final int[] place = new int[WEAVERS];
        final int[] way = new int[WEAVERS];
        final int[] tell = new int[WEAVERS];
        final int[] look = new int[WEAVERS];
        final int[] farSquare = new int[2];

        Floor() {
            makeEmpty();
        }

        void makeEmpty() {
            pillars = 0;
            weavers = 0;
            farSquare[MOUTHS] = 18;
            farSquare[HANDS] = 50;
        }

        void copyFrom(Floor other) {
            pillars = other.pillars;
            weavers = other.weavers;
            System.arraycopy(other.place, 0, place, 0, WEAVERS);
            System.arraycopy(other.way, 0, way, 0, WEAVERS);
            System.arraycopy(other.tell, 0, tell, 0, WEAVERS);
            System.arraycopy(other.look, 0, look, 0, WEAVERS);
            System.arraycopy(other.farSquare, 0, farSquare, 0, 2);
        }

        boolean isWeaver(int w) {
            return within(w, 0, weavers - 1);
        }

        boolean areTwo(int a, int b) {
            return isWeaver(a) && isWeaver(b) && a != b;
        }

        boolean hasPillar(int p) {
            return (pillars >>> p & 1L) != 0;
        }

        boolean hasWeaver(int p) {
            for (int w = 0; w < weavers; w++) {
                if (place[w] == p) {
                    return true;
                }
            }
            return false;
        }

        int putPillar(int p) {
            if (!within(p, 0, PLACES - 1) || hasWeaver(p)) {
                return BAD;
            }
            if (hasPillar(p)) {
                return NO;
            }
            pillars |= 1L << p;
            return 1;
        }

        int putWeaver(int p, int facing) {
            if (!within(p, 0, PLACES - 1) || !within(facing, 0, 3) || hasPillar(p) || hasWeaver(p)) {
                return BAD;
            }
            if (weavers >= WEAVERS) {
                return FULL;
            }
            place[weavers] = p;
            way[weavers] = facing;
            tell[weavers] = (1 << SECONDS) - 1;
            look[weavers] = (1 << SECONDS) - 1;
            weavers++;
            return weavers - 1;
        }

        int turn(int w, int facing) {
            if (!isWeaver(w) || !within(facing, 0, 3)) {
                return BAD;
            }
            int was = way[w];
            way[w] = facing;
            return was;
        }

        int setFree(int w, int what, int a, int b) {
            if (!isWeaver(w) || !within(what, 0, 1)) {
                return BAD;
            }
            if (!within(a, 0, SECONDS - 1) || !within(b, a, SECONDS - 1)) {
                return BAD;
            }
            int seconds = (1 << b + 1) - (1 << a);
            if (what == TELL) {
                tell[w] = seconds;
            } else {
                look[w] = seconds;
            }
            return 1;
        }

        int setFar(int what, int v) {
            if (!within(what, 0, 1) || !within(v, 1, 98)) {
                return BAD;
            }
            int was = farSquare[what];
            farSquare[what] = v;
            return was;
        }

        // By how much the way between two places goes to where one faces.
        static int goesBy(int from, int to, int facing) {
            int down = to / SIDE - from / SIDE;
            int right = to % SIDE - from % SIDE;
            switch (facing) {
                case 0:
                    return -down;
                case 1:
                    return right;
                case 2:
                    return down;
                default:
                    return -right;
            }
        }

        int squareOfWay(int a, int b) {
            int down = goesBy(place[a], place[b], 2);
            int right = goesBy(place[a], place[b], 1);
            return down * down + right * right;
        }

        boolean isClear(int a, int b) {
            if (pillars == 0) {
                return true;
            }
            for (int p = 0; p < PLACES; p++) {
                if (hasPillar(p) && isBlockedBy(p, place[a], place[b])) {
                    return false;
                }
            }
            return true;
        }

        static boolean isBlockedBy(int p, int from, int to) {
            int down = to / SIDE - from / SIDE;
            int right = to % SIDE - from % SIDE;
            int pillarDown = p / SIDE - from / SIDE;
            int pillarRight = p % SIDE - from % SIDE;
            int square = down * down + right * right;
            int along = down * pillarDown + right * pillarRight;
            if (along <= 0 || along >= square) {
                return false;
            }
            int across = down * pillarRight - right * pillarDown;
            // The distance is across by the root of the square; half a place is compared in squares.
            return 4 * across * across < square;
        }

        // Who could read whom if both faced where they like.
        boolean mayRead(int a, int b) {
            return squareOfWay(a, b) <= farSquare[MOUTHS] && isClear(a, b);
        }

        boolean faceEachOther(int a, int wayOfA, int b, int wayOfB) {
            return goesBy(place[a], place[b], wayOfA) > 0 && goesBy(place[b], place[a], wayOfB) > 0;
        }

        boolean watches(int a, int b) {
            return goesBy(place[a], place[b], way[a]) > 0 && goesBy(place[b], place[a], way[b]) >= 0
                && squareOfWay(a, b) <= farSquare[HANDS] && isClear(a, b);
        }

        boolean perceives(int a, int b, int by) {
            if (by == WORDS) {
                return faceEachOther(a, way[a], b, way[b]) && mayRead(a, b);
            }
            return watches(a, b);
        }

        int perceiversOf(int b, int by) {
            if (!isWeaver(b)) {
                return 0;
            }
            int bits = 0;
            for (int a = 0; a < weavers; a++) {
                if (a != b && perceives(a, b, by)) {
                    bits |= 1 << a;
                }
            }
            return bits;
        }

        // Whom one has before her eyes, by her mouth or by her hands.
        int seenBy(int a) {
            if (!isWeaver(a)) {
                return 0;
            }
            int bits = 0;
            for (int b = 0; b < weavers; b++) {
                if (a != b && (perceives(a, b, WORDS) || perceives(a, b, SIGNS))) {
                    bits |= 1 << b;
                }
            }
            return bits;
        }

        int tellersIn(int second) {
            int bits = 0;
            for (int w = 0; w < weavers; w++) {
                bits |= (tell[w] >>> second % SECONDS & 1) << w;
            }
            return bits;
        }

        int lookersIn(int second) {
            int bits = 0;
            for (int w = 0; w < weavers; w++) {
                bits |= (look[w] >>> second % SECONDS & 1) << w;
            }
            return bits;
        }

        long digestOnto(long before) {
            long h = before;
            for (int p = 0; p < PLACES; p++) {
                h = mixed(h, oneIf(hasPillar(p)));
            }
            for (int w = 0; w < weavers; w++) {
                h = mixed(mixed(h, place[w]), way[w]);
                h = mixed(mixed(h, tell[w]), look[w]);
            }
            return mixed(mixed(h, farSquare[MOUTHS]), farSquare[HANDS]);
        }
    }

    /** Who knew what when, as it was seen. */
    private static final class Sightings {
        static final int MOST = 10;

        int many;
        final int[] weaver = new int[MOST];
        final int[] second = new int[MOST];
        final int[] knew = new int[MOST];

        void copyFrom(Sightings other) {
            many = other.many;
            System.arraycopy(other.weaver, 0, weaver, 0, MOST);
            System.arraycopy(other.second, 0, second, 0, MOST);
            System.arraycopy(other.knew, 0, knew, 0, MOST);
        }

        int add(int who, int when, boolean knewThen) {
            if (!within(when, 0, News.LAST)) {
                return BAD;
            }
            if (many >= MOST) {
                return FULL;
            }
            weaver[many] = who;
            second[many] = when;
            knew[many] = oneIf(knewThen);
            many++;
            return many;
        }

        boolean areBorneBy(News news) {
            for (int i = 0; i < many; i++) {
                int since = news.since[weaver[i]];
                boolean knewThen = since != NONE && since <= second[i];
                if (oneIf(knewThen) != knew[i]) {
                    return false;
                }
            }
            return true;
        }

        long digestOnto(long before) {
            long h = before;
            for (int i = 0; i < many; i++) {
                h = mixed(mixed(mixed(h, weaver[i]), second[i]), knew[i]);
            }
            return h;
        }
    }

    /** One piece of news on its way: since when each knows it, and by whom. */
    private static final class News {
        static final int LAST = 240;

        final int[] since = new int[Floor.WEAVERS];
        final int[] toldBy = new int[Floor.WEAVERS];
        // Of each weaver those who perceive her, as bits.
        private final int[] audience = new int[Floor.WEAVERS];

        void spread(Floor floor, int start, int begin, int by, int keptFrom) {
            for (int w = 0; w < Floor.WEAVERS; w++) {
                audience[w] = floor.perceiversOf(w, by);
                since[w] = NONE;
                toldBy[w] = NONE;
            }
            since[start] = begin;
            // She from whom it is kept hinders by READING and by WATCHING alike, whichever way the news goes.
            int watched = floor.seenBy(keptFrom);
            int knowing = 1 << start;
            int everybody = (1 << floor.weavers) - 1;
            for (int t = begin; t < LAST && knowing != everybody; t++) {
                int lookers = floor.lookersIn(t);
                int hindered = keptFrom != NONE && hasBit(lookers, keptFrom) ? watched : 0;
                int tellers = knowing & floor.tellersIn(t) & ~hindered;
                knowing |= tellInSecond(t, tellers, lookers & ~knowing);
            }
        }

        private int tellInSecond(int t, int tellers, int hearers) {
            int told = 0;
            for (int w = 0; w < Floor.WEAVERS; w++) {
                if (hasBit(tellers, w)) {
                    // Those whom a lesser weaver told in this second are told already.
                    int fresh = audience[w] & hearers & ~told;
                    write(fresh, t + 1, w);
                    told |= fresh;
                }
            }
            return told;
        }

        private void write(int fresh, int second, int teller) {
            for (int w = 0; w < Floor.WEAVERS; w++) {
                if (hasBit(fresh, w)) {
                    since[w] = second;
                    toldBy[w] = teller;
                }
            }
        }

        // As many ways share nobody as it takes others, at least, to leave out so that none is left (Menger).
        int waysApart(Floor floor, int a, int b) {
            for (int w = 0; w < floor.weavers; w++) {
                audience[w] = floor.perceiversOf(w, Floor.WORDS);
            }
            int ends = 1 << a | 1 << b;
            int direct = oneIf(hasBit(audience[a], b));
            audience[a] &= ~(1 << b);
            int fewest = Floor.WEAVERS;
            for (int out = 0; out < 1 << floor.weavers; out++) {
                if ((out & ends) == 0 && !isReached(floor, a, b, out)) {
                    fewest = Math.min(fewest, Integer.bitCount(out));
                }
            }
            return direct + fewest;
        }

        private boolean isReached(Floor floor, int a, int b, int out) {
            int reached = 1 << a;
            for (int step = 0; step < floor.weavers; step++) {
                for (int w = 0; w < floor.weavers; w++) {
                    if (hasBit(reached, w)) {
                        reached |= audience[w] & ~out;
                    }
                }
            }
            return hasBit(reached, b);
        }
    }

    /** Lips, words, the row, and what the girl knows. */
    private static final class Lexicon {
        static final int LIPS = 6, MOST_WORDS = 10, MOST_LIPS = 6, MOST_ROW = 24;

        int words;
        final int[] length = new int[MOST_WORDS];
        final int[] number = new int[MOST_WORDS];
        final int[] weight = new int[MOST_WORDS];
        final int[] leastLike = new int[LIPS];
        final int[] row = new int[MOST_ROW];
        int rowLips;
        int girlKnows;
        // The lips of word w stand from MOST_LIPS w on.
        private final int[] lipsOf = new int[MOST_WORDS * MOST_LIPS];
        private final int[] others = new int[MOST_WORDS];

        Lexicon() {
            makeEmpty();
        }

        void makeEmpty() {
            words = 0;
            rowLips = 0;
            girlKnows = 0;
            for (int i = 0; i < LIPS; i++) {
                leastLike[i] = i;
            }
        }

        void copyFrom(Lexicon other) {
            words = other.words;
            rowLips = other.rowLips;
            girlKnows = other.girlKnows;
            System.arraycopy(other.length, 0, length, 0, MOST_WORDS);
            System.arraycopy(other.number, 0, number, 0, MOST_WORDS);
            System.arraycopy(other.weight, 0, weight, 0, MOST_WORDS);
            System.arraycopy(other.leastLike, 0, leastLike, 0, LIPS);
            System.arraycopy(other.row, 0, row, 0, MOST_ROW);
            System.arraycopy(other.lipsOf, 0, lipsOf, 0, MOST_WORDS * MOST_LIPS);
        }

        boolean isWord(int w) {
            return within(w, 0, words - 1);
        }

        int allWords() {
            return (1 << words) - 1;
        }

        boolean areWords(int bits) {
            return within(bits, 0, allWords());
        }

        int makeAlike(int a, int b) {
            if (!within(a, 0, LIPS - 1) || !within(b, 0, LIPS - 1)) {
                return BAD;
            }
            int lesser = Math.min(leastLike[a], leastLike[b]);
            int greater = Math.max(leastLike[a], leastLike[b]);
            if (lesser == greater) {
                return NO;
            }
            for (int i = 0; i < LIPS; i++) {
                if (leastLike[i] == greater) {
                    leastLike[i] = lesser;
                }
            }
            return 1;
        }

        int addWord(int n, int lips, int howHeavy) {
            if (!within(n, 1, MOST_LIPS) || !within(howHeavy, 1, 9) || lips < 0) {
                return BAD;
            }
            int rest = lips;
            for (int i = 0; i < n; i++) {
                rest /= LIPS;
            }
            if (rest != 0) {
                return BAD;
            }
            if (words >= MOST_WORDS) {
                return FULL;
            }
            length[words] = n;
            number[words] = lips;
            weight[words] = howHeavy;
            rest = lips;
            for (int i = n - 1; i >= 0; i--) {
                lipsOf[words * MOST_LIPS + i] = rest % LIPS;
                rest /= LIPS;
            }
            words++;
            return words - 1;
        }

        int addLip(int lip) {
            if (!within(lip, 0, LIPS - 1)) {
                return BAD;
            }
            if (rowLips >= MOST_ROW) {
                return FULL;
            }
            row[rowLips] = lip;
            rowLips++;
            return rowLips;
        }

        private boolean lookAlike(int lip, int other) {
            return leastLike[lip] == leastLike[other];
        }

        // Of two words of as many lips: in how many places their lips do not look alike.
        int unlikeLips(int a, int b) {
            int unlike = 0;
            for (int i = 0; i < length[a]; i++) {
                if (!lookAlike(lipsOf[a * MOST_LIPS + i], lipsOf[b * MOST_LIPS + i])) {
                    unlike++;
                }
            }
            return unlike;
        }

        boolean areAlike(int a, int b) {
            return length[a] == length[b] && unlikeLips(a, b) == 0;
        }

        boolean fitsRow(int w, int from) {
            if (from + length[w] > rowLips) {
                return false;
            }
            for (int i = 0; i < length[w]; i++) {
                if (!lookAlike(lipsOf[w * MOST_LIPS + i], row[from + i])) {
                    return false;
                }
            }
            return true;
        }

        int weightOf(int bits) {
            int sum = 0;
            for (int w = 0; w < words; w++) {
                if (hasBit(bits, w)) {
                    sum += weight[w];
                }
            }
            return sum;
        }

        int mistakenWith(int signs) {
            findLaterAlike();
            return mistakenBy(signs);
        }

        private int mistakenBy(int signs) {
            int sum = 0;
            for (int w = 0; w < words; w++) {
                if (!hasBit(signs, w)) {
                    sum += weight[w] * weightOf(others[w] & ~signs);
                }
            }
            return sum;
        }

        private void findLaterAlike() {
            for (int w = 0; w < words; w++) {
                others[w] = 0;
                for (int later = w + 1; later < words; later++) {
                    if (areAlike(w, later)) {
                        others[w] |= 1 << later;
                    }
                }
            }
        }

        int bestSigns(int k) {
            findLaterAlike();
            int best = NONE;
            int least = 0;
            for (int signs = 0; signs <= allWords(); signs++) {
                if (Integer.bitCount(signs) != k) {
                    continue;
                }
                int mistakes = mistakenBy(signs);
                if (best == NONE || mistakes < least) {
                    best = signs;
                    least = mistakes;
                }
            }
            return best;
        }

        // Of each word the alike ones that are got rather than it, if they are known.
        private void findBetterAlike() {
            for (int w = 0; w < words; w++) {
                others[w] = 0;
                for (int other = 0; other < words; other++) {
                    boolean isBetter = weight[other] > weight[w] || weight[other] == weight[w] && other < w;
                    if (isBetter && areAlike(w, other)) {
                        others[w] |= 1 << other;
                    }
                }
            }
        }

        int gotten(int known) {
            findBetterAlike();
            return gottenOf(known);
        }

        private int gottenOf(int known) {
            int bits = 0;
            for (int w = 0; w < words; w++) {
                if (hasBit(known, w) && (others[w] & known) == 0) {
                    bits |= 1 << w;
                }
            }
            return bits;
        }

        int bestTaught(int k) {
            findBetterAlike();
            int best = NONE;
            int most = 0;
            for (int more = 0; more <= allWords(); more++) {
                if ((more & girlKnows) != 0 || Integer.bitCount(more) != k) {
                    continue;
                }
                int weights = weightOf(gottenOf(girlKnows | more));
                if (best == NONE || weights > most) {
                    best = more;
                    most = weights;
                }
            }
            return best;
        }

        long digestWordsOnto(long before) {
            long h = before;
            for (int i = 0; i < LIPS; i++) {
                h = mixed(h, leastLike[i]);
            }
            for (int w = 0; w < words; w++) {
                h = mixed(mixed(mixed(h, length[w]), number[w]), weight[w]);
            }
            for (int i = 0; i < rowLips; i++) {
                h = mixed(h, row[i]);
            }
            return h;
        }
    }

    /** The readings of the row, reckoned from its end: of each place what can stand from there on. */
    private static final class Readings {
        static final int PRIME = 1000000007;

        private final int[] ways = new int[Lexicon.MOST_ROW + 1];
        // NONE where nothing reads the rest: ways may be 0 by the modulus alone.
        private final int[] fewest = new int[Lexicon.MOST_ROW + 1];
        private final int[] weights = new int[Lexicon.MOST_ROW + 1];
        private final int[] first = new int[Lexicon.MOST_ROW + 1];

        void reckon(Lexicon lexicon) {
            int end = lexicon.rowLips;
            ways[end] = 1;
            fewest[end] = 0;
            weights[end] = 0;
            first[end] = NONE;
            for (int i = end - 1; i >= 0; i--) {
                ways[i] = 0;
                fewest[i] = NONE;
                weights[i] = 0;
                first[i] = NONE;
                for (int w = 0; w < lexicon.words; w++) {
                    if (lexicon.fitsRow(w, i)) {
                        begin(i, w, i + lexicon.length[w], lexicon.weight[w]);
                    }
                }
            }
        }

        private void begin(int i, int word, int next, int weight) {
            ways[i] = (ways[i] + ways[next]) % PRIME;
            if (fewest[next] == NONE) {
                return;
            }
            int number = fewest[next] + 1;
            int sum = weights[next] + weight;
            if (fewest[i] == NONE || number < fewest[i] || number == fewest[i] && sum > weights[i]) {
                fewest[i] = number;
                weights[i] = sum;
                first[i] = word;
            }
        }

        int number() {
            return ways[0];
        }

        int fewestWords() {
            return fewest[0];
        }

        int wordInPlace(Lexicon lexicon, int place) {
            int at = 0;
            for (int i = 0; i < place && first[at] != NONE; i++) {
                at += lexicon.length[first[at]];
            }
            return first[at];
        }
    }

    /** A number from 0 on, of limbs to the base 1073741824, the lowest first. */
    private static final class Natural {
        static final int ROOM = 40, LIMB_BITS = 30, LIMB = (1 << LIMB_BITS) - 1;

        private final int[] limb = new int[ROOM];
        int limbs;

        int limbAt(int i) {
            return within(i, 0, limbs - 1) ? limb[i] : NONE;
        }

        void put(int v) {
            limb[0] = v;
            limbs = v == 0 ? 0 : 1;
        }

        void copyFrom(Natural other) {
            System.arraycopy(other.limb, 0, limb, 0, other.limbs);
            limbs = other.limbs;
        }

        void multiply(int factor) {
            long carry = 0;
            for (int i = 0; i < limbs; i++) {
                carry += (long) limb[i] * factor;
                limb[i] = (int) (carry & LIMB);
                carry >>= LIMB_BITS;
            }
            if (carry > 0 && limbs < ROOM) {
                limb[limbs] = (int) carry;
                limbs++;
            }
        }

        void addTimes(Natural other, int factor) {
            long carry = 0;
            for (int i = 0; i < ROOM && (i < other.limbs || carry > 0); i++) {
                long sum = carry + (i < limbs ? limb[i] : 0);
                if (i < other.limbs) {
                    sum += (long) other.limb[i] * factor;
                }
                limb[i] = (int) (sum & LIMB);
                carry = sum >> LIMB_BITS;
                limbs = Math.max(limbs, i + 1);
            }
            trim();
        }

        int remainder(int divisor) {
            if (divisor <= 0) {
                return 0;
            }
            long rest = 0;
            for (int i = limbs - 1; i >= 0; i--) {
                rest = ((rest << LIMB_BITS) + limb[i]) % divisor;
            }
            return (int) rest;
        }

        void divide(int divisor) {
            if (divisor <= 0) {
                return;
            }
            long rest = 0;
            for (int i = limbs - 1; i >= 0; i--) {
                rest = (rest << LIMB_BITS) + limb[i];
                limb[i] = (int) (rest / divisor);
                rest %= divisor;
            }
            trim();
        }

        private void trim() {
            for (int i = limbs - 1; i >= 0 && limb[i] == 0; i--) {
                limbs = i;
            }
        }

        boolean isLessThan(Natural other) {
            if (limbs != other.limbs) {
                return limbs < other.limbs;
            }
            for (int i = limbs - 1; i >= 0; i--) {
                if (limb[i] != other.limb[i]) {
                    return limb[i] < other.limb[i];
                }
            }
            return false;
        }

        long digestOnto(long before) {
            long h = before;
            for (int i = 0; i < limbs; i++) {
                h = mixed(h, limb[i]);
            }
            return h;
        }
    }

    private static final class Fraction {
        // No prime above it divides what stands below: it is made of sums of weights and clearnesses.
        static final int GREATEST_DIVISOR = 99 + 9 * 9;

        final Natural above = new Natural();
        final Natural below = new Natural();

        Fraction() {
            below.put(1);
        }

        int signNumber() {
            return above.limbs == 0 ? 0 : 1;
        }

        void put(int newAbove, int newBelow) {
            above.put(newAbove);
            below.put(newBelow);
            toLowestTerms();
        }

        void put(Natural newAbove, Natural newBelow) {
            above.copyFrom(newAbove);
            below.copyFrom(newBelow);
            toLowestTerms();
        }

        private void toLowestTerms() {
            if (above.limbs == 0) {
                below.put(1);
                return;
            }
            for (int d = 2; d <= GREATEST_DIVISOR; d++) {
                for (int i = 0; i < Natural.ROOM * Natural.LIMB_BITS && isDividedBy(d); i++) {
                    above.divide(d);
                    below.divide(d);
                }
            }
        }

        private boolean isDividedBy(int d) {
            return below.remainder(d) == 0 && above.remainder(d) == 0;
        }

        long digestOnto(long before) {
            long h = mixed(mixed(mixed(before, signNumber()), above.limbs), below.limbs);
            return below.digestOnto(above.digestOnto(h));
        }
    }

    /** A word that goes down a row of hearers: the chance of each word, all above one number below. */
    private static final class Chances {
        private final int[][] heardAs = new int[Lexicon.MOST_WORDS][Lexicon.MOST_WORDS];
        private final int[] total = new int[Lexicon.MOST_WORDS];
        // Their product is the least number that all totals divide.
        private final int[] part = new int[Lexicon.MOST_WORDS];
        private final Natural[] chance = new Natural[Lexicon.MOST_WORDS];
        private final Natural[] before = new Natural[Lexicon.MOST_WORDS];
        private final Natural below = new Natural();
        private final Natural scaled = new Natural();
        private final Natural scaledBelow = new Natural();
        private int words;

        Chances() {
            for (int w = 0; w < Lexicon.MOST_WORDS; w++) {
                chance[w] = new Natural();
                before[w] = new Natural();
            }
        }

        void say(Lexicon lexicon, int clearness, int word) {
            words = lexicon.words;
            for (int w = 0; w < words; w++) {
                total[w] = 0;
                for (int as = 0; as < words; as++) {
                    boolean asLong = lexicon.length[w] == lexicon.length[as];
                    heardAs[w][as] = asLong ? lexicon.weight[as] >> lexicon.unlikeLips(w, as) : 0;
                    if (as == w) {
                        heardAs[w][as] = clearness;
                    }
                    total[w] += heardAs[w][as];
                }
                // The others are never heard, so their totals would but make the numbers longer.
                if (lexicon.length[w] != lexicon.length[word]) {
                    total[w] = 1;
                }
                chance[w].put(oneIf(w == word));
            }
            below.put(1);
            findParts();
        }

        private void findParts() {
            for (int w = 0; w < words; w++) {
                part[w] = total[w];
                for (int earlier = 0; earlier < w; earlier++) {
                    int common = commonDivisor(part[w], part[earlier]);
                    if (common > 1) {
                        part[w] /= common;
                    }
                }
            }
        }

        void passOn() {
            for (int w = 0; w < words; w++) {
                before[w].copyFrom(chance[w]);
                chance[w].put(0);
            }
            for (int w = 0; w < words; w++) {
                if (before[w].limbs > 0) {
                    hear(w);
                }
            }
            multiplyByParts(below);
        }

        private void hear(int w) {
            multiplyByParts(before[w]);
            before[w].divide(total[w]);
            for (int as = 0; as < words; as++) {
                if (heardAs[w][as] > 0) {
                    chance[as].addTimes(before[w], heardAs[w][as]);
                }
            }
        }

        private void multiplyByParts(Natural number) {
            for (int w = 0; w < words; w++) {
                if (part[w] > 1) {
                    number.multiply(part[w]);
                }
            }
        }

        boolean isBelow(int as, int a, int b) {
            scaled.copyFrom(chance[as]);
            scaled.multiply(b);
            scaledBelow.put(0);
            scaledBelow.addTimes(below, a);
            return scaled.isLessThan(scaledBelow);
        }

        void tellAs(int as, Fraction fraction) {
            fraction.put(chance[as], below);
        }
    }

    /** All ways in which the weavers could face, the way of weaver 0 the slowest to change. */
    private static final class Turning {
        static final int MOST_WEAVERS = 6, WAYS = 4;

        int bestPairs;
        private final int[] way = new int[MOST_WEAVERS];
        private final int[] bestWay = new int[MOST_WEAVERS];
        // Of weaver w facing f, at WAYS w + f: the lesser weavers with their ways (bits WAYS v + g) whom she reads.
        private final int[] readers = new int[MOST_WEAVERS * WAYS];
        // Ahead of weaver w: the bits of the ways before her, and the pairs among them.
        private final int[] chosen = new int[MOST_WEAVERS + 1];
        private final int[] pairs = new int[MOST_WEAVERS + 1];

        int bestWayOf(int w) {
            return within(w, 0, MOST_WEAVERS - 1) ? bestWay[w] : NONE;
        }

        void search(Floor floor, boolean wantFewest) {
            int weavers = Math.min(floor.weavers, MOST_WEAVERS);
            findReaders(floor, weavers);
            for (int w = 0; w < MOST_WEAVERS; w++) {
                way[w] = 0;
            }
            int changed = 0;
            for (int i = 0; i < 1 << 2 * weavers; i++) {
                countPairs(changed, weavers);
                int found = pairs[weavers];
                if (i == 0 || (wantFewest ? found < bestPairs : found > bestPairs)) {
                    bestPairs = found;
                    System.arraycopy(way, 0, bestWay, 0, MOST_WEAVERS);
                }
                changed = turnToNext(weavers);
            }
        }

        private void findReaders(Floor floor, int weavers) {
            for (int i = 0; i < MOST_WEAVERS * WAYS; i++) {
                readers[i] = 0;
            }
            for (int w = 0; w < weavers; w++) {
                for (int lesser = 0; lesser < w; lesser++) {
                    if (floor.mayRead(w, lesser)) {
                        joinWays(floor, w, lesser);
                    }
                }
            }
        }

        private void joinWays(Floor floor, int w, int lesser) {
            for (int f = 0; f < WAYS; f++) {
                for (int g = 0; g < WAYS; g++) {
                    if (floor.faceEachOther(w, f, lesser, g)) {
                        readers[w * WAYS + f] |= 1 << lesser * WAYS + g;
                    }
                }
            }
        }

        private void countPairs(int changed, int weavers) {
            for (int w = changed; w < weavers; w++) {
                chosen[w + 1] = chosen[w] | 1 << w * WAYS + way[w];
                pairs[w + 1] = pairs[w] + Integer.bitCount(readers[w * WAYS + way[w]] & chosen[w]);
            }
        }

        private int turnToNext(int weavers) {
            for (int w = weavers - 1; w >= 0; w--) {
                if (way[w] < WAYS - 1) {
                    way[w]++;
                    return w;
                }
                way[w] = 0;
            }
            return 0;
        }
    }

    /** The text: its bytes, its tokens one behind the other, and the items that they make. */
    private static final class Text {
        // The shortest item, "far1 1;", has 7 bytes.
        static final int MOST = 240, MOST_ITEMS = MOST / 7, MOST_NUMBERS = 7;
        static final int PILLAR = 0, WEAVER = 1, TELL = 2, LOOK = 3, FAR = 4, WORD = 5, LIKE = 6;
        private static final int[] LEAST_NUMBERS_OF = {1, 2, 3, 3, 2, 2, 2};
        private static final int[] MOST_NUMBERS_OF = {1, 2, 3, 3, 2, 7, 2};
        // Kinds of tokens; the names of items have their numbers as kinds.
        static final int END = -1, STOP = -2, NUMBER = -3, WRONG = -4;

        int bytes;
        int items;
        private final int[] row = new int[MOST];
        private final int[] itemKind = new int[MOST_ITEMS];
        private final int[] numbersOf = new int[MOST_ITEMS];
        private final int[][] number = new int[MOST_ITEMS][MOST_NUMBERS];
        private int at;
        private int token;
        private int tokenAt;
        private int tokenNumber;

        int add(long v, int n) {
            if (!within(n, 1, 8)) {
                return BAD;
            }
            if (bytes + n > MOST) {
                return FULL;
            }
            for (int i = n - 1; i >= 0; i--) {
                row[bytes] = (int) (v >>> 8 * i & 255);
                bytes++;
            }
            return bytes;
        }

        // The fault, or NONE.
        int readItems() {
            items = 0;
            at = 0;
            for (int i = 0; i <= MOST_ITEMS; i++) {
                nextToken();
                if (token == END) {
                    return NONE;
                }
                if (token < 0 || i == MOST_ITEMS) {
                    return tokenAt;
                }
                int fault = readNumbers(token, i);
                if (fault != NONE) {
                    return fault;
                }
                items++;
            }
            return NONE;
        }

        private int readNumbers(int kind, int item) {
            itemKind[item] = kind;
            for (int i = 0; i <= MOST_NUMBERS; i++) {
                nextToken();
                if (token == STOP && i >= LEAST_NUMBERS_OF[kind]) {
                    numbersOf[item] = i;
                    return NONE;
                }
                if (token != NUMBER || i >= MOST_NUMBERS_OF[kind]) {
                    return tokenAt;
                }
                number[item][i] = tokenNumber;
            }
            return tokenAt;
        }

        private void nextToken() {
            tokenAt = endOfRun(at, ' ', ' ');
            int first = byteAt(tokenAt);
            at = tokenAt + 1;
            if (first == NONE) {
                token = END;
            } else if (first == ';') {
                token = STOP;
            } else if (within(first, '0', '9')) {
                at = endOfRun(tokenAt, '0', '9');
                token = at - tokenAt <= 3 ? NUMBER : WRONG;
                readNumber();
            } else if (within(first, 'a', 'z')) {
                at = endOfRun(tokenAt, 'a', 'z');
                token = kindNamed();
            } else {
                token = WRONG;
            }
        }

        private int byteAt(int i) {
            return i >= 0 && i < bytes ? row[i] : NONE;
        }

        // Behind the run of bytes from least to most that begins at a place.
        private int endOfRun(int from, int least, int most) {
            int end = from;
            for (int i = from; i < bytes && within(byteAt(i), least, most); i++) {
                end = i + 1;
            }
            return end;
        }

        private void readNumber() {
            tokenNumber = 0;
            for (int i = tokenAt; i < at && token == NUMBER; i++) {
                tokenNumber = 10 * tokenNumber + byteAt(i) - '0';
            }
        }

        private int kindNamed() {
            for (int kind = PILLAR; kind <= LIKE; kind++) {
                if (tokenSpells(nameOf(kind))) {
                    return kind;
                }
            }
            return WRONG;
        }

        private boolean tokenSpells(String name) {
            if (at - tokenAt != name.length()) {
                return false;
            }
            for (int i = 0; i < name.length(); i++) {
                if (byteAt(tokenAt + i) != name.charAt(i)) {
                    return false;
                }
            }
            return true;
        }

        private static String nameOf(int kind) {
            switch (kind) {
                case PILLAR:
                    return "pillar";
                case WEAVER:
                    return "weaver";
                case TELL:
                    return "tell";
                case LOOK:
                    return "look";
                case FAR:
                    return "far";
                case WORD:
                    return "word";
                default:
                    return "like";
            }
        }

        // Below 0 if it is refused.
        int tellItem(int item, Shed shed) {
            if (!within(item, 0, items - 1)) {
                return BAD;
            }
            int[] n = number[item];
            Floor floor = shed.floor;
            switch (itemKind[item]) {
                case PILLAR:
                    return floor.putPillar(n[0]);
                case WEAVER:
                    return floor.putWeaver(n[0], n[1]);
                case TELL:
                    return floor.setFree(n[0], Floor.TELL, n[1], n[2]);
                case LOOK:
                    return floor.setFree(n[0], Floor.LOOK, n[1], n[2]);
                case FAR:
                    return Math.min(floor.setFar(Floor.MOUTHS, n[0]), floor.setFar(Floor.HANDS, n[1]));
                case WORD:
                    return tellWord(n, numbersOf[item] - 1, shed.lexicon);
                default:
                    return shed.lexicon.makeAlike(n[0], n[1]);
            }
        }

        private static int tellWord(int[] n, int lips, Lexicon lexicon) {
            int digits = 0;
            for (int i = 1; i <= lips; i++) {
                if (n[i] >= Lexicon.LIPS) {
                    return BAD;
                }
                digits = digits * Lexicon.LIPS + n[i];
            }
            return lexicon.addWord(lips, digits, n[0]);
        }
    }
}
