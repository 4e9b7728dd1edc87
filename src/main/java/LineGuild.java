import java.util.Arrays;

/** The guild of last lines: stories, the ends that must be bought for them, and the evenings on which they are told. */
public final class LineGuild {
    public static final int NONE = -1;

    private static final int NOBODY = -2;
    private static final int NOT_SUCH = -2;
    private static final int NO_SUCH_PLACE = -4;
    private static final int TAPE_BYTES = 260;
    private static final int FEED_BYTES = 20;
    private static final int THREADS = 10;
    private static final int ALL_THREADS = 1023;
    private static final int SETS = 1024;
    private static final int STORIES = 6;
    private static final int STORY_BYTES = 80;
    private static final int MOST_TURNS = 72;
    private static final int ENDS = 10;
    private static final int TELLERS = 4;
    private static final int LISTENERS = 10;
    private static final int LAW_BYTES = 240;
    private static final int CLAUSES = 16;
    private static final int MOST_EVENINGS = 60;
    private static final int LAST_EVENING = 9999;
    private static final int FULL_PURSE = 9999;
    private static final int WORN_OUT = 9;
    private static final int WANTERS = 8;
    private static final int LENDING_EVENINGS = 100;
    private static final int SERIES_STORIES = 5;

    private final int[] tape = new int[TAPE_BYTES];
    private int tapeSize = 0;
    private final Story[] stories = new Story[STORIES];
    private final StoryReader storyReader = new StoryReader();
    private final Law law = new Law();
    private final Law copied = new Law();
    private final LawReader lawReader = new LawReader();
    private final Ends ends = new Ends();
    private final Hall hall = new Hall();
    private final Hall kept = new Hall();
    private final Hall trial = new Hall();
    private boolean hasKept = false;
    private final Asking asking = new Asking(ends);
    private final Course course = new Course(stories, ends, asking, hall, law);
    private final Fitting fit = new Fitting();
    private final Series serial = new Series();
    private final Lending lending = new Lending();

    public LineGuild() {
        for (int k = 0; k < STORIES; k++) {
            stories[k] = new Story();
        }
    }

    public int feed(int a, int b, int c, int d, int e) {
        if (tapeSize + FEED_BYTES > TAPE_BYTES) {
            return NONE;
        }
        putOnTape(a);
        putOnTape(b);
        putOnTape(c);
        putOnTape(d);
        putOnTape(e);
        return tapeSize;
    }

    public int story(int k, int n) {
        Story told = storyAt(k);
        if (told == null || !tapeGives(n, 1, STORY_BYTES)) {
            return NONE;
        }
        tapeSize = 0;
        int turns = storyReader.read(tape, n);
        if (turns > 0) {
            told.take(storyReader.turns, turns);
            hall.beginAnew(k);
        }
        return turns;
    }

    public int law(int n) {
        if (!tapeGives(n, 1, LAW_BYTES)) {
            return NONE;
        }
        tapeSize = 0;
        int clauses = lawReader.read(tape, n);
        if (clauses > 0) {
            law.takeFrom(lawReader.draft);
        }
        return clauses;
    }

    public boolean end(int e, int threads, int price, int stock, int days) {
        boolean such = isWithin(e, 0, ENDS - 1) && isWithin(threads, 1, ALL_THREADS) && isWithin(price, 0, 99)
            && isWithin(stock, 0, 9) && isWithin(days, 1, 30);
        if (such) {
            ends.take(e, threads, price, days);
            hall.stock[e] = stock;
        }
        return such;
    }

    public boolean teller(int k, int story, int purse) {
        boolean such = isWithin(k, 0, TELLERS - 1) && toldStory(story) != null && isWithin(purse, 0, FULL_PURSE);
        if (such) {
            hall.takeTeller(k, story, purse);
        }
        return such;
    }

    public boolean listener(int l, int teller, int age) {
        boolean such = isWithin(l, 0, LISTENERS - 1) && has(hall.tellers, teller) && isWithin(age, 0, 99);
        if (such) {
            hall.takeListener(l, teller, age);
        }
        return such;
    }

    public int evenings(int n) {
        if (!isWithin(n, 1, MOST_EVENINGS)) {
            return NONE;
        }
        course.run(hall, law, n);
        return course.pence;
    }

    public int tried(int n, int what) {
        if (!isWithin(n, 1, MOST_EVENINGS) || !canBeTried(what)) {
            return NONE;
        }
        trial.takeFrom(hall);
        course.run(trial, law, n);
        return course.result(what);
    }

    public int other(int n, int what) {
        if (!isWithin(n, 1, MOST_EVENINGS) || !canBeTried(what)) {
            return NONE;
        }
        trial.takeFrom(hall);
        course.run(trial, copied, n);
        return course.result(what);
    }

    public int copy() {
        copied.takeFrom(law);
        return copied.clauses;
    }

    public int first(int n, int what) {
        if (!isWithin(n, 1, MOST_EVENINGS) || !isWithin(what, 0, 1)) {
            return NONE;
        }
        trial.takeFrom(hall);
        course.run(trial, law, n);
        return what == 0 ? course.firstIll : course.firstIllIn;
    }

    public int storyIs(int k, int what) {
        Story told = toldStory(k);
        if (told == null) {
            return NONE;
        }
        switch (what) {
            case 0: return told.size;
            case 1: return told.atEnd;
            case 2: return told.most;
            case 3: return told.comes;
            case 4: return knotOf(k);
            default: return NONE;
        }
    }

    public int open(int k, int turns, int threads) {
        Story told = toldStory(k);
        if (told == null || !isWithin(turns, 0, told.size) || !isWithin(threads, 0, ALL_THREADS)) {
            return NONE;
        }
        return told.openBehind(0, turns, threads);
    }

    public int endIs(int e, int what) {
        if (!ends.isTold(e)) {
            return NONE;
        }
        switch (what) {
            case 0: return ends.threads[e];
            case 1: return ends.prices[e];
            case 2: return hall.stock[e];
            case 3: return ends.days[e];
            case 4: return asking.ofEnd(hall, law, Law.PENCE, e);
            case 5: return asking.ofEnd(hall, law, Law.FORGED, e);
            default: return NONE;
        }
    }

    public int tellerIs(int k, int what) {
        if (!isWithin(k, 0, TELLERS - 1) || !has(hall.tellers, k)) {
            return NONE;
        }
        switch (what) {
            case 0: return hall.storyOf[k];
            case 1: return hall.purse[k];
            case 2: return hall.turn[k];
            case 3: return hall.open[k];
            case 4: return hall.boundTo(k);
            case 5: return asking.ofTeller(hall, law, Law.TURNS, k);
            default: return NONE;
        }
    }

    public int listenerIs(int l, int what) {
        if (!isWithin(l, 0, LISTENERS - 1) || !has(hall.listeners, l)) {
            return NONE;
        }
        switch (what) {
            case 0: return hall.tellerOf[l];
            case 1: return hall.age[l];
            case 2: return hall.tired[l];
            default: return NONE;
        }
    }

    public int cheapest(int threads, int what) {
        if (!isWithin(threads, 1, ALL_THREADS) || !isWithin(what, 0, 1)) {
            return NONE;
        }
        if (!ends.chooseFor(threads, hall, law, asking)) {
            return NOT_SUCH;
        }
        return what == 0 ? ends.chosenPence : ends.chosen;
    }

    public int buys(int k, int e) {
        if (!isWithin(k, 0, TELLERS - 1) || !has(hall.tellers, k) || !ends.isTold(e) || hall.stock[e] <= 0) {
            return NONE;
        }
        int pence = asking.ofEnd(hall, law, Law.PENCE, e);
        if (hall.purse[k] < pence) {
            return NONE;
        }
        course.beginIn(hall, law);
        return course.buyOne(k, e, pence);
    }

    public int fitting(int k, int threads, int what) {
        Story told = toldStory(k);
        if (told == null || !isWithin(threads, 0, ALL_THREADS)) {
            return NONE;
        }
        fit.solve(told, threads);
        if (what == 100) {
            return fit.leftOutCount;
        }
        return isWithin(what, 0, fit.leftOutCount - 1) && what < MOST_TURNS ? fit.leftOut[what] : NO_SUCH_PLACE;
    }

    public int wouldDo(int k, int e, int what) {
        Story told = toldStory(k);
        if (told == null || !ends.isTold(e) || !isWithin(what, 0, 2)) {
            return NONE;
        }
        int many = 0;
        int firstTurn = NOT_SUCH;
        int lastTurn = NOT_SUCH;
        int open = 0;
        for (int turns = 1; turns <= told.size; turns++) {
            open = told.openBehind(turns - 1, turns, open);
            if (open != 0 && (open & ~ends.threads[e]) == 0) {
                many++;
                firstTurn = many == 1 ? turns : firstTurn;
                lastTurn = turns;
            }
        }
        if (what == 0) {
            return many;
        }
        return what == 1 ? firstTurn : lastTurn;
    }

    public int series(int stories, int what) {
        int many = Integer.bitCount(stories);
        boolean isPlace = isWithin(what, 0, many - 1) && what < SERIES_STORIES;
        if (!areTold(stories) || !isWithin(many, 2, SERIES_STORIES) || !isPlace && what != 20 && what != 21) {
            return NONE;
        }
        serial.solve(this.stories, stories);
        if (isPlace) {
            return serial.best[what];
        }
        return what == 20 ? serial.mostOpen : serial.openAtEnd;
    }

    public int knots() {
        int groups = 0;
        int rest = toldStories();
        for (int k = 0; k < STORIES; k++) {
            if (has(rest, k)) {
                groups++;
                rest &= ~knotOf(k);
            }
        }
        return groups;
    }

    public int winter(int days, int n, int what) {
        boolean such = isWithin(days, 0, 300) && isWithin(what, 0, 2) && n == Integer.bitCount(ends.told);
        if (!such || !tapeGives(n, 1, ENDS)) {
            return NONE;
        }
        tapeSize = 0;
        if (!tapeIsWithin(n, 10)) {
            return NOT_SUCH;
        }
        ends.planWinter(days, tape);
        if (what == 0) {
            return ends.worth;
        }
        return what == 1 ? ends.made : ends.madeDays;
    }

    public int lent(int n, int what) {
        if (!isWithin(n, 1, WANTERS) || 2 * n > tapeSize) {
            return NONE;
        }
        tapeSize = 0;
        if (!tapeIsWithin(2 * n, LENDING_EVENINGS - 1) || !lending.take(tape, n)) {
            return NOT_SUCH;
        }
        boolean isPlace = isWithin(what, 0, n - 1);
        if (!isPlace && what != 20) {
            return NO_SUCH_PLACE;
        }
        lending.solve();
        return isPlace ? lending.when[what] : lending.served;
    }

    public int forged(int ends, int sniffed, int smelt, int what) {
        boolean such = isWithin(ends, 1, (1 << ENDS) - 1) && (ends & ~this.ends.told) == 0
            && isWithin(sniffed, 0, ALL_THREADS) && isWithin(what, 0, 1);
        if (!such || smelt != -1 && !has(sniffed, smelt)) {
            return NONE;
        }
        int left = this.ends.leftOf(ends, sniffed, smelt);
        return what == 0 ? left : this.ends.nextToSniff(left);
    }

    public int yawns(int k, int n, int what) {
        Story told = toldStory(k);
        if (told == null || !isWithin(what, 0, 1) || !tapeGives(n, 1, 20)) {
            return NONE;
        }
        tapeSize = 0;
        if (told.size < n) {
            return NOT_SUCH;
        }
        int which = 0;
        int ways = 0;
        for (int e = 0; e < ENDS; e++) {
            for (int turn = 1; ends.isTold(e) && turn <= told.size; turn++) {
                if (told.yawnsLike(tape, n, turn, ends.threads[e])) {
                    which |= 1 << e;
                    ways++;
                }
            }
        }
        return what == 0 ? which : ways;
    }

    public int book(int stories, int volumes, int what) {
        int many = Integer.bitCount(stories);
        boolean such = many >= 1 && areTold(stories) && isWithin(volumes, 1, Math.min(3, many));
        if (!such || !isWithin(what, 0, 2)) {
            return NONE;
        }
        int thickest = STORIES * MOST_TURNS + 1;
        int second = NOT_SUCH;
        int third = NOT_SUCH;
        for (int b = 1; b <= STORIES; b++) {
            for (int c = b; c <= STORIES; c++) {
                boolean cuts = volumesCutAt(stories, b, c) == volumes;
                int thick = cuts ? thickestCutAt(stories, b, c) : thickest;
                if (thick < thickest) {
                    thickest = thick;
                    second = volumes > 1 ? b : NOT_SUCH;
                    third = volumes > 2 ? c : NOT_SUCH;
                }
            }
        }
        if (what == 0) {
            return thickest;
        }
        return what == 1 ? second : third;
    }

    public boolean seed(int x) {
        boolean such = isWithin(x, 0, 65535);
        if (such) {
            hall.x = x;
        }
        return such;
    }

    public int keep() {
        kept.takeFrom(hall);
        hasKept = true;
        return hall.evening;
    }

    public boolean undo() {
        if (hasKept) {
            hall.takeFrom(kept);
            for (int k = 0; k < TELLERS; k++) {
                Story told = storyAt(hall.storyOf[k]);
                hall.turn[k] = told == null ? 0 : Math.min(hall.turn[k], told.size);
            }
        }
        return hasKept;
    }

    public int check(int n) {
        if (!tapeGives(n, 0, LISTENERS)) {
            return NOT_SUCH;
        }
        tapeSize = 0;
        for (int l = 0; l < n; l++) {
            if (tape[l] != hall.tired[l]) {
                return l;
            }
        }
        return NONE;
    }

    public int count(int what) {
        switch (what) {
            case 0: return hall.evening;
            case 1: return hall.ill;
            case 2: return hall.told;
            case 3: return toldStories();
            case 4: return ends.told;
            case 5: return hall.tellers;
            case 6: return hall.listeners;
            case 7: return law.clauses;
            case 8: return tapeSize;
            case 9: return hall.x;
            default: return NONE;
        }
    }

    private void putOnTape(int word) {
        for (int shift = 24; shift >= 0; shift -= 8) {
            if (tapeSize < TAPE_BYTES) {
                tape[tapeSize] = word >>> shift & 255;
                tapeSize++;
            }
        }
    }

    private boolean tapeGives(int n, int least, int most) {
        return isWithin(n, least, most) && n <= tapeSize;
    }

    private boolean tapeIsWithin(int n, int most) {
        for (int i = 0; i < n && i < TAPE_BYTES; i++) {
            if (tape[i] > most) {
                return false;
            }
        }
        return true;
    }

    private Story storyAt(int k) {
        return isWithin(k, 0, STORIES - 1) ? stories[k] : null;
    }

    private Story toldStory(int k) {
        Story story = storyAt(k);
        return story == null || story.size == 0 ? null : story;
    }

    private int toldStories() {
        int told = 0;
        for (int k = 0; k < STORIES; k++) {
            if (toldStory(k) != null) {
                told |= 1 << k;
            }
        }
        return told;
    }

    private boolean areTold(int bits) {
        return (bits & ~toldStories()) == 0;
    }

    /** The stories that hang together with this one, as bits. */
    private int knotOf(int k) {
        int group = 1 << k;
        // Each round but the last adds a story, so that there are no more rounds than stories.
        for (int round = 0; round < STORIES; round++) {
            int threads = threadsOf(group);
            for (int j = 0; j < STORIES; j++) {
                Story story = toldStory(j);
                if (story != null && (story.comes & threads) != 0) {
                    group |= 1 << j;
                }
            }
        }
        return group;
    }

    private int threadsOf(int group) {
        int threads = 0;
        for (int k = 0; k < STORIES; k++) {
            Story story = toldStory(k);
            if (story != null && has(group, k)) {
                threads |= story.comes;
            }
        }
        return threads;
    }

    private int turnsOf(int group) {
        int turns = 0;
        for (int k = 0; k < STORIES; k++) {
            Story story = toldStory(k);
            if (story != null && has(group, k)) {
                turns += story.size;
            }
        }
        return turns;
    }

    /** How many volumes there are if new ones begin with stories b and c (6: no new one); 0 if that can't be. */
    private static int volumesCutAt(int group, int b, int c) {
        boolean beginWithStories = (b == STORIES || has(group, b)) && (c == STORIES || has(group, c));
        boolean isInOrder = b < c || b == STORIES;
        boolean firstHasOne = (group & (1 << b) - 1) != 0;
        if (!beginWithStories || !isInOrder || !firstHasOne) {
            return 0;
        }
        return 1 + (b < STORIES ? 1 : 0) + (c < STORIES ? 1 : 0);
    }

    private int thickestCutAt(int group, int b, int c) {
        int belowB = (1 << b) - 1;
        int belowC = (1 << c) - 1;
        int ahead = turnsOf(group & belowB);
        int between = turnsOf(group & belowC & ~belowB);
        int behind = turnsOf(group & ~belowC);
        return Math.max(ahead, Math.max(between, behind));
    }

    private boolean canBeTried(int what) {
        return isWithin(what, 0, 6) || has(hall.tellers, what - 10) || has(hall.tellers, what - 20)
            || has(hall.listeners, what - 30);
    }

    private static boolean isWithin(int number, int least, int most) {
        return number >= least && number <= most;
    }

    private static boolean has(int bits, int place) {
        return place >= 0 && place < THREADS && (bits >> place & 1) == 1;
    }

    /** One story: its turns, and what is known of them when it is begun with nothing open. */
    private static final class Story {
        private static final String SIGNS = "abcdefghijABCDEFGHIJ*.";
        private static final int CLOSES_FROM = 10;
        private static final int STAR = 20;

        private final int[] turns = new int[MOST_TURNS];
        private int size = 0;
        private int atEnd = 0;
        private int most = 0;
        private int comes = 0;

        private void take(int[] from, int many) {
            size = Math.max(0, Math.min(many, Math.min(from.length, MOST_TURNS)));
            System.arraycopy(from, 0, turns, 0, size);
            atEnd = 0;
            most = 0;
            comes = 0;
            for (int i = 0; i < size; i++) {
                int behind = behindTurn(turns[i], atEnd);
                comes |= namedBy(turns[i]) | behind & ~atEnd;
                atEnd = behind;
                most = Math.max(most, Integer.bitCount(atEnd));
            }
        }

        private int openBehind(int from, int to, int openAhead) {
            int open = openAhead;
            for (int i = Math.max(0, from); i < to && i < size; i++) {
                open = behindTurn(turns[i], open);
            }
            return open;
        }

        /** Whether the last n turns leave so many open, with threads closed behind a turn (from 1 on). */
        private boolean yawnsLike(int[] counts, int n, int turn, int threads) {
            int open = 0;
            for (int i = 0; i < size; i++) {
                open = behindTurn(turns[i], open);
                if (i + 1 == turn) {
                    open &= ~threads;
                }
                int heard = i - (size - n);
                if (heard >= 0 && heard < counts.length && counts[heard] != Integer.bitCount(open)) {
                    return false;
                }
            }
            return true;
        }

        private static int behindTurn(int turn, int open) {
            if (turn == STAR) {
                int closed = ~open & ALL_THREADS;
                return open | closed & -closed;
            }
            return isClosing(turn) ? open & ~namedBy(turn) : open | namedBy(turn);
        }

        private static boolean isClosing(int turn) {
            return turn >= CLOSES_FROM && turn < STAR;
        }

        /** The thread that a turn names, as a bit. */
        private static int namedBy(int turn) {
            if (turn < 0 || turn >= STAR) {
                return 0;
            }
            return 1 << (isClosing(turn) ? turn - CLOSES_FROM : turn);
        }
    }

    /** Reads the text of a story from the left and writes its turns out, till the first fault. */
    private static final class StoryReader {
        private static final int DEEPEST = 2;

        private final int[] turns = new int[MOST_TURNS + 1];
        private int written = 0;
        private int[] text = new int[0];
        private int size = 0;
        private int at = 0;
        private int fault = 0;

        /** How many turns, or the fault. */
        private int read(int[] bytes, int n) {
            text = bytes;
            size = Math.min(n, bytes.length);
            at = 0;
            fault = 0;
            written = 0;
            readTurns(0);
            return fault != 0 ? fault : written;
        }

        private void readTurns(int depth) {
            boolean more = true;
            for (int i = 0; i < STORY_BYTES && more; i++) {
                readTurn(depth);
                boolean ends = depth > 0 ? sign() == ')' : at >= size;
                more = fault == 0 && !ends;
            }
        }

        private void readTurn(int depth) {
            int start = at;
            int times = 1;
            if (sign() >= '2' && sign() <= '9') {
                times = sign() - '0';
                at++;
            }
            int from = written;
            if (sign() == '(') {
                readGroup(depth);
            } else {
                readLetter();
            }
            if (fault == 0 && from + (written - from) * times > MOST_TURNS) {
                refuse(6, start);
            }
            if (fault == 0) {
                repeat(from, times);
            }
        }

        private void readGroup(int depth) {
            if (depth >= DEEPEST) {
                refuse(5, at);
                return;
            }
            at++;
            readTurns(depth + 1);
            if (fault == 0 && sign() != ')') {
                refuse(1, at);
            }
            at++;
        }

        private void readLetter() {
            int turn = sign() < 0 ? -1 : Story.SIGNS.indexOf((char) sign());
            if (turn < 0) {
                refuse(1, at);
            } else if (written < turns.length) {
                turns[written] = turn;
                written++;
            }
            at++;
        }

        private void repeat(int from, int times) {
            int until = Math.min(from + (written - from) * times, MOST_TURNS);
            int span = written - from;
            for (int i = written; i < until && i - span >= 0; i++) {
                turns[i] = turns[i - span];
                written++;
            }
        }

        /** The byte that stands here, -1 at the end. */
        private int sign() {
            return at >= 0 && at < size && at < text.length ? text[at] : -1;
        }

        private void refuse(int number, int place) {
            if (fault == 0) {
                fault = -1000 * number - place;
            }
        }
    }

    /** A law, made ready to be asked: of each clause the steps of its E, then those of its C. */
    private static final class Law {
        private static final String KINDS = "nptsfgx";
        private static final int TURNS = 0;
        private static final int PENCE = 1;
        private static final int TIRES = 2;
        private static final int RESTS = 3;
        private static final int GIVES = 4;
        private static final int FORGED = 5;
        private static final int GOES = 6;
        private static final int[] BOUNDS = {20, 999, 9, 9, 99, 10, 1};
        private static final int NUMBER = 0;
        private static final int LETTER = 1;
        private static final int NOT = 2;
        private static final int AND = 3;
        private static final int OR = 4;
        private static final int PLUS = 5;
        private static final String SIGNS = "+-*/%<>=";
        private static final int HEIGHT = 64;

        private int clauses = 0;
        private final int[] kinds = new int[CLAUSES];
        private final int[] starts = new int[CLAUSES];
        private final int[] middles = new int[CLAUSES];
        private final int[] stops = new int[CLAUSES];
        private int size = 0;
        private final int[] steps = new int[LAW_BYTES];
        private final int[] stack = new int[HEIGHT];
        private boolean refused = false;

        private void clear() {
            clauses = 0;
            size = 0;
        }

        private void takeFrom(Law from) {
            clauses = from.clauses;
            size = from.size;
            System.arraycopy(from.kinds, 0, kinds, 0, CLAUSES);
            System.arraycopy(from.starts, 0, starts, 0, CLAUSES);
            System.arraycopy(from.middles, 0, middles, 0, CLAUSES);
            System.arraycopy(from.stops, 0, stops, 0, CLAUSES);
            System.arraycopy(from.steps, 0, steps, 0, LAW_BYTES);
        }

        private void addStep(int step, int operand) {
            if (size < LAW_BYTES) {
                steps[size] = operand << 4 | step;
                size++;
            }
        }

        /** Lets the & or | at this place leap to what comes next. */
        private void leapHere(int place) {
            if (place >= 0 && place < LAW_BYTES) {
                steps[place] |= size << 4;
            }
        }

        private void addClause(int kind, int start, int middle) {
            if (clauses < CLAUSES) {
                kinds[clauses] = kind;
                starts[clauses] = start;
                middles[clauses] = middle;
                stops[clauses] = size;
                clauses++;
            }
        }

        /** The E of the first clause of a kind whose C holds, within its bounds, 0 if there is none; of x 1. */
        private int worthOf(int kind, int[] values) {
            for (int i = 0; i < clauses && i < CLAUSES; i++) {
                if (kinds[i] == kind && reckon(middles[i], stops[i], values) != 0) {
                    int worth = kind == GOES ? 1 : reckon(starts[i], middles[i], values);
                    int bound = kind >= 0 && kind < BOUNDS.length ? BOUNDS[kind] : 0;
                    return Math.max(0, Math.min(worth, bound));
                }
            }
            return 0;
        }

        /** What some steps come to, 0 if they are refused. */
        private int reckon(int from, int to, int[] values) {
            int height = 0;
            refused = false;
            for (int at = Math.max(0, from); at < to && at < LAW_BYTES && !refused; at++) {
                int step = steps[at] & 15;
                int operand = steps[at] >> 4;
                if (step == NUMBER || step == LETTER) {
                    refused = height >= HEIGHT || step == LETTER && operand >= values.length;
                    if (!refused) {
                        stack[height] = step == NUMBER ? operand : values[operand];
                        height++;
                    }
                } else if (height < 1 || step >= PLUS && height < 2) {
                    refused = true;
                } else if (step == NOT) {
                    stack[height - 1] = 1 - stack[height - 1];
                } else if (step >= PLUS) {
                    height--;
                    stack[height - 1] = joined(step, stack[height - 1], stack[height]);
                } else if (stack[height - 1] == (step == OR ? 1 : 0)) {
                    // What stands to the right doesn't matter any more, so it is not asked.
                    at = Math.max(at, operand - 1);
                } else {
                    height--;
                }
            }
            return refused || height < 1 ? 0 : stack[height - 1];
        }

        private int joined(int step, int left, int right) {
            int sign = step - PLUS;
            if ((sign == 3 || sign == 4) && right == 0) {
                refused = true;
                return 0;
            }
            switch (sign) {
                case 0: return left + right;
                case 1: return left - right;
                case 2: return left * right;
                case 3: return right == 0 ? 0 : left / right;
                case 4: return right == 0 ? 0 : left % right;
                case 5: return left < right ? 1 : 0;
                case 6: return left > right ? 1 : 0;
                default: return left == right ? 1 : 0;
            }
        }
    }

    /** Reads the text of a law from the left into a draft, till the first fault. */
    private static final class LawReader {
        private static final int DEEPEST = 6;
        private static final int DIGITS = 5;

        private final Law draft = new Law();
        private int[] text = new int[0];
        private int size = 0;
        private int at = 0;
        private int fault = 0;

        /** How many clauses, or the fault. */
        private int read(int[] bytes, int n) {
            text = bytes;
            size = Math.min(n, bytes.length);
            at = 0;
            fault = 0;
            draft.clear();
            readClause();
            for (int i = 0; i < LAW_BYTES && fault == 0 && at < size; i++) {
                take(';');
                readClause();
            }
            return fault != 0 ? fault : draft.clauses;
        }

        private void readClause() {
            int kind = placeIn(Law.KINDS);
            if (kind < 0) {
                refuse(1);
            } else if (draft.clauses >= CLAUSES) {
                refuse(4);
            }
            at++;
            int start = draft.size;
            if (kind != Law.GOES) {
                readSum(0);
            }
            int middle = draft.size;
            take('(');
            readCondition(1);
            take(')');
            draft.addClause(kind, start, middle);
        }

        /** Reads a C; depth tells how many of ( [ ! are open around it. */
        private void readCondition(int depth) {
            readPart(depth);
            for (int i = 0; i < LAW_BYTES && fault == 0 && sign() == '|'; i++) {
                int leap = draft.size;
                draft.addStep(Law.OR, 0);
                at++;
                readPart(depth);
                draft.leapHere(leap);
            }
        }

        private void readPart(int depth) {
            readTest(depth);
            for (int i = 0; i < LAW_BYTES && fault == 0 && sign() == '&'; i++) {
                int leap = draft.size;
                draft.addStep(Law.AND, 0);
                at++;
                readTest(depth);
                draft.leapHere(leap);
            }
        }

        private void readTest(int depth) {
            if (fault != 0) {
                return;
            }
            if (sign() == '!') {
                openAt(depth);
                readTest(depth + 1);
                draft.addStep(Law.NOT, 0);
            } else if (sign() == '(') {
                openAt(depth);
                readCondition(depth + 1);
                take(')');
            } else {
                readSum(depth);
                int comparing = placeIn("<>=") < 0 ? -1 : placeIn(Law.SIGNS);
                if (comparing < 0) {
                    refuse(1);
                }
                at++;
                readSum(depth);
                draft.addStep(Law.PLUS + comparing, 0);
            }
        }

        private void readSum(int depth) {
            readProduct(depth);
            for (int i = 0; i < LAW_BYTES && fault == 0 && placeIn("+-") >= 0; i++) {
                int sign = placeIn(Law.SIGNS);
                at++;
                readProduct(depth);
                draft.addStep(Law.PLUS + sign, 0);
            }
        }

        private void readProduct(int depth) {
            readFactor(depth);
            for (int i = 0; i < LAW_BYTES && fault == 0 && placeIn("*/%") >= 0; i++) {
                int sign = placeIn(Law.SIGNS);
                at++;
                readFactor(depth);
                draft.addStep(Law.PLUS + sign, 0);
            }
        }

        private void readFactor(int depth) {
            if (fault != 0) {
                return;
            }
            int letter = placeIn(Asking.LETTERS);
            if (sign() == '[') {
                openAt(depth);
                readSum(depth + 1);
                take(']');
            } else if (letter >= 0) {
                draft.addStep(Law.LETTER, letter);
                at++;
            } else {
                readNumber();
            }
        }

        private void readNumber() {
            int number = 0;
            int digits = 0;
            for (; digits < DIGITS && isDigit(); digits++) {
                number = 10 * number + sign() - '0';
                at++;
            }
            if (digits == 0) {
                refuse(1);
            } else if (isDigit()) {
                refuse(2);
            }
            draft.addStep(Law.NUMBER, number);
        }

        private boolean isDigit() {
            return sign() >= '0' && sign() <= '9';
        }

        /** Goes past one of ( [ ! that stands here. */
        private void openAt(int depth) {
            if (depth >= DEEPEST) {
                refuse(5);
            }
            at++;
        }

        private void take(int due) {
            if (sign() != due) {
                refuse(1);
            }
            at++;
        }

        /** The byte that stands here, -1 at the end. */
        private int sign() {
            return at >= 0 && at < size && at < text.length ? text[at] : -1;
        }

        private int placeIn(String signs) {
            return sign() < 0 ? -1 : signs.indexOf((char) sign());
        }

        private void refuse(int number) {
            if (fault == 0) {
                fault = -1000 * number - at;
            }
        }
    }

    /** The ends that were told, and what can be chosen of them. Their stock is the hall's, as it is kept and undone. */
    private static final class Ends {
        private int told = 0;
        private final int[] threads = new int[ENDS];
        private final int[] prices = new int[ENDS];
        private final int[] days = new int[ENDS];
        private final int[] asked = new int[ENDS];
        private final int[] listed = new int[ENDS];
        private final int[] sums = new int[SETS];
        private final int[] others = new int[SETS];
        private int chosen = 0;
        private int chosenPence = 0;
        private int made = 0;
        private int madeDays = 0;
        private int worth = 0;

        private void take(int e, int closes, int price, int daysToMake) {
            threads[e] = closes;
            prices[e] = price;
            days[e] = daysToMake;
            told |= 1 << e;
        }

        private boolean isTold(int e) {
            return isWithin(e, 0, ENDS - 1) && has(told, e);
        }

        /** Chooses the cheapest ends that close all that is wanted: whether there are such. */
        private boolean chooseFor(int wanted, Hall hall, Law law, Asking asking) {
            int many = 0;
            for (int e = 0; e < ENDS; e++) {
                // An end that closes nothing of it would only make them more, so it is left aside.
                if (has(told, e) && hall.stock[e] > 0 && (threads[e] & wanted) != 0) {
                    asked[e] = asking.ofEnd(hall, law, Law.PENCE, e);
                    listed[many] = e;
                    many++;
                }
            }
            int best = 0;
            for (int place = 0; place < many; place++) {
                int bit = 1 << place;
                int e = listed[place];
                for (int set = bit; set < 2 * bit; set++) {
                    sums[set] = (set == bit ? 0 : sums[set - bit]) + asked[e];
                    others[set] = (set == bit ? 0 : others[set - bit]) | threads[e] & wanted;
                    if (others[set] == wanted && (best == 0 || isCheaper(set, best))) {
                        best = set;
                    }
                }
            }
            chosen = endsOf(best, many);
            chosenPence = sums[best];
            return best != 0;
        }

        private boolean isCheaper(int set, int than) {
            boolean isFewer = Integer.bitCount(set) < Integer.bitCount(than);
            return sums[set] < sums[than] || sums[set] == sums[than] && isFewer;
        }

        /** Sets of places in the list as sets of ends. */
        private int endsOf(int set, int many) {
            int bits = 0;
            for (int place = 0; place < many && place < ENDS; place++) {
                if (has(set, place)) {
                    bits |= 1 << listed[place];
                }
            }
            return bits;
        }

        private void planWinter(int limit, int[] tenths) {
            int many = 0;
            for (int e = 0; e < ENDS; e++) {
                if (has(told, e)) {
                    listed[many] = e;
                    many++;
                }
            }
            worth = 0;
            madeDays = 0;
            int best = 0;
            for (int place = 0; place < many && place < tenths.length; place++) {
                int bit = 1 << place;
                int e = listed[place];
                for (int set = bit; set < 2 * bit; set++) {
                    sums[set] = (set == bit ? 0 : sums[set - bit]) + tenths[place] * prices[e];
                    others[set] = (set == bit ? 0 : others[set - bit]) + days[e];
                    boolean isBetter = sums[set] > worth || sums[set] == worth && others[set] < madeDays;
                    if (others[set] <= limit && isBetter) {
                        best = set;
                        worth = sums[set];
                        madeDays = others[set];
                    }
                }
            }
            made = endsOf(best, many);
        }

        /** Which of some ends may be the forged one behind what was sniffed. */
        private int leftOf(int given, int sniffed, int smelt) {
            int left = 0;
            for (int e = 0; e < ENDS; e++) {
                int lowest = threads[e] & -threads[e];
                boolean mayBe = smelt < 0 ? (lowest & sniffed) == 0 : has(lowest, smelt);
                if (has(given, e) && mayBe) {
                    left |= 1 << e;
                }
            }
            return left;
        }

        private int nextToSniff(int given) {
            int all = Integer.bitCount(given);
            int next = NOT_SUCH;
            int greater = all;
            for (int thread = 0; thread < THREADS; thread++) {
                int leaving = Integer.bitCount(leftOf(given, ALL_THREADS, thread));
                int part = Math.max(leaving, all - leaving);
                if (part < greater) {
                    next = thread;
                    greater = part;
                }
            }
            return next;
        }
    }

    /** All that is kept and undone: tellers, listeners, stock, the evening, what was counted, and X. */
    private static final class Hall {
        private int tellers = 0;
        private final int[] storyOf = new int[TELLERS];
        private final int[] purse = new int[TELLERS];
        private final int[] turn = new int[TELLERS];
        private final int[] open = new int[TELLERS];
        private int listeners = 0;
        private final int[] tellerOf = new int[LISTENERS];
        private final int[] age = new int[LISTENERS];
        private final int[] tired = new int[LISTENERS];
        private final int[] stock = new int[ENDS];
        private int evening = 0;
        private int ill = 0;
        private int told = 0;
        private int x = 1;

        private void takeFrom(Hall from) {
            tellers = from.tellers;
            System.arraycopy(from.storyOf, 0, storyOf, 0, TELLERS);
            System.arraycopy(from.purse, 0, purse, 0, TELLERS);
            System.arraycopy(from.turn, 0, turn, 0, TELLERS);
            System.arraycopy(from.open, 0, open, 0, TELLERS);
            listeners = from.listeners;
            System.arraycopy(from.tellerOf, 0, tellerOf, 0, LISTENERS);
            System.arraycopy(from.age, 0, age, 0, LISTENERS);
            System.arraycopy(from.tired, 0, tired, 0, LISTENERS);
            System.arraycopy(from.stock, 0, stock, 0, ENDS);
            evening = from.evening;
            ill = from.ill;
            told = from.told;
            x = from.x;
        }

        private void takeTeller(int k, int story, int pence) {
            tellers |= 1 << k;
            storyOf[k] = story;
            purse[k] = pence;
            turn[k] = 0;
            open[k] = 0;
        }

        private void takeListener(int l, int teller, int years) {
            listeners |= 1 << l;
            tellerOf[l] = teller;
            age[l] = years;
            tired[l] = 0;
        }

        /** Lets the tellers of a story begin it again. */
        private void beginAnew(int story) {
            for (int k = 0; k < TELLERS; k++) {
                if (has(tellers, k) && storyOf[k] == story) {
                    turn[k] = 0;
                    open[k] = 0;
                }
            }
        }

        private boolean isBound(int l, int k) {
            return has(listeners, l) && tellerOf[l] == k;
        }

        private int boundTo(int k) {
            int bits = 0;
            for (int l = 0; l < LISTENERS; l++) {
                if (isBound(l, k)) {
                    bits |= 1 << l;
                }
            }
            return bits;
        }

        private int draw() {
            x = 25173 * x + 13849 & 65535;
            return x % 10;
        }
    }

    /** Asks a law in a hall: puts in what its letters stand for. */
    private static final class Asking {
        private static final String LETTERS = "kumolareczhv";

        private final Ends ends;
        private final int[] values = new int[12];

        private Asking(Ends ends) {
            this.ends = ends;
        }

        private int ofTeller(Hall hall, Law law, int kind, int k) {
            begin(hall);
            putTeller(hall, k);
            return law.worthOf(kind, values);
        }

        private int ofListener(Hall hall, Law law, int kind, int k, int l) {
            begin(hall);
            putTeller(hall, k);
            values[4] = l;
            values[5] = hall.age[l];
            values[6] = hall.tired[l];
            return law.worthOf(kind, values);
        }

        private int ofEnd(Hall hall, Law law, int kind, int e) {
            begin(hall);
            values[7] = e;
            values[8] = ends.prices[e];
            values[9] = hall.stock[e];
            values[10] = Integer.bitCount(ends.threads[e]);
            return law.worthOf(kind, values);
        }

        private void begin(Hall hall) {
            Arrays.fill(values, 0);
            values[11] = hall.evening;
        }

        private void putTeller(Hall hall, int k) {
            values[0] = k;
            values[1] = hall.turn[k];
            values[2] = hall.purse[k];
            values[3] = Integer.bitCount(hall.open[k]);
        }
    }

    /** The course of evenings in a hall by a law, and what is counted of them. */
    private static final class Course {
        private final Story[] stories;
        private final Ends ends;
        private final Asking asking;
        private Hall hall;
        private Law law;
        private int night = 0;
        private int pence = 0;
        private int bought = 0;
        private int forgedOnes = 0;
        private int ill = 0;
        private int gone = 0;
        private int closed = 0;
        private int given = 0;
        private int firstIll = NOBODY;
        private int firstIllIn = NOBODY;

        private Course(Story[] stories, Ends ends, Asking asking, Hall hall, Law law) {
            this.stories = stories;
            this.ends = ends;
            this.asking = asking;
            this.hall = hall;
            this.law = law;
        }

        private void run(Hall there, Law by, int n) {
            beginIn(there, by);
            for (int i = 1; i <= n && hall.evening < LAST_EVENING; i++) {
                night = i;
                for (int k = 0; k < TELLERS; k++) {
                    if (has(hall.tellers, k)) {
                        visit(k);
                    }
                }
                hall.evening++;
            }
        }

        private void beginIn(Hall there, Law by) {
            hall = there;
            law = by;
            pence = 0;
            bought = 0;
            forgedOnes = 0;
            ill = 0;
            gone = 0;
            closed = 0;
            given = 0;
            firstIll = NOBODY;
            firstIllIn = NOBODY;
        }

        /** What came of the evenings, by the numbers of tried(). */
        private int result(int what) {
            switch (what) {
                case 0: return pence;
                case 1: return bought;
                case 2: return forgedOnes;
                case 3: return ill;
                case 4: return gone;
                case 5: return closed;
                case 6: return given;
                default: break;
            }
            if (isWithin(what, 10, 10 + TELLERS - 1)) {
                return hall.purse[what - 10];
            }
            if (isWithin(what, 20, 20 + TELLERS - 1)) {
                return hall.open[what - 20];
            }
            return isWithin(what, 30, 30 + LISTENERS - 1) ? hall.tired[what - 30] : NONE;
        }

        private void visit(int k) {
            Story story = storyOf(k);
            if (story == null) {
                return;
            }
            tellOn(k, story);
            boolean isAtEnd = hall.turn[k] >= story.size;
            boolean canClose = isAtEnd && hall.open[k] != 0 && ends.chooseFor(hall.open[k], hall, law, asking);
            if (canClose && ends.chosenPence <= hall.purse[k]) {
                for (int e = 0; e < ENDS; e++) {
                    if (has(ends.chosen, e)) {
                        buyOne(k, e, ends.asked[e]);
                    }
                }
            }
            for (int l = 0; l < LISTENERS; l++) {
                if (hall.isBound(l, k)) {
                    listen(k, l);
                }
            }
            if (isAtEnd && hall.open[k] == 0) {
                collect(k);
            }
        }

        private Story storyOf(int k) {
            int number = hall.storyOf[k];
            return number >= 0 && number < stories.length ? stories[number] : null;
        }

        private void tellOn(int k, Story story) {
            int from = hall.turn[k];
            int to = Math.min(story.size, from + asking.ofTeller(hall, law, Law.TURNS, k));
            hall.open[k] = story.openBehind(from, to, hall.open[k]);
            hall.turn[k] = to;
        }

        /** The threads that an end closes of what was open. */
        private int buyOne(int k, int e, int price) {
            int tenths = asking.ofEnd(hall, law, Law.FORGED, e);
            hall.purse[k] -= price;
            hall.stock[e]--;
            pence += price;
            bought++;
            int closes = ends.threads[e];
            if (hall.draw() < tenths) {
                closes &= closes - 1;
                forgedOnes++;
            }
            int closedNow = hall.open[k] & closes;
            hall.open[k] &= ~closes;
            return closedNow;
        }

        private void listen(int k, int l) {
            if (hall.open[k] != 0) {
                tire(l, asking.ofListener(hall, law, Law.TIRES, k, l));
            } else {
                int less = asking.ofListener(hall, law, Law.RESTS, k, l);
                hall.tired[l] = Math.max(0, hall.tired[l] - less);
            }
            if (asking.ofListener(hall, law, Law.GOES, k, l) != 0) {
                hall.tellerOf[l] = NOBODY;
                gone++;
            }
        }

        private void tire(int l, int more) {
            int before = hall.tired[l];
            hall.tired[l] = Math.min(WORN_OUT, before + more);
            if (before < WORN_OUT && hall.tired[l] == WORN_OUT) {
                hall.ill++;
                ill++;
                if (ill == 1) {
                    firstIll = l;
                    firstIllIn = night;
                }
            }
        }

        /** Lets the listeners pay for a story that is closed, which begins anew. */
        private void collect(int k) {
            for (int l = 0; l < LISTENERS; l++) {
                if (hall.isBound(l, k)) {
                    int gift = asking.ofListener(hall, law, Law.GIVES, k, l);
                    int room = FULL_PURSE - hall.purse[k];
                    hall.purse[k] += Math.min(gift, room);
                    given += Math.min(gift, room);
                }
            }
            hall.told++;
            closed++;
            hall.turn[k] = 0;
        }
    }

    /** Which turns to leave out of a story so that it leaves none open but threads that may be left. */
    private static final class Fitting {
        private static final int IMPOSSIBLE = 1000;
        private static final int EARLY = 64;

        private final int[] sets = new int[SETS];
        private int many = 0;
        private int[] fewest = new int[SETS];
        private int[] fewestBehind = new int[SETS];
        private final long[] outEarly = new long[SETS];
        private final long[] outLate = new long[SETS];
        private final int[] leftOut = new int[MOST_TURNS];
        private int leftOutCount = 0;

        private void solve(Story story, int allowed) {
            listSets(threadsEver(story));
            Arrays.fill(fewest, IMPOSSIBLE);
            Arrays.fill(fewestBehind, IMPOSSIBLE);
            for (int i = 0; i < many; i++) {
                fewest[sets[i]] = (sets[i] & ~allowed) == 0 ? 0 : IMPOSSIBLE;
                outEarly[sets[i]] = 0;
                outLate[sets[i]] = 0;
            }
            for (int turn = story.size - 1; turn >= 0; turn--) {
                goBack(story.turns[turn], turn);
            }
            leftOutCount = 0;
            int open = 0;
            for (int turn = 0; turn < story.size; turn++) {
                if (isLeftOut(turn, open)) {
                    leftOut[leftOutCount] = turn;
                    leftOutCount++;
                } else {
                    open = Story.behindTurn(story.turns[turn], open);
                }
            }
        }

        /** All threads that can ever be open, whatever is left out: each star can at most add the lowest one. */
        private static int threadsEver(Story story) {
            int threads = 0;
            for (int i = 0; i < story.size; i++) {
                if (!Story.isClosing(story.turns[i])) {
                    threads |= Story.namedBy(story.turns[i]);
                }
            }
            for (int i = 0; i < story.size; i++) {
                if (story.turns[i] == Story.STAR) {
                    threads = Story.behindTurn(Story.STAR, threads);
                }
            }
            return threads;
        }

        private void listSets(int threads) {
            many = 0;
            for (int set = 0; set < SETS; set++) {
                if ((set & ~threads) == 0) {
                    sets[many] = set;
                    many++;
                }
            }
        }

        /** From what is fewest behind a turn to what is fewest ahead of it. */
        private void goBack(int sign, int turn) {
            int[] behind = fewest;
            fewest = fewestBehind;
            fewestBehind = behind;
            for (int i = 0; i < many; i++) {
                int set = sets[i];
                int told = behind[Story.behindTurn(sign, set)];
                int leaving = behind[set] + 1;
                // Of like ones the least row leaves out what comes first.
                fewest[set] = Math.min(told, leaving);
                if (leaving <= told) {
                    markLeftOut(turn, set);
                }
            }
        }

        private void markLeftOut(int turn, int set) {
            if (turn < EARLY) {
                outEarly[set] |= 1L << turn;
            } else {
                outLate[set] |= 1L << turn - EARLY;
            }
        }

        private boolean isLeftOut(int turn, int set) {
            long out = turn < EARLY ? outEarly[set] >> turn : outLate[set] >> turn - EARLY;
            return (out & 1L) == 1L;
        }
    }

    /** The order of some stories, one behind the other, with the least open. */
    private static final class Series {
        private final int[] row = new int[SERIES_STORIES];
        private final int[] best = new int[SERIES_STORIES];
        private int mostOpen = 0;
        private int openAtEnd = 0;

        private void solve(Story[] stories, int bits) {
            mostOpen = THREADS + 1;
            openAtEnd = THREADS + 1;
            place(stories, 0, bits, 0, 0);
        }

        /** Puts each of the stories that are left in the next place; the rows come up from the least on. */
        private void place(Story[] stories, int depth, int left, int open, int most) {
            if (left == 0) {
                rate(open, most);
            }
            for (int k = 0; k < stories.length && depth < SERIES_STORIES; k++) {
                Story story = stories[k];
                if (has(left, k) && story != null) {
                    int mostNow = most;
                    int openNow = open;
                    for (int i = 0; i < story.size && mostNow <= mostOpen; i++) {
                        openNow = Story.behindTurn(story.turns[i], openNow);
                        mostNow = Math.max(mostNow, Integer.bitCount(openNow));
                    }
                    row[depth] = k;
                    if (mostNow <= mostOpen) {
                        place(stories, depth + 1, left & ~(1 << k), openNow, mostNow);
                    }
                }
            }
        }

        private void rate(int open, int most) {
            int atEnd = Integer.bitCount(open);
            if (most < mostOpen || most == mostOpen && atEnd < openAtEnd) {
                mostOpen = most;
                openAtEnd = atEnd;
                System.arraycopy(row, 0, best, 0, SERIES_STORIES);
            }
        }
    }

    /** One end, lent on an evening to one teller alone. */
    private static final class Lending {
        private static final int NEVER = 100;

        private final int[] from = new int[WANTERS];
        private final int[] to = new int[WANTERS];
        private final int[] when = new int[WANTERS];
        private final int[] taken = new int[LENDING_EVENINGS];
        private int wanters = 0;
        private int served = 0;

        /** Whether each of them wants it from an evening to one that is not ahead of that. */
        private boolean take(int[] bytes, int n) {
            wanters = Math.min(n, WANTERS);
            for (int i = 0; i < wanters && 2 * i + 1 < bytes.length; i++) {
                from[i] = bytes[2 * i];
                to[i] = bytes[2 * i + 1];
                if (to[i] < from[i]) {
                    return false;
                }
            }
            return true;
        }

        private void solve() {
            Arrays.fill(taken, 0);
            served = mostFrom(0);
            int due = served;
            for (int i = 0; i < wanters; i++) {
                when[i] = earliestFor(i, due);
                due -= when[i] == NEVER ? 0 : 1;
            }
        }

        /** Takes the first evening for one wanter with which as many as are due, he among them, can have it. */
        private int earliestFor(int wanter, int due) {
            for (int evening = from[wanter]; evening <= to[wanter] && evening < LENDING_EVENINGS; evening++) {
                if (taken[evening] == 0) {
                    taken[evening] = 1;
                    if (1 + mostFrom(wanter + 1) >= due) {
                        return evening;
                    }
                    taken[evening] = 0;
                }
            }
            return NEVER;
        }

        /** How many of the wanters from one on can have it on the evenings that are not taken. */
        private int mostFrom(int wanter) {
            int waiting = (1 << wanters) - (1 << Math.min(wanter, wanters));
            int many = 0;
            for (int evening = 0; evening < LENDING_EVENINGS && waiting != 0; evening++) {
                int next = taken[evening] == 0 ? mostPressed(waiting, evening) : NONE;
                if (next != NONE) {
                    waiting &= ~(1 << next);
                    many++;
                }
            }
            return many;
        }

        /** Of those that want it on an evening the one whose time ends first: to serve him never costs another. */
        private int mostPressed(int waiting, int evening) {
            int pressed = NONE;
            for (int i = 0; i < wanters; i++) {
                boolean wants = has(waiting, i) && from[i] <= evening && evening <= to[i];
                if (wants && (pressed == NONE || to[i] < to[pressed])) {
                    pressed = i;
                }
            }
            return pressed;
        }
    }
}
