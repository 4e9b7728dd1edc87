import java.util.ArrayList;
import java.util.Arrays;
import java.util.List;

/**
 * Every argument of every call: the last numbers that are taken and the first that are refused at both ends, and all
 * that is not told. A refused call is made on one of two twins; all that can be asked then must be the same of both.
 */
public final class BoundsTest {
    private static final Checks CHECKS = new Checks("BoundsTest");
    private static final int LEAST = Integer.MIN_VALUE;
    private static final int MOST = Integer.MAX_VALUE;
    private static final int NONE = -1;
    /** Seventy-two turns, and more that follows: all that a tape can hold. */
    private static final String TAPE = "abcdefghijABCDEFGHIJ*...*jihgfedcbaJIHGFEDCBA**acegibdfhjACEGIBDFHJ*****."
        .substring(0, 72) + ".".repeat(188);

    private interface Call {
        long on(LineGuild g, int[] a);
    }

    public static void main(String[] args) {
        CHECKS.due("the tape can be read", rich(TAPE).story(0, 72), 72);
        storiesAndLaws();
        endsTellersListeners();
        eveningsAndTrials();
        questions();
        choices();
        rows();
        smallOnes();
        whatOfTried();
        bitsOfStories();
        notTold();
        refusedForOtherReasons();
        emptiesTheTape();
        askingChangesNothing();
        theReasonToldLast();
        tapeTooShort();
        CHECKS.finish();
    }

    private static long flag(boolean b) {
        return b ? 1 : NONE;
    }

    /** All that can be told is told, the tape is full, a law was copied, and an evening was kept. */
    private static LineGuild rich(String tape) {
        LineGuild g = new LineGuild();
        String[] stories = {"ab.A", "*c2(dC)", "3.", "Bb*e", "j", "f(gF)"};
        for (int k = 0; k < 6; k++) {
            Checks.story(g, k, stories[k]);
        }
        for (int e = 0; e < 10; e++) {
            g.end(e, 1 << e | 1 << e / 2, 3 + e, 9 - e % 3, 1 + e);
        }
        Checks.law(g, "n1(1=1);p2+e(1=1);t4(a>20);x(r>8);g3(1=1);f5(1=1)");
        g.copy();
        for (int k = 0; k < 4; k++) {
            g.teller(k, k, 100 + k);
        }
        for (int l = 0; l < 10; l++) {
            g.listener(l, l % 4, 10 * l);
        }
        g.seed(4711);
        g.evenings(2);
        g.keep();
        Checks.law(g, "n2(1=1);p3(1=1);t2(1=1);s1(1=1);f4(1=1);g5(1=1)");
        g.evenings(1);
        Checks.put(g, tape);
        return g;
    }

    /** Stories 1 and 4, ends 2 and 7, teller 1, listeners 3 and 8 alone, of which 8 went. */
    private static LineGuild poor(String tape) {
        LineGuild g = new LineGuild();
        Checks.story(g, 1, "ab.A");
        Checks.story(g, 4, "*c");
        g.end(2, 6, 4, 1, 3);
        g.end(7, 1, 90, 0, 3);
        g.teller(1, 4, 50);
        g.listener(3, 1, 30);
        g.listener(8, 1, 80);
        Checks.law(g, "n1(1=1);t3(1=1);x(l=8)");
        g.keep();
        g.evenings(2);
        Checks.put(g, tape);
        return g;
    }

    /** All that can be asked, then what stands on the tape, then all once more as it was kept. */
    private static List<Long> askAll(LineGuild g) {
        List<Long> all = new ArrayList<>();
        askState(g, all);
        all.add((long) g.story(5, 72));
        for (int turns = 0; turns <= 72; turns++) {
            all.add((long) g.open(5, turns, 0));
        }
        all.add((long) g.count(8));
        all.add(flag(g.undo()));
        askState(g, all);
        return all;
    }

    private static void askState(LineGuild g, List<Long> all) {
        for (int what = 0; what < 10; what++) {
            all.add((long) g.count(what));
        }
        for (int k = 0; k < 6; k++) {
            all.add((long) g.storyIs(k, 0));
            all.add((long) g.storyIs(k, 1));
        }
        for (int e = 0; e < 10; e++) {
            all.add((long) g.endIs(e, 0));
            all.add((long) g.endIs(e, 1) * 100 + g.endIs(e, 3));
            all.add((long) g.endIs(e, 2));
        }
        for (int k = 0; k < 4; k++) {
            for (int what = 0; what < 6; what++) {
                all.add((long) g.tellerIs(k, what));
            }
        }
        for (int l = 0; l < 10; l++) {
            all.add(g.listenerIs(l, 0) * 100L + g.listenerIs(l, 1));
            all.add((long) g.listenerIs(l, 2));
        }
        for (int what : new int[] {0, 2, 3, 6}) {
            all.add((long) g.tried(9, what));
            all.add((long) g.other(9, what));
        }
    }

    private static void same(String what, List<Long> got, List<Long> want) {
        for (int i = 0; i < want.size(); i++) {
            CHECKS.due(what + ", then answer " + i, got.get(i), want.get(i));
        }
    }

    private static final List<Long> RICH = askAll(rich(TAPE));
    private static final List<Long> POOR = askAll(poor(TAPE));

    private static void refused(String name, LineGuild g, List<Long> twin, Call call, int... a) {
        String what = name + Arrays.toString(a);
        CHECKS.due(what, call.on(g, a), NONE);
        same(what + " changes nothing", askAll(g), twin);
    }

    private static void refusedByRich(String name, Call call, int... a) {
        refused(name, rich(TAPE), RICH, call, a);
    }

    private static void refusedByPoor(String name, Call call, int... a) {
        refused("poor: " + name, poor(TAPE), POOR, call, a);
    }

    private static void taken(String name, Call call, int... a) {
        String what = name + Arrays.toString(a) + " is taken";
        CHECKS.due(what, call.on(rich(TAPE), a) == NONE, false);
    }

    private static int[] with(int[] base, int place, int value) {
        int[] a = base.clone();
        a[place] = value;
        return a;
    }

    /** One argument is taken from least to most, the others as they stand in base. */
    private static void bounds(String name, Call call, int[] base, int place, int least, int most) {
        taken(name, call, with(base, place, least));
        taken(name, call, with(base, place, most));
        refusedByRich(name, call, with(base, place, least - 1));
        refusedByRich(name, call, with(base, place, most + 1));
        refusedByRich(name, call, with(base, place, LEAST));
        refusedByRich(name, call, with(base, place, LEAST + 1));
        refusedByRich(name, call, with(base, place, MOST));
        refusedByRich(name, call, with(base, place, 65536 + most));
    }

    private static void storiesAndLaws() {
        Call story = (g, a) -> g.story(a[0], a[1]);
        bounds("story", story, new int[] {2, 9}, 0, 0, 5);
        bounds("story", story, new int[] {2, 9}, 1, 1, 80);
        bounds("law", (g, a) -> g.law(a[0]), new int[] {3}, 0, 1, 240);
        refusedByRich("feed behind 260", (g, a) -> g.feed(a[0], a[1], a[2], a[3], a[4]), 1, 2, 3, 4, 5);
    }

    private static void endsTellersListeners() {
        Call end = (g, a) -> flag(g.end(a[0], a[1], a[2], a[3], a[4]));
        int[] anEnd = {4, 3, 50, 5, 15};
        bounds("end", end, anEnd, 0, 0, 9);
        bounds("end", end, anEnd, 1, 1, 1023);
        bounds("end", end, anEnd, 2, 0, 99);
        bounds("end", end, anEnd, 3, 0, 9);
        bounds("end", end, anEnd, 4, 1, 30);
        Call teller = (g, a) -> flag(g.teller(a[0], a[1], a[2]));
        bounds("teller", teller, new int[] {2, 2, 20}, 0, 0, 3);
        bounds("teller", teller, new int[] {2, 2, 20}, 1, 0, 5);
        bounds("teller", teller, new int[] {2, 2, 20}, 2, 0, 9999);
        Call listener = (g, a) -> flag(g.listener(a[0], a[1], a[2]));
        bounds("listener", listener, new int[] {2, 2, 20}, 0, 0, 9);
        bounds("listener", listener, new int[] {2, 2, 20}, 1, 0, 3);
        bounds("listener", listener, new int[] {2, 2, 20}, 2, 0, 99);
    }

    private static void eveningsAndTrials() {
        bounds("evenings", (g, a) -> g.evenings(a[0]), new int[] {3}, 0, 1, 60);
        bounds("tried", (g, a) -> g.tried(a[0], a[1]), new int[] {3, 0}, 0, 1, 60);
        bounds("other", (g, a) -> g.other(a[0], a[1]), new int[] {3, 0}, 0, 1, 60);
        bounds("first", (g, a) -> g.first(a[0], a[1]), new int[] {3, 0}, 0, 1, 60);
        bounds("first", (g, a) -> g.first(a[0], a[1]), new int[] {3, 0}, 1, 0, 1);
    }

    private static void questions() {
        Call storyIs = (g, a) -> g.storyIs(a[0], a[1]);
        bounds("storyIs", storyIs, new int[] {1, 1}, 0, 0, 5);
        bounds("storyIs", storyIs, new int[] {1, 1}, 1, 0, 4);
        Call open = (g, a) -> g.open(a[0], a[1], a[2]);
        bounds("open", open, new int[] {1, 1, 1}, 0, 0, 5);
        bounds("open", open, new int[] {0, 1, 1}, 1, 0, 4);
        bounds("open", open, new int[] {4, 1, 1}, 1, 0, 1);
        bounds("open", open, new int[] {1, 1, 1}, 2, 0, 1023);
        Call endIs = (g, a) -> g.endIs(a[0], a[1]);
        bounds("endIs", endIs, new int[] {1, 1}, 0, 0, 9);
        bounds("endIs", endIs, new int[] {1, 1}, 1, 0, 5);
        Call tellerIs = (g, a) -> g.tellerIs(a[0], a[1]);
        bounds("tellerIs", tellerIs, new int[] {1, 1}, 0, 0, 3);
        bounds("tellerIs", tellerIs, new int[] {1, 1}, 1, 0, 5);
        Call listenerIs = (g, a) -> g.listenerIs(a[0], a[1]);
        bounds("listenerIs", listenerIs, new int[] {1, 1}, 0, 0, 9);
        bounds("listenerIs", listenerIs, new int[] {1, 1}, 1, 0, 2);
        bounds("count", (g, a) -> g.count(a[0]), new int[] {0}, 0, 0, 9);
    }

    private static void choices() {
        Call cheapest = (g, a) -> g.cheapest(a[0], a[1]);
        bounds("cheapest", cheapest, new int[] {3, 0}, 0, 1, 1023);
        bounds("cheapest", cheapest, new int[] {3, 0}, 1, 0, 1);
        Call buys = (g, a) -> g.buys(a[0], a[1]);
        bounds("buys", buys, new int[] {1, 3}, 0, 0, 3);
        bounds("buys", buys, new int[] {1, 3}, 1, 0, 9);
        for (int what : new int[] {100, 0, 50}) {
            Call fitting = (g, a) -> g.fitting(a[0], a[1], a[2]);
            bounds("fitting", fitting, new int[] {1, 3, what}, 0, 0, 5);
            bounds("fitting", fitting, new int[] {1, 3, what}, 1, 0, 1023);
        }
        Call wouldDo = (g, a) -> g.wouldDo(a[0], a[1], a[2]);
        bounds("wouldDo", wouldDo, new int[] {1, 1, 1}, 0, 0, 5);
        bounds("wouldDo", wouldDo, new int[] {1, 1, 1}, 1, 0, 9);
        bounds("wouldDo", wouldDo, new int[] {1, 1, 1}, 2, 0, 2);
        Call forged = (g, a) -> g.forged(a[0], a[1], a[2], a[3]);
        bounds("forged", forged, new int[] {7, 3, 1, 0}, 0, 1, 1023);
        bounds("forged", forged, new int[] {7, 3, -1, 0}, 1, 0, 1023);
        bounds("forged", forged, new int[] {7, 1023, 1, 0}, 2, -1, 9);
        bounds("forged", forged, new int[] {7, 3, 1, 0}, 3, 0, 1);
        for (int smelt = 0; smelt < 10; smelt++) {
            refusedByRich("forged, not sniffed for", forged, 7, 1023 & ~(1 << smelt), smelt, 0);
        }
    }

    private static void rows() {
        Call winter = (g, a) -> g.winter(a[0], a[1], a[2]);
        bounds("winter", winter, new int[] {30, 10, 0}, 0, 0, 300);
        bounds("winter", winter, new int[] {30, 10, 0}, 1, 10, 10);
        bounds("winter", winter, new int[] {30, 10, 0}, 2, 0, 2);
        refusedByRich("winter", winter, 30, 0, 0);
        Call lent = (g, a) -> g.lent(a[0], a[1]);
        bounds("lent", lent, new int[] {3, 20}, 0, 1, 8);
        refusedByRich("lent", lent, 1 << 30, 20);
        refusedByRich("lent", lent, LEAST + 3, 20);
        Call yawns = (g, a) -> g.yawns(a[0], a[1], a[2]);
        bounds("yawns", yawns, new int[] {1, 2, 0}, 0, 0, 5);
        bounds("yawns", yawns, new int[] {1, 2, 0}, 1, 1, 20);
        bounds("yawns", yawns, new int[] {1, 2, 0}, 2, 0, 1);
        Call check = (g, a) -> {
            int answer = g.check(a[0]);
            return answer == -2 ? NONE : answer == NONE ? -3 : answer;
        };
        bounds("check", check, new int[] {3}, 0, 0, 10);
    }

    private static void smallOnes() {
        bounds("seed", (g, a) -> flag(g.seed(a[0])), new int[] {3}, 0, 0, 65535);
        Call book = (g, a) -> g.book(a[0], a[1], a[2]);
        bounds("book", book, new int[] {9, 1, 0}, 0, 1, 63);
        bounds("book", book, new int[] {63, 1, 0}, 1, 1, 3);
        bounds("book", book, new int[] {9, 1, 0}, 1, 1, 2);
        bounds("book", book, new int[] {16, 1, 0}, 1, 1, 1);
        bounds("book", book, new int[] {63, 3, 0}, 2, 0, 2);
    }

    private static void whatOfTried() {
        Call tried = (g, a) -> g.tried(a[0], a[1]);
        Call other = (g, a) -> g.other(a[0], a[1]);
        for (int what = -3; what <= 45; what++) {
            boolean such = what >= 0 && what <= 6 || what >= 10 && what <= 13 || what >= 20 && what <= 23
                || what >= 30 && what <= 39;
            if (such) {
                taken("tried", tried, 2, what);
                taken("other", other, 2, what);
            } else {
                refusedByRich("tried", tried, 2, what);
                refusedByRich("other", other, 2, what);
            }
            boolean told = what >= 0 && what <= 6 || what == 11 || what == 21 || what == 33 || what == 38;
            if (told) {
                CHECKS.due("tried " + what, tried.on(poor(TAPE), new int[] {2, what}) == NONE, false);
                CHECKS.due("other " + what, other.on(poor(TAPE), new int[] {2, what}) == NONE, false);
            } else {
                refusedByPoor("tried", tried, 2, what);
                refusedByPoor("other", other, 2, what);
            }
        }
        for (int what : new int[] {LEAST, MOST, 42, 43, 74, 266, 276, LEAST + 10, 65536 + 10}) {
            refusedByRich("tried", tried, 2, what);
            refusedByRich("other", other, 2, what);
        }
    }

    private static void bitsOfStories() {
        Call series = (g, a) -> g.series(a[0], a[1]);
        for (int what = -2; what <= 24; what++) {
            for (int stories : new int[] {3, 40, 7, 15, 60, 31, 62}) {
                if (what == 20 || what == 21 || what >= 0 && what < Integer.bitCount(stories)) {
                    taken("series", series, stories, what);
                } else {
                    refusedByRich("series", series, stories, what);
                }
            }
        }
        for (int stories : new int[] {0, 1, 32, 63, 64, 65, 64 + 3, -1, -2, LEAST, LEAST + 3, MOST, 65536 + 3}) {
            refusedByRich("series", series, stories, 20);
            refusedByRich("series", series, stories, 0);
        }
        for (int what : new int[] {LEAST, MOST, 52, 53, 65536}) {
            refusedByRich("series", series, 3, what);
        }
        Call book = (g, a) -> g.book(a[0], a[1], a[2]);
        for (int stories : new int[] {0, 64, 65, -1, LEAST, LEAST + 3, MOST}) {
            refusedByRich("book", book, stories, 1, 0);
        }
    }

    private static void notTold() {
        for (int k : new int[] {0, 2, 3, 5}) {
            refusedByPoor("teller", (g, a) -> flag(g.teller(0, a[0], 5)), k);
            refusedByPoor("storyIs", (g, a) -> g.storyIs(a[0], 0), k);
            refusedByPoor("storyIs, knots", (g, a) -> g.storyIs(a[0], 4), k);
            refusedByPoor("open", (g, a) -> g.open(a[0], 0, 0), k);
            refusedByPoor("fitting", (g, a) -> g.fitting(a[0], 0, 100), k);
            refusedByPoor("wouldDo", (g, a) -> g.wouldDo(a[0], 2, 0), k);
            refusedByPoor("yawns", (g, a) -> g.yawns(a[0], 1, 0), k);
            refusedByPoor("series", (g, a) -> g.series(1 << a[0] | 2, 20), k);
            refusedByPoor("series", (g, a) -> g.series(1 << a[0] | 18, 20), k);
            refusedByPoor("book", (g, a) -> g.book(1 << a[0] | 2, 1, 0), k);
            refusedByPoor("book", (g, a) -> g.book(1 << a[0], 1, 0), k);
        }
        for (int k : new int[] {0, 2, 3}) {
            refusedByPoor("listener", (g, a) -> flag(g.listener(0, a[0], 5)), k);
            refusedByPoor("tellerIs", (g, a) -> g.tellerIs(a[0], 0), k);
            refusedByPoor("tellerIs, n", (g, a) -> g.tellerIs(a[0], 5), k);
            refusedByPoor("buys", (g, a) -> g.buys(a[0], 2), k);
        }
        for (int l : new int[] {0, 1, 2, 4, 5, 6, 7, 9}) {
            refusedByPoor("listenerIs", (g, a) -> g.listenerIs(a[0], 2), l);
        }
        for (int e : new int[] {0, 1, 3, 4, 5, 6, 8, 9}) {
            refusedByPoor("endIs", (g, a) -> g.endIs(a[0], 0), e);
            refusedByPoor("endIs, p", (g, a) -> g.endIs(a[0], 4), e);
            refusedByPoor("buys", (g, a) -> g.buys(1, a[0]), e);
            refusedByPoor("wouldDo", (g, a) -> g.wouldDo(1, a[0], 0), e);
            refusedByPoor("forged", (g, a) -> g.forged(1 << a[0], 0, -1, 0), e);
            refusedByPoor("forged", (g, a) -> g.forged(1 << a[0] | 4, 0, -1, 0), e);
        }
        for (int n = -1; n <= 12; n++) {
            if (n != 2) {
                refusedByPoor("winter", (g, a) -> g.winter(30, a[0], 0), n);
            }
        }
    }

    private static void refusedForOtherReasons() {
        refusedByPoor("buys, no stock", (g, a) -> g.buys(1, 7));
        Call dear = (g, a) -> {
            g.teller(1, 4, 3);
            Checks.law(g, "p4(1=1)");
            return g.buys(1, 2);
        };
        Call notBought = (g, a) -> {
            g.teller(1, 4, 3);
            Checks.law(g, "p4(1=1)");
            return NONE;
        };
        LineGuild twin = poor("");
        notBought.on(twin, null);
        refused("buys, one penny short", poor(""), askAll(twin), dear);
        LineGuild fresh = new LineGuild();
        CHECKS.due("undo, none was kept", fresh.undo(), false);
        same("undo changes nothing", askAll(fresh), askAll(new LineGuild()));
    }

    /** What is answered otherwise than by NONE or false takes the tape, but changes nothing else. */
    private static void emptied(String name, String tape, Call call, long want) {
        LineGuild g = rich(tape);
        LineGuild twin = rich("");
        CHECKS.due(name, call.on(g, null), want);
        CHECKS.due(name + ": the tape is empty", g.count(8), 0);
        same(name + " changes nothing else", askAll(g), askAll(twin));
    }

    private static void emptiesTheTape() {
        emptied("a fault of a story", "ab(", (g, a) -> g.story(0, 3), -1003);
        emptied("a fault 5 of a story", "ab(((", (g, a) -> g.story(0, 5), -5004);
        emptied("a fault 6 of a story", "ab9(9a)", (g, a) -> g.story(3, 7), -6002);
        emptied("a fault of a law", "n1(1=1", (g, a) -> g.law(6), -1006);
        emptied("a fault 2 of a law", "n123456(1=1)", (g, a) -> g.law(12), -2006);
        emptied("a fault 4 of a law", "x(1=1);".repeat(17), (g, a) -> g.law(118), -4112);
        emptied("a fault 5 of a law", "n1(((((((", (g, a) -> g.law(9), -5008);
        String ten = "\n".repeat(10);
        emptied("a winter", ten, (g, a) -> g.winter(0, 10, 0), 0);
        emptied("a winter, a byte above 10", ten.substring(1) + "\u000b", (g, a) -> g.winter(9, 10, 0), -2);
        emptied("lent", "\1\1", (g, a) -> g.lent(1, 0), 1);
        emptied("lent, a byte above 99", "\1d", (g, a) -> g.lent(1, 0), -2);
        emptied("lent, to below from", "\2\1", (g, a) -> g.lent(1, 0), -2);
        emptied("lent, no such place", "\1\1", (g, a) -> g.lent(1, 1), -4);
        emptied("yawns", "\0\0", (g, a) -> g.yawns(2, 2, 1), 30);
        emptied("yawns, not so many turns", "\0\0\0\0", (g, a) -> g.yawns(2, 4, 1), -2);
        emptied("check, not right", "\11\11", (g, a) -> g.check(2), 0);
        emptied("check, right", "\0\0", (g, a) -> g.check(0), -1);
    }

    /** A question leaves all as it is, the tape too. */
    private static void asks(String name, Call call) {
        LineGuild g = rich(TAPE);
        CHECKS.due(name + " is answered", call.on(g, null) == NONE, false);
        same(name + " changes nothing", askAll(g), RICH);
    }

    private static void askingChangesNothing() {
        for (int n : new int[] {1, 7, 60}) {
            asks("tried " + n, (g, a) -> g.tried(n, 0));
            asks("other " + n, (g, a) -> g.other(n, 10));
            asks("first " + n, (g, a) -> g.first(n, 0));
        }
        for (int k = 0; k < 6; k++) {
            int story = k;
            asks("storyIs", (g, a) -> g.storyIs(story, 4));
            asks("open", (g, a) -> g.open(story, 1, 1023));
            asks("fitting", (g, a) -> g.fitting(story, 0, 0));
            asks("wouldDo", (g, a) -> g.wouldDo(story, 9, 1));
            asks("yawns are not heard", (g, a) -> g.yawns(story, 21, 0) == NONE ? 0 : 1);
        }
        asks("cheapest", (g, a) -> g.cheapest(1023, 1));
        asks("series", (g, a) -> g.series(31, 0));
        asks("knots", (g, a) -> g.knots());
        asks("forged", (g, a) -> g.forged(1023, 1, 0, 1));
        asks("book", (g, a) -> g.book(63, 3, 1));
        asks("endIs", (g, a) -> g.endIs(9, 5));
        asks("tellerIs", (g, a) -> g.tellerIs(3, 5));
        asks("listenerIs", (g, a) -> g.listenerIs(9, 0));
        asks("count", (g, a) -> g.count(9));
    }

    /** Of several reasons NONE, which is told last, is looked at first: the tape stays. */
    private static void theReasonToldLast() {
        String faulty = "((((".repeat(65);
        List<Long> twin = askAll(rich(faulty));
        refused("story: n ahead of a fault", rich(faulty), twin, (g, a) -> g.story(0, 81));
        refused("story: k ahead of a fault", rich(faulty), twin, (g, a) -> g.story(6, 8));
        refused("law: n ahead of a fault", rich(faulty), twin, (g, a) -> g.law(241));
        refused("winter: days ahead of a byte", rich(faulty), twin, (g, a) -> g.winter(301, 10, 0));
        refused("winter: n ahead of a byte", rich(faulty), twin, (g, a) -> g.winter(30, 9, 0));
        refused("winter: what ahead of a byte", rich(faulty), twin, (g, a) -> g.winter(30, 10, 3));
        refused("lent: n ahead of a place", rich(faulty), twin, (g, a) -> g.lent(9, 9));
        refused("lent: n ahead of a byte", rich(faulty), twin, (g, a) -> g.lent(0, 20));
        refused("yawns: what ahead of turns", rich(faulty), twin, (g, a) -> g.yawns(4, 2, 2));
        refused("yawns: n ahead of turns", rich(faulty), twin, (g, a) -> g.yawns(4, 21, 0));
        refused("fitting: k ahead of a place", rich(faulty), twin, (g, a) -> g.fitting(6, 0, 99));
        refused("fitting: threads ahead of a place", rich(faulty), twin, (g, a) -> g.fitting(0, 1024, 99));
        emptied("lent: a byte ahead of a place", "\2\1", (g, a) -> g.lent(1, 1), -2);
        emptied("lent: a byte ahead of a place", "\1d", (g, a) -> g.lent(1, 21), -2);
        LineGuild g = new LineGuild();
        CHECKS.due("cheapest: what ahead of none", g.cheapest(1, 2), NONE);
        CHECKS.due("cheapest: none", g.cheapest(1, 1), -2);
        CHECKS.due("cheapest: none", g.cheapest(1, 0), -2);
        CHECKS.due("first: n ahead of nobody", g.first(61, 1), NONE);
        CHECKS.due("first: nobody", g.first(60, 1), -2);
    }

    private static void tapeTooShort() {
        LineGuild g = rich("");
        List<Long> twin = askAll(rich(""));
        refused("story: an empty tape", g, twin, (h, a) -> h.story(0, 1));
        refused("law: an empty tape", rich(""), twin, (h, a) -> h.law(1));
        refused("winter: an empty tape", rich(""), twin, (h, a) -> h.winter(30, 10, 0));
        refused("lent: an empty tape", rich(""), twin, (h, a) -> h.lent(1, 20));
        refused("yawns: an empty tape", rich(""), twin, (h, a) -> h.yawns(0, 1, 0));
        refused("check: an empty tape", rich(""), twin, (h, a) -> h.check(1) == -2 ? NONE : 0);
        String twenty = ".".repeat(20);
        twin = askAll(rich(twenty));
        refused("story: one too few", rich(twenty), twin, (h, a) -> h.story(0, 21));
        refused("law: one too few", rich(twenty), twin, (h, a) -> h.law(21));
        emptied("story: just enough", twenty, (h, a) -> h.story(2, 20) == 20 ? Checks.story(h, 2, "3.") : 0, 3);
        String law = "n2(01=1&11111=11111);p3(1=1);t2(1=1);s1(1=1);f4(1=1);g5(1=1)";
        emptied("law: just enough", law, (h, a) -> h.law(60), 6);
    }
}
