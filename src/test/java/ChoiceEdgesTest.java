/** The sentences on the winter, on what is lent and on the forged one: one test for each edge that they name. */
public final class ChoiceEdgesTest {
    private static final Checks CHECKS = new Checks("ChoiceEdgesTest");
    private static final int NEVER = 100;

    public static void main(String[] args) {
        winterBesideAllWays();
        winterOfLikeOnes();
        winterEdges();
        lentRows();
        lentBesideAllWays();
        lentEdges();
        sniffing();
        sniffingBesideAllWays();
        smelt();
        CHECKS.finish();
    }

    private static void due(String what, long got, long want) {
        CHECKS.due(what, got, want);
    }

    private static int winter(LineGuild g, int days, int what, int[] tenths) {
        g.check(0);
        Checks.put(g, tenths);
        return g.winter(days, tenths.length, what);
    }

    /** Ends by their numbers, prices, days. */
    private static LineGuild withEnds(int[] numbers, int[] prices, int[] days) {
        LineGuild g = new LineGuild();
        for (int i = 0; i < numbers.length; i++) {
            g.end(numbers[i], 1, prices[i], 0, days[i]);
        }
        return g;
    }

    private static void winterBesideAllWays() {
        int[] numbers = {0, 2, 3, 5, 7, 8, 9};
        int[] prices = {10, 20, 30, 15, 99, 0, 15};
        int[] days = {1, 2, 3, 2, 12, 1, 2};
        int[][] rows = {{10, 10, 10, 10, 10, 10, 10}, {10, 5, 2, 4, 1, 9, 4}, {0, 0, 0, 0, 0, 0, 0}, {0, 3, 2, 4, 0, 10, 4}};
        for (int[] tenths : rows) {
            for (int limit = 0; limit <= 25; limit++) {
                int best = 0;
                for (int made = 0; made < 1 << 7; made++) {
                    if (isBetter(made, best, limit, tenths, prices, days)) {
                        best = made;
                    }
                }
                int bits = 0;
                for (int i = 0; i < 7; i++) {
                    bits |= (best >> i & 1) << numbers[i];
                }
                LineGuild g = withEnds(numbers, prices, days);
                due("24: worth in " + limit, winter(g, limit, 0, tenths), sum(best, tenths, prices));
                due("24: which in " + limit, winter(g, limit, 1, tenths), bits);
                due("24: days in " + limit, winter(g, limit, 2, tenths), sum(best, null, days));
            }
        }
    }

    private static int sum(int which, int[] times, int[] of) {
        int sum = 0;
        for (int i = 0; i < of.length; i++) {
            sum += (which >> i & 1) == 0 ? 0 : of[i] * (times == null ? 1 : times[i]);
        }
        return sum;
    }

    private static boolean isBetter(int made, int than, int limit, int[] tenths, int[] prices, int[] days) {
        int more = sum(made, tenths, prices) - sum(than, tenths, prices);
        int longer = sum(made, null, days) - sum(than, null, days);
        return sum(made, null, days) <= limit && (more > 0 || more == 0 && longer < 0);
    }

    private static void winterOfLikeOnes() {
        int[] ten = {10, 10, 10, 10};
        LineGuild g = withEnds(new int[] {1, 4, 6, 9}, new int[] {5, 5, 5, 5}, new int[] {3, 2, 3, 2});
        due("24: the fewest days", winter(g, 3, 1, ten), 16);
        due("24: the fewest days", winter(g, 5, 1, ten), 16 + 512);
        due("24: the fewest days", winter(g, 5, 2, ten), 4);
        due("24: the least bits", winter(g, 7, 1, ten), 2 + 16 + 512);
        due("24: most on the average ahead of days", winter(g, 10, 2, ten), 10);
        LineGuild h = withEnds(new int[] {1, 4, 6, 9}, new int[] {5, 5, 5, 5}, new int[] {1, 1, 1, 1});
        due("24: the least bits", winter(h, 2, 1, ten), 2 + 16);
        due("24: tenths by numbers", winter(h, 2, 1, new int[] {0, 1, 2, 3}), 64 + 512);
        due("24: tenths times price", winter(h, 2, 0, new int[] {0, 1, 2, 3}), 25);
        due("24: nothing for nothing", winter(h, 300, 1, new int[] {0, 0, 1, 0}), 64);
        due("24: nothing for nothing", winter(h, 300, 2, new int[] {0, 0, 0, 0}), 0);
        LineGuild i = withEnds(new int[] {0, 1, 2}, new int[] {4, 4, 8}, new int[] {2, 2, 4});
        due("24: the least bits, not the fewest ends", winter(i, 4, 1, new int[] {5, 5, 5}), 3);
        LineGuild j = withEnds(new int[] {0, 1, 2}, new int[] {8, 4, 4}, new int[] {4, 2, 2});
        due("24: the least bits", winter(j, 4, 1, new int[] {5, 5, 5}), 1);
    }

    private static void winterEdges() {
        int[] numbers = {0, 1, 2, 3, 4, 5, 6, 7, 8, 9};
        int[] prices = {99, 99, 99, 99, 99, 99, 99, 99, 99, 99};
        int[] days = {30, 30, 30, 30, 30, 30, 30, 30, 30, 30};
        LineGuild g = withEnds(numbers, prices, days);
        int[] ten = {10, 10, 10, 10, 10, 10, 10, 10, 10, 10};
        due("24: all in 300 days", winter(g, 300, 0, ten), 9900);
        due("24: all in 300 days", winter(g, 300, 1, ten), 1023);
        due("24: all in 300 days", winter(g, 300, 2, ten), 300);
        due("24: one day less", winter(g, 299, 1, ten), 511);
        due("24: 30 days", winter(g, 30, 1, ten), 1);
        due("24: 29 days", winter(g, 29, 1, ten), 0);
        due("24: 0 days", winter(g, 0, 2, ten), 0);
        due("24: the stock is not asked", g.endIs(0, 2), 0);
        for (int place = 0; place < 10; place++) {
            int[] bytes = ten.clone();
            bytes[place] = 9;
            due("24: tenths of " + place, winter(g, 270, 1, bytes), 1023 & ~(1 << place));
            bytes[place] = 11;
            due("24: a byte above 10", winter(g, 300, 0, bytes), -2);
            due("24: empty then", g.count(8), 0);
            bytes[place] = 255;
            due("24: a byte above 10", winter(g, 300, 1, bytes), -2);
        }
        g.check(0);
        int[] behind = new int[20];
        behind[10] = 11;
        Checks.put(g, behind);
        due("24: the first n bytes alone", g.winter(300, 10, 0), 0);
        LineGuild h = withEnds(new int[] {9}, new int[] {7}, new int[] {1});
        due("24: one of each at most", winter(h, 300, 0, new int[] {3}), 21);
        due("24: one of each at most", winter(h, 300, 2, new int[] {3}), 1);
        due("24: just enough days", winter(h, 1, 1, new int[] {3}), 512);
        due("24: no day", winter(h, 0, 1, new int[] {3}), 0);
        due("24: price 0", winter(withEnds(new int[] {9}, new int[] {0}, new int[] {1}), 300, 1, new int[] {10}), 0);
    }

    private static int lent(LineGuild g, int what, int[] spans) {
        g.check(0);
        Checks.put(g, spans);
        return g.lent(spans.length / 2, what);
    }

    private static void row(int[] spans, int many, int... want) {
        LineGuild g = new LineGuild();
        due("25: how many", lent(g, 20, spans), many);
        for (int i = 0; i < want.length; i++) {
            due("25: place " + i, lent(g, i, spans), want[i]);
        }
        due("25: no such place", lent(g, want.length, spans), -4);
        due("25: empty then", g.count(8), 0);
    }

    private static void lentRows() {
        row(new int[] {0, 0}, 1, 0);
        row(new int[] {99, 99}, 1, 99);
        row(new int[] {0, 99}, 1, 0);
        row(new int[] {7, 9}, 1, 7);
        row(new int[] {1, 1, 1, 1}, 1, 1, NEVER);
        row(new int[] {1, 1, 1, 1, 2, 3, 2, 2}, 3, 1, NEVER, 3, 2);
        row(new int[] {2, 3, 2, 2, 1, 1, 1, 1}, 3, 3, 2, 1, NEVER);
        row(new int[] {1, 2, 1, 2, 1, 2}, 2, 1, 2, NEVER);
        row(new int[] {1, 3, 1, 2, 1, 1}, 3, 3, 2, 1);
        row(new int[] {1, 1, 1, 2, 1, 3}, 3, 1, 2, 3);
        row(new int[] {98, 99, 98, 99, 99, 99}, 2, 98, 99, NEVER);
        row(new int[] {0, 1, 0, 0, 99, 99, 98, 99}, 4, 1, 0, 99, 98);
        row(new int[] {5, 5, 5, 5, 5, 5, 5, 5, 5, 5, 5, 5, 5, 5, 5, 5}, 1, 5, NEVER, NEVER, NEVER, NEVER, NEVER, NEVER, NEVER);
        row(new int[] {5, 12, 5, 12, 5, 12, 5, 12, 5, 12, 5, 12, 5, 12, 5, 12}, 8, 5, 6, 7, 8, 9, 10, 11, 12);
        row(new int[] {5, 11, 5, 11, 5, 11, 5, 11, 5, 11, 5, 11, 5, 11, 5, 11}, 7, 5, 6, 7, 8, 9, 10, 11, NEVER);
        row(new int[] {5, 11, 5, 11, 5, 11, 5, 11, 5, 11, 5, 11, 5, 11, 5, 12}, 8, 5, 6, 7, 8, 9, 10, 11, 12);
        row(new int[] {5, 12, 5, 11, 5, 11, 5, 11, 5, 11, 5, 11, 5, 11, 5, 11}, 8, 12, 5, 6, 7, 8, 9, 10, 11);
        row(new int[] {1, 9, 1, 9, 1, 1, 2, 2}, 4, 3, 4, 1, 2);
    }

    private static void lentBesideAllWays() {
        int[][] all = {{1, 2, 1, 1, 2, 4, 3, 3}, {0, 3, 1, 2, 1, 1, 2, 2}, {4, 4, 0, 4, 4, 4, 3, 4}, {2, 2, 2, 2, 1, 2, 0, 1},
            {0, 1, 0, 1, 0, 1, 4, 4}, {3, 4, 2, 3, 1, 2, 0, 1}, {0, 4, 0, 0, 1, 1, 2, 2}, {1, 1, 0, 1, 0, 0, 0, 2}};
        for (int[] spans : all) {
            int[] best = null;
            for (int code = 0; code < 6 * 6 * 6 * 6; code++) {
                int[] way = {code / 216, code / 36 % 6, code / 6 % 6, code % 6};
                for (int i = 0; i < 4; i++) {
                    way[i] = way[i] == 5 ? NEVER : way[i];
                }
                if (canBe(way, spans) && (best == null || served(way) > served(best))) {
                    best = way;
                }
            }
            LineGuild g = new LineGuild();
            due("25: how many", lent(g, 20, spans), served(best));
            for (int i = 0; i < 4; i++) {
                due("25: place " + i + " of " + java.util.Arrays.toString(spans), lent(g, i, spans), best[i]);
            }
        }
    }

    private static boolean canBe(int[] way, int[] spans) {
        for (int i = 0; i < way.length; i++) {
            if (way[i] != NEVER && (way[i] < spans[2 * i] || way[i] > spans[2 * i + 1])) {
                return false;
            }
            for (int j = 0; j < i; j++) {
                if (way[i] != NEVER && way[i] == way[j]) {
                    return false;
                }
            }
        }
        return true;
    }

    private static int served(int[] way) {
        int many = 0;
        for (int when : way) {
            many += when == NEVER ? 0 : 1;
        }
        return many;
    }

    private static void lentEdges() {
        LineGuild g = new LineGuild();
        for (int place = 0; place < 16; place++) {
            int[] spans = new int[16];
            java.util.Arrays.fill(spans, 99);
            due("25: 99", lent(g, 20, spans), 1);
            spans[place] = 100;
            due("25: above 99", lent(g, 20, spans), -2);
            due("25: empty then", g.count(8), 0);
            spans[place] = 255;
            due("25: above 99", lent(g, 0, spans), -2);
            spans[place] = 98;
            due("25: to below from", lent(g, 20, spans), place % 2 == 0 ? 2 : -2);
        }
        int[] behind = new int[20];
        behind[16] = 200;
        g.check(0);
        Checks.put(g, behind);
        due("25: the first 2 n bytes alone", g.lent(8, 20), 1);
        Checks.put(g, behind);
        due("25: nine", g.lent(9, 20), -1);
        due("25: the tape stays", g.count(8), 20);
        int[] one = {3, 3};
        for (int what : new int[] {1, -1, 19, 21, 100, 7, 8, Integer.MIN_VALUE, Integer.MAX_VALUE}) {
            due("25: no such place", lent(g, what, one), -4);
            due("25: empty then", g.count(8), 0);
        }
    }

    private static LineGuild closing(int... threads) {
        LineGuild g = new LineGuild();
        for (int e = 0; e < threads.length; e++) {
            g.end(e, threads[e], 1, 0, 1);
        }
        return g;
    }

    private static void sniffing() {
        LineGuild g = closing(1, 3, 512, 512 + 256, 1023, 512, 2, 6, 4, 512);
        due("26: the last thread", g.forged(4 + 32 + 1 + 64, 0, -1, 1), 9);
        due("26: the last end", g.forged(512 + 1, 0, -1, 0), 513);
        due("26: the last end", g.forged(512, 0, -1, 0), 512);
        due("26: the last end, smelt", g.forged(1023, 512, 9, 0), 4 + 32 + 512);
        due("26: the last thread tells nothing more", g.forged(1023, 512, 9, 1), -2);
        due("26: half of them", g.forged(1 + 2 + 64 + 128, 0, -1, 1), 0);
        due("26: nearest to half", g.forged(1 + 64 + 128 + 256, 0, -1, 1), 1);
        due("26: of like ones the lowest", g.forged(1 + 64 + 256 + 512, 0, -1, 1), 0);
        due("26: of like ones the lowest", g.forged(64 + 256 + 512, 0, -1, 1), 1);
        due("26: all leave one thread: it tells nothing", g.forged(1 + 2 + 16, 0, -1, 1), -2);
        due("26: one is left", g.forged(1 + 64, 1, -1, 0), 64);
        due("26: one is left: it tells nothing", g.forged(1 + 64, 1, -1, 1), -2);
        due("26: none is left", g.forged(1 + 64, 3, -1, 0), 0);
        due("26: none is left: it tells nothing", g.forged(1 + 64, 3, -1, 1), -2);
        due("26: of those that are left", g.forged(1023, 1 + 512, -1, 0), 8 + 64 + 128 + 256);
        due("26: of those that are left", g.forged(1023, 1 + 512, -1, 1), 1);
    }

    private static int lowest(int threads) {
        return Integer.numberOfTrailingZeros(threads);
    }

    private static void sniffingBesideAllWays() {
        int[] threads = {1, 3, 512, 768, 1023, 520, 2, 6, 4, 512};
        for (int ends = 1; ends < 1024; ends++) {
            LineGuild g = closing(threads);
            for (int sniffed : new int[] {0, 1, 2, 513, 1023 - ends}) {
                int left = 0;
                for (int e = 0; e < 10; e++) {
                    boolean mayBe = (ends >> e & 1) == 1 && (sniffed >> lowest(threads[e]) & 1) == 0;
                    left |= mayBe ? 1 << e : 0;
                }
                int best = -2;
                int part = Integer.bitCount(left);
                for (int thread = 0; thread < 10; thread++) {
                    int leave = 0;
                    int leaveNot = 0;
                    for (int e = 0; e < 10; e++) {
                        leave += (left >> e & 1) == 1 && lowest(threads[e]) == thread ? 1 : 0;
                        leaveNot += (left >> e & 1) == 1 && lowest(threads[e]) != thread ? 1 : 0;
                    }
                    if (Math.max(leave, leaveNot) < part) {
                        part = Math.max(leave, leaveNot);
                        best = thread;
                    }
                }
                due("26: left of " + ends + " by " + sniffed, g.forged(ends, sniffed, -1, 0), left);
                due("26: next of " + ends + " by " + sniffed, g.forged(ends, sniffed, -1, 1), best);
            }
        }
    }

    private static void smelt() {
        int[] threads = {1, 3, 512, 768, 1023, 520, 2, 6, 4, 512};
        LineGuild g = closing(threads);
        for (int thread = 0; thread < 10; thread++) {
            int left = 0;
            for (int e = 0; e < 10; e++) {
                left |= lowest(threads[e]) == thread ? 1 << e : 0;
            }
            due("26: smelt " + thread, g.forged(1023, 1 << thread, thread, 0), left);
            due("26: smelt " + thread, g.forged(1023, 1023, thread, 0), left);
            due("26: smelt, of some ends", g.forged(341, 1023, thread, 0), left & 341);
            due("26: then nothing tells more", g.forged(1023, 1 << thread, thread, 1), -2);
            due("26: not sniffed for", g.forged(1023, 1023 & ~(1 << thread), thread, 0), -1);
            due("26: not sniffed for", g.forged(1023, 0, thread, 1), -1);
        }
        g.end(0, 4, 1, 1, 1);
        due("26: by what it closes now", g.forged(1, 4, 2, 0), 1);
        due("26: by what it closes now", g.forged(1, 4, -1, 0), 0);
    }
}
