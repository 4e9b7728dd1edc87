import java.util.ArrayList;
import java.util.List;

/** The sentences on evenings, ends that are bought, and what is tried, kept and undone: one test for each edge. */
public final class EveningEdgesTest {
    private static final Checks CHECKS = new Checks("EveningEdgesTest");
    private static final int MOST = Integer.MAX_VALUE;
    private static final int LEAST = Integer.MIN_VALUE;

    public static void main(String[] args) {
        turnsOfAnEvening();
        turnsAreAskedAhead();
        onlyAtTheEnd();
        aPurseThatHasAsMuch();
        pricesAreAskedAhead();
        boughtByNumbers();
        tenthsAreAskedAheadOfBuying();
        allButTheLowest();
        drawsBelowTenths();
        drawsGoRound();
        tellersByNumbers();
        tiredNineAtMost();
        illFromBelowAlone();
        restedZeroAtLeast();
        askedWithWhatIsSoThen();
        whoWentIsGone();
        giftsByNumbers();
        fullPurse();
        toldAndBegunAnew();
        theEvening();
        asManyAsCan();
        triedAsEvenings();
        otherLaw();
        firstThatIsIll();
        tryingLeavesNoTrace();
        cheapestOfAll();
        buysNow();
        keptAndUndone();
        turnsBeyondANewerStory();
        checkedByNumbers();
        seeds();
        calls512();
        CHECKS.finish();
    }

    private static void due(String what, long got, long want) {
        CHECKS.due(what, got, want);
    }

    private static LineGuild with(String... stories) {
        LineGuild g = new LineGuild();
        for (int k = 0; k < stories.length; k++) {
            due("story " + stories[k], Checks.story(g, k, stories[k]) > 0 ? 1 : 0, 1);
        }
        return g;
    }

    private static LineGuild law(LineGuild g, String text) {
        due("law " + text, Checks.law(g, text) > 0 ? 1 : 0, 1);
        return g;
    }

    private static long draws(long x, int n) {
        for (int i = 0; i < n; i++) {
            x = (25173 * x + 13849) % 65536;
        }
        return x;
    }

    private static void turnsOfAnEvening() {
        LineGuild g = with("8(9a)", "abc");
        g.teller(0, 0, 0);
        g.teller(3, 1, 0);
        due("no law: n is 0", g.evenings(1), 0);
        due("no law: n is 0", g.tellerIs(0, 2), 0);
        law(g, "n20(1=1)");
        g.evenings(1);
        due("twenty", g.tellerIs(0, 2), 20);
        due("as many as there are left", g.tellerIs(3, 2), 3);
        g.evenings(3);
        due("as many as there are left", g.tellerIs(0, 2), 72);
        g.evenings(1);
        due("none left", g.tellerIs(0, 2), 72);
        LineGuild h = with("abcde");
        h.teller(1, 0, 0);
        law(h, "n3(1=1)");
        h.evenings(1);
        due("three", h.tellerIs(1, 3), 7);
        h.evenings(1);
        due("two are left", h.tellerIs(1, 3), 31);
        due("two are left", h.tellerIs(1, 2), 5);
    }

    private static void turnsAreAskedAhead() {
        LineGuild g = law(with("abcdefg"), "n3-u(1=1)");
        g.teller(0, 0, 0);
        g.evenings(1);
        due("not asked again behind each turn", g.tellerIs(0, 2), 3);
        g.evenings(1);
        due("asked each evening", g.tellerIs(0, 2), 3);
        LineGuild h = law(with("abcdefg"), "n1+o(1=1)");
        h.teller(0, 0, 0);
        h.evenings(2);
        due("1, then 2", h.tellerIs(0, 2), 3);
        h.evenings(1);
        due("then 4", h.tellerIs(0, 2), 7);
    }

    private static void onlyAtTheEnd() {
        LineGuild g = law(with("ab.", "aA"), "n1(1=1);p1(1=1)");
        g.end(0, 3, 1, 9, 1);
        g.teller(0, 0, 50);
        due("not ahead of the end", g.evenings(2), 0);
        due("no draw", g.count(9), 1);
        due("at the end", g.evenings(1), 1);
        due("begun anew", g.tellerIs(0, 2), 0);
        due("told", g.count(2), 1);
        g.teller(0, 1, 50);
        due("nothing open at the end, nothing is bought", g.evenings(2), 0);
        due("told", g.count(2), 2);
        due("one draw in all", g.count(9), draws(1, 1));
        LineGuild h = law(with("j"), "n1(1=1)");
        h.end(0, 511, 1, 9, 1);
        h.end(1, 512, 1, 0, 1);
        h.teller(0, 0, 50);
        due("none that closes it in stock", h.evenings(1), 0);
        due("it stays at its end", h.tellerIs(0, 2), 1);
        due("it stays open", h.tellerIs(0, 3), 512);
        due("not told", h.count(2), 0);
        h.end(1, 512, 1, 1, 1);
        law(h, "p1(1=1)");
        due("then there is one, and no turn is told", h.evenings(1), 1);
        due("told", h.count(2), 1);
        due("begun anew", h.tellerIs(0, 2), 0);
    }

    private static void aPurseThatHasAsMuch() {
        for (int purse = 16; purse <= 18; purse++) {
            LineGuild g = law(with("ab"), "n2(1=1);pc(1=1)");
            g.end(4, 1, 8, 1, 1);
            g.end(5, 2, 9, 1, 1);
            g.teller(2, 0, purse);
            boolean enough = purse >= 17;
            due("17 of " + purse, g.evenings(1), enough ? 17 : 0);
            due("purse " + purse, g.tellerIs(2, 1), enough ? purse - 17 : purse);
            due("none or all", g.endIs(4, 2) + g.endIs(5, 2), enough ? 0 : 2);
            due("open", g.tellerIs(2, 3), enough ? 0 : 3);
            due("told", g.count(2), enough ? 1 : 0);
            due("draws", g.count(9), draws(1, enough ? 2 : 0));
        }
        LineGuild g = law(with("a"), "n1(1=1)");
        g.end(9, 1, 99, 1, 1);
        g.teller(0, 0, 0);
        due("no p: for nothing", g.evenings(1), 0);
        due("no p: for nothing", g.count(2), 1);
        due("stock", g.endIs(9, 2), 0);
    }

    private static void pricesAreAskedAhead() {
        LineGuild g = law(with("a"), "n1(1=1);pz*10+v(1=1)");
        g.end(9, 1, 0, 3, 1);
        g.teller(3, 0, 100);
        due("by what was in stock ahead", g.evenings(1), 30);
        due("purse", g.tellerIs(3, 1), 70);
        due("then by what is", g.evenings(1), 21);
        due("then by what is", g.evenings(1), 12);
        due("purse", g.tellerIs(3, 1), 37);
        due("none in stock", g.evenings(1), 0);
    }

    private static void boughtByNumbers() {
        // The draws at seed 1 are 2, 7 and 6.
        due("draw", draws(1, 1) % 10, 2);
        due("draw", draws(1, 2) % 10, 7);
        due("draw", draws(1, 3) % 10, 6);
        for (int tenths = 0; tenths <= 10; tenths++) {
            LineGuild g = law(with("abcdef"), "n9(1=1);g" + tenths + "(1=1)");
            g.end(0, 32 + 1, 0, 1, 1);
            g.end(4, 16 + 2, 0, 1, 1);
            g.end(9, 8 + 4, 0, 1, 1);
            g.teller(0, 0, 0);
            g.evenings(1);
            int open = (tenths > 2 ? 1 : 0) + (tenths > 7 ? 2 : 0) + (tenths > 6 ? 4 : 0);
            due("by numbers, tenths " + tenths, g.tellerIs(0, 3), open);
            due("told", g.count(2), open == 0 ? 1 : 0);
            due("a draw each", g.count(9), draws(1, 3));
        }
    }

    private static void tenthsAreAskedAheadOfBuying() {
        for (int stock = 1; stock <= 3; stock++) {
            LineGuild g = law(with("a"), "n1(1=1);g10(z=2)");
            g.end(3, 1, 0, stock, 1);
            g.teller(0, 0, 0);
            due("g by the stock ahead, " + stock, g.tried(1, 2), stock == 2 ? 1 : 0);
            due("g by the stock ahead, " + stock, g.buys(0, 3), 0);
            due("forged or not", g.endIs(3, 2), stock - 1);
        }
    }

    private static void allButTheLowest() {
        LineGuild g = law(with("abcj", "bj", "a", "cj"), "n9(1=1);g10(1=1)");
        g.end(0, 512 + 7, 0, 9, 1);
        g.teller(0, 0, 0);
        g.teller(1, 1, 0);
        g.teller(2, 2, 0);
        g.evenings(1);
        due("forged: its lowest stays open", g.tellerIs(0, 3), 1);
        due("forged: its lowest was not open", g.tellerIs(1, 3), 0);
        due("told", g.count(2), 1);
        due("forged: nothing is closed", g.tellerIs(2, 3), 1);
        due("three of stock", g.endIs(0, 2), 6);
        due("forged", g.tried(1, 2), 3);
        g.end(0, 512, 0, 9, 1);
        g.teller(0, 3, 0);
        g.end(1, 4, 0, 1, 1);
        law(g, "n9(1=1);g10(e=0)");
        g.evenings(1);
        due("one thread, forged: it closes nothing", g.tellerIs(0, 3), 512);
        due("the other one closes c", g.endIs(1, 2), 0);
    }

    private static void drawsBelowTenths() {
        for (int seed = 0; seed < 40; seed++) {
            int draw = (int) (draws(seed, 1) % 10);
            for (int tenths = 0; tenths <= 10; tenths++) {
                String what = "draw " + draw + " of " + tenths;
                LineGuild g = law(with("ab"), "n2(1=1);g" + tenths + "(1=1)");
                g.teller(0, 0, 0);
                g.evenings(1);
                g.end(2, 3, 0, 9, 1);
                g.seed(seed);
                due(what, g.tried(1, 20), draw < tenths ? 1 : 0);
                due(what, g.tried(1, 2), draw < tenths ? 1 : 0);
                due("X stays", g.count(9), seed);
                due(what, g.buys(0, 2), draw < tenths ? 2 : 3);
                due("X", g.count(9), draws(seed, 1));
            }
        }
    }

    private static void drawsGoRound() {
        for (int seed : new int[] {0, 1, 2, 25173, 32767, 32768, 51687, 65534, 65535}) {
            LineGuild g = with("a");
            g.end(2, 1, 0, 9, 1);
            g.teller(0, 0, 0);
            g.seed(seed);
            for (int i = 1; i <= 9; i++) {
                g.buys(0, 2);
                due("X from " + seed, g.count(9), draws(seed, i));
            }
        }
    }

    private static void tellersByNumbers() {
        LineGuild g = law(with("a", "b", "j"), "n1(1=1);p5-k(1=1)");
        g.end(9, 1023, 0, 2, 1);
        for (int k = 3; k >= 0; k--) {
            g.teller(k, k % 3, 9);
        }
        due("the first two", g.evenings(1), 10);
        due("first", g.tellerIs(0, 1) * 10 + g.tellerIs(0, 2), 40);
        due("second", g.tellerIs(1, 1) * 10 + g.tellerIs(1, 2), 40);
        due("third", g.tellerIs(2, 1) * 10 + g.tellerIs(2, 2), 91);
        due("fourth", g.tellerIs(3, 1) * 10 + g.tellerIs(3, 2), 91);
        g.end(9, 1023, 0, 1, 1);
        due("then the one that is first", g.evenings(1), 5);
        due("the first has not as much", g.tellerIs(0, 1), 4);
        due("the second has not as much", g.tellerIs(1, 1), 4);
        due("the third", g.tellerIs(2, 1), 4);
        due("told", g.count(2), 3);
    }

    private static LineGuild oneListener(String story, String text) {
        LineGuild g = law(with(story), text);
        g.teller(0, 0, 0);
        g.listener(9, 0, 50);
        return g;
    }

    private static void tiredNineAtMost() {
        int[] want = {4, 8, 9, 9};
        LineGuild g = oneListener("a..", "n1(1=1);t4(1=1)");
        for (int i = 0; i < 4; i++) {
            due("ahead", g.tried(i + 1, 39), want[i]);
        }
        for (int i = 0; i < 4; i++) {
            g.evenings(1);
            due("tired by 4, evening " + i, g.listenerIs(9, 2), want[i]);
            due("ill", g.count(1), i < 2 ? 0 : 1);
        }
        LineGuild h = oneListener("a..", "n1(1=1);t9(1=1)");
        h.evenings(1);
        due("at once", h.listenerIs(9, 2), 9);
        due("ill", h.count(1), 1);
    }

    private static void illFromBelowAlone() {
        LineGuild g = oneListener("a8.A9.", "n1(1=1);t3(1=1);s1(1=1)");
        int ill = 0;
        int tired = 0;
        for (int i = 0; i < 40; i++) {
            boolean open = i % 19 < 9;
            int before = tired;
            tired = open ? Math.min(9, tired + 3) : Math.max(0, tired - 1);
            ill += before < 9 && tired == 9 ? 1 : 0;
            g.evenings(1);
            due("ill, evening " + i, g.count(1), ill);
            due("tired, evening " + i, g.listenerIs(9, 2), tired);
        }
        due("ill twice", ill, 2);
        LineGuild h = oneListener("aAaA", "n1(1=1);t9(1=1);s1(1=1)");
        h.evenings(4);
        due("from 8 again", h.count(1), 2);
        due("tried", h.tried(4, 3), 2);
        LineGuild i = oneListener("a..", "n1(1=1);t8(v=0);t0(v=1);t1(v=2)");
        due("8 is not ill", i.tried(1, 3), 0);
        due("by 0 not ill", i.tried(2, 3), 0);
        due("by 1 ill", i.tried(3, 3), 1);
    }

    private static void restedZeroAtLeast() {
        LineGuild g = oneListener("aA....", "n1(1=1);t5(1=1);s3(1=1)");
        int[] want = {5, 2, 0, 0};
        for (int i = 0; i < 4; i++) {
            g.evenings(1);
            due("rested", g.listenerIs(9, 2), want[i]);
        }
    }

    private static void askedWithWhatIsSoThen() {
        // t, with what the teller has told and paid: u 2, m 7, o 1 of a forged end; v 0.
        LineGuild g = law(with("ab"), "n2(1=1);p3(1=1);g10(1=1);t4(u=2&m=7&o=1&v=0);x(r=4&o=1&m=7)");
        g.end(0, 3, 0, 1, 1);
        g.teller(0, 0, 10);
        g.listener(3, 0, 50);
        due("t and x", g.tried(1, 33), 4);
        due("x", g.tried(1, 4), 1);
        // s, where the end has closed it all: o 0; x with what is less.
        LineGuild h = law(with("ab"), "n1(1=1);p3(1=1);t6(1=1);s2(u=2&m=7&o=0&r=6);x(r=4&o=0&u=2)");
        h.end(0, 3, 0, 1, 1);
        h.teller(0, 0, 10);
        h.listener(3, 0, 50);
        due("s and x", h.tried(2, 33), 4);
        due("x", h.tried(2, 4), 1);
        due("not yet", h.tried(1, 4), 0);
        // f with u as it stands at the end, and the evening that is on.
        LineGuild i = law(with("ab."), "n3(1=1);p3(1=1);s1(1=1);f9(u=3&v=0&m=7);f1(u=0)");
        i.end(0, 3, 0, 1, 1);
        i.teller(0, 0, 10);
        i.listener(3, 0, 50);
        due("f", i.tried(1, 6), 9);
    }

    private static void whoWentIsGone() {
        LineGuild g = law(with("aA", "b"), "n1(1=1);t2(1=1);s1(1=1);f7(1=1);x(l=4&v=1)");
        g.teller(0, 0, 0);
        g.teller(1, 1, 0);
        g.listener(4, 0, 1);
        g.listener(5, 0, 1);
        g.listener(6, 1, 1);
        due("it gives nothing when it went on that evening", g.tried(2, 6), 7);
        due("went", g.tried(2, 4), 1);
        due("once alone", g.tried(60, 4), 1);
        g.evenings(2);
        due("went", g.listenerIs(4, 0), -2);
        due("the other stays", g.listenerIs(5, 0), 0);
        due("still told", g.count(6), 112);
        due("age", g.listenerIs(4, 1), 1);
        due("tired as it was", g.listenerIs(4, 2), 1);
        due("bound", g.tellerIs(0, 4), 32);
        g.evenings(3);
        due("tired no more", g.listenerIs(4, 2), 1);
        due("a teller told anew doesn't bind it", g.teller(0, 0, 5) ? 1 : 0, 1);
        due("a teller told anew doesn't bind it", g.listenerIs(4, 0), -2);
        due("the others stay", g.tellerIs(0, 4), 32);
        due("bound again", g.listener(4, 1, 9) ? 1 : 0, 1);
        due("bound again", g.tellerIs(1, 4), 80);
        due("tired 0", g.listenerIs(4, 2), 0);
        due("a listener of another teller", g.listener(6, 0, 9) ? 1 : 0, 1);
        due("bound to one alone", g.tellerIs(1, 4), 16);
        due("bound to one alone", g.tellerIs(0, 4), 96);
    }

    private static void giftsByNumbers() {
        // Each gives as much as the purse holds then: 1, 2, 4, 8.
        LineGuild g = law(with("."), "n1(1=1);fm(1=1)");
        g.teller(2, 0, 1);
        for (int l : new int[] {0, 3, 8, 9}) {
            g.listener(l, 2, 0);
        }
        due("one behind the other", g.tried(1, 12), 16);
        law(g, "n1(1=1);fm*[l+1](1=1)");
        // 1 + 1, 2 + 8, 10 + 90, 100 + 99 (the bound).
        due("by numbers", g.tried(1, 12), 199);
        due("pence from listeners", g.tried(1, 6), 198);
        LineGuild h = law(with(".", "a"), "n1(1=1);f5(1=1)");
        h.teller(0, 0, 1);
        h.teller(1, 1, 1);
        h.listener(0, 1, 0);
        h.listener(1, 0, 0);
        due("those bound to it alone", h.tried(1, 6), 5);
        due("those bound to it alone", h.tried(1, 10), 6);
        due("for a story that is closed", h.tried(1, 11), 1);
    }

    private static void fullPurse() {
        int[] purse = {9899, 9900, 9901, 9950, 9998, 9999};
        for (int p : purse) {
            LineGuild g = law(with("."), "n1(1=1);f50(1=1)");
            g.teller(3, 0, p);
            g.listener(1, 3, 0);
            g.listener(2, 3, 0);
            due("9999 at most, from " + p, g.tried(1, 13), Math.min(9999, p + 100));
            due("what came to it, from " + p, g.tried(1, 6), Math.min(9999 - p, 100));
            g.evenings(1);
            due("9999 at most, from " + p, g.tellerIs(3, 1), Math.min(9999, p + 100));
        }
    }

    private static void toldAndBegunAnew() {
        LineGuild g = law(with("a..A", "."), "n4(1=1)");
        g.teller(0, 0, 0);
        g.evenings(1);
        due("told", g.count(2), 1);
        due("begun anew", g.tellerIs(0, 2), 0);
        g.teller(1, 1, 0);
        due("each evening", g.tried(60, 5), 120);
        g.evenings(60);
        due("told in all", g.count(2), 121);
        LineGuild h = law(with("aA"), "n1(1=1)");
        h.teller(0, 0, 0);
        due("not ahead of its end", h.tried(1, 5), 0);
        due("at its end", h.tried(2, 5), 1);
        due("anew", h.tried(3, 20), 1);
        LineGuild i = law(with(".aA."), "n2(1=1)");
        i.teller(0, 0, 0);
        due("nothing open in its middle", i.tried(1, 5), 0);
        due("at its end", i.tried(2, 5), 1);
    }

    private static void theEvening() {
        LineGuild g = law(with("."), "nv(1=1)");
        g.teller(0, 0, 0);
        due("v is 0 at first", g.tellerIs(0, 5), 0);
        g.evenings(1);
        due("one more", g.count(0), 1);
        due("not told on evening 0", g.count(2), 0);
        g.evenings(1);
        due("told on evening 1", g.count(2), 1);
        due("v", g.tellerIs(0, 5), 2);
    }

    private static LineGuild late(int evening) {
        LineGuild g = new LineGuild();
        for (int i = 0; i < evening / 60; i++) {
            g.evenings(60);
        }
        if (evening % 60 != 0) {
            g.evenings(evening % 60);
        }
        due("late", g.count(0), evening);
        Checks.story(g, 0, ".");
        g.teller(0, 0, 0);
        g.listener(0, 0, 0);
        return law(g, "n1(1=1);f1(1=1)");
    }

    private static void asManyAsCan() {
        LineGuild g = late(9997);
        due("two can", g.tried(3, 5), 2);
        due("two can", g.tried(60, 6), 2);
        g.copy();
        due("two can", g.other(60, 5), 2);
        g.evenings(1);
        due("one can", g.tried(60, 5), 1);
        due("9998", g.count(0), 9998);
        g.evenings(60);
        due("9999 at most", g.count(0), 9999);
        due("told", g.count(2), 2);
        due("none goes by", g.evenings(60), 0);
        due("none goes by", g.evenings(1), 0);
        due("none goes by", g.count(0), 9999);
        due("none goes by", g.count(2), 2);
        due("none goes by", g.tellerIs(0, 1), 2);
        due("none is tried", g.tried(60, 5), 0);
        due("none is tried", g.other(1, 5), 0);
        due("v", law(g, "n1(v=9999)").tellerIs(0, 5), 1);
        LineGuild h = late(9998);
        Checks.story(h, 0, "a");
        law(h, "n1(1=1);t5(1=1)");
        due("nobody by then", h.first(60, 0), -2);
        law(h, "n1(1=1);t9(1=1)");
        due("on the last evening", h.first(60, 1), 1);
        h.evenings(1);
        due("none goes by", h.first(60, 1), -2);
        due("none goes by", h.count(1), 1);
    }

    /** Four tellers, ends that may be forged, listeners that come and go. */
    private static LineGuild busy(int seed) {
        LineGuild g = with("ab.A*", "*c2(dC)", "3.", "Bb*e");
        for (int e = 0; e < 10; e++) {
            g.end(e, 1 << e | 1 << e / 3, 3 + e, 9, 1 + e);
        }
        for (int k = 0; k < 4; k++) {
            g.teller(k, k, 60 + 40 * k);
        }
        for (int l = 0; l < 10; l++) {
            g.listener(l, l % 4, 9 * l);
        }
        g.seed(seed);
        return law(g, "nk+1(1=1);pc+e*z%7(1=1);t2+a%3(u>1);s2(1=1);f9+l(1=1);g4(1=1);x(r=9&v>7)");
    }

    private static List<Integer> standing(LineGuild g) {
        List<Integer> all = new ArrayList<>();
        for (int what = 0; what < 10; what++) {
            all.add(what == 7 || what == 8 ? 0 : g.count(what));
        }
        for (int k = 0; k < 4; k++) {
            for (int what = 0; what < 5; what++) {
                all.add(g.tellerIs(k, what));
            }
        }
        for (int i = 0; i < 10; i++) {
            all.add(g.listenerIs(i, 0));
            all.add(g.listenerIs(i, 1));
            all.add(g.listenerIs(i, 2));
            all.add(g.endIs(i, 2));
        }
        return all;
    }

    private static void same(String what, List<Integer> got, List<Integer> want) {
        for (int i = 0; i < want.size(); i++) {
            due(what + ", answer " + i, got.get(i), want.get(i));
        }
    }

    private static void triedAsEvenings() {
        for (int n = 1; n <= 60; n++) {
            LineGuild g = busy(n);
            LineGuild h = busy(n);
            int pence = 0;
            int given = 0;
            int went = 0;
            for (int k = 0; k < 4; k++) {
                given -= h.tellerIs(k, 1);
            }
            pence = h.evenings(n);
            int stock = 90;
            for (int i = 0; i < 10; i++) {
                due("tried, tired", g.tried(n, 30 + i), h.listenerIs(i, 2));
                went += h.listenerIs(i, 0) == -2 ? 1 : 0;
                stock -= h.endIs(i, 2);
            }
            for (int k = 0; k < 4; k++) {
                due("tried, purse", g.tried(n, 10 + k), h.tellerIs(k, 1));
                due("tried, open", g.tried(n, 20 + k), h.tellerIs(k, 3));
                given += h.tellerIs(k, 1);
            }
            due("tried, pence", g.tried(n, 0), pence);
            due("tried, bought", g.tried(n, 1), stock);
            due("tried, draws", draws(n, stock), h.count(9));
            due("tried, ill", g.tried(n, 3), h.count(1));
            due("tried, went", g.tried(n, 4), went);
            due("tried, told", g.tried(n, 5), h.count(2));
            due("tried, pence from listeners", g.tried(n, 6), given + pence);
            due("tried, nothing is changed", g.count(0), 0);
            due("tried, nothing is changed", g.count(9), n);
            due("then so it goes", g.evenings(n), pence);
            same("then so it goes", standing(g), standing(h));
        }
    }

    private static void otherLaw() {
        for (int n = 1; n <= 25; n++) {
            LineGuild g = busy(n);
            g.copy();
            law(g, "n1(1=1);p1(1=1);t1(1=1)");
            LineGuild h = busy(n);
            LineGuild i = busy(n);
            law(i, "n1(1=1);p1(1=1);t1(1=1)");
            for (int what = 0; what < 40; what++) {
                due("other " + what, g.other(n, what), h.tried(n, what));
                due("by the law " + what, g.tried(n, what), i.tried(n, what));
            }
            due("no law was copied: " + n, i.other(n, 0), 0);
            due("no law was copied: " + n, i.other(n, 5), 0);
            due("first goes by the law", g.first(n, 0), i.first(n, 0));
        }
        LineGuild g = busy(3);
        due("copied", g.copy(), 7);
        due("a fault", Checks.law(g, "n"), -1001);
        due("the law stays copied", g.copy(), 7);
        law(g, "n1(1=1)");
        due("the copy stays", g.other(9, 0), busy(3).tried(9, 0));
        g.keep();
        g.undo();
        due("the copy stays", g.other(9, 0), busy(3).tried(9, 0));
        due("copied", g.copy(), 1);
        due("in place of the one before", g.other(9, 0), g.tried(9, 0));
        due("nothing copied: none", new LineGuild().copy(), 0);
    }

    private static void firstThatIsIll() {
        LineGuild g = law(with("a", "b"), "n1(1=1);t3(l>5);t4(l=1);t4(l=2)");
        g.teller(0, 0, 0);
        g.teller(1, 1, 0);
        g.listener(1, 1, 0);
        g.listener(2, 1, 0);
        g.listener(7, 0, 0);
        g.listener(9, 0, 0);
        due("nobody in two", g.first(2, 0), -2);
        due("nobody in two", g.first(2, 1), -2);
        due("of teller 0 first, the lowest", g.first(3, 0), 7);
        due("in the third", g.first(3, 1), 3);
        due("in the third of more", g.first(60, 1), 3);
        due("then nobody again", g.first(1, 1), -2);
        due("then nobody again", g.first(1, 0), -2);
        g.listener(7, 0, 0);
        g.listener(9, 0, 0);
        law(g, "n1(1=1);t1(l>5);t5(l<5)");
        due("another teller's, the lowest", g.first(9, 0), 1);
        due("in the second", g.first(9, 1), 2);
        g.evenings(2);
        due("ill", g.count(1), 2);
        due("the next ones, not those at 9", g.first(9, 0), 7);
        due("counted from now on", g.first(9, 1), 7);
        g.evenings(7);
        due("all at 9", g.first(60, 0), -2);
        LineGuild h = oneListener("aA", "n1(1=1);t9(1=1);s9(1=1)");
        h.evenings(2);
        due("again from below", h.first(1, 0), 9);
        due("again from below", h.first(60, 1), 1);
    }

    private static void tryingLeavesNoTrace() {
        LineGuild g = busy(5);
        LineGuild h = busy(5);
        law(g, "p1(1=1);g10(1=1)");
        law(h, "p1(1=1);g10(1=1)");
        g.copy();
        law(g, "n3(1=1);p2(1=1)");
        law(h, "n3(1=1);p2(1=1)");
        g.evenings(2);
        h.evenings(2);
        g.tried(9, 0);
        due("an end bought behind a trial", g.buys(1, 2), h.buys(1, 2));
        g.other(9, 0);
        due("an end bought behind a trial", g.buys(2, 1), h.buys(2, 1));
        g.first(9, 0);
        due("an end bought behind a trial", g.buys(3, 3), h.buys(3, 3));
        same("nothing is changed", standing(g), standing(h));
        due("evenings behind a trial", g.evenings(3), h.evenings(3));
        same("nothing is changed", standing(g), standing(h));
    }

    private static LineGuild priced(int... threadsAndPence) {
        LineGuild g = new LineGuild();
        for (int i = 0; i + 1 < threadsAndPence.length; i += 2) {
            g.end(i / 2, threadsAndPence[i], threadsAndPence[i + 1], 1, 1);
        }
        return law(g, "pc(1=1)");
    }

    private static void cheapest(LineGuild g, int threads, int pence, int ends) {
        due("18: pence for " + threads, g.cheapest(threads, 0), pence);
        due("18: ends for " + threads, g.cheapest(threads, 1), ends);
    }

    private static void cheapestOfAll() {
        cheapest(priced(1, 1, 2, 1, 3, 3), 3, 2, 3);
        cheapest(priced(1, 1, 2, 1, 3, 2), 3, 2, 4);
        cheapest(priced(1, 1, 2, 2, 3, 2), 3, 2, 4);
        cheapest(priced(3, 9, 1, 4, 2, 4), 3, 8, 6);
        cheapest(priced(3, 5, 3, 5), 3, 5, 1);
        cheapest(priced(1, 0, 2, 0, 3, 0), 3, 0, 4);
        cheapest(priced(1, 2, 3, 3, 2, 2, 6, 1), 7, 3, 9);
        cheapest(priced(1, 2, 2, 2, 1, 2, 2, 2), 3, 4, 3);
        cheapest(priced(5, 2, 3, 2, 6, 2), 7, 4, 3);
        cheapest(priced(5, 2, 3, 3, 6, 2), 7, 4, 5);
        cheapest(priced(1023, 50, 512, 20), 512, 20, 2);
        cheapest(priced(1, 9, 2, 9, 4, 9, 8, 9, 16, 9, 32, 9, 64, 9, 128, 9, 256, 9, 512, 9), 1023, 90, 1023);
        cheapest(priced(1, 9, 2, 9, 4, 9, 8, 9, 16, 9, 32, 9, 64, 9, 128, 9, 256, 9, 1023, 90), 1023, 90, 512);
        cheapest(priced(1, 9, 2, 9, 4, 9, 8, 9, 16, 9, 32, 9, 64, 9, 128, 9, 256, 9, 1023, 91), 1023, 91, 512);
        cheapest(priced(1, 9, 2, 9, 4, 9, 8, 9, 16, 9, 32, 9, 64, 9, 128, 9, 256, 9, 768, 9), 1023, 81, 767);
        cheapest(priced(1, 5), 2, -2, -2);
        cheapest(priced(1, 5), 3, -2, -2);
        cheapest(priced(), 1, -2, -2);
        LineGuild g = priced(1, 5, 1, 6);
        g.end(0, 1, 5, 0, 1);
        cheapest(g, 1, 6, 2);
        g.end(1, 1, 6, 0, 1);
        cheapest(g, 1, -2, -2);
        g.end(1, 1, 6, 9, 1);
        cheapest(law(g, "p999(1=1)"), 1, 999, 2);
        cheapest(law(g, "n1(1=1)"), 1, 0, 2);
        // p is asked by the stock and the evening of now.
        cheapest(law(g, "pz*10+v(1=1)"), 1, 90, 2);
        g.evenings(3);
        cheapest(g, 1, 93, 2);
    }

    private static void buysNow() {
        LineGuild g = law(with("abc"), "n1(1=1);pc+v(1=1);g10(z=1)");
        g.end(0, 1, 9, 2, 1);
        g.end(9, 6, 0, 9, 1);
        g.teller(3, 0, 30);
        due("nothing open: nothing is closed", g.buys(3, 0), 0);
        due("paid", g.tellerIs(3, 1), 21);
        due("stock", g.endIs(0, 2), 1);
        due("a draw", g.count(9), draws(1, 1));
        g.evenings(2);
        due("what was open and is closed, not ahead of its end", g.buys(3, 9), 2);
        due("open", g.tellerIs(3, 3), 1);
        due("paid by the evening", g.tellerIs(3, 1), 19);
        due("forged by the stock ahead", g.buys(3, 0), 0);
        due("paid", g.tellerIs(3, 1), 8);
        due("still open", g.tellerIs(3, 3), 1);
        due("none in stock", g.buys(3, 0), -1);
        g.end(0, 1023, 6, 9, 1);
        due("just enough", g.buys(3, 0), 1);
        due("an empty purse", g.tellerIs(3, 1), 0);
        due("too dear", g.buys(3, 0), -1);
        due("not refused when it is for nothing", law(g, "n1(1=1)").buys(3, 0), 0);
        due("the turn stays", g.tellerIs(3, 2), 2);
        due("told is no more", g.count(2), 0);
        due("five draws", g.count(9), draws(1, 5));
        due("the evening stays", g.count(0), 2);
    }

    private static void changeAll(LineGuild g) {
        for (int k = 0; k < 4; k++) {
            g.teller(k, 3 - k, 7 + k);
        }
        for (int l = 0; l < 10; l++) {
            g.listener(l, (l + 1) % 4, 99 - l);
        }
        for (int e = 0; e < 10; e++) {
            g.end(e, 1 << e, 90 + e, 9 - g.endIs(e, 2), 30 - e);
        }
        law(g, "n2(1=1);t9(1=1);f3(1=1);x(l=9)");
        g.evenings(9);
        g.buys(0, 0);
        g.seed(4242);
    }

    private static void keptAndUndone() {
        LineGuild g = busy(77);
        g.evenings(11);
        List<Integer> then = standing(g);
        due("30: the evening", g.keep(), 11);
        same("30: changes nothing", standing(g), then);
        for (int i = 0; i < 3; i++) {
            if (i == 0) {
                changeAll(g);
                due("all is otherwise", standing(g).equals(then) ? 1 : 0, 0);
                due("ill", g.count(1) == then.get(1) ? 1 : 0, 0);
                due("told", g.count(2) == then.get(2) ? 1 : 0, 0);
            } else {
                g.evenings(i);
            }
            due("31: undone", g.undo() ? 1 : 0, 1);
            same("31: as they were kept, " + i, standing(g), then);
        }
        due("31: prices stay as they are", g.endIs(9, 1), 99);
        due("31: threads stay as they are", g.endIs(9, 0), 512);
        due("31: days stay as they are", g.endIs(9, 3), 21);
        due("31: the law stays as it is", g.count(7), 4);
        Checks.put(g, ".");
        due("31: the tape", g.undo() ? 1 : 0, 1);
        due("31: the tape stays", g.count(8), 20);
        g.check(0);
        g.evenings(2);
        due("30: kept anew", g.keep(), 13);
        g.evenings(2);
        g.undo();
        due("31: as they were kept last", g.count(0), 13);

        LineGuild h = with("a", "b");
        due("30: of a new object", h.keep(), 0);
        h.teller(1, 1, 5);
        h.listener(4, 1, 5);
        h.undo();
        due("31: not told then", h.count(5), 0);
        due("31: not told then", h.count(6), 0);
        due("31: not told then", h.tellerIs(1, 0), -1);
        due("31: not told then", h.listenerIs(4, 0), -1);
        due("31: not told then", h.listener(4, 1, 5) ? 1 : 0, 0);
        due("31: stories stay told", h.count(3), 3);
    }

    private static void turnsBeyondANewerStory() {
        String[] newer = {"c", "cd", "cde", "cdef", "cdefg"};
        int[] want = {1, 2, 3, 3, 3};
        for (int i = 0; i < 5; i++) {
            LineGuild g = law(with("ab.....", "ab....."), "n3(1=1)");
            for (int k = 0; k < 4; k++) {
                g.teller(k, k % 2, 10);
            }
            g.evenings(1);
            g.keep();
            due("3: a newer story", Checks.story(g, 1, newer[i]), i + 1);
            due("3: begun anew", g.tellerIs(3, 2) * 10 + g.tellerIs(1, 2), 0);
            due("3: nothing open", g.tellerIs(3, 3) + g.tellerIs(1, 3), 0);
            due("3: others don't", g.tellerIs(0, 2) * 10 + g.tellerIs(2, 2), 33);
            due("3: others don't", g.tellerIs(0, 3) + g.tellerIs(2, 3), 6);
            g.undo();
            due("31: its end", g.tellerIs(1, 2), want[i]);
            due("31: its end", g.tellerIs(3, 2), want[i]);
            due("31: of the other one", g.tellerIs(0, 2), 3);
            due("31: of the other one", g.tellerIs(2, 2), 3);
            due("31: open as it was", g.tellerIs(3, 3), 3);
            g.end(0, 3, 0, 9, 1);
            law(g, "n0(1=1)");
            g.evenings(1);
            due("8: at its end", g.count(2), i < 3 ? 2 : 0);
        }
    }

    private static int check(LineGuild g, int n, int[] bytes) {
        g.check(0);
        Checks.put(g, bytes);
        return g.check(n);
    }

    private static void checkedByNumbers() {
        LineGuild g = law(with("a"), "n1(1=1);tl(1=1);x(l=3)");
        g.teller(0, 0, 0);
        int[] tired = new int[10];
        for (int l : new int[] {1, 3, 5, 8, 9}) {
            g.listener(l, 0, 0);
            tired[l] = l;
        }
        g.evenings(1);
        for (int n = 0; n <= 10; n++) {
            due("32: right", check(g, n, tired), -1);
            due("32: empty then", g.count(8), 0);
        }
        for (int l = 0; l < 10; l++) {
            for (int wrong : new int[] {tired[l] + 1, tired[l] + 128, 255}) {
                int[] bytes = tired.clone();
                bytes[l] = wrong;
                due("32: not so", check(g, 10, bytes), l);
                due("32: not asked", check(g, l, bytes), -1);
                bytes[9] = 77;
                due("32: the first", check(g, 10, bytes), l);
            }
        }
        g.check(0);
        due("32: nothing to ask on an empty tape", g.check(0), -1);
        due("32: it has not so many", g.check(1), -2);
        Checks.put(g, tired);
        due("32: no such n", g.check(11), -2);
        due("32: no such n", g.check(-1), -2);
        due("32: no such n", g.check(MOST), -2);
        due("32: no such n", g.check(LEAST), -2);
        due("32: the tape stays", g.count(8), 20);
        due("32: right", g.check(10), -1);
    }

    private static void seeds() {
        LineGuild g = new LineGuild();
        due("1: the seed", g.count(9), 1);
        for (int x : new int[] {0, 1, 65534, 65535}) {
            due("29: " + x, g.seed(x) ? 1 : 0, 1);
            due("29: X, too", g.count(9), x);
        }
        for (int x : new int[] {-1, 65536, LEAST, MOST, 65537, 131071}) {
            due("29: no such number", g.seed(x) ? 1 : 0, 0);
            due("29: X stays", g.count(9), 65535);
        }
    }

    /** The 512th call of an object is answered as the first. */
    private static void calls512() {
        LineGuild g = with("ab.");
        g.teller(0, 0, 0);
        for (int i = 4; i <= 510; i++) {
            due("a call", i % 2 == 0 ? g.tellerIs(0, 1) : g.tried(60, 0), 0);
        }
        due("the 511th", g.fitting(0, 0, 1), 1);
        due("the 512th", g.storyIs(0, 1), 3);
    }
}
