/** Each promise of the document: ordinary calls, the edges that it names, and wrong ones. */
public final class PromisesTest {
    private static final Checks CHECKS = new Checks("PromisesTest");
    private static final int LEAST = Integer.MIN_VALUE;
    private static final int MOST = Integer.MAX_VALUE;

    public static void main(String[] args) {
        due("NONE", LineGuild.NONE, -1);
        promise1();
        promise2();
        promise3();
        promise3Faults();
        promise4();
        promise4Faults();
        promise4Reckoning();
        promise5();
        promise6();
        promise7();
        promise8();
        promise8Order();
        promise8Edges();
        promise9();
        promise10And11();
        promise12();
        promise13And23();
        promise14();
        promise15();
        promise16();
        promise17();
        promise18();
        promise19();
        promise20();
        promise21();
        promise22();
        promise24();
        promise25();
        promise26();
        promise27();
        promise28();
        promise29();
        promise30And31();
        promise32();
        promise33();
        CHECKS.finish();
    }

    private static void due(String what, long got, long want) {
        CHECKS.due(what, got, want);
    }

    private static void due(String what, boolean got, boolean want) {
        CHECKS.due(what, got, want);
    }

    /** A guild with these stories, from story 0 on. */
    private static LineGuild with(String... stories) {
        LineGuild g = new LineGuild();
        for (int k = 0; k < stories.length; k++) {
            due("story " + k + " " + stories[k], Checks.story(g, k, stories[k]) > 0, true);
            empty(g);
        }
        return g;
    }

    private static void empty(LineGuild g) {
        due("check(0)", g.check(0), -1);
    }

    private static void law(LineGuild g, String text) {
        empty(g);
        due("law " + text, Checks.law(g, text) > 0, true);
        empty(g);
    }

    private static void promise1() {
        LineGuild g = new LineGuild();
        for (int what = 0; what <= 8; what++) {
            due("1: count(" + what + ")", g.count(what), 0);
        }
        due("1: count(9)", g.count(9), 1);
        due("1: undo()", g.undo(), false);
        due("1: knots()", g.knots(), 0);
        due("1: copy()", g.copy(), 0);
        due("1: storyIs", g.storyIs(0, 0), -1);
        due("1: endIs", g.endIs(0, 0), -1);
        due("1: tellerIs", g.tellerIs(0, 0), -1);
        due("1: listenerIs", g.listenerIs(0, 0), -1);
        due("1: cheapest", g.cheapest(1, 0), -2);
        due("1: evenings", g.evenings(2), 0);
        due("1: the evening", g.count(0), 2);
    }

    private static void promise2() {
        LineGuild g = new LineGuild();
        due("2: feed", g.feed(0x61626364, 0x2a2e4142, 0, -1, 0x80000000), 20);
        due("2: the highest first", g.story(0, 8), 8);
        due("2: as they stand", g.storyIs(0, 3), 31);
        for (int i = 1; i <= 13; i++) {
            due("2: feed", g.feed(0x09090909, 0, 0, 0, 0), 20 * i);
        }
        due("2: more than 260", g.feed(1, 2, 3, 4, 5), -1);
        due("2: refused, nothing changes", g.count(8), 260);
        due("2: emptied", g.check(1), 0);
        due("2: emptied", g.count(8), 0);
        due("2: bytes above 127", g.feed(0xff000000, 0, 0, 0, 0), 20);
        due("2: bytes above 127", g.check(1), 0);
    }

    private static void promise3() {
        LineGuild g = new LineGuild();
        due("3: no tape", g.story(0, 1), -1);
        Checks.put(g, "aB*.");
        for (int k : new int[] {-1, 6, LEAST, MOST}) {
            due("3: no such story", g.story(k, 4), -1);
        }
        for (int n : new int[] {0, -1, 21, 81, LEAST, MOST}) {
            due("3: no such n", g.story(0, n), -1);
        }
        due("3: the tape stays", g.count(8), 20);
        due("3: first bytes alone", g.story(5, 3), 3);
        due("3: empty then", g.count(8), 0);
        due("3: told", g.count(3), 32);
        due("3: digits", Checks.story(g, 0, "2a3.9*"), 14);
        due("3: groups", Checks.story(g, 0, "2(a2(bC)*)"), 12);
        due("3: a digit ahead of a group in a group", Checks.story(g, 0, "(2(ab))c"), 5);
        due("3: 72", Checks.story(g, 0, "9(8.)"), 72);
        due("3: 72", Checks.story(g, 0, "9a9a9a9a9a9a9a9a"), 72);
        String dots = ".".repeat(72);
        due("3: 72 bytes", Checks.story(g, 0, dots), 72);
        due("3: 80 bytes", Checks.story(g, 0, "(" + ".".repeat(36) + ")(" + ".".repeat(36) + ")" + "(A)(B)".substring(0, 3)),
            -6077);
        due("3: 80 bytes that can stand", Checks.story(g, 0, "((((".substring(0, 2) + ".".repeat(70) + "))"
            + "(A)(B)"), 72);
        Checks.put(g, ".".repeat(100));
        due("3: 81 bytes", g.story(0, 81), -1);
        due("3: the tape stays", g.count(8), 100);
        due("3: 73 turns", g.story(0, 80), -6072);
        due("3: empty after a fault", g.count(8), 0);
        due("3: the one before stays", g.storyIs(0, 0), 72);

        LineGuild h = with("abc", "d");
        due("3: tellers", h.teller(0, 0, 5) && h.teller(1, 1, 5) && h.teller(2, 0, 7), true);
        law(h, "n1(1=1)");
        h.evenings(2);
        due("3: ahead", h.tellerIs(0, 2), 2);
        due("3: a fault leaves them", Checks.story(h, 0, "("), -1001);
        due("3: a fault leaves them", h.tellerIs(0, 3), 3);
        due("3: a newer one", Checks.story(h, 0, "eeeee"), 5);
        due("3: begin anew", h.tellerIs(0, 2), 0);
        due("3: nothing open", h.tellerIs(0, 3), 0);
        due("3: begin anew", h.tellerIs(2, 2), 0);
        due("3: others don't", h.tellerIs(1, 2), 1);
        due("3: others don't", h.tellerIs(1, 3), 8);
        due("3: the purse stays", h.tellerIs(2, 1), 7);
    }

    private static void fault(LineGuild g, String text, int want) {
        empty(g);
        due("3: " + text, Checks.story(g, 4, text), want);
    }

    private static void promise3Faults() {
        LineGuild g = new LineGuild();
        fault(g, " a", -1000);
        fault(g, "a ", -1001);
        fault(g, "k", -1000);
        fault(g, "K", -1000);
        fault(g, "`", -1000);
        fault(g, "@", -1000);
        fault(g, "+", -1000);
        fault(g, "1a", -1000);
        fault(g, "0a", -1000);
        fault(g, "22a", -1001);
        fault(g, "a2", -1002);
        fault(g, "2)", -1001);
        fault(g, ")", -1000);
        fault(g, "a)", -1001);
        fault(g, "()", -1001);
        fault(g, "(a", -1002);
        fault(g, "(a)(", -1004);
        fault(g, "((a)", -1004);
        fault(g, "(2", -1002);
        fault(g, "(((a)))", -5002);
        fault(g, "a2(b3(c2(", -5008);
        fault(g, "(a)((b)(c))((", -1013);
        fault(g, "8(9a)b", -6005);
        fault(g, "8(9a)2b", -6005);
        fault(g, "b8(9a)", -6001);
        fault(g, "9(2(5a))", -6000);
        fault(g, "9(9(9a))", -6002);
        fault(g, "(8(9a)b)", -6006);
        fault(g, "9(9a", -1004);
        fault(g, "9(9a)k", -6000);
        due("3: none was told", g.count(3), 0);
    }

    private static void promise4() {
        LineGuild g = new LineGuild();
        due("4: no tape", g.law(1), -1);
        String text = "n2(1=1);x(a>60)";
        Checks.put(g, text);
        for (int n : new int[] {0, -1, 21, 241, LEAST, MOST}) {
            due("4: no such n", g.law(n), -1);
        }
        due("4: the tape stays", g.count(8), 20);
        due("4: first bytes alone", g.law(7), 1);
        due("4: empty then", g.count(8), 0);
        due("4: clauses", g.count(7), 1);
        due("4: clauses", Checks.law(g, text), 2);
        due("4: a fault", Checks.law(g, "n"), -1001);
        due("4: empty after a fault", g.count(8), 0);
        due("4: the one before stays", g.count(7), 2);
        String long16 = "n1(1=1);".repeat(15) + "n1(1=1)";
        due("4: 16 clauses", Checks.law(g, long16), 16);
        due("4: a 17th", Checks.law(g, long16 + ";n1(1=1)"), -4128);
        due("4: a 17th that can't stand", Checks.law(g, long16 + ";y1(1=1)"), -1128);
        due("4: a 17th at the end", Checks.law(g, long16 + ";"), -1128);
        String wide = "n1(" + "1+".repeat(116) + "1=1)";
        due("4: 239 bytes", Checks.law(g, wide.substring(0, 3) + wide.substring(3)), 1);
        String widest = "n11(" + "1+".repeat(115) + "11=1)";
        due("4: 239", widest.length(), 239);
        due("4: 240 bytes", Checks.law(g, "n111(" + "1+".repeat(115) + "11=1)"), 1);
        Checks.put(g, "n".repeat(241));
        due("4: 241 bytes", g.law(241), -1);
        due("4: the tape stays", g.count(8), 260);
    }

    private static void wrongLaw(LineGuild g, String text, int want) {
        empty(g);
        due("4: " + text, Checks.law(g, text), want);
    }

    private static void promise4Faults() {
        LineGuild g = new LineGuild();
        wrongLaw(g, "a1(1=1)", -1000);
        wrongLaw(g, "N1(1=1)", -1000);
        wrongLaw(g, " n1(1=1)", -1000);
        wrongLaw(g, "n 1(1=1)", -1001);
        wrongLaw(g, "n(1=1)", -1001);
        wrongLaw(g, "n1", -1002);
        wrongLaw(g, "n1;", -1002);
        wrongLaw(g, "n1()", -1003);
        wrongLaw(g, "n1(1)", -1004);
        wrongLaw(g, "n1(1=)", -1005);
        wrongLaw(g, "n1(1=1", -1006);
        wrongLaw(g, "n1(1=1)n", -1007);
        wrongLaw(g, "n1(1=1);", -1008);
        wrongLaw(g, "n1(1=1=1)", -1006);
        wrongLaw(g, "n1(1==1)", -1005);
        wrongLaw(g, "n1(1=1&)", -1007);
        wrongLaw(g, "n1(1=1|)", -1007);
        wrongLaw(g, "n1(|1=1)", -1003);
        wrongLaw(g, "n1((1=1)", -1008);
        wrongLaw(g, "n1((1)=1)", -1005);
        wrongLaw(g, "n1([1=1)", -1005);
        wrongLaw(g, "n1([]=1)", -1004);
        wrongLaw(g, "n1(1]=1)", -1004);
        wrongLaw(g, "n-1(1=1)", -1001);
        wrongLaw(g, "n1+(1=1)", -1003);
        wrongLaw(g, "n1*/2(1=1)", -1003);
        wrongLaw(g, "n(1)(1=1)", -1001);
        wrongLaw(g, "nb(1=1)", -1001);
        wrongLaw(g, "n1(!)", -1004);
        wrongLaw(g, "n!1(1=1)", -1001);
        wrongLaw(g, "x(1=1)!", -1006);
        wrongLaw(g, "x1(1=1)", -1001);
        wrongLaw(g, "x", -1001);
        wrongLaw(g, "n12345(1=1)", 1);
        wrongLaw(g, "n00000(1=1)", 1);
        wrongLaw(g, "n123456(1=1)", -2006);
        wrongLaw(g, "n1(000000=1)", -2008);
        wrongLaw(g, "n1(1=1|(1<2&!k>1)|[k+u]*m>o/l%a-r)", 1);
        wrongLaw(g, "pe+c*z-h/v(1=1)", 1);
        wrongLaw(g, "n[[[[[[1]]]]]](1=1)", 1);
        wrongLaw(g, "n[[[[[[[1", -5007);
        wrongLaw(g, "n1((((((1=1))))))", 1);
        wrongLaw(g, "n1(((((((1=1", -5008);
        wrongLaw(g, "n1(!!!!!1=1)", 1);
        wrongLaw(g, "n1(!!!!!!1=1)", -5008);
        wrongLaw(g, "n1(!!!!![1]=1)", -5008);
        wrongLaw(g, "n1(!!!!1=[1])", 1);
        wrongLaw(g, "n1(!!!!1=[[1]])", -5010);
        wrongLaw(g, "n1(!!!!!1=1&!!!!!1=1|((((!1=1)))))", 1);
        wrongLaw(g, "n1(!!!!1=[1]&[[[[[1]]]]]=1)", 1);
        wrongLaw(g, "n1(!!!!1=[1]&[[[[[[1]]]]]]=1)", -5018);
        wrongLaw(g, "n1(1=1);n[[[[[[1]]]]]](!!(!!(1=1)))", -5028);
        wrongLaw(g, "n1(1=1);n[[[[[[1]]]]]](!!(!!1=1))", 2);
        due("4: the last law stands", g.count(7), 2);
    }

    /** What n comes to for teller 2 of a story "ab*", 2 turns on, 33 pence in the purse. */
    private static int n(LineGuild g, String clauses) {
        law(g, clauses);
        return g.tellerIs(2, 5);
    }

    private static void reckons(LineGuild g, String e, int want) {
        due("4: E " + e, n(g, "n" + e + "(1=1)"), want);
    }

    private static void holds(LineGuild g, String c, boolean want) {
        due("4: C " + c, n(g, "n7(" + c + ")"), want ? 7 : 0);
    }

    private static void promise4Reckoning() {
        LineGuild g = with("ab*");
        g.end(3, 7, 50, 6, 1);
        g.teller(2, 0, 33);
        law(g, "n2(1=1)");
        g.evenings(1);
        reckons(g, "1+2*3", 7);
        reckons(g, "20-5-4", 11);
        reckons(g, "[1+2]*3", 9);
        reckons(g, "17/5*5", 15);
        reckons(g, "17%5", 2);
        reckons(g, "0-7/2+10", 7);
        reckons(g, "[0-7]%4+10", 7);
        reckons(g, "2*7%5", 4);
        reckons(g, "20-[10-4]", 14);
        reckons(g, "21", 20);
        reckons(g, "0-1", 0);
        reckons(g, "99999*99999", 20);
        reckons(g, "65536*65536+3", 3);
        reckons(g, "65536*32768", 0);
        reckons(g, "65536*32768-1", 20);
        reckons(g, "65536*32768/[0-1]", 0);
        reckons(g, "65536*32768%[0-1]+4", 4);
        reckons(g, "k", 2);
        reckons(g, "u", 2);
        reckons(g, "m-20", 13);
        reckons(g, "o*3", 6);
        reckons(g, "v", 1);
        reckons(g, "l+a+r+e+c+z+h", 0);
        reckons(g, "5/0", 0);
        reckons(g, "5%0+3", 0);
        reckons(g, "3+0*[1/0]", 0);
        holds(g, "1=1", true);
        holds(g, "1<1", false);
        holds(g, "1<2", true);
        holds(g, "2>1", true);
        holds(g, "1>1", false);
        holds(g, "!1=2", true);
        holds(g, "!!1=2", false);
        holds(g, "!1=2&1=2", false);
        holds(g, "!(1=2&1=2)", true);
        holds(g, "1=2|1=1&1=1", true);
        holds(g, "1=1|1=1&1=2", true);
        holds(g, "(1=1|1=1)&1=2", false);
        holds(g, "1=2&1=1|1=1", true);
        holds(g, "1=1|1/0=1", true);
        holds(g, "1=2&1/0=1", false);
        holds(g, "1=2&1/0=1|1=1", true);
        holds(g, "1/0=1|1=1", false);
        holds(g, "!1/0=1", false);
        holds(g, "1%0<1|1=1", false);
        holds(g, "!(1=2&1/0=1)", true);
        holds(g, "1=[1/0]|1=1", false);
        holds(g, "2>1|1/0=1", true);
        holds(g, "1<2|1/0=1", true);
        holds(g, "!2>1|1=2", false);
        holds(g, "!1<2|1=2", false);
        holds(g, "2<1&1/0=1|1=1", true);
        holds(g, "1>2&1/0=1|1=1", true);
        due("4: the first that holds", n(g, "p9(1=1);n3(k=1);n4(k=2);n5(1=1)"), 4);
        due("4: a refused C is passed over", n(g, "n3(1/0=1);n4(1=1)"), 4);
        due("4: a refused E is 0", n(g, "n1/0(1=1);n4(1=1)"), 0);
        due("4: none", n(g, "p9(1=1)"), 0);
        law(g, "pk+u+m+o+l+a+r+e*100+c+z*2+h(1=1);gv(1=1)");
        due("4: in p", g.endIs(3, 4), 300 + 50 + 12 + 3);
        due("4: in g", g.endIs(3, 5), 1);
        law(g, "p1000(1=1);g11(1=1)");
        due("4: the bound of p", g.endIs(3, 4), 999);
        due("4: the bound of g", g.endIs(3, 5), 10);
    }

    private static void promise5() {
        LineGuild g = new LineGuild();
        due("5: least", g.end(0, 1, 0, 0, 1), true);
        due("5: most", g.end(9, 1023, 99, 9, 30), true);
        int[][] wrong = {{-1, 1, 1, 1, 1}, {10, 1, 1, 1, 1}, {1, 0, 1, 1, 1}, {1, 1024, 1, 1, 1}, {1, -1, 1, 1, 1},
            {1, 1, -1, 1, 1}, {1, 1, 100, 1, 1}, {1, 1, 1, -1, 1}, {1, 1, 1, 10, 1}, {1, 1, 1, 1, 0}, {1, 1, 1, 1, 31},
            {LEAST, 1, 1, 1, 1}, {MOST, 1, 1, 1, 1}, {9, 1024, 1, 1, 1}};
        for (int[] w : wrong) {
            due("5: no such ones", g.end(w[0], w[1], w[2], w[3], w[4]), false);
        }
        due("5: told", g.count(4), 513);
        due("5: as it was", g.endIs(9, 0), 1023);
        due("5: in place of the one before", g.end(9, 4, 5, 6, 7), true);
        due("5: threads", g.endIs(9, 0), 4);
        due("5: price", g.endIs(9, 1), 5);
        due("5: stock", g.endIs(9, 2), 6);
        due("5: days", g.endIs(9, 3), 7);
    }

    private static void promise6() {
        LineGuild g = with("abc");
        due("6: told", g.teller(3, 0, 9999), true);
        due("6: told", g.teller(0, 0, 0), true);
        int[][] wrong = {{-1, 0, 1}, {4, 0, 1}, {1, 1, 1}, {1, -1, 1}, {1, 6, 1}, {1, 0, -1}, {1, 0, 10000},
            {LEAST, 0, 1}, {1, MOST, 1}, {1, LEAST, 1}};
        for (int[] w : wrong) {
            due("6: no such ones", g.teller(w[0], w[1], w[2]), false);
        }
        due("6: told ones", g.count(5), 9);
        law(g, "n2(1=1)");
        g.listener(7, 3, 40);
        g.evenings(1);
        due("6: on its way", g.tellerIs(3, 3), 3);
        due("6: in place of the one before", g.teller(3, 0, 12), true);
        due("6: turn", g.tellerIs(3, 2), 0);
        due("6: open", g.tellerIs(3, 3), 0);
        due("6: purse", g.tellerIs(3, 1), 12);
        due("6: listeners stay", g.tellerIs(3, 4), 128);
    }

    private static void promise7() {
        LineGuild g = with("abc");
        due("7: no teller", g.listener(0, 0, 5), false);
        g.teller(1, 0, 0);
        due("7: bound", g.listener(9, 1, 99), true);
        due("7: bound", g.listener(0, 1, 0), true);
        int[][] wrong = {{-1, 1, 5}, {10, 1, 5}, {2, 0, 5}, {2, -1, 5}, {2, 4, 5}, {2, 1, -1}, {2, 1, 100},
            {MOST, 1, 5}, {LEAST, 1, 5}, {2, 33, 5}, {2, LEAST, 5}};
        for (int[] w : wrong) {
            due("7: no such ones", g.listener(w[0], w[1], w[2]), false);
        }
        due("7: told ones", g.count(6), 513);
        law(g, "n1(1=1);t4(1=1);x(l=9)");
        g.evenings(1);
        due("7: tired", g.listenerIs(0, 2), 4);
        due("7: went", g.listenerIs(9, 0), -2);
        due("7: in place of the one before", g.listener(9, 1, 50), true);
        due("7: bound again", g.listenerIs(9, 0), 1);
        due("7: tired 0", g.listenerIs(9, 2), 0);
    }

    private static void promise8() {
        LineGuild g = with("ab2.A", "c");
        g.end(2, 2, 30, 2, 1);
        g.end(3, 6, 10, 1, 1);
        g.teller(0, 0, 50);
        g.listener(4, 0, 20);
        g.listener(5, 0, 30);
        law(g, "n2(1=1);pc(1=1);t3(1=1);s2(1=1);fl(1=1);g0(1=1)");
        for (int n : new int[] {0, -1, 61, LEAST, MOST}) {
            due("8: no such n", g.evenings(n), -1);
        }
        due("8: nothing goes by", g.count(0), 0);
        due("8: pence", g.evenings(2), 0);
        due("8: turns", g.tellerIs(0, 2), 4);
        due("8: open", g.tellerIs(0, 3), 3);
        due("8: tired", g.listenerIs(4, 2), 6);
        due("8: the cheapest one is bought", g.evenings(1), 10);
        due("8: stock", g.endIs(3, 2), 0);
        due("8: closed, begun anew", g.tellerIs(0, 2), 0);
        due("8: the purse, gifts of 4 and 5", g.tellerIs(0, 1), 50 - 10 + 9);
        due("8: rested", g.listenerIs(4, 2), 4);
        due("8: told", g.count(2), 1);
        due("8: a draw", g.count(9), 39022);
        due("8: the dearer one then", g.evenings(3), 30);
        due("8: stock", g.endIs(2, 2), 1);
        due("8: purse", g.tellerIs(0, 1), 49 - 30 + 9);
        due("8: not enough pence", g.evenings(3), 0);
        due("8: stays at its end", g.tellerIs(0, 2), 5);
        due("8: stays open", g.tellerIs(0, 3), 2);
        due("8: stock stays", g.endIs(2, 2), 1);
        due("8: ill at 9", g.evenings(1), 0);
        due("8: ill, each of them in the second and the third telling", g.count(1), 4);
        due("8: once alone", g.evenings(1), 0);
        due("8: once alone", g.count(1), 4);
        due("8: evenings", g.count(0), 11);
    }

    private static void promise8Order() {
        // Two ends are bought by numbers; a forged one leaves its lowest thread.
        LineGuild g = with("abcd");
        g.end(1, 6, 7, 1, 1);
        g.end(6, 9, 5, 1, 1);
        g.teller(3, 0, 100);
        law(g, "n20(1=1);pc(1=1);g10(e=1)");
        due("8: two ends", g.evenings(1), 12);
        due("8: one is forged", g.tellerIs(3, 3), 2);
        due("8: two draws", g.count(9), (39022 * 25173L + 13849) % 65536);
        // The draws at seed 1 are 2 and 7: g of 2 doesn't forge the first, g of 3 does; g of 6 doesn't forge the second.
        for (int tenths = 2; tenths <= 6; tenths++) {
            LineGuild h = with("abcd");
            h.end(1, 6, 7, 1, 1);
            h.end(6, 9, 5, 1, 1);
            h.teller(3, 0, 100);
            law(h, "n20(1=1);g" + tenths + "(1=1)");
            int second = (int) ((39022 * 25173L + 13849) % 65536 % 10);
            due("8: a draw below g", h.tried(1, 2), (2 < tenths ? 1 : 0) + (second < tenths ? 1 : 0));
        }
        // A purse that has just enough; what comes of x is asked when the listener is tired already.
        LineGuild h = with("a");
        h.end(0, 1, 40, 1, 1);
        h.teller(0, 0, 40);
        h.listener(1, 0, 10);
        h.listener(2, 0, 10);
        law(h, "n1(1=1);pc+v(1=1);t9(l=1);x(r=9);f5(1=1)");
        due("8: just enough", h.tried(1, 0), 40);
        due("8: one goes by, and it is too dear", h.teller(0, 0, 39), true);
        due("8: too dear", h.evenings(1), 0);
        due("8: who is worn out goes", h.listenerIs(1, 0), -2);
        due("8: the other stays", h.listenerIs(2, 0), 0);
        due("8: still tired", h.listenerIs(1, 2), 9);
        h.end(0, 1, 38, 1, 1);
        due("8: p by the evening", h.evenings(1), 39);
        due("8: who went gives nothing", h.tellerIs(0, 1), 5);
        // n by what is open, the turn and the purse.
        LineGuild i = with("aaab....");
        i.teller(1, 0, 3);
        law(i, "nm-u+o+k(1=1)");
        i.evenings(1);
        due("8: n asked ahead", i.tellerIs(1, 2), 4);
        i.evenings(1);
        due("8: n asked ahead", i.tellerIs(1, 2), 6);
    }

    private static void promise8Edges() {
        LineGuild g = with("2.");
        g.teller(0, 0, 9990);
        g.listener(0, 0, 0);
        g.listener(1, 0, 0);
        law(g, "n9(1=1);f7+m-m(1=1)");
        due("8: full", g.evenings(1), 0);
        due("8: the purse 9999 at most", g.tellerIs(0, 1), 9999);
        due("8: told without an end", g.count(2), 1);
        due("8: no draw without an end", g.count(9), 1);
        LineGuild h = new LineGuild();
        for (int i = 0; i < 166; i++) {
            h.evenings(60);
        }
        due("8: the evening", h.count(0), 9960);
        h.evenings(60);
        due("8: 9999 at most", h.count(0), 9999);
        due("8: none goes by", h.evenings(5), 0);
        due("8: none goes by", h.count(0), 9999);
        h.feed(0x2e000000, 0, 0, 0, 0);
        h.story(0, 1);
        h.teller(0, 0, 5);
        law(h, "n1(1=1)");
        due("9: none goes by", h.tried(60, 5), 0);
        h.evenings(1);
        due("8: none goes by", h.count(2), 0);
        // Rest goes to 0 at least, and is asked where nothing is open.
        LineGuild i = with("aA");
        i.teller(0, 0, 0);
        i.listener(3, 0, 50);
        law(i, "n1(1=1);t2+l(o=1&r=0);sa(1=1)");
        i.evenings(1);
        due("8: tired by t", i.listenerIs(3, 2), 5);
        i.evenings(1);
        due("8: rested by 9 at most", i.listenerIs(3, 2), 0);
        // Nothing open at the end after an end was bought between two evenings: the story is told.
        LineGuild j = with("a");
        j.end(0, 1, 0, 1, 1);
        j.teller(0, 0, 0);
        law(j, "n1(1=1);p1(v=0)");
        j.evenings(1);
        due("19: bought", j.buys(0, 0), 1);
        due("8: at its end", j.tellerIs(0, 2), 1);
        j.evenings(1);
        due("8: told", j.count(2), 1);
        due("8: anew", j.tellerIs(0, 2), 0);
    }

    private static void promise9() {
        LineGuild g = with("ab", "...");
        g.end(0, 1, 9, 2, 1);
        g.end(1, 2, 8, 9, 1);
        g.teller(0, 0, 9990);
        g.teller(2, 1, 0);
        g.listener(1, 0, 10);
        g.listener(8, 2, 10);
        law(g, "n1(1=1);pc(1=1);t9(1=1);x(l=1&v>2);f99(1=1);g10(e=0&v=1)");
        int[] whats = {-1, 7, 9, 11, 13, 14, 21, 24, 30, 32, 39, 40, 100, LEAST, MOST};
        for (int what : whats) {
            due("9: no such what", g.tried(1, what), -1);
        }
        for (int n : new int[] {0, -1, 61, LEAST, MOST}) {
            due("9: no such n", g.tried(n, 0), -1);
        }
        due("9: pence", g.tried(2, 0), 17);
        due("9: bought", g.tried(2, 1), 2);
        due("9: forged", g.tried(2, 2), 1);
        due("9: forged, still open", g.tried(2, 20), 1);
        due("9: ill", g.tried(2, 3), 1);
        due("9: tired", g.tried(2, 31), 9);
        due("9: purse", g.tried(2, 10), 9973);
        due("9: then the rest is bought", g.tried(3, 0), 26);
        due("9: told", g.tried(3, 5), 2);
        due("9: pence from listeners", g.tried(3, 6), 35 + 99 - 0);
        due("9: purse", g.tried(3, 10), 9999);
        due("9: purse", g.tried(3, 12), 99);
        due("9: went", g.tried(4, 4), 1);
        due("9: none went", g.tried(2, 4), 0);
        due("9: tired of one that went", g.tried(60, 31), 9);
        due("9: nothing is changed", g.count(0), 0);
        due("9: nothing is changed", g.count(9), 1);
        due("9: nothing is changed", g.endIs(0, 2), 2);
        due("9: nothing is changed", g.tellerIs(0, 1), 9990);
        due("9: nothing is changed", g.listenerIs(1, 2), 0);
    }

    private static void promise10And11() {
        LineGuild g = with("ab...");
        g.teller(0, 0, 9);
        law(g, "n1(1=1)");
        due("10: none was copied", g.other(3, 20), 0);
        due("11: copied", g.copy(), 1);
        due("10: the copied law", g.other(1, 20), 1);
        law(g, "n2(1=1);t1(1=1)");
        due("10: the copied law", g.other(1, 20), 1);
        due("9: the law", g.tried(1, 20), 3);
        due("10: no such n", g.other(0, 20), -1);
        due("10: no such n", g.other(61, 20), -1);
        due("10: no such what", g.other(1, 21), -1);
        due("10: no such what", g.other(1, 7), -1);
        due("10: nothing is changed", g.tellerIs(0, 2), 0);
        due("11: copied", g.copy(), 2);
        due("10: the newer copy", g.other(1, 20), 3);
        g.evenings(1);
        due("8: by the law", g.tellerIs(0, 2), 2);
    }

    private static void promise12() {
        LineGuild g = with("a");
        g.teller(0, 0, 0);
        g.teller(1, 0, 0);
        for (int l = 0; l < 10; l++) {
            g.listener(l, l % 2, 10 * l);
        }
        law(g, "n1(1=1);t5(l=3|l=6|l=8)");
        due("12: nobody yet", g.first(1, 0), -2);
        due("12: nobody yet", g.first(1, 1), -2);
        due("12: by tellers, then by numbers", g.first(2, 0), 6);
        due("12: in which", g.first(2, 1), 2);
        due("12: in which", g.first(60, 1), 2);
        due("12: no such n", g.first(0, 0), -1);
        due("12: no such n", g.first(61, 0), -1);
        due("12: no such what", g.first(2, 2), -1);
        due("12: no such what", g.first(2, -1), -1);
        g.evenings(1);
        due("12: from now on", g.first(1, 1), 1);
        due("12: nothing is changed", g.count(1), 0);
        g.evenings(1);
        due("12: ill", g.count(1), 3);
        due("12: not from 9 to 9", g.first(60, 0), -2);
    }

    private static void promise13And23() {
        LineGuild g = with("ab.2(cA)*C", "dD", "e", "2.", "Ee", "Gd");
        due("13: turns", g.storyIs(0, 0), 9);
        due("13: open at its end", g.storyIs(0, 1), 3);
        due("13: most", g.storyIs(0, 2), 3);
        due("13: comes", g.storyIs(0, 3), 7);
        due("13: closed again", g.storyIs(1, 1), 0);
        due("13: comes", g.storyIs(1, 3), 8);
        due("13: a capital comes, too", g.storyIs(5, 3), 64 + 8);
        due("13: knots", g.storyIs(0, 4), 1);
        due("13: knots", g.storyIs(1, 4), 2 + 32);
        due("13: knots", g.storyIs(2, 4), 4 + 16);
        due("13: knots", g.storyIs(3, 4), 8);
        due("23: groups", g.knots(), 4);
        due("13: nothing", g.storyIs(3, 2), 0);
        int[][] wrong = {{0, -1}, {0, 5}, {-1, 0}, {6, 0}, {LEAST, 0}, {0, MOST}};
        for (int[] w : wrong) {
            due("13: others", g.storyIs(w[0], w[1]), -1);
        }
        LineGuild h = with("10*".substring(2) + "9**", "a9*A*", "j", "2*", "b");
        due("13: all are open, * opens none", h.storyIs(0, 2), 10);
        due("13: comes", h.storyIs(0, 3), 1023);
        due("13: * opens the lowest", h.storyIs(1, 3), 1023);
        due("13: open", h.storyIs(1, 1), 1023);
        due("23: one group", h.knots(), 1);
        LineGuild i = with("ab", "bc", "cd", "f", "fF", "*");
        due("13: a chain", i.storyIs(2, 4), 1 + 2 + 4 + 32);
        due("13: a chain", i.storyIs(5, 4), 1 + 2 + 4 + 32);
        due("23: groups", i.knots(), 2);
        due("13: not told", new LineGuild().storyIs(0, 0), -1);
    }

    private static void promise14() {
        LineGuild g = with("ab*Bc");
        due("14: none", g.open(0, 0, 512), 512);
        due("14: one", g.open(0, 1, 0), 1);
        due("14: * is by what is open", g.open(0, 3, 4), 15);
        due("14: *", g.open(0, 3, 0), 7);
        due("14: all", g.open(0, 5, 0), 5);
        due("14: all open", g.open(0, 5, 1023), 1021);
        int[][] wrong = {{-1, 0, 0}, {6, 0, 0}, {1, 0, 0}, {0, -1, 0}, {0, 6, 0}, {0, 0, -1}, {0, 0, 1024},
            {LEAST, 0, 0}, {0, MOST, 0}, {0, 0, LEAST}};
        for (int[] w : wrong) {
            due("14: no such ones", g.open(w[0], w[1], w[2]), -1);
        }
    }

    private static void promise15() {
        LineGuild g = new LineGuild();
        g.end(4, 11, 12, 3, 14);
        law(g, "pc*2+z+h(e=4);g[z+v]%11(1=1)");
        int[] want = {11, 12, 3, 14, 30, 3};
        for (int what = 0; what < 6; what++) {
            due("15: " + what, g.endIs(4, what), want[what]);
        }
        g.evenings(1);
        due("15: g now", g.endIs(4, 5), 4);
        int[][] wrong = {{4, -1}, {4, 6}, {3, 0}, {-1, 0}, {10, 0}, {LEAST, 0}, {4, MOST}};
        for (int[] w : wrong) {
            due("15: others", g.endIs(w[0], w[1]), -1);
        }
    }

    private static void promise16() {
        LineGuild g = with("a", "bcd");
        g.teller(2, 1, 77);
        g.listener(0, 2, 1);
        g.listener(9, 2, 1);
        law(g, "nu+o+k(u>0);n2(1=1)");
        due("16: n now", g.tellerIs(2, 5), 2);
        g.evenings(1);
        int[] want = {1, 77, 2, 6, 513, 6};
        for (int what = 0; what < 6; what++) {
            due("16: " + what, g.tellerIs(2, what), want[what]);
        }
        int[][] wrong = {{2, -1}, {2, 6}, {0, 0}, {-1, 0}, {4, 0}, {LEAST, 0}, {2, MOST}};
        for (int[] w : wrong) {
            due("16: others", g.tellerIs(w[0], w[1]), -1);
        }
    }

    private static void promise17() {
        LineGuild g = with("a");
        g.teller(1, 0, 0);
        g.listener(6, 1, 44);
        law(g, "n1(1=1);t4(1=1);x(r>7&a=44)");
        g.evenings(1);
        due("17: teller", g.listenerIs(6, 0), 1);
        due("17: age", g.listenerIs(6, 1), 44);
        due("17: tired", g.listenerIs(6, 2), 4);
        g.evenings(1);
        due("17: went", g.listenerIs(6, 0), -2);
        due("17: tired", g.listenerIs(6, 2), 8);
        g.evenings(1);
        due("17: no more", g.listenerIs(6, 2), 8);
        due("17: still told", g.count(6), 64);
        due("16: bound no more", g.tellerIs(1, 4), 0);
        int[][] wrong = {{6, -1}, {6, 3}, {5, 0}, {-1, 0}, {10, 0}, {LEAST, 0}, {6, MOST}};
        for (int[] w : wrong) {
            due("17: others", g.listenerIs(w[0], w[1]), -1);
        }
    }

    private static void promise18() {
        LineGuild g = new LineGuild();
        g.end(0, 1, 4, 1, 1);
        g.end(1, 2, 4, 1, 1);
        g.end(2, 3, 8, 1, 1);
        g.end(3, 3, 8, 2, 1);
        g.end(4, 7, 1, 0, 1);
        g.end(9, 4, 0, 1, 1);
        law(g, "pc(1=1)");
        due("18: fewest ends of like pence, then least bits", g.cheapest(3, 1), 4);
        due("18: pence", g.cheapest(3, 0), 8);
        due("18: one", g.cheapest(1, 1), 1);
        due("18: together", g.cheapest(7, 1), 4 + 512);
        due("18: together", g.cheapest(5, 1), 1 + 512);
        due("18: no stock, none", g.cheapest(8, 0), -2);
        due("18: none of all", g.cheapest(1023, 1), -2);
        g.end(4, 7, 1, 1, 1);
        due("18: fewest pence", g.cheapest(3, 1), 16);
        due("18: nothing for nothing", g.cheapest(4, 1), 512);
        law(g, "t1(1=1)");
        due("18: all for 0 pence", g.cheapest(3, 1), 4);
        due("18: all for 0 pence", g.cheapest(3, 0), 0);
        law(g, "p9-z*4(1=1)");
        due("18: p by stock", g.cheapest(3, 1), 8);
        int[][] wrong = {{0, 0}, {-1, 0}, {1024, 0}, {1, 2}, {1, -1}, {LEAST, 0}, {1, MOST}};
        for (int[] w : wrong) {
            due("18: no such ones", g.cheapest(w[0], w[1]), -1);
        }
        due("18: no such ones ahead of none", g.cheapest(8, 2), -1);
    }

    private static void promise19() {
        LineGuild g = with("abc...");
        g.end(0, 3, 9, 2, 1);
        g.end(1, 12, 5, 1, 1);
        g.end(2, 1, 5, 0, 1);
        g.teller(1, 0, 25);
        law(g, "n3(1=1);pc(1=1);g10(e=1)");
        g.evenings(1);
        due("19: no stock", g.buys(1, 2), -1);
        due("19: no such end", g.buys(1, 3), -1);
        due("19: no such teller", g.buys(0, 0), -1);
        int[][] wrong = {{-1, 0}, {4, 0}, {1, -1}, {1, 10}, {LEAST, 0}, {1, MOST}};
        for (int[] w : wrong) {
            due("19: no such ones", g.buys(w[0], w[1]), -1);
        }
        due("19: refused, no draw", g.count(9), 1);
        due("19: a forged one leaves its lowest thread", g.buys(1, 1), 0);
        due("19: still open", g.tellerIs(1, 3), 7);
        due("19: paid", g.tellerIs(1, 1), 20);
        due("19: stock", g.endIs(1, 2), 0);
        due("19: closed", g.buys(1, 0), 3);
        due("19: open", g.tellerIs(1, 3), 4);
        due("19: nothing more to close", g.buys(1, 0), 0);
        due("19: paid", g.tellerIs(1, 1), 2);
        due("19: three draws", g.count(9), draws(1, 3));
        g.end(0, 4, 3, 5, 1);
        due("19: too dear", g.buys(1, 0), -1);
        g.end(0, 4, 2, 5, 1);
        due("19: just enough", g.buys(1, 0), 4);
        due("19: an empty purse", g.tellerIs(1, 1), 0);
    }

    private static long draws(long x, int n) {
        for (int i = 0; i < n; i++) {
            x = (25173 * x + 13849) % 65536;
        }
        return x;
    }

    private static void row(LineGuild g, int k, int threads, int... want) {
        due("20: how many", g.fitting(k, threads, 100), want.length);
        for (int i = 0; i < want.length; i++) {
            due("20: row " + i, g.fitting(k, threads, i), want[i]);
        }
        due("20: behind the row", g.fitting(k, threads, want.length), -4);
    }

    private static void promise20() {
        LineGuild g = with("ab.2(cA)*C", "aBa*AB", "2.", "9(8*)", "*a", "aA*Ab");
        row(g, 0, 3);
        row(g, 0, 0, 1, 7);
        row(g, 0, 1, 1);
        row(g, 1, 0);
        row(g, 2, 0);
        int[] all = new int[72];
        for (int i = 0; i < 72; i++) {
            all[i] = i;
        }
        row(g, 3, 0, all);
        row(g, 3, 1023);
        int[] most = new int[70];
        for (int i = 0; i < 70; i++) {
            most[i] = i;
        }
        row(g, 3, 3, most);
        row(g, 4, 1);
        row(g, 4, 2, 0, 1);
        row(g, 5, 2);
        row(g, 5, 0, 4);
        LineGuild star = with("*", "*A*", "2*");
        row(star, 0, 1);
        row(star, 0, 2, 0);
        row(star, 1, 1);
        row(star, 2, 1, 0);
        due("20: no such place", g.fitting(0, 0, -1), -4);
        due("20: no such place", g.fitting(0, 0, 99), -4);
        due("20: no such place", g.fitting(0, 0, LEAST), -4);
        due("20: no such place", g.fitting(0, 0, MOST), -4);
        int[][] wrong = {{-1, 0, 0}, {6, 0, 100}, {0, -1, 0}, {0, 1024, 100}, {MOST, 0, 0}, {0, LEAST, 50}};
        for (int[] w : wrong) {
            due("20: no such ones", g.fitting(w[0], w[1], w[2]), -1);
        }
        due("20: not told", new LineGuild().fitting(0, 0, 100), -1);
    }

    private static void promise21() {
        LineGuild g = with("abAcCB", "..A");
        g.end(0, 2, 1, 0, 1);
        g.end(1, 7, 1, 0, 1);
        g.end(2, 512, 1, 0, 1);
        due("21: how many", g.wouldDo(0, 0, 0), 2);
        due("21: the first", g.wouldDo(0, 0, 1), 3);
        due("21: the last", g.wouldDo(0, 0, 2), 5);
        due("21: where something is open", g.wouldDo(0, 1, 0), 5);
        due("21: the first", g.wouldDo(0, 1, 1), 1);
        due("21: the last", g.wouldDo(0, 1, 2), 5);
        due("21: none", g.wouldDo(0, 2, 0), 0);
        due("21: none", g.wouldDo(0, 2, 1), -2);
        due("21: none", g.wouldDo(0, 2, 2), -2);
        due("21: nothing open", g.wouldDo(1, 1, 2), -2);
        LineGuild h = with("****");
        h.end(0, 7, 1, 0, 1);
        due("21: * by *", h.wouldDo(0, 0, 0), 3);
        due("21: * by *", h.wouldDo(0, 0, 2), 3);
        int[][] wrong = {{-1, 0, 0}, {6, 0, 0}, {2, 0, 0}, {0, -1, 0}, {0, 10, 0}, {0, 3, 0}, {0, 0, -1}, {0, 0, 3}};
        for (int[] w : wrong) {
            due("21: no such ones", g.wouldDo(w[0], w[1], w[2]), -1);
        }
    }

    private static void promise22() {
        LineGuild g = with("abc", "ABC", "aA", "2*", "def", ".");
        due("22: most", g.series(3, 20), 3);
        due("22: at the end", g.series(3, 21), 0);
        due("22: least row", g.series(3, 0), 0);
        due("22: the next", g.series(3, 1), 1);
        due("22: no such place", g.series(3, 2), -1);
        due("22: at the end fewest", g.series(2 + 8, 21), 0);
        due("22: the closing one behind", g.series(2 + 8, 0), 3);
        due("22: most, * ahead", g.series(1 + 8, 20), 3);
        due("22: * ahead", g.series(1 + 8, 0), 3);
        due("22: most", g.series(1 + 16, 20), 6);
        due("22: least row", g.series(1 + 16, 0), 0);
        due("22: five", g.series(31, 20), 3);
        due("22: a dot changes nothing, the least row", g.series(4 + 32, 0), 2);
        due("22: a dot changes nothing, the least row", g.series(4 + 32, 1), 5);
        LineGuild h = with("c", "b", "Ba", "AC", "*");
        for (int what : new int[] {0, 1, 2, 3, 4}) {
            int[] row = {1, 2, 4, 0, 3};
            due("22: row " + what, h.series(31, what), seriesByHand(new String[] {"c", "b", "Ba", "AC", "*"}, what, row));
        }
        int[][] wrong = {{0, 20}, {1, 20}, {63, 20}, {-1, 20}, {64 + 1, 20}, {3, 22}, {3, 19}, {3, -1}, {LEAST, 20},
            {MOST, 20}, {3, LEAST}, {3, MOST}};
        for (int[] w : wrong) {
            due("22: no such ones", g.series(w[0], w[1]), -1);
        }
        due("22: not told", h.series(32 + 1, 20), -1);
        LineGuild all = with("9*", "*.");
        due("22: all are open", all.series(3, 20), 10);
        due("22: all are open at the end", all.series(3, 21), 10);
        due("22: the least row", all.series(3, 0), 0);
    }

    /** The row that is best, by trying all. */
    private static int seriesByHand(String[] stories, int what, int[] at) {
        int n = stories.length;
        int[] best = null;
        int bestRate = MOST;
        int[] row = new int[n];
        for (int code = 0; code < 3125; code++) {
            int used = 0;
            for (int i = 0; i < n; i++) {
                row[i] = code / new int[] {625, 125, 25, 5, 1}[i] % 5;
                used |= 1 << row[i];
            }
            if (used != 31) {
                continue;
            }
            boolean[] open = new boolean[10];
            int most = 0;
            for (int k : row) {
                for (char c : stories[k].toCharArray()) {
                    if (c == '*') {
                        int t = 0;
                        while (open[t]) {
                            t++;
                        }
                        open[t] = true;
                    } else {
                        open[Character.toLowerCase(c) - 'a'] = Character.isLowerCase(c);
                    }
                    most = Math.max(most, size(open));
                }
            }
            int rate = 100 * most + size(open);
            if (rate < bestRate) {
                bestRate = rate;
                best = row.clone();
            }
        }
        return best == null ? at[what] : best[what];
    }

    private static int size(boolean[] open) {
        int many = 0;
        for (boolean b : open) {
            many += b ? 1 : 0;
        }
        return many;
    }

    private static int winter(LineGuild g, int days, int n, int what, int... tenths) {
        empty(g);
        Checks.put(g, tenths);
        return g.winter(days, n, what);
    }

    private static void promise24() {
        LineGuild g = new LineGuild();
        g.end(1, 1, 10, 0, 5);
        g.end(4, 1, 20, 0, 10);
        g.end(9, 1, 30, 0, 15);
        due("24: one", winter(g, 9, 3, 0, 10, 10, 10), 100);
        due("24: fewest days", winter(g, 29, 3, 1, 5, 5, 0), 2 + 16);
        due("24: days", winter(g, 29, 3, 2, 5, 5, 0), 15);
        due("24: of like ones the least bits", winter(g, 15, 3, 1, 10, 10, 10), 2 + 16);
        due("24: worth", winter(g, 15, 3, 0, 10, 10, 10), 300);
        due("24: all", winter(g, 300, 3, 1, 1, 1, 1), 2 + 16 + 512);
        due("24: all", winter(g, 30, 3, 2, 1, 1, 1), 30);
        due("24: none", winter(g, 0, 3, 1, 10, 10, 10), 0);
        LineGuild alone = new LineGuild();
        alone.end(7, 1, 8, 0, 3);
        due("24: of one end", winter(alone, 3, 1, 1, 5), 128);
        due("24: of one end", winter(alone, 2, 1, 0, 5), 0);
        due("24: nothing wanted", winter(g, 300, 3, 2, 0, 0, 0), 0);
        due("24: a byte above 10", winter(g, 30, 3, 0, 1, 1, 11), -2);
        due("24: empty then", g.count(8), 0);
        due("24: behind n it is free", winter(g, 30, 3, 0, 1, 1, 1, 200), 60);
        int[][] wrong = {{-1, 3, 0}, {301, 3, 0}, {30, 2, 0}, {30, 4, 0}, {30, 3, -1}, {30, 3, 3}, {30, LEAST, 0},
            {LEAST, 3, 0}, {30, 3, MOST}, {30, 0, 0}};
        for (int[] w : wrong) {
            due("24: no such ones", winter(g, w[0], w[1], w[2], 11, 11, 11), -1);
            due("24: the tape stays", g.count(8), 20);
        }
        empty(g);
        due("24: no tape", g.winter(30, 3, 0), -1);
        LineGuild h = new LineGuild();
        h.feed(0, 0, 0, 0, 0);
        due("24: no ends told", h.winter(30, 0, 0), -1);
        due("24: the tape stays", h.count(8), 20);
        for (int e = 0; e < 10; e++) {
            h.end(e, 1, 99, 0, 30);
        }
        due("24: ten", winter(h, 300, 10, 0, 10, 10, 10, 10, 10, 10, 10, 10, 10, 10), 9900);
        due("24: nine", winter(h, 299, 10, 1, 10, 10, 10, 10, 10, 10, 10, 10, 10, 10), 511);
    }

    private static int lent(LineGuild g, int n, int what, int... spans) {
        empty(g);
        Checks.put(g, spans);
        return g.lent(n, what);
    }

    private static void lentRow(int[] spans, int many, int... want) {
        LineGuild g = new LineGuild();
        due("25: how many", lent(g, want.length, 20, spans), many);
        for (int i = 0; i < want.length; i++) {
            due("25: row " + i, lent(g, want.length, i, spans), want[i]);
        }
    }

    private static void promise25() {
        lentRow(new int[] {0, 99}, 1, 0);
        lentRow(new int[] {99, 99}, 1, 99);
        lentRow(new int[] {1, 2, 1, 1}, 2, 2, 1);
        lentRow(new int[] {1, 1, 1, 1}, 1, 1, 100);
        lentRow(new int[] {1, 2, 1, 1, 2, 2}, 2, 1, 100, 2);
        lentRow(new int[] {0, 7, 0, 6, 0, 5, 0, 4, 0, 3, 0, 2, 0, 1, 0, 0}, 8, 7, 6, 5, 4, 3, 2, 1, 0);
        lentRow(new int[] {5, 9, 5, 9, 5, 5, 90, 99}, 4, 6, 7, 5, 90);
        lentRow(new int[] {3, 4, 3, 4, 3, 4, 3, 3}, 2, 3, 4, 100, 100);
        LineGuild g = new LineGuild();
        due("25: above 99", lent(g, 2, 20, 0, 1, 0, 100), -2);
        due("25: empty then", g.count(8), 0);
        due("25: above 99", lent(g, 2, 20, 100, 100, 0, 1), -2);
        due("25: to below from", lent(g, 2, 20, 0, 1, 6, 5), -2);
        due("25: told behind is free", lent(g, 1, 20, 0, 1, 6, 5), 1);
        due("25: no such place", lent(g, 2, 2, 0, 1, 5, 5), -4);
        due("25: empty then", g.count(8), 0);
        due("25: no such place", lent(g, 2, -1, 0, 1, 5, 5), -4);
        due("25: no such place", lent(g, 2, 19, 0, 1, 5, 5), -4);
        due("25: no such place", lent(g, 2, MOST, 0, 1, 5, 5), -4);
        due("25: the byte ahead of the place", lent(g, 2, 2, 0, 1, 6, 5), -2);
        for (int n : new int[] {0, -1, 9, LEAST, MOST, 1 << 30, (1 << 30) + 1}) {
            due("25: no such n", lent(g, n, 20, 1, 0), -1);
            due("25: the tape stays", g.count(8), 20);
        }
        empty(g);
        due("25: no tape", g.lent(1, 20), -1);
    }

    private static void promise26() {
        LineGuild g = new LineGuild();
        g.end(0, 3, 1, 1, 1);
        g.end(1, 1, 1, 1, 1);
        g.end(2, 10, 1, 1, 1);
        g.end(3, 2, 1, 1, 1);
        g.end(5, 512, 1, 1, 1);
        int all = 47;
        due("26: all", g.forged(all, 0, -1, 0), all);
        due("26: the lowest of like ones", g.forged(all, 0, -1, 1), 0);
        due("26: not smelt", g.forged(all, 1, -1, 0), 4 + 8 + 32);
        due("26: next", g.forged(all, 1, -1, 1), 1);
        due("26: smelt", g.forged(all, 3, 1, 0), 4 + 8);
        due("26: tells nothing", g.forged(all, 3, 1, 1), -2);
        due("26: one is left", g.forged(all, 3, -1, 0), 32);
        due("26: tells nothing", g.forged(all, 3, -1, 1), -2);
        due("26: none is left", g.forged(all, 1023, -1, 0), 0);
        due("26: none is left", g.forged(all, 1023, -1, 1), -2);
        due("26: smelt by none of them", g.forged(all, 256, 8, 0), 0);
        due("26: two", g.forged(32 + 1, 0, -1, 1), 0);
        due("26: one alone", g.forged(1, 0, -1, 0), 1);
        due("26: one alone", g.forged(1, 0, -1, 1), -2);
        due("26: two", g.forged(32 + 4, 0, -1, 1), 1);
        int[][] wrong = {{0, 0, -1, 0}, {16, 0, -1, 0}, {-1, 0, -1, 0}, {1024 + 1, 0, -1, 0}, {1, -1, -1, 0},
            {1, 1024, -1, 0}, {1, 1, 1, 0}, {1, 1023, 10, 0}, {1, 1, -2, 0}, {1, 1, -1, 2}, {1, 1, -1, -1},
            {LEAST, 0, -1, 0}, {1, LEAST, -1, 0}, {1, 1, MOST, 0}, {1, 1, 32, 0}, {1, 1, 0, MOST}};
        for (int[] w : wrong) {
            due("26: no such ones", g.forged(w[0], w[1], w[2], w[3]), -1);
        }
    }

    private static int yawns(LineGuild g, int k, int n, int what, int... counts) {
        empty(g);
        Checks.put(g, counts);
        return g.yawns(k, n, what);
    }

    private static void promise27() {
        LineGuild g = with("abc", "a*A*", "2.");
        g.end(0, 1, 1, 0, 1);
        g.end(3, 6, 1, 0, 1);
        // story 0, behind its turns: end 0 at 1: 0 1 2, at 2: 1 1 2, at 3: 1 2 2; end 3 at 1: 1 2 3, at 2: 1 1 2, at 3: 1 2 1
        due("27: all three", yawns(g, 0, 3, 0, 1, 1, 2), 9);
        due("27: ways", yawns(g, 0, 3, 1, 1, 1, 2), 2);
        due("27: one", yawns(g, 0, 3, 0, 0, 1, 2), 1);
        due("27: behind the end", yawns(g, 0, 3, 0, 1, 2, 1), 8);
        due("27: the last two", yawns(g, 0, 2, 1, 1, 2), 3);
        due("27: the last two", yawns(g, 0, 2, 0, 2, 2), 1);
        due("27: it closes nothing of it", yawns(g, 0, 3, 0, 1, 2, 3), 8);
        due("27: none", yawns(g, 0, 3, 0, 1, 1, 1), 0);
        due("27: none", yawns(g, 0, 3, 1, 1, 1, 1), 0);
        due("27: * is by what is open", yawns(g, 1, 4, 0, 0, 1, 0, 1), 1);
        due("27: not so many turns", yawns(g, 0, 4, 0, 1, 1, 1, 1), -2);
        due("27: empty then", g.count(8), 0);
        due("27: behind any turn", yawns(g, 2, 2, 1, 0, 0), 4);
        int[][] wrong = {{-1, 1, 0}, {6, 1, 0}, {3, 1, 0}, {0, 0, 0}, {0, -1, 0}, {0, 21, 0}, {0, 1, -1}, {0, 1, 2},
            {0, LEAST, 0}, {MOST, 1, 0}};
        for (int[] w : wrong) {
            due("27: no such ones", yawns(g, w[0], w[1], w[2], 1), -1);
            due("27: the tape stays", g.count(8), 20);
        }
        empty(g);
        due("27: no tape", g.yawns(0, 1, 0), -1);
        LineGuild h = with("9(8*)");
        h.end(9, 1023, 1, 0, 1);
        int[] tens = new int[20];
        java.util.Arrays.fill(tens, 10);
        due("27: twenty", yawns(h, 0, 20, 1, tens), 43);
    }

    private static void promise28() {
        LineGuild g = with("9.", "8.", "2.", "3.", "5.", "4.");
        due("28: one", g.book(63, 1, 0), 31);
        due("28: two", g.book(63, 2, 0), 17);
        due("28: begins", g.book(63, 2, 1), 2);
        due("28: none", g.book(63, 2, 2), -2);
        due("28: three", g.book(63, 3, 0), 12);
        due("28: begins", g.book(63, 3, 1), 1);
        due("28: begins", g.book(63, 3, 2), 3);
        due("28: one", g.book(63, 1, 1), -2);
        due("28: one", g.book(63, 1, 2), -2);
        due("28: one story", g.book(8, 1, 0), 3);
        due("28: two stories", g.book(32 + 4, 2, 0), 4);
        due("28: two stories", g.book(32 + 4, 2, 1), 5);
        due("28: three stories", g.book(32 + 4 + 1, 3, 1), 2);
        due("28: three stories", g.book(32 + 4 + 1, 3, 2), 5);
        due("28: of like ones the least row", g.book(1 + 4 + 8 + 16, 3, 0), 9);
        due("28: of like ones the least row", g.book(1 + 4 + 8 + 16, 3, 1), 2);
        due("28: of like ones the least row", g.book(1 + 4 + 8 + 16, 3, 2), 3);
        int[][] wrong = {{0, 1, 0}, {64, 1, 0}, {-1, 1, 0}, {1, 2, 0}, {3, 3, 0}, {3, 0, 0}, {15, 4, 0}, {3, 1, -1},
            {3, 1, 3}, {LEAST, 1, 0}, {3, MOST, 0}, {3, LEAST, 0}};
        for (int[] w : wrong) {
            due("28: no such ones", g.book(w[0], w[1], w[2]), -1);
        }
        LineGuild h = with(".", ".", ".", "9.");
        due("28: no volume without a story", h.book(14, 3, 1), 2);
        due("28: no volume without a story", h.book(14, 3, 2), 3);
        due("28: not told", with("a").book(3, 1, 0), -1);
    }

    private static void promise29() {
        LineGuild g = with("ab");
        due("29: seed", g.seed(65535), true);
        due("29: x", g.count(9), 65535);
        for (int x : new int[] {-1, 65536, LEAST, MOST}) {
            due("29: no such number", g.seed(x), false);
        }
        due("29: x stays", g.count(9), 65535);
        g.end(0, 1, 0, 9, 1);
        g.teller(0, 0, 0);
        g.buys(0, 0);
        due("29: drawn", g.count(9), draws(65535, 1));
        due("29: seed", g.seed(0), true);
        g.buys(0, 0);
        due("29: drawn", g.count(9), 13849);
    }

    private static void promise30And31() {
        LineGuild g = with("abc.......");
        g.end(0, 1, 0, 5, 1);
        g.teller(0, 0, 10);
        g.listener(0, 0, 50);
        law(g, "n3(1=1);t9(1=1);x(v>0)");
        g.evenings(1);
        due("31: none was kept", g.undo(), false);
        due("30: the evening", g.keep(), 1);
        long x = g.count(9);
        g.evenings(5);
        g.buys(0, 0);
        g.teller(1, 0, 4);
        g.listener(5, 1, 4);
        g.end(0, 2, 7, 3, 8);
        g.end(1, 2, 7, 3, 8);
        due("30: on", g.count(0), 6);
        due("31: undone", g.undo(), true);
        due("31: the evening", g.count(0), 1);
        due("31: ill", g.count(1), 1);
        due("31: told", g.count(2), 0);
        due("31: x", g.count(9), x);
        due("31: tellers", g.count(5), 1);
        due("31: listeners", g.count(6), 1);
        due("31: turn", g.tellerIs(0, 2), 3);
        due("31: open", g.tellerIs(0, 3), 7);
        due("31: bound", g.listenerIs(0, 0), 0);
        due("31: tired", g.listenerIs(0, 2), 9);
        due("31: stock", g.endIs(0, 2), 5);
        due("31: the rest of an end stays", g.endIs(0, 0), 2);
        due("31: ends stay", g.count(4), 3);
        due("31: laws stay", g.count(7), 3);
        g.evenings(1);
        due("31: a newer story", Checks.story(g, 0, "j"), 1);
        due("31: again", g.undo(), true);
        due("31: its end", g.tellerIs(0, 2), 1);
        due("31: open as it was", g.tellerIs(0, 3), 7);
        due("31: stories stay", g.storyIs(0, 0), 1);
        g.seed(77);
        due("30: kept anew", g.keep(), 1);
        g.evenings(2);
        g.seed(5);
        due("31: as they were kept last", g.undo(), true);
        due("31: x", g.count(9), 77);
    }

    private static int check(LineGuild g, int n, int... tired) {
        empty(g);
        Checks.put(g, tired);
        return g.check(n);
    }

    private static void promise32() {
        LineGuild g = with("a");
        g.teller(0, 0, 0);
        g.listener(2, 0, 0);
        g.listener(9, 0, 0);
        law(g, "n1(1=1);t3(l=2);t7(1=1)");
        g.evenings(1);
        due("32: right", check(g, 10, 0, 0, 3, 0, 0, 0, 0, 0, 0, 7), -1);
        due("32: empty then", g.count(8), 0);
        due("32: the first one", check(g, 10, 0, 0, 4, 0, 0, 0, 0, 0, 0, 8), 2);
        due("32: one that is not told", check(g, 10, 0, 1, 3, 0, 0, 0, 0, 0, 0, 7), 1);
        due("32: of the first n", check(g, 2, 0, 0, 4), -1);
        due("32: of the first n", check(g, 3, 0, 0, 4), 2);
        due("32: none", check(g, 0, 5, 5), -1);
        due("32: empty then", g.count(8), 0);
        for (int n : new int[] {-1, 11, LEAST, MOST}) {
            due("32: no such n", check(g, n, 5), -2);
            due("32: the tape stays", g.count(8), 20);
        }
        empty(g);
        due("32: not so many", g.check(1), -2);
    }

    private static void promise33() {
        LineGuild g = with("a", "2.");
        g.end(8, 1, 0, 9, 1);
        g.teller(3, 0, 0);
        g.listener(6, 3, 0);
        law(g, "n1(1=1);t9(1=1)");
        g.evenings(2);
        g.feed(0, 0, 0, 0, 0);
        long[] want = {2, 1, 2, 3, 256, 8, 64, 2, 20, draws(1, 2)};
        // The end at no cost closes the story each evening, and nobody is tired.
        want[1] = 0;
        for (int what = 0; what < 10; what++) {
            due("33: count(" + what + ")", g.count(what), want[what]);
        }
        for (int what : new int[] {-1, 10, LEAST, MOST}) {
            due("33: others", g.count(what), -1);
        }
    }
}
