/** The sentences on stories, the tape and what is asked of stories alone: one test for each edge that they name. */
public final class StoryEdgesTest {
    private static final Checks CHECKS = new Checks("StoryEdgesTest");
    private static final String TURNS = "abcdefghijABCDEFGHIJ*.";
    private static final String TIMES = "23456789";

    public static void main(String[] args) {
        tapeIsReadFromItsFirstByte();
        firstBytesAlone();
        tapeHolds260();
        everyByteAtEachPlace();
        whatATurnDoes();
        starWithAnythingOpen();
        digitsAndGroups();
        seventyTwoTurns();
        firstFaultFromTheLeft();
        thirdOpenGroup();
        newerStoryIsAskedAnew();
        mostAtOnce();
        threadsThatCome();
        knots();
        wouldDo();
        fittingBesideAllWays();
        fittingPlaces();
        series();
        yawns();
        yawnsBounds();
        books();
        CHECKS.finish();
    }

    private static void due(String what, long got, long want) {
        CHECKS.due(what, got, want);
    }

    private static LineGuild with(String... stories) {
        LineGuild g = new LineGuild();
        for (int k = 0; k < stories.length; k++) {
            due("story " + stories[k], Checks.story(g, k, stories[k]) > 0 ? 1 : 0, 1);
        }
        return g;
    }

    private static int told(String text) {
        return Checks.story(new LineGuild(), 3, text);
    }

    private static void tapeIsReadFromItsFirstByte() {
        LineGuild g = new LineGuild();
        String text = "abcdefghijABCDEFGHIJjihgfedcbaJIHGFEDCBA";
        due("2: twenty", Checks.put(g, text.substring(0, 20)), 20);
        due("2: behind the tape", Checks.put(g, text.substring(20)), 40);
        due("2: read", g.story(0, 40), 40);
        for (int i = 0; i < 40; i++) {
            int thread = 1 << Character.toLowerCase(text.charAt(i)) - 'a';
            boolean opens = Character.isLowerCase(text.charAt(i));
            int behind = g.open(0, i + 1, g.open(0, 0, 0));
            due("2: byte " + i, behind & thread, opens ? thread : 0);
        }
        due("3: the first n bytes alone", Checks.put(g, "aab" + "k".repeat(17)), 20);
        due("3: the first n bytes alone", g.story(0, 3), 3);
        due("3: empty then", g.count(8), 0);
        due("2: bytes of 128 and more", g.feed(0x80ff0900, 0, 0, 0, 0), 20);
        g.end(0, 1, 1, 1, 1);
        due("24: 128 is above 10", g.winter(5, 1, 0), -2);
    }

    /** What stands behind the first n bytes would make another story of them. */
    private static void firstBytesAlone() {
        String[] tapes = {"(a)", "2a", "ab)", "((a))", "a2b", "(a)(", "abk", "a(", "2(ab)", "2(a)"};
        int[] many = {2, 1, 2, 4, 2, 3, 2, 1, 4, 3};
        int[] want = {-1002, -1001, 2, -1004, -1002, 1, 2, 1, -1004, -1003};
        for (int i = 0; i < tapes.length; i++) {
            LineGuild g = new LineGuild();
            Checks.put(g, tapes[i]);
            due("3: the first " + many[i] + " of " + tapes[i], g.story(0, many[i]), want[i]);
            due("3: empty then", g.count(8), 0);
        }
        LineGuild g = new LineGuild();
        Checks.put(g, "(".repeat(2) + ".".repeat(70) + "))(a)(b)))");
        due("3: 79 of 82", g.story(0, 79), -1079);
        Checks.put(g, "(".repeat(2) + ".".repeat(70) + "))(a)(b)))");
        due("3: 80 of 82", g.story(0, 80), 72);
    }

    private static void tapeHolds260() {
        LineGuild g = new LineGuild();
        String text = "a".repeat(20) + "b".repeat(20) + "c".repeat(20) + "D".repeat(12) + "e".repeat(188);
        for (int i = 0; i < 13; i++) {
            due("2: how many it has", Checks.put(g, text.substring(20 * i, 20 * i + 20)), 20 * i + 20);
        }
        due("2: more than 260", g.feed(0x6b6b6b6b, 0, 0, 0, 0), -1);
        due("2: more than 260", g.feed(0, 0, 0, 0, 0), -1);
        due("2: the tape stays", g.count(8), 260);
        due("2: what is on it stays", g.story(5, 72), 72);
        due("2: what is on it stays", g.storyIs(5, 3), 15);
        due("2: empty", g.count(8), 0);
        due("2: room again", g.feed(0, 0, 0, 0, 0), 20);
    }

    /** What stands ahead, a byte, and whether it can stand there; what comes behind is the end. */
    private static void bytes(String ahead, String standing, String closing, int answer) {
        LineGuild g = new LineGuild();
        for (int b = 0; b < 256; b++) {
            if (b % 100 == 0) {
                g = new LineGuild();
            }
            Checks.put(g, ahead + (char) b);
            int got = g.story(0, ahead.length() + 1);
            int want = -1000 - ahead.length();
            if (closing.indexOf(b) >= 0) {
                want = answer;
            } else if (standing.indexOf(b) >= 0) {
                want--;
            }
            due("3: " + ahead + " and byte " + b, got, want);
            g.check(0);
        }
    }

    private static void everyByteAtEachPlace() {
        bytes("", TIMES + "(", TURNS, 1);
        bytes("a", TIMES + "(", TURNS, 2);
        bytes("2", "(", TURNS, 2);
        bytes("9", "(", TURNS, 9);
        bytes("a3", "(", TURNS, 4);
        bytes("(", TURNS + TIMES + "(", "", 0);
        bytes("4(", TURNS + TIMES + "(", "", 0);
        bytes("(2", TURNS + "(", "", 0);
        bytes("(.", TURNS + TIMES + "(", ")", 1);
        bytes("5(ab", TURNS + TIMES + "(", ")", 10);
        bytes("((a", TURNS + TIMES + ")", "(", -5003);
        bytes("((a)", TURNS + TIMES + "(", ")", 1);
        bytes("(a)", TIMES + "(", TURNS, 2);
        bytes("((", TURNS + TIMES, "(", -5002);
        bytes("(3(2", TURNS, "(", -5004);
    }

    private static void whatATurnDoes() {
        for (int thread = 0; thread < 10; thread++) {
            LineGuild g = with("" + (char) ('a' + thread), "" + (char) ('A' + thread));
            for (int open = 0; open < 1024; open += 5) {
                due("opened, also what is open", g.open(0, 1, open), open | 1 << thread);
                due("closed, also what is not open", g.open(1, 1, open), open & ~(1 << thread));
            }
        }
        LineGuild g = with(".");
        for (int open = 0; open < 1024; open += 3) {
            due("a dot is neither", g.open(0, 1, open), open);
        }
    }

    private static void starWithAnythingOpen() {
        LineGuild g = with("*", "2*");
        for (int open = 0; open < 1024; open++) {
            if (open % 200 == 0) {
                g = with("*", "2*");
            }
            int once = (open | open + 1) & 1023;
            due("* with " + open, g.open(0, 1, open), once);
            due("** with " + open, g.open(1, 2, open), (once | once + 1) & 1023);
        }
    }

    private static void writtenOut(String text, String turns) {
        LineGuild g = with(text, turns);
        due("3: turns of " + text, g.storyIs(0, 0), turns.length());
        for (int i = 0; i <= turns.length(); i++) {
            for (int open : new int[] {0, 1023, 341, 682}) {
                due("3: " + text + " behind " + i, g.open(0, i, open), g.open(1, i, open));
            }
        }
        for (int what = 0; what < 4; what++) {
            due("13: " + text, g.storyIs(0, what), g.storyIs(1, what));
        }
    }

    private static void digitsAndGroups() {
        for (int times = 2; times <= 9; times++) {
            for (char turn : TURNS.toCharArray()) {
                due("so many times", told("" + times + turn), times);
            }
            due("likewise", told(times + "(aB*)"), 3 * times);
            writtenOut("*" + times + "*A", "*" + "*".repeat(times) + "A");
        }
        writtenOut("(a)", "a");
        writtenOut("3(aB*)", "aB*aB*aB*");
        writtenOut("2(a2(bC)*)", "abCbC*abCbC*");
        writtenOut("(2(aA)*)c", "aAaA*c");
        writtenOut("2((a)(B)*)", "aB*aB*");
        writtenOut("2(2(2*A)b)", "**A**Ab**A**Ab");
        writtenOut("3(2(a.)B)2(C4*)", "a.a.Ba.a.Ba.a.BC****C****");
        writtenOut("a(b(c))", "abc");
    }

    private static void seventyTwoTurns() {
        for (String text : new String[] {".".repeat(72), "8(9.)", "9(8.)", "2(4(9.))", "9(2(4.))", ".8(8.)7.", "9.9.9.9.9.9.9.9."}) {
            due("72: " + text, told(text), 72);
        }
        due("80 bytes", told("(".repeat(2) + ".".repeat(70) + "))(a)(b)"), 72);
        due("73: a letter", told(".".repeat(73)), -6072);
        due("73: a letter behind a round", told("8(9.)a"), -6005);
        due("73: a dot", told("9(8.)."), -6005);
        due("73: a digit is its first byte", told("8(9.)2."), -6005);
        due("73: a round", told(".8(9.)"), -6001);
        due("73: a round with no digit", told("8(9.)(.)") / 1000, -6);
        due("74: behind a round", told("..(" + ".".repeat(70) + ")2."), -6074);
        due("73: twice", told("2(" + "9.".repeat(4) + "*)"), -6000);
        due("81: the inner round first", told("9(9(9.))"), -6002);
        due("90: the outer round", told("9(2(5.))"), -6000);
        due("126: the inner letter first", told("2(8(9.)a)"), -6007);
        due("144: the outer round", told("2(8(9.))"), -6000);
        due("81: the first of two rounds", told("9(9.)9(9.)"), -6000);
    }

    private static void firstFaultFromTheLeft() {
        due("asked when it ends", told("9(9."), -1004);
        due("asked when it ends", told("9(9.k)"), -1004);
        due("asked when it ends", told("9(9.((."), -5005);
        due("asked when it ends", told("8(9.)2"), -1006);
        due("asked when it ends", told("8(9.)("), -1006);
        due("asked when it ends", told("8(9.)k"), -1005);
        due("then not what comes later", told("9(9.)k"), -6000);
        due("then not what comes later", told("8(9.)a("), -6005);
        due("the end", told("a("), -1002);
        due("the end", told("a(b"), -1003);
        due("the end", told("a((b)"), -1005);
        due("the end", told("a((b)2"), -1006);
        due("one turn at least", told("a()b"), -1002);
        due("one turn at least", told("(a())"), -1003);
        due("one turn at least", told("2()"), -1002);
        due("a digit needs a turn", told("(a2)"), -1003);
        due("two digits", told("12a"), -1000);
        due("two digits", told("22a"), -1001);
        due("no such round is open", told("a)"), -1001);
        due("no such round is open", told("(a))"), -1003);
        due("the first of two", told("ak(((a"), -1001);
    }

    private static void thirdOpenGroup() {
        due("a second one", told("((a))"), 1);
        due("a third one", told("(((a)))"), -5002);
        due("a third one", told("a(b(c(d)))"), -5005);
        due("a third one at it, not at its digit", told("2(2(2(a)))"), -5005);
        due("one behind the other", told("((a)(b)(c))((d)(e))"), 5);
        due("three that are not open in one another", told("(a)(b)(c)(d)"), 4);
        due("a third one once two were closed", told("((a))(((a"), -5007);
    }

    private static void newerStoryIsAskedAnew() {
        LineGuild g = with("abc*", "j");
        due("13: most", g.storyIs(0, 2), 4);
        due("3: in place of the one before", Checks.story(g, 0, "gG"), 2);
        int[] want = {2, 0, 1, 64, 1};
        for (int what = 0; what < 5; what++) {
            due("13: of the newer one " + what, g.storyIs(0, what), want[what]);
        }
        due("14: no more turns than the newer one", g.open(0, 3, 0), -1);
        due("14: all turns of it", g.open(0, 2, 64), 0);
        due("3: a fault leaves it", Checks.story(g, 0, "((("), -5002);
        due("3: a fault leaves it", g.storyIs(0, 0), 2);
        due("3: none told by a fault", Checks.story(g, 2, "ab("), -1003);
        due("3: none told by a fault", g.storyIs(2, 0), -1);
        due("33: told ones", g.count(3), 3);
    }

    private static void mostAtOnce() {
        String[] stories = {".", "A", "a", "aA", "abAcB", "abcdefghij", "9*", "5*5*", "9*9**J", "3*ABC2*", "*2(*A)"};
        int[] most = {0, 0, 1, 1, 2, 10, 9, 10, 10, 3, 2};
        int[] end = {0, 0, 1, 0, 4, 1023, 511, 1023, 511, 3, 2};
        int[] come = {0, 1, 1, 1, 7, 1023, 511, 1023, 1023, 7, 3};
        for (int i = 0; i < stories.length; i++) {
            LineGuild g = with(stories[i]);
            due("13: most of " + stories[i], g.storyIs(0, 2), most[i]);
            due("13: open at the end of " + stories[i], g.storyIs(0, 1), end[i]);
            due("13: come in " + stories[i], g.storyIs(0, 3), come[i]);
        }
    }

    private static void threadsThatCome() {
        due("13: of * the ones it opens", with("b*").storyIs(0, 3), 3);
        due("13: of * the ones it opens", with("a*").storyIs(0, 3), 3);
        due("13: begun with none", with("*").storyIs(0, 3), 1);
        due("13: of * none, if all are open", with("9***").storyIs(0, 3), 1023);
        due("13: what is open and opened again", with("jj").storyIs(0, 3), 512);
        due("13: what is closed", with("Jj").storyIs(0, 3), 512);
        due("13: of dots none", with("9.").storyIs(0, 3), 0);
    }

    private static void knots() {
        due("23: none told", new LineGuild().knots(), 0);
        LineGuild g = new LineGuild();
        Checks.story(g, 5, ".");
        due("23: one alone", g.knots(), 1);
        due("13: one alone", g.storyIs(5, 4), 32);
        Checks.story(g, 0, ".");
        due("23: dots don't knot", g.knots(), 2);
        due("13: dots don't knot", g.storyIs(0, 4), 1);
        Checks.story(g, 0, "j");
        Checks.story(g, 5, "j");
        due("23: the last thread, the last story", g.knots(), 1);
        due("13: the last thread, the last story", g.storyIs(5, 4), 33);
        due("13: the last thread, the last story", g.storyIs(0, 4), 33);
        LineGuild six = with("a", "b", "c", "d", "e", "f");
        due("23: six", six.knots(), 6);
        LineGuild chain = with("af", "ab", "bc", "cd", "de", "j");
        due("23: a chain", chain.knots(), 2);
        for (int k = 0; k < 5; k++) {
            due("13: a chain", chain.storyIs(k, 4), 31);
        }
        LineGuild back = with("de", "cd", "bc", "ab", "a", "e");
        due("23: a chain from behind", back.knots(), 1);
        due("13: a chain from behind", back.storyIs(4, 4), 63);
        LineGuild star = with("2*", "b", "a*", "C");
        due("13: * opens a and b", star.storyIs(0, 4), 7);
        due("13: a closed one alone", star.storyIs(3, 4), 8);
        due("23: by what * opens", star.knots(), 2);
        Checks.story(star, 1, "bc");
        due("23: a newer story", star.knots(), 1);
        due("13: a capital knots", star.storyIs(3, 4), 15);
    }

    /** Beside what open() tells of each turn. */
    private static void wouldDoOf(String story, int threads, int[] want) {
        LineGuild g = with(story);
        g.end(6, threads, 1, 0, 1);
        int many = 0;
        int first = -2;
        int last = -2;
        for (int i = 0; i <= g.storyIs(0, 0); i++) {
            int open = g.open(0, i, 0);
            if (open != 0 && (open & ~threads) == 0) {
                many++;
                first = first < 0 ? i : first;
                last = i;
            }
        }
        int[] got = {many, first, last};
        for (int what = 0; what < 3; what++) {
            due("21: " + story + " by " + threads, g.wouldDo(0, 6, what), want[what]);
            due("21: " + story + " beside open()", got[what], want[what]);
        }
    }

    private static void wouldDo() {
        wouldDoOf("a", 1, new int[] {1, 1, 1});
        wouldDoOf("a", 2, new int[] {0, -2, -2});
        wouldDoOf("a", 1023, new int[] {1, 1, 1});
        wouldDoOf(".", 1023, new int[] {0, -2, -2});
        wouldDoOf("aA", 1, new int[] {1, 1, 1});
        wouldDoOf(".a.", 1, new int[] {2, 2, 3});
        wouldDoOf("abcCB", 3, new int[] {4, 1, 5});
        wouldDoOf("abAB.a", 1, new int[] {2, 1, 6});
        wouldDoOf("9*9**", 1022, new int[] {0, -2, -2});
        wouldDoOf("9*9**A", 1022, new int[] {1, 20, 20});
        wouldDoOf("9*9*A", 1022, new int[] {1, 19, 19});
        wouldDoOf("9*9*", 1023, new int[] {18, 1, 18});
        wouldDoOf("8(9j)", 512, new int[] {72, 1, 72});
        wouldDoOf("8(8.)7.a", 1, new int[] {1, 72, 72});
    }

    private static int behind(char turn, int open) {
        if (turn == '*') {
            return (open | open + 1) & 1023;
        }
        int thread = turn == '.' ? 0 : 1 << Character.toLowerCase(turn) - 'a';
        return Character.isUpperCase(turn) ? open & ~thread : open | thread;
    }

    private static boolean fits(String turns, int leftOut, int threads) {
        int open = 0;
        for (int i = 0; i < turns.length(); i++) {
            open = (leftOut >> i & 1) == 1 ? open : behind(turns.charAt(i), open);
        }
        return (open & ~threads) == 0;
    }

    /** A row that is less comes first: of two of one length the one that has the lowest place in which they differ. */
    private static boolean isBetter(int leftOut, int than) {
        int fewer = Integer.bitCount(leftOut) - Integer.bitCount(than);
        int differ = leftOut ^ than;
        return fewer < 0 || fewer == 0 && (leftOut & differ & -differ) != 0;
    }

    private static void fittingBesideAllWays() {
        String[] stories = {"a", "*", "**A*", "abAcCB*", "*a*bA*", "a*bB*A", "aBcAbC***", "ABC", "*A*B*C*", "**A",
            "bAaB*", "jiJ**I", "abcABC*A", "aaAab", "*J*a.*b", "ab*ABab"};
        for (String story : stories) {
            LineGuild g = with(story);
            int asked = 0;
            for (int threads = 0; threads < 1024; threads = threads < 16 ? threads + 1 : threads * 2 + 3) {
                int best = (1 << story.length()) - 1;
                for (int leftOut = best; leftOut >= 0; leftOut--) {
                    if (fits(story, leftOut, threads) && isBetter(leftOut, best)) {
                        best = leftOut;
                    }
                }
                due("20: " + story + " but " + threads, g.fitting(0, threads, 100), Integer.bitCount(best));
                int place = 0;
                for (int i = 0; i < story.length(); i++) {
                    if ((best >> i & 1) == 1) {
                        due("20: row of " + story + " but " + threads, g.fitting(0, threads, place), i);
                        place++;
                        asked++;
                    }
                }
                due("20: behind the row of " + story, g.fitting(0, threads, place), -4);
                due("20: ahead of the row of " + story, g.fitting(0, threads, -1), -4);
                asked += 3;
            }
            due("calls", asked < 500 ? 1 : 0, 1);
        }
    }

    private static void fittingPlaces() {
        LineGuild g = with("9(7.)ab5.cd", "8(9a)", "8(8.)7.a", "8(9A)");
        int[] row = {63, 64, 70, 71};
        due("20: four", g.fitting(0, 0, 100), 4);
        for (int i = 0; i < 4; i++) {
            due("20: late turns", g.fitting(0, 0, i), row[i]);
        }
        due("20: but a and d", g.fitting(0, 9, 0), 64);
        due("20: but a and d", g.fitting(0, 9, 1), 70);
        due("20: but a and d", g.fitting(0, 9, 2), -4);
        due("20: all", g.fitting(1, 0, 100), 72);
        for (int i = 0; i < 72; i++) {
            due("20: all", g.fitting(1, 1022, i), i);
        }
        due("20: no more than all", g.fitting(1, 0, 72), -4);
        due("20: none", g.fitting(1, 1, 100), 0);
        due("20: none", g.fitting(1, 1, 0), -4);
        due("20: the last", g.fitting(2, 0, 0), 71);
        due("20: the last", g.fitting(2, 0, 1), -4);
        due("20: none", g.fitting(3, 0, 100), 0);
        for (int what : new int[] {-2, 99, 101, 1000, Integer.MIN_VALUE, Integer.MAX_VALUE}) {
            due("20: no such one", g.fitting(0, 0, what), -4);
        }
    }

    private static void row(LineGuild g, int stories, int most, int atEnd, int... row) {
        due("22: most", g.series(stories, 20), most);
        due("22: at the end", g.series(stories, 21), atEnd);
        for (int i = 0; i < row.length; i++) {
            due("22: place " + i, g.series(stories, i), row[i]);
        }
        due("22: no such place", g.series(stories, row.length), -1);
    }

    private static void series() {
        row(with("A", "a"), 3, 1, 0, 1, 0);
        row(with("a", "A"), 3, 1, 0, 0, 1);
        row(with("b", "cdBCDe"), 3, 2, 2, 1, 0);
        row(with(".", "."), 3, 0, 0, 0, 1);
        row(with("9**", "9**"), 3, 10, 10, 0, 1);
        row(with("A", "B", "b", "a"), 15, 1, 0, 2, 1, 3, 0);
        row(with("a", "b", "c", "d", "e", "f"), 31, 5, 5, 0, 1, 2, 3, 4);
        row(with("a", "b", "c", "d", "e", "f"), 62, 5, 5, 1, 2, 3, 4, 5);
        row(with("a", "b", "c", "d", "e", "f"), 33, 2, 2, 0, 5);
        row(with("A", "Ba", "Cb", "Dc", "Ed"), 31, 1, 0, 4, 3, 2, 1, 0);
        row(with("aA", "c", "bB"), 7, 1, 1, 0, 2, 1);
        row(with("bcBC", "aA", "d"), 7, 2, 1, 0, 1, 2);
        row(with("*", "aA"), 3, 1, 0, 0, 1);
        row(with("*", "bA"), 3, 2, 1, 0, 1);
        row(with("bA", "*"), 3, 2, 1, 1, 0);
    }

    private static int heard(LineGuild g, int n, int what, int... counts) {
        g.check(0);
        Checks.put(g, counts);
        return g.yawns(0, n, what);
    }

    private static void yawns() {
        LineGuild g = with("abc");
        g.end(0, 7, 1, 0, 1);
        due("27: behind the first turn", heard(g, 3, 1, 0, 1, 2), 1);
        due("27: behind the second", heard(g, 3, 1, 1, 0, 1), 1);
        due("27: behind the last, heard behind the end", heard(g, 3, 1, 1, 2, 0), 1);
        due("27: not behind none", heard(g, 3, 1, 1, 2, 3), 0);
        due("27: of the last two", heard(g, 2, 1, 1, 2), 1);
        due("27: of the last", heard(g, 1, 1, 2), 1);
        due("27: of the last", heard(g, 1, 1, 0), 1);
        g.end(9, 512, 1, 9, 1);
        due("27: one that closes nothing of it: at each turn", heard(g, 3, 1, 1, 2, 3), 3);
        due("27: which", heard(g, 3, 0, 1, 2, 3), 512);
        g.end(4, 4, 1, 1, 1);
        due("27: both, at the first two", heard(g, 3, 0, 1, 2, 3), 512 + 16);
        due("27: both, at the first two", heard(g, 3, 1, 1, 2, 3), 5);
        due("27: a byte that no count is", heard(g, 1, 1, 255), 0);
        due("27: a byte that no count is", heard(g, 1, 0, 128 + 3), 0);
        due("27: no end told", heard(with("abc"), 1, 1, 3), 0);
        LineGuild star = with("**A*");
        star.end(2, 1, 1, 1, 1);
        // Behind 1: 0 1 0 1; behind 2: 1 1 1 2; behind 3: 1 2 1 2; behind 4: 1 2 1 1.
        due("27: the turns go on with what is open", heard(star, 4, 1, 0, 1, 0, 1), 1);
        due("27: the turns go on", heard(star, 4, 1, 1, 1, 1, 2), 1);
        due("27: the turns go on", heard(star, 4, 1, 1, 2, 1, 2), 1);
        due("27: the turns go on", heard(star, 4, 1, 1, 2, 1, 1), 1);
        due("27: two of four", heard(star, 2, 1, 1, 2), 2);
        due("27: of the last", heard(star, 1, 1, 1), 2);
    }

    private static void yawnsBounds() {
        LineGuild g = with("9a9a2a");
        g.end(0, 1, 1, 1, 1);
        int[] ones = new int[20];
        java.util.Arrays.fill(ones, 1);
        ones[19] = 0;
        due("27: all twenty turns, behind the last", heard(g, 20, 1, ones), 1);
        ones[19] = 1;
        ones[0] = 0;
        due("27: all twenty turns, behind the first", heard(g, 20, 1, ones), 1);
        ones[1] = 0;
        due("27: not twice", heard(g, 20, 1, ones), 0);
        g.check(0);
        Checks.put(g, ones);
        Checks.put(g, ones);
        due("27: twenty-one", g.yawns(0, 21, 0), -1);
        due("27: the tape stays", g.count(8), 40);
        g.check(0);
        due("27: nineteen turns", Checks.story(g, 0, "9a9aa"), 19);
        due("27: nineteen turns", heard(g, 20, 1, ones), -2);
        due("27: empty then", g.count(8), 0);
        ones[0] = 1;
        ones[1] = 1;
        due("27: nineteen of nineteen: never heard", heard(g, 19, 1, ones), 0);
        ones[18] = 0;
        due("27: nineteen of nineteen", heard(g, 19, 1, ones), 1);
        Checks.story(g, 0, "8(9a)");
        due("27: the last one of 72", heard(g, 1, 1, 1), 71);
    }

    private static void book(LineGuild g, int stories, int volumes, int thick, int second, int third) {
        String what = "28: " + stories + " in " + volumes;
        due(what, g.book(stories, volumes, 0), thick);
        due(what + ", the second", g.book(stories, volumes, 1), second);
        due(what + ", the third", g.book(stories, volumes, 2), third);
    }

    private static void books() {
        LineGuild g = with("8(9.)", "8(9a)", "8(9b)", "8(9*)", "8(9A)", "8(9B)");
        book(g, 63, 1, 432, -2, -2);
        book(g, 63, 2, 216, 3, -2);
        book(g, 63, 3, 144, 2, 4);
        book(g, 1, 1, 72, -2, -2);
        book(g, 32, 1, 72, -2, -2);
        book(g, 33, 2, 72, 5, -2);
        book(g, 35, 3, 72, 1, 5);
        book(g, 56, 3, 72, 4, 5);
        book(g, 31, 2, 216, 2, -2);
        book(g, 31, 3, 144, 1, 3);
        LineGuild h = with("9.", ".", ".", ".", ".", "9.");
        book(h, 63, 2, 11, 3, -2);
        book(h, 63, 3, 9, 1, 5);
        book(h, 31, 3, 9, 1, 2);
        book(h, 62, 3, 9, 2, 5);
        book(h, 30, 2, 2, 3, -2);
        book(h, 30, 3, 2, 2, 3);
        LineGuild i = with(".", "2.", "3.", "4.", "5.", "6.");
        book(i, 63, 2, 11, 4, -2);
        book(i, 63, 3, 9, 3, 5);
        book(i, 7, 2, 3, 2, -2);
        book(i, 11, 2, 4, 3, -2);
        book(i, 41, 2, 6, 5, -2);
    }
}
