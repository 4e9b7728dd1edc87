/** The sentences on the law: one test for each edge that they name. */
public final class LawEdgesTest {
    private static final Checks CHECKS = new Checks("LawEdgesTest");
    private static final String DIGITS = "0123456789";
    private static final String LETTERS = "kumolareczhv";
    private static final String FACTORS = DIGITS + LETTERS + "[";
    private static final String SIGNS = "+-*/%";
    private static final String MOST = "[65536*32768-1]";
    private static final String LEAST = "[65536*32768]";

    public static void main(String[] args) {
        everyByteAtEachPlace();
        sixthDigit();
        seventeenthClause();
        seventhOpen();
        bytesOfALaw();
        firstBytesAlone();
        firstFaultFromTheLeft();
        inPlaceOfTheOneBefore();
        boundsOfAnswers();
        boundsOfTired();
        boundsOfGifts();
        firstClauseThatHolds();
        anyClauseOfX();
        lettersOfTellers();
        lettersOfEnds();
        lettersOfTires();
        lettersOfGoes();
        lettersOfRests();
        lettersOfGifts();
        thirtyTwoBits();
        fromTheLeft();
        divisionByNothing();
        asMuchAsMatters();
        partsAndTests();
        CHECKS.finish();
    }

    private static void due(String what, long got, long want) {
        CHECKS.due(what, got, want);
    }

    private static int told(String text) {
        return Checks.law(new LineGuild(), text);
    }

    private static void law(LineGuild g, String text) {
        due("law " + text, Checks.law(g, text) > 0 ? 1 : 0, 1);
        due("empty then", g.count(8), 0);
    }

    /** Each byte behind what stands ahead: a fault at it, or, if it can stand there, at the end behind it. */
    private static void bytes(String ahead, String standing) {
        bytes(ahead, standing, false);
    }

    /** So, and whether the law is whole if a ) stands there. */
    private static void bytes(String ahead, String standing, boolean closes) {
        LineGuild g = new LineGuild();
        for (int b = 0; b < 256; b++) {
            if (b % 80 == 0) {
                g = new LineGuild();
            }
            Checks.put(g, ahead + (char) b);
            int got = g.law(ahead.length() + 1);
            int fault = -1000 - ahead.length() - (standing.indexOf(b) >= 0 ? 1 : 0);
            due("4: " + ahead + " and byte " + b, got, closes && b == ')' ? 1 : fault);
            g.check(0);
        }
    }

    private static void everyByteAtEachPlace() {
        bytes("", "nptsfgx");
        for (char kind : "nptsfg".toCharArray()) {
            bytes("" + kind, FACTORS);
        }
        bytes("x", "(");
        bytes("n1", DIGITS + SIGNS + "(");
        bytes("nk", SIGNS + "(");
        bytes("n[", FACTORS);
        bytes("n[1", DIGITS + SIGNS + "]");
        bytes("n[1]", SIGNS + "(");
        for (char sign : SIGNS.toCharArray()) {
            bytes("t1" + sign, FACTORS);
            bytes("t1(1" + sign, FACTORS);
        }
        bytes("x(", FACTORS + "!(");
        bytes("x(!", FACTORS + "!(");
        bytes("x((", FACTORS + "!(");
        bytes("x(k", SIGNS + "<>=");
        bytes("x([k]", SIGNS + "<>=");
        bytes("x(1", DIGITS + SIGNS + "<>=");
        for (char sign : "<>=".toCharArray()) {
            bytes("x(k" + sign, FACTORS);
            bytes("x(k" + sign + "v", SIGNS + "&|", true);
        }
        bytes("x(k=1", DIGITS + SIGNS + "&|", true);
        bytes("x(!k=v", SIGNS + "&|", true);
        bytes("x(k=v&", FACTORS + "!(");
        bytes("x(k=v|", FACTORS + "!(");
        bytes("x((k=v", SIGNS + "&|)");
        bytes("x((k=v)", "&|", true);
        bytes("x(k=v);", "nptsfgx");
        LineGuild g = new LineGuild();
        for (int b = 0; b < 256; b++) {
            g = b % 100 == 0 ? new LineGuild() : g;
            Checks.put(g, "x(k=v)" + (char) b);
            due("4: behind a clause, byte " + b, g.law(7), b == ';' ? -1007 : -1006);
            g.check(0);
        }
    }

    private static void sixthDigit() {
        due("4: five digits", told("n99999(99999=00000)"), 1);
        for (char digit : DIGITS.toCharArray()) {
            due("4: a sixth digit", told("n12345" + digit + "(1=1)"), -2006);
            due("4: a sixth digit", told("x(1=00000" + digit + ")"), -2009);
            due("4: a sixth digit", told("x([99999" + digit), -2008);
        }
        due("4: a seventh isn't looked at", told("n1234567"), -2006);
        due("4: two numbers", told("n12345+12345*99999(1=1)"), 1);
    }

    private static void seventeenthClause() {
        String sixteen = "x(1=1);".repeat(15) + "x(1=1)";
        due("4: sixteen", told(sixteen), 16);
        for (char kind : "nptsfgx".toCharArray()) {
            due("4: a 17th, at its letter", told(sixteen + ";" + kind), -4112);
            due("4: a 17th, at its letter", told(sixteen + ";" + kind + "1(1=1)"), -4112);
        }
        due("4: it can't stand there", told(sixteen + ";k"), -1112);
        due("4: it can't stand there", told(sixteen + ";;"), -1112);
        due("4: the end", told(sixteen + ";"), -1112);
        due("4: no ; between", told(sixteen + "x(1=1)"), -1111);
        LineGuild g = new LineGuild();
        law(g, sixteen);
        due("33: clauses", g.count(7), 16);
        due("11: clauses", g.copy(), 16);
    }

    private static void seventhOpen() {
        due("4: six of [", told("n" + "[".repeat(6) + "1" + "]".repeat(6) + "(1=1)"), 1);
        due("4: a seventh [", told("n" + "[".repeat(7)), -5007);
        due("4: a seventh [ that is closed", told("n" + "[".repeat(7) + "1" + "]".repeat(7) + "(1=1)"), -5007);
        due("4: six of (", told("x" + "(".repeat(6) + "1=1" + ")".repeat(6)), 1);
        due("4: a seventh (", told("x" + "(".repeat(7) + "1=1" + ")".repeat(7)), -5007);
        due("4: five of ! in the ( of the clause", told("x(!!!!!1=1)"), 1);
        due("4: a sixth !", told("x(!!!!!!1=1)"), -5007);
        due("4: of each", told("x((!(![1]=1)))"), 1);
        due("4: of each", told("x(!(!(![1]=1)))"), -5007);
        due("4: of each", told("x(!(!(!1=1)))"), 1);
        due("4: a [ is the seventh", told("x(((((([1]=1))))))"), -5007);
        due("4: a ! is the seventh", told("x((((((!1=1))))))"), -5007);
        due("4: [ in [", told("x(!!!![1]=[2])"), 1);
        due("4: a ! is open till its test ends, on both sides", told("x(!!!!!1=[2])"), -5009);
        due("4: a ! is open till its test ends", told("x(!!!!!1=1&[1]=1)"), 1);
        due("4: a ! is open till its test ends", told("x(!!!!!1=1|!!!!!1=1&!!!!!2=2)"), 1);
        due("4: a ! is open till its test ends", told("x(!!!!(1=1)&!!!!(1=1|1=1))"), 1);
        due("4: a ! ahead of a (", told("x(!!!!(!1=1))"), -5007);
        due("4: the E stands ahead of the (", told("n[[[[[[1]]]]]]([[[[[1]]]]]=1)"), 1);
        due("4: the ( of the clause counts", told("n[[[[[[1]]]]]]([[[[[[1]]]]]]=1)"), -5020);
        due("4: the next clause begins with none", told("x((((((1=1))))));p[[[[[[1]]]]]](1=1)"), 2);
        due("4: one behind the other", told("x([1]+[1]+[1]*[1]<[1]-[1]&(1=1)&(1=1)|(1=1))"), 1);
    }

    private static void bytesOfALaw() {
        String text = "n1111(" + "1+".repeat(115) + "1=1)";
        due("4: 240", text.length(), 240);
        due("4: 240 bytes", told(text), 1);
        due("4: 240 bytes, a fault at the end", told(text.substring(0, 239) + "+"), -1240);
        due("4: 240 bytes, a fault in the last", told(text.substring(0, 239) + ";"), -1239);
        LineGuild g = new LineGuild();
        Checks.put(g, text + ")".repeat(20));
        due("4: 241 bytes", g.law(241), -1);
        due("4: 260 bytes", g.law(260), -1);
        due("4: the tape stays", g.count(8), 260);
        due("4: the first 240 of them", g.law(240), 1);
        due("4: empty then", g.count(8), 0);
        String ands = "x(" + "1=1&".repeat(58) + "1=1)";
        due("4: many parts", told(ands), 1);
        String shortest = "x(k=k);".repeat(15) + "x(k=k)";
        due("4: many clauses", told(shortest), 16);
    }

    /** What stands behind the first n bytes would make another law of them. */
    private static void firstBytesAlone() {
        String whole = "p12(1=13|!(c=7));p[4](1=1)";
        int clause = whole.indexOf(';');
        for (int n = 1; n <= whole.length(); n++) {
            LineGuild g = new LineGuild();
            g.end(9, 1, 7, 3, 1);
            Checks.put(g, whole);
            boolean isWhole = n == clause || n == whole.length();
            due("4: the first " + n, g.law(n), !isWhole ? -1000 - n : n == clause ? 1 : 2);
            due("4: empty then", g.count(8), 0);
            due("4: clauses", g.count(7), !isWhole ? 0 : n == clause ? 1 : 2);
            due("4: p", g.endIs(9, 4), n == whole.length() ? 4 : 0);
        }
        LineGuild g = new LineGuild();
        Checks.put(g, "x(1=12345678)");
        due("4: five digits of eight", g.law(9), -1009);
        Checks.put(g, "x(1=1)x(1=1)");
        due("4: one of two with no ; between", g.law(6), 1);
    }

    private static void firstFaultFromTheLeft() {
        due("4: the end", told("x(1=1"), -1005);
        due("4: the end", told("n1+"), -1003);
        due("4: the end", told("n[1"), -1003);
        due("4: the end", told("x((1=1)"), -1007);
        due("4: 2 ahead of 1", told("n123456k"), -2006);
        due("4: 1 ahead of 2", told("nkk123456"), -1002);
        due("4: 5 ahead of 2", told("n[[[[[[[123456"), -5007);
        due("4: 2 ahead of 5", told("n123456+[[[[[[["), -2006);
        due("4: 1 ahead of 4", told("x(1=1);".repeat(15) + "x(1=);n"), -1109);
        due("4: a fault in the 16th", told("n1(1=1);".repeat(15) + "y"), -1120);
    }

    private static void inPlaceOfTheOneBefore() {
        LineGuild g = new LineGuild();
        g.end(0, 1, 7, 1, 1);
        due("4: none at first", g.endIs(0, 4), 0);
        law(g, "p5(1=1);g6(1=1)");
        due("4: p", g.endIs(0, 4), 5);
        due("4: a fault", Checks.law(g, "p9(1=1);"), -1008);
        due("4: the one before stays", g.endIs(0, 4), 5);
        due("4: the one before stays", g.count(7), 2);
        law(g, "pc(1=1)");
        due("4: in its place", g.endIs(0, 4), 7);
        due("4: in its place", g.endIs(0, 5), 0);
        due("4: in its place", g.count(7), 1);
    }

    /** An E for n, p and g, and what it comes to beyond their bounds. */
    private static void bounded(String e, int n, int p, int g) {
        LineGuild guild = new LineGuild();
        Checks.story(guild, 0, "a");
        guild.teller(0, 0, 0);
        guild.end(0, 1, 0, 1, 1);
        law(guild, "n" + e + "(1=1);p" + e + "(1=1);g" + e + "(1=1)");
        due("4: n of " + e, guild.tellerIs(0, 5), n);
        due("4: p of " + e, guild.endIs(0, 4), p);
        due("4: g of " + e, guild.endIs(0, 5), g);
    }

    private static void boundsOfAnswers() {
        bounded("0", 0, 0, 0);
        bounded("1", 1, 1, 1);
        bounded("0-1", 0, 0, 0);
        bounded("9", 9, 9, 9);
        bounded("10", 10, 10, 10);
        bounded("11", 11, 11, 10);
        bounded("19", 19, 19, 10);
        bounded("20", 20, 20, 10);
        bounded("21", 20, 21, 10);
        bounded("998", 20, 998, 10);
        bounded("999", 20, 999, 10);
        bounded("1000", 20, 999, 10);
        bounded("99999", 20, 999, 10);
        bounded(MOST, 20, 999, 10);
        bounded(LEAST, 0, 0, 0);
        bounded("0-99999", 0, 0, 0);
        bounded("65536*65536", 0, 0, 0);
    }

    /** Teller 1 of story 0, whose turns 0 to 2 were told; listener 6, 61 years old, tired by 4; evening 5. */
    private static LineGuild fifthEvening(String story, String until) {
        LineGuild g = new LineGuild();
        Checks.story(g, 0, story);
        g.end(7, 511, 13, 8, 1);
        g.teller(1, 0, 40);
        g.listener(6, 1, 61);
        law(g, "n1(v<" + until + ");t4(v=0);p999(1=1)");
        g.evenings(5);
        return g;
    }

    private static int tiredBy(String clauses) {
        LineGuild g = fifthEvening("ab.....", "3");
        law(g, clauses);
        return g.tried(1, 36);
    }

    private static int restedBy(String clauses) {
        LineGuild g = fifthEvening("aA.....", "3");
        law(g, clauses);
        return g.tried(1, 36);
    }

    private static void boundsOfTired() {
        due("4: t, no clause", tiredBy("s9(1=1)"), 4);
        due("4: t", tiredBy("t0(1=1)"), 4);
        due("4: t", tiredBy("t4(1=1)"), 8);
        due("4: t", tiredBy("t5(1=1)"), 9);
        due("8: 9 at most", tiredBy("t6(1=1)"), 9);
        due("4: the bound of t", tiredBy("t10(1=1)"), 9);
        due("4: the bound of t", tiredBy("t" + MOST + "(1=1)"), 9);
        due("4: t is 0 at least", tiredBy("t0-1(1=1)"), 4);
        due("4: t is 0 at least", tiredBy("t" + LEAST + "(1=1)"), 4);
        due("4: s, no clause", restedBy("t9(1=1)"), 4);
        due("4: s", restedBy("s0(1=1)"), 4);
        due("4: s", restedBy("s3(1=1)"), 1);
        due("4: s", restedBy("s4(1=1)"), 0);
        due("8: 0 at least", restedBy("s5(1=1)"), 0);
        due("4: the bound of s", restedBy("s10(1=1)"), 0);
        due("4: the bound of s", restedBy("s" + MOST + "(1=1)"), 0);
        due("4: s is 0 at least", restedBy("s0-1(1=1)"), 4);
        due("4: s is 0 at least", restedBy("s" + LEAST + "(1=1)"), 4);
        LineGuild g = fifthEvening("aA.....", "1");
        law(g, "t9(1=1)");
        g.evenings(1);
        due("8: at 9", g.listenerIs(6, 2), 9);
        law(g, "n9(1=1);s9(1=1)");
        due("4: s of 9", g.tried(1, 36), 0);
        law(g, "n9(1=1);s8(1=1)");
        due("4: s of 8", g.tried(1, 36), 1);
    }

    private static int givenBy(String clauses) {
        LineGuild g = fifthEvening("aA.", "2");
        law(g, "n1(1=1);" + clauses);
        due("the purse", g.tried(1, 11) - 40, g.tried(1, 6));
        return g.tried(1, 6);
    }

    private static void boundsOfGifts() {
        due("4: f, no clause", givenBy("g9(1=1)"), 0);
        due("4: f", givenBy("f0(1=1)"), 0);
        due("4: f", givenBy("f1(1=1)"), 1);
        due("4: f", givenBy("f98(1=1)"), 98);
        due("4: f", givenBy("f99(1=1)"), 99);
        due("4: the bound of f", givenBy("f100(1=1)"), 99);
        due("4: the bound of f", givenBy("f" + MOST + "(1=1)"), 99);
        due("4: f is 0 at least", givenBy("f0-1(1=1)"), 0);
        due("4: f is 0 at least", givenBy("f" + LEAST + "(1=1)"), 0);
    }

    private static int penceBy(String law) {
        LineGuild g = new LineGuild();
        g.end(9, 1, 7, 3, 1);
        law(g, law);
        return g.endIs(9, 4);
    }

    private static void firstClauseThatHolds() {
        due("4: the first", penceBy("p1(1=1);p2(1=1)"), 1);
        due("4: the first of p", penceBy("n1(1=1);g2(1=1);x(1=1);p3(1=1);p4(1=1)"), 3);
        due("4: the first that holds", penceBy("p1(e=8);p2(c=6);p3(e=9);p4(1=1)"), 3);
        due("4: none holds", penceBy("p1(e=8);p2(c=6)"), 0);
        due("4: none of p", penceBy("n1(1=1)"), 0);
        due("4: the 16th", penceBy("p1(1=2);".repeat(15) + "p9(1=1)"), 9);
        due("4: the 16th, behind one that is refused", penceBy("p1/0(1/0=1);" + "p1(1=2);".repeat(14) + "p9(1=1)"), 9);
        due("4: the first of sixteen", penceBy("p9(1=1);" + "p1(1=1);".repeat(14) + "p2(1=1)"), 9);
        due("4: the first, though it comes to 0", penceBy("p0(1=1);p5(1=1)"), 0);
        due("4: the first, though it is refused", penceBy("p5/[c-7](1=1);p5(1=1)"), 0);
        due("4: not one whose C is refused", penceBy("p5(c/[c-7]=1);p6(1=1)"), 6);
    }

    private static int goneBy(String law) {
        LineGuild g = fifthEvening("ab.....", "3");
        law(g, law);
        return g.tried(1, 4);
    }

    private static void anyClauseOfX() {
        due("4: without an x none goes", goneBy("n1(1=1)"), 0);
        due("4: x", goneBy("x(1=1)"), 1);
        due("4: x", goneBy("x(1=2)"), 0);
        due("4: any will do, the last", goneBy("x(1=2);x(1/0=1);x(1=1)"), 1);
        due("4: any will do, the first", goneBy("x(1=1);x(1=2)"), 1);
        due("4: none holds", goneBy("x(1=2);x(1/0=1)"), 0);
        due("4: behind others", goneBy("t0(1=1);s1(1=1);f1(1=1);x(1=1)"), 1);
    }

    /** That a letter stands for a number: with it the clause holds, with one more it does not. */
    private interface Asked {
        int by(String condition);
    }

    private static void letters(String kind, int[] values, int held, int not, Asked asked) {
        for (int i = 0; i < 12; i++) {
            char letter = LETTERS.charAt(i);
            String what = "4: " + letter + " in " + kind;
            due(what, asked.by("(" + letter + "=" + values[i] + ")"), held);
            due(what + ", one more", asked.by("(" + letter + "=" + (values[i] + 1) + ")"), not);
        }
    }

    private static void lettersOfTellers() {
        letters("n", new int[] {1, 3, 40, 2, 0, 0, 0, 0, 0, 0, 0, 5}, 7, 0, c -> {
            LineGuild g = fifthEvening("ab.....", "3");
            law(g, "n7" + c);
            return g.tellerIs(1, 5);
        });
    }

    private static void lettersOfEnds() {
        int[] values = {0, 0, 0, 0, 0, 0, 0, 7, 13, 8, 9, 5};
        letters("p", values, 7, 0, c -> {
            LineGuild g = fifthEvening("ab.....", "3");
            law(g, "p7" + c);
            return g.endIs(7, 4);
        });
        letters("g", values, 7, 0, c -> {
            LineGuild g = fifthEvening("ab.....", "3");
            law(g, "g7" + c);
            return g.endIs(7, 5);
        });
        letters("p of an evening", values, 7, 0, c -> {
            LineGuild g = fifthEvening("ab.", "3");
            law(g, "p7" + c);
            return g.tried(1, 0);
        });
        letters("g of an evening", values, 1, 0, c -> {
            LineGuild g = fifthEvening("ab.", "3");
            law(g, "g10" + c);
            return g.tried(1, 2);
        });
    }

    private static void lettersOfTires() {
        letters("t", new int[] {1, 3, 40, 2, 6, 61, 4, 0, 0, 0, 0, 5}, 7, 4, c -> tiredBy("t3" + c));
    }

    private static void lettersOfGoes() {
        int[] values = {1, 3, 40, 2, 6, 61, 4, 0, 0, 0, 0, 5};
        letters("x", values, 1, 0, c -> goneBy("x" + c));
        values[6] = 7;
        letters("x, more tired then", values, 1, 0, c -> goneBy("t3(1=1);x" + c));
        values[6] = 0;
        values[3] = 0;
        letters("x, rested then", values, 1, 0, c -> {
            LineGuild g = fifthEvening("aA.....", "3");
            law(g, "s5(1=1);x" + c);
            return g.tried(1, 4);
        });
    }

    private static void lettersOfRests() {
        letters("s", new int[] {1, 3, 40, 0, 6, 61, 4, 0, 0, 0, 0, 5}, 1, 4, c -> restedBy("s3" + c));
    }

    private static void lettersOfGifts() {
        letters("f", new int[] {1, 3, 40, 0, 6, 61, 4, 0, 0, 0, 0, 5}, 7, 0, c -> givenBy("f7" + c));
    }

    private static boolean holds(String condition) {
        LineGuild g = new LineGuild();
        g.end(9, 1, 7, 3, 1);
        law(g, "p1(" + condition + ")");
        return g.endIs(9, 4) == 1;
    }

    private static void so(String condition) {
        due("4: " + condition, holds(condition) ? 1 : 0, 1);
    }

    private static void notSo(String condition) {
        due("4: not " + condition, holds(condition) ? 1 : 0, 0);
    }

    private static void thirtyTwoBits() {
        so(LEAST + "<0");
        so(MOST + ">0");
        so(MOST + "+1=" + LEAST);
        so(LEAST + "-1=" + MOST);
        so("0-" + LEAST + "=" + LEAST);
        so(LEAST + "*[0-1]=" + LEAST);
        so(LEAST + "/[0-1]=" + LEAST);
        so(LEAST + "%[0-1]=0");
        so("65536*65536=0");
        so("99999*99999=14098*50000*2+65409");
        so(LEAST + "<1");
        so("1>" + LEAST);
        so(MOST + ">0-1");
        so("0-1<" + MOST);
        notSo(LEAST + ">1");
        notSo(MOST + "<0-1");
        so(MOST + "*2=0-2");
        so(MOST + "*" + MOST + "=1");
        so("[0-7]/2=0-3");
        so("7/[0-2]=0-3");
        so("[0-7]%4=0-3");
        so("7%[0-4]=3");
        so("[0-7]/[0-2]=3");
    }

    private static void fromTheLeft() {
        so("10-3-2=5");
        so("10-3+2=9");
        so("100/10/5=2");
        so("100/10*5=50");
        so("7*10/4=17");
        so("10/4*7=14");
        so("17%10*3=21");
        so("3*17%10=1");
        so("100%7%2=0");
        so("2+3*4=14");
        so("2*3+4*5-6/2=23");
        so("[2+3]*4=20");
        so("20-[3-2]=19");
        so("00012=12");
        so("1+1=2+0");
        so("c*100+z*10+h=731");
    }

    private static void divisionByNothing() {
        due("4: the whole E is 0", penceBy("p9+1/0(1=1)"), 0);
        due("4: the whole E is 0", penceBy("p9+1%0(1=1)"), 0);
        due("4: the whole E is 0", penceBy("p1/[c-7]+9(1=1)"), 0);
        due("4: the whole E is 0", penceBy("p0*[1/v]+9(1=1)"), 0);
        due("4: 0 divided", penceBy("p0/0+9(1=1)"), 0);
        due("4: 0 divided by something", penceBy("p0/5+9(1=1)"), 9);
        notSo("1/0=1");
        notSo("1/0=0");
        notSo("1/0<1");
        notSo("1%0>0-1");
        notSo("!1/0=1");
        notSo("!!1/0=0");
        notSo("1=1/0");
        notSo("!(1=1&1/0=1)");
        notSo("1/0=1|1=1");
        notSo("1=1&1/0=0");
        notSo("1=2|1/0=0");
        notSo("(1/0=1)|1=1");
        notSo("(1=1&1/0=1)|1=1");
        notSo("1=2&1=1|1/0=1|1=1");
    }

    private static void asMuchAsMatters() {
        so("1=1|1/0=1");
        so("(1=1|1/0=1)&1=1");
        so("1=2&1/0=1|1=1");
        so("!(1=2&1/0=1)");
        so("1=1|1=2&1/0=1");
        so("1=1|(1/0=1)");
        so("1=1&1=1|1/0=1");
        so("1=2&(1/0=1|1=1)|1=1");
        so("1=2&1/0=1&1/0=2|1=1");
        so("1=1|1/0=1|1/0=2");
        so("(1=2|1=1|1/0=1)&!(1=2&1=1&1/0=1)");
        so("!(1=2)|1/0=1");
        so("!1=2|1/0=1");
        notSo("1=2&1/0=1");
        notSo("!1=1&1/0=1");
        notSo("!(1=1|1/0=1)");
        notSo("1<1&1/0=1|1>1");
    }

    private static void partsAndTests() {
        so("1=2&1=2|1=1");
        so("1=1|1=1&1=2");
        so("1=2|1=2|1=1");
        notSo("1=2|1=2|1=2");
        notSo("1=1&1=1&1=2");
        notSo("(1=1|1=1)&1=2");
        so("1=1&(1=2|1=1)");
        so("!1=2&1=1");
        notSo("!1=2&1=2");
        notSo("!(1=2)&1=2");
        so("!(1=2&1=2)");
        so("!(1=1)|1=1");
        notSo("!(1=1|1=1)");
        notSo("!1=1|1=2");
        so("!!1=1");
        notSo("!!!1=1");
        so("1<2");
        notSo("2<2");
        notSo("3<2");
        so("2>1");
        notSo("2>2");
        notSo("1>2");
        so("2=2");
        notSo("1=2");
        notSo("2=1");
        so("((((1=1))))");
    }
}
