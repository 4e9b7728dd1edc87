import java.util.Random;

/** Runs of calls drawn by a fixed seed, on the program and on the model beside it, each on a new object. */
public final class ModelTest {
    /** An object is used for at most 512 calls; no step of a run makes more than a hundred. */
    private static final int LAST_STEP = 512 - 100;

    private final Random dice;
    private final Checks checks;
    private final LineGuild guild = new LineGuild();
    private final Model model = new Model();
    private final StringBuilder run = new StringBuilder();
    private int calls = 0;
    private int endsKept = -1;

    private ModelTest(long seed, Checks checks) {
        this.dice = new Random(seed);
        this.checks = checks;
    }

    public static void main(String[] args) {
        int runs = args.length > 0 ? Integer.parseInt(args[0]) : 4000;
        long seed = args.length > 1 ? Long.parseLong(args[1]) : 1;
        Checks checks = new Checks("ModelTest");
        for (int i = 0; i < runs; i++) {
            ModelTest test = new ModelTest(seed * 1000003 + i, checks);
            test.go(i % 3);
            checks.due("calls of a run", test.calls <= 512, true);
            if (checks.wrongOnes() != 0) {
                System.out.println("run " + i + ":" + test.run);
                break;
            }
        }
        checks.finish();
    }

    private int upTo(int most) {
        return dice.nextInt(most + 1);
    }

    /** Mostly a number within bounds, now and then one beside them. */
    private int about(int least, int most) {
        int how = upTo(60);
        if (how == 0) {
            return least - 1;
        }
        if (how == 1) {
            return most + 1;
        }
        if (how == 2) {
            return dice.nextInt();
        }
        return how == 3 ? least : how == 4 ? most : least + upTo(most - least);
    }

    private void due(String call, long got, long want) {
        calls++;
        run.append('\n').append(call).append(" -> ").append(got);
        checks.due(call, got, want);
    }

    private void due(String call, boolean got, boolean want) {
        due(call, got ? 1 : 0, want ? 1 : 0);
    }

    private void go(int kind) {
        for (int i = 0; i < 6; i++) {
            if (upTo(2) != 0) {
                tellStory(i);
            }
        }
        for (int i = 0; i < 10; i++) {
            if (upTo(2) != 0) {
                tellEnd(i);
            }
        }
        passLaw();
        for (int i = 0; i < 4; i++) {
            tellTeller(i);
        }
        for (int i = 0; i < 10; i++) {
            tellListener(i);
        }
        while (calls < LAST_STEP && checks.wrongOnes() == 0) {
            if (kind == 0 && upTo(1) == 0) {
                change();
            } else if (kind == 1 && upTo(2) != 0) {
                goOn();
            } else {
                ask();
            }
        }
    }

    private void put(String text) {
        int words = (text.length() + 19) / 20 * 5;
        int[] word = new int[words];
        for (int i = 0; i < words * 4; i++) {
            int next = i < text.length() ? text.charAt(i) : dice.nextInt(256);
            word[i / 4] = word[i / 4] << 8 | next;
        }
        for (int i = 0; i < words; i += 5) {
            int[] w = {word[i], word[i + 1], word[i + 2], word[i + 3], word[i + 4]};
            due("feed(" + w[0] + ", " + w[1] + ", " + w[2] + ", " + w[3] + ", " + w[4] + ")",
                guild.feed(w[0], w[1], w[2], w[3], w[4]), model.feed(w[0], w[1], w[2], w[3], w[4]));
        }
    }

    private String storyText(int depth) {
        StringBuilder b = new StringBuilder();
        String letters = upTo(1) == 0 ? "aabbAB*." : "abcdefghijABCDEFGHIJ*.**";
        int many = 1 + upTo(depth == 0 ? 12 : 4);
        for (int i = 0; i < many; i++) {
            if (upTo(4) == 0) {
                b.append((char) ('2' + upTo(depth == 0 ? 3 : 1 + upTo(7))));
            }
            if (upTo(5) == 0 && (depth < 2 || upTo(30) == 0)) {
                b.append('(').append(storyText(depth + 1)).append(')');
            } else {
                b.append(letters.charAt(upTo(letters.length() - 1)));
            }
        }
        return b.toString();
    }

    private String spoilt(String text, String signs) {
        if (upTo(11) != 0) {
            return text;
        }
        StringBuilder b = new StringBuilder(text);
        int at = upTo(b.length() - 1);
        int how = upTo(2);
        if (how == 0) {
            b.setCharAt(at, signs.charAt(upTo(signs.length() - 1)));
        } else if (how == 1) {
            b.insert(at, signs.charAt(upTo(signs.length() - 1)));
        } else if (b.length() > 1) {
            b.deleteCharAt(at);
        }
        return b.toString();
    }

    private void tellStory(int k) {
        String text = spoilt(storyText(0), "a(*)9.(5 J");
        text = text.length() > 80 ? text.substring(0, 80) : text;
        text = model.isPlain(text) ? text : "a*B.";
        clearTape(text.length());
        put(text);
        int n = upTo(40) == 0 ? about(1, 80) : text.length();
        due("story(" + k + ", " + n + ") " + text, guild.story(k, n), model.story(k, n));
    }

    private void clearTape(int room) {
        if (model.count(8) != 0 && (upTo(3) != 0 || model.count(8) + room > 240)) {
            for (int i = 0; i < 26 && model.count(8) != 0; i++) {
                due("check(0)", guild.check(0), model.check(0));
            }
        }
    }

    private String number() {
        int how = upTo(40);
        if (how == 0 && upTo(9) == 0) {
            return "123456";
        }
        return how == 0 ? "99999" : how == 1 ? "00007" : how < 5 ? "" + upTo(9999) : how < 9 ? "0" : "" + upTo(20);
    }

    private String sum(int depth, String letters) {
        StringBuilder b = new StringBuilder();
        int many = 1 + upTo(upTo(2));
        for (int i = 0; i < many; i++) {
            if (i > 0) {
                b.append("+-*/%".charAt(upTo(4)));
            }
            if (depth > 0 && upTo(6) == 0) {
                b.append('[').append(sum(depth - 1, letters)).append(']');
            } else if (upTo(1) == 0) {
                b.append(letters.charAt(upTo(letters.length() - 1)));
            } else {
                b.append(number());
            }
        }
        return b.toString();
    }

    private String condition(int depth, String letters) {
        StringBuilder b = new StringBuilder();
        int many = 1 + upTo(upTo(2));
        for (int i = 0; i < many; i++) {
            if (i > 0) {
                b.append("|&".charAt(upTo(1)));
            }
            while (depth > 0 && upTo(5) == 0) {
                b.append('!');
            }
            if (depth > 0 && upTo(5) == 0) {
                b.append('(').append(condition(depth - 1, letters)).append(')');
            } else {
                b.append(sum(depth - 1, letters)).append("<>=".charAt(upTo(2))).append(sum(depth - 1, letters));
            }
        }
        return b.toString();
    }

    private String lawText() {
        StringBuilder b = new StringBuilder();
        int many = 1 + upTo(8);
        boolean isShort = upTo(20) == 0;
        for (int i = 0; i < (isShort ? 17 : many); i++) {
            char letter = "nnptsfgx".charAt(upTo(7));
            String letters = letter == 'n' ? "kumov" : letter == 'p' || letter == 'g' ? "eczhv" : "kumolarv";
            letters = upTo(5) == 0 ? "kumolareczhv" : letters;
            b.append(i == 0 ? "" : ";").append(letter);
            if (letter != 'x') {
                b.append(isShort ? "1" : sum(upTo(3), letters));
            }
            b.append('(').append(isShort ? "1=1" : upTo(2) == 0 ? "1=1" : condition(upTo(6), letters)).append(')');
        }
        return b.toString();
    }

    /** Something for each letter when no clause of a law holds, so that the evenings are busy. */
    private String rest() {
        return ";n" + (1 + upTo(9)) + "(v%7<6);p" + upTo(40) + "+e*z(1=1);t" + upTo(3) + "+k%2(1=1);s" + upTo(3)
            + "(r<8);f" + upTo(9) + "+a/9(m<9990);g" + upTo(9) + "(1=1)";
    }

    private void passLaw() {
        String text = lawText();
        for (int i = 0; i < 50 && text.length() > 225; i++) {
            text = lawText();
        }
        if (upTo(2) != 0 && text.length() < 140) {
            text = (upTo(1) == 0 ? text : "x(r>8&u%3=0)") + rest();
        }
        text = spoilt(spoilt(text, "(![)]x;&1<a9"), "(![)]x;&1<a9");
        text = text.length() > 240 ? text.substring(0, 240) : text;
        clearTape(text.length());
        put(text);
        int n = upTo(40) == 0 ? about(1, 240) : text.length();
        due("law(" + n + ") " + text, guild.law(n), model.law(n));
    }

    private void tellEnd(int e) {
        int threads = upTo(2) == 0 ? about(1, 1023) : upTo(1) == 0 ? 1 << upTo(9) | 1 << upTo(4) : about(1, 15);
        int price = about(0, 99);
        int stock = about(0, 9);
        int days = about(1, 30);
        due("end(" + e + ", " + threads + ", " + price + ", " + stock + ", " + days + ")",
            guild.end(e, threads, price, stock, days), model.end(e, threads, price, stock, days));
    }

    private void tellTeller(int k) {
        int story = about(0, 5);
        int purse = upTo(6) == 0 ? 9999 - upTo(60) : upTo(1) == 0 ? upTo(2000) : about(0, 9999);
        due("teller(" + k + ", " + story + ", " + purse + ")", guild.teller(k, story, purse),
            model.teller(k, story, purse));
    }

    private void tellListener(int l) {
        int teller = about(0, 3);
        int age = about(0, 99);
        due("listener(" + l + ", " + teller + ", " + age + ")", guild.listener(l, teller, age),
            model.listener(l, teller, age));
    }

    private void change() {
        switch (upTo(9)) {
            case 0: tellStory(about(0, 5)); break;
            case 1: passLaw(); break;
            case 2: tellEnd(about(0, 9)); break;
            case 3: tellTeller(about(0, 3)); break;
            case 4: tellListener(about(0, 9)); break;
            case 5: due("copy()", guild.copy(), model.copy()); break;
            case 6:
                int x = about(0, 65535);
                due("seed(" + x + ")", guild.seed(x), model.seed(x));
                break;
            case 7:
                if (upTo(3) == 0) {
                    due("keep()", guild.keep(), model.keep());
                    endsKept = model.count(4);
                }
                break;
            case 8:
                // What undo() makes of the stock of an end that was told later the document leaves open.
                if (upTo(1) == 0 && (endsKept < 0 || endsKept == model.count(4))) {
                    due("undo()", guild.undo(), model.undo());
                }
                break;
            default: goOn(); break;
        }
    }

    private void goOn() {
        int n = upTo(5) == 0 ? about(1, 60) : 1 + upTo(3);
        int k = about(0, 3);
        int e = about(0, 9);
        int what = whatOfTried();
        switch (upTo(5)) {
            case 0: due("evenings(" + n + ")", guild.evenings(n), model.evenings(n)); break;
            case 1: due("buys(" + k + ", " + e + ")", guild.buys(k, e), model.buys(k, e)); break;
            case 2: due("tried(" + n + ", " + what + ")", guild.tried(n, what), model.tried(n, what)); break;
            case 3: due("other(" + n + ", " + what + ")", guild.other(n, what), model.other(n, what)); break;
            case 4:
                int which = about(0, 1);
                due("first(" + n + ", " + which + ")", guild.first(n, which), model.first(n, which));
                break;
            default: tellEnd(e); break;
        }
        lookAround();
    }

    private int whatOfTried() {
        int how = upTo(3);
        return how == 0 ? about(0, 6) : how == 1 ? about(10, 13) : how == 2 ? about(20, 23) : about(30, 39);
    }

    /** Asks of some things how they stand. */
    private void lookAround() {
        for (int i = 0; i < 6; i++) {
            int k = upTo(3);
            int what = upTo(5);
            due("tellerIs(" + k + ", " + what + ")", guild.tellerIs(k, what), model.tellerIs(k, what));
            int l = upTo(9);
            int of = upTo(2);
            due("listenerIs(" + l + ", " + of + ")", guild.listenerIs(l, of), model.listenerIs(l, of));
            int e = upTo(9);
            int now = 2 + upTo(3);
            due("endIs(" + e + ", " + now + ")", guild.endIs(e, now), model.endIs(e, now));
        }
        for (int what : new int[] {0, 1, 2, 9}) {
            due("count(" + what + ")", guild.count(what), model.count(what));
        }
    }

    private void ask() {
        switch (upTo(15)) {
            case 0: askStoryIs(); break;
            case 1: askOpen(); break;
            case 2: askOfOne(); break;
            case 3: askCheapest(); break;
            case 4: askFitting(); break;
            case 5: askWouldDo(); break;
            case 6: askSeries(); break;
            case 7: due("knots()", guild.knots(), model.knots()); break;
            case 8: askWinter(); break;
            case 9: askLent(); break;
            case 10: askForged(); break;
            case 11: askYawns(); break;
            case 12: askBook(); break;
            case 13: askCheck(); break;
            case 14: askCount(); break;
            default: goOn(); break;
        }
    }

    private void askStoryIs() {
        int k = about(0, 5);
        int what = about(0, 4);
        due("storyIs(" + k + ", " + what + ")", guild.storyIs(k, what), model.storyIs(k, what));
    }

    private void askOpen() {
        int k = about(0, 5);
        int turns = about(0, Math.max(0, model.storyIs(k, 0)));
        int threads = about(0, 1023);
        due("open(" + k + ", " + turns + ", " + threads + ")", guild.open(k, turns, threads),
            model.open(k, turns, threads));
    }

    private void askOfOne() {
        int k = about(0, 9);
        int what = about(0, 5);
        due("endIs(" + k + ", " + what + ")", guild.endIs(k, what), model.endIs(k, what));
        due("tellerIs(" + k + ", " + what + ")", guild.tellerIs(k, what), model.tellerIs(k, what));
        due("listenerIs(" + k + ", " + what + ")", guild.listenerIs(k, what), model.listenerIs(k, what));
    }

    private void askCheapest() {
        int threads = upTo(1) == 0 ? about(1, 1023) : 1 << upTo(9) | 1 << upTo(9);
        int what = about(0, 1);
        due("cheapest(" + threads + ", " + what + ")", guild.cheapest(threads, what), model.cheapest(threads, what));
    }

    private void askFitting() {
        int k = about(0, 5);
        int threads = upTo(1) == 0 ? 0 : about(0, 1023);
        int what = upTo(2) == 0 ? 100 : about(0, Math.max(0, model.fitting(k, threads, 100)));
        due("fitting(" + k + ", " + threads + ", " + what + ")", guild.fitting(k, threads, what),
            model.fitting(k, threads, what));
    }

    private void askWouldDo() {
        int k = about(0, 5);
        int e = about(0, 9);
        int what = about(0, 2);
        due("wouldDo(" + k + ", " + e + ", " + what + ")", guild.wouldDo(k, e, what), model.wouldDo(k, e, what));
    }

    private int someStories() {
        int told = Math.max(0, model.count(3));
        return upTo(9) == 0 ? about(0, 63) : told & (upTo(63) | upTo(63));
    }

    private void askSeries() {
        int stories = someStories();
        int what = upTo(1) == 0 ? about(0, Math.max(0, Integer.bitCount(stories) - 1)) : about(20, 21);
        due("series(" + stories + ", " + what + ")", guild.series(stories, what), model.series(stories, what));
    }

    private void askWinter() {
        int told = Integer.bitCount(model.count(4));
        StringBuilder b = new StringBuilder();
        for (int i = 0; i < Math.max(1, told); i++) {
            b.append((char) upTo(upTo(150) == 0 ? 11 : 10));
        }
        clearTape(20);
        for (int i = 0; i < 4; i++) {
            due("check(0)", guild.check(0), model.check(0));
            put(b.toString());
            int days = upTo(1) == 0 ? upTo(60) : about(0, 300);
            int n = upTo(9) == 0 ? about(1, 10) : told;
            int what = about(0, 2);
            due("winter(" + days + ", " + n + ", " + what + ")", guild.winter(days, n, what),
                model.winter(days, n, what));
        }
    }

    private void askLent() {
        int n = about(1, 8);
        StringBuilder b = new StringBuilder();
        int most = upTo(3) == 0 ? 99 : 1 + upTo(7);
        for (int i = 0; i < Math.min(8, Math.max(1, n)); i++) {
            int from = upTo(most);
            int to = upTo(20) == 0 ? upTo(most) : Math.min(most, from + upTo(3));
            b.append((char) (upTo(200) == 0 ? 100 : from)).append((char) (upTo(200) == 0 ? 100 : to));
        }
        for (int i = 0; i < 4; i++) {
            due("check(0)", guild.check(0), model.check(0));
            put(b.toString());
            int what = upTo(2) == 0 ? 20 : about(0, Math.max(0, n - 1) % 100);
            due("lent(" + n + ", " + what + ")", guild.lent(n, what), model.lent(n, what));
        }
    }

    private void askForged() {
        int told = model.count(4);
        int which = upTo(9) == 0 ? about(1, 1023) : told & (upTo(1023) | upTo(1023));
        int sniffed = upTo(1) == 0 ? about(0, 1023) : 1 << upTo(9) | 1 << upTo(3);
        int smelt = upTo(1) == 0 ? -1 : about(0, 9);
        int what = about(0, 1);
        due("forged(" + which + ", " + sniffed + ", " + smelt + ", " + what + ")",
            guild.forged(which, sniffed, smelt, what), model.forged(which, sniffed, smelt, what));
    }

    private void askYawns() {
        int k = about(0, 5);
        int turns = Math.max(0, model.storyIs(k, 0));
        int n = upTo(1) == 0 ? about(1, 20) : 1 + upTo(3);
        int e = upTo(9);
        StringBuilder b = new StringBuilder();
        if (turns > 0 && model.endIs(e, 0) > 0) {
            String heard = model.heard(k, e, 1 + upTo(turns - 1));
            b.append(heard.substring(Math.max(0, Math.min(turns, turns - n))));
        }
        for (int what = -1; what < 2; what++) {
            due("check(0)", guild.check(0), model.check(0));
            put(b.append(upTo(9) == 0 ? (char) 1 : (char) 0).toString());
            due("yawns(" + k + ", " + n + ", " + what + ")", guild.yawns(k, n, what), model.yawns(k, n, what));
        }
    }

    private void askBook() {
        int stories = someStories();
        int volumes = about(1, 3);
        int what = about(0, 2);
        due("book(" + stories + ", " + volumes + ", " + what + ")", guild.book(stories, volumes, what),
            model.book(stories, volumes, what));
    }

    private void askCheck() {
        StringBuilder b = new StringBuilder();
        for (int l = 0; l < 10; l++) {
            b.append((char) (upTo(15) == 0 ? upTo(9) : Math.max(0, model.listenerIs(l, 2))));
        }
        if (upTo(1) == 0) {
            due("check(0)", guild.check(0), model.check(0));
        }
        if (upTo(3) != 0) {
            put(b.toString());
        }
        int n = about(0, 10);
        due("check(" + n + ")", guild.check(n), model.check(n));
    }

    private void askCount() {
        int what = about(0, 9);
        due("count(" + what + ")", guild.count(what), model.count(what));
    }
}
