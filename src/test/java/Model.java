import java.util.ArrayList;
import java.util.Arrays;
import java.util.HashMap;
import java.util.List;
import java.util.Map;
import java.util.TreeSet;

/** The document once more, as plainly and as slowly as it can be written, to set beside the program. */
final class Model {
    private static final class Fault extends RuntimeException {
        private static final long serialVersionUID = 1L;
        final int answer;

        Fault(int number, int place) {
            super("", null, false, false);
            answer = -1000 * number - place;
        }
    }

    private static final class Refused extends RuntimeException {
        private static final long serialVersionUID = 1L;

        Refused() {
            super("", null, false, false);
        }
    }

    private static final class Teller {
        int story;
        int purse;
        int turn;
        TreeSet<Integer> open = new TreeSet<>();

        Teller twin() {
            Teller t = new Teller();
            t.story = story;
            t.purse = purse;
            t.turn = turn;
            t.open.addAll(open);
            return t;
        }
    }

    private static final class Listener {
        int teller;
        int age;
        int tired;

        Listener twin() {
            Listener l = new Listener();
            l.teller = teller;
            l.age = age;
            l.tired = tired;
            return l;
        }
    }

    private static final class End {
        TreeSet<Integer> threads = new TreeSet<>();
        int price;
        int days;
    }

    private static final class Town {
        Teller[] tellers = new Teller[4];
        Listener[] listeners = new Listener[10];
        int[] stock = new int[10];
        int evening;
        int ill;
        int told;
        int x = 1;

        Town twin() {
            Town t = new Town();
            for (int i = 0; i < 4; i++) {
                t.tellers[i] = tellers[i] == null ? null : tellers[i].twin();
            }
            for (int i = 0; i < 10; i++) {
                t.listeners[i] = listeners[i] == null ? null : listeners[i].twin();
            }
            t.stock = stock.clone();
            t.evening = evening;
            t.ill = ill;
            t.told = told;
            t.x = x;
            return t;
        }
    }

    private final List<Integer> tape = new ArrayList<>();
    private final String[] stories = new String[6];
    private final End[] ends = new End[10];
    private List<String> law = new ArrayList<>();
    private List<String> copied = new ArrayList<>();
    private Town town = new Town();
    private Town kept = null;

    // ---- texts

    private String text = "";
    private int at = 0;

    private char sign() {
        return at < text.length() ? text.charAt(at) : (char) 999;
    }

    private String fromTape(int n) {
        StringBuilder b = new StringBuilder();
        for (int i = 0; i < n; i++) {
            b.append((char) (int) tape.get(i));
        }
        tape.clear();
        return b.toString();
    }

    /** Whether fault 6 is told alike if only the turns of one round are counted till it ends: the document leaves it open. */
    boolean isPlain(String told) {
        int[] answers = new int[2];
        for (int i = 0; i < 2; i++) {
            text = told;
            at = 0;
            countsAhead = i == 0;
            try {
                answers[i] = turns(0, 0).length();
            } catch (Fault f) {
                answers[i] = f.answer;
            }
        }
        countsAhead = true;
        return answers[0] == answers[1];
    }

    private boolean countsAhead = true;

    /** Writes out the turns; so many stand ahead of them already. */
    private String turns(int ahead, int depth) {
        String out = "";
        do {
            int start = at;
            int times = 1;
            if ("23456789".indexOf(sign()) >= 0) {
                times = sign() - '0';
                at++;
            }
            String once;
            if (sign() == '(') {
                if (depth == 2) {
                    throw new Fault(5, at);
                }
                at++;
                once = turns(countsAhead ? ahead + out.length() : 0, depth + 1);
                if (sign() != ')') {
                    throw new Fault(1, at);
                }
            } else if ("abcdefghijABCDEFGHIJ*.".indexOf(sign()) >= 0) {
                once = "" + sign();
            } else {
                throw new Fault(1, at);
            }
            at++;
            for (int i = 0; i < times; i++) {
                out += once;
            }
            if (ahead + out.length() > 72) {
                throw new Fault(6, start);
            }
        } while (depth == 0 ? at < text.length() : sign() != ')');
        return out;
    }

    private void due(char c) {
        if (sign() != c) {
            throw new Fault(1, at);
        }
        at++;
    }

    private List<String> clauses() {
        List<String> all = new ArrayList<>();
        while (true) {
            if ("nptsfgx".indexOf(sign()) < 0) {
                throw new Fault(1, at);
            }
            if (all.size() == 16) {
                throw new Fault(4, at);
            }
            int start = at;
            at++;
            if (text.charAt(start) != 'x') {
                checkSum(0);
            }
            checkGroup(0);
            all.add(text.substring(start, at));
            if (at == text.length()) {
                return all;
            }
            due(';');
        }
    }

    private void checkGroup(int depth) {
        if (sign() == '(' && depth == 6) {
            throw new Fault(5, at);
        }
        due('(');
        checkCondition(depth + 1);
        due(')');
    }

    private void checkCondition(int depth) {
        checkTest(depth);
        while (sign() == '|' || sign() == '&') {
            at++;
            checkTest(depth);
        }
    }

    private void checkTest(int depth) {
        if (sign() == '!') {
            if (depth == 6) {
                throw new Fault(5, at);
            }
            at++;
            checkTest(depth + 1);
        } else if (sign() == '(') {
            checkGroup(depth);
        } else {
            checkSum(depth);
            if ("<>=".indexOf(sign()) < 0) {
                throw new Fault(1, at);
            }
            at++;
            checkSum(depth);
        }
    }

    private void checkSum(int depth) {
        checkFactor(depth);
        while ("+-*/%".indexOf(sign()) >= 0) {
            at++;
            checkFactor(depth);
        }
    }

    private void checkFactor(int depth) {
        if (sign() == '[') {
            if (depth == 6) {
                throw new Fault(5, at);
            }
            at++;
            checkSum(depth + 1);
            due(']');
        } else if ("kumolareczhv".indexOf(sign()) >= 0) {
            at++;
        } else if (Character.isDigit(sign())) {
            for (int i = 0; i < 6 && sign() >= '0' && sign() <= '9'; i++) {
                if (i == 5) {
                    throw new Fault(2, at);
                }
                at++;
            }
        } else {
            throw new Fault(1, at);
        }
    }

    // ---- a law that is asked

    /** Where the first of some signs stands outside of all ( and [, from a place on, or -1; from the right if so told. */
    private static int outside(String s, String signs, boolean fromRight) {
        int depth = 0;
        int found = -1;
        for (int i = 0; i < s.length(); i++) {
            char c = s.charAt(i);
            if (c == '(' || c == '[') {
                depth++;
            } else if (c == ')' || c == ']') {
                depth--;
            } else if (depth == 0 && signs.indexOf(c) >= 0) {
                if (!fromRight) {
                    return i;
                }
                found = i;
            }
        }
        return found;
    }

    private static boolean holds(String s, Map<Character, Integer> facts) {
        int i = outside(s, "|", false);
        if (i >= 0) {
            return holds(s.substring(0, i), facts) || holds(s.substring(i + 1), facts);
        }
        i = outside(s, "&", false);
        if (i >= 0) {
            return holds(s.substring(0, i), facts) && holds(s.substring(i + 1), facts);
        }
        if (s.charAt(0) == '!') {
            return !holds(s.substring(1), facts);
        }
        if (s.charAt(0) == '(') {
            return holds(s.substring(1, s.length() - 1), facts);
        }
        i = outside(s, "<>=", false);
        int left = value(s.substring(0, i), facts);
        int right = value(s.substring(i + 1), facts);
        return s.charAt(i) == '<' ? left < right : s.charAt(i) == '>' ? left > right : left == right;
    }

    private static int value(String s, Map<Character, Integer> facts) {
        int i = outside(s, "+-", true);
        if (i < 0) {
            i = outside(s, "*/%", true);
        }
        if (i >= 0) {
            int left = value(s.substring(0, i), facts);
            int right = value(s.substring(i + 1), facts);
            char c = s.charAt(i);
            if ((c == '/' || c == '%') && right == 0) {
                throw new Refused();
            }
            return c == '+' ? left + right : c == '-' ? left - right : c == '*' ? left * right
                : c == '/' ? left / right : left % right;
        }
        if (s.charAt(0) == '[') {
            return value(s.substring(1, s.length() - 1), facts);
        }
        if (Character.isDigit(s.charAt(0))) {
            return Integer.parseInt(s);
        }
        return facts.getOrDefault(s.charAt(0), 0);
    }

    private static int ask(List<String> by, char letter, Map<Character, Integer> facts) {
        for (String clause : by) {
            if (clause.charAt(0) == letter) {
                int paren = clause.indexOf('(');
                boolean c;
                try {
                    c = holds(clause.substring(paren + 1, clause.length() - 1), facts);
                } catch (Refused r) {
                    c = false;
                }
                if (c && letter == 'x') {
                    return 1;
                }
                if (c) {
                    int e;
                    try {
                        e = value(clause.substring(1, paren), facts);
                    } catch (Refused r) {
                        e = 0;
                    }
                    int most = new int[] {20, 999, 9, 9, 99, 10}["nptsfg".indexOf(letter)];
                    return e < 0 ? 0 : e > most ? most : e;
                }
            }
        }
        return 0;
    }

    private int askTeller(Town t, List<String> by, char letter, int k) {
        Map<Character, Integer> facts = new HashMap<>();
        putTeller(t, facts, k);
        return ask(by, letter, facts);
    }

    private static void putTeller(Town t, Map<Character, Integer> facts, int k) {
        facts.put('v', t.evening);
        facts.put('k', k);
        facts.put('u', t.tellers[k].turn);
        facts.put('m', t.tellers[k].purse);
        facts.put('o', t.tellers[k].open.size());
    }

    private int askListener(Town t, List<String> by, char letter, int l) {
        Map<Character, Integer> facts = new HashMap<>();
        putTeller(t, facts, t.listeners[l].teller);
        facts.put('l', l);
        facts.put('a', t.listeners[l].age);
        facts.put('r', t.listeners[l].tired);
        if (letter == 'f') {
            facts.remove('o');
        }
        return ask(by, letter, facts);
    }

    private int askEnd(Town t, List<String> by, char letter, int e) {
        Map<Character, Integer> facts = new HashMap<>();
        facts.put('v', t.evening);
        facts.put('e', e);
        facts.put('c', ends[e].price);
        facts.put('z', t.stock[e]);
        facts.put('h', ends[e].threads.size());
        return ask(by, letter, facts);
    }

    // ---- stories and evenings

    private static int bits(Iterable<Integer> set) {
        int b = 0;
        for (int i : set) {
            b |= 1 << i;
        }
        return b;
    }

    private static TreeSet<Integer> set(int bits) {
        TreeSet<Integer> s = new TreeSet<>();
        for (int i = 0; i < 10; i++) {
            if ((bits >> i & 1) == 1) {
                s.add(i);
            }
        }
        return s;
    }

    private static void turn(char c, TreeSet<Integer> open) {
        if (c >= 'a' && c <= 'j') {
            open.add(c - 'a');
        } else if (c >= 'A' && c <= 'J') {
            open.remove(c - 'A');
        } else if (c == '*') {
            for (int i = 0; i < 10; i++) {
                if (!open.contains(i)) {
                    open.add(i);
                    return;
                }
            }
        }
    }

    private static void turns(String s, TreeSet<Integer> open) {
        for (char c : s.toCharArray()) {
            turn(c, open);
        }
    }

    /** Pence and ends (as bits), or null. */
    private int[] cheapestIn(Town t, List<String> by, TreeSet<Integer> wanted) {
        int[] best = null;
        int there = 0;
        for (int e = 0; e < 10; e++) {
            there |= ends[e] != null && t.stock[e] > 0 ? 1 << e : 0;
        }
        for (int chosen = 0; chosen < 1024; chosen++) {
            if ((chosen & ~there) != 0) {
                continue;
            }
            TreeSet<Integer> closed = new TreeSet<>();
            int pence = 0;
            for (int e : set(chosen)) {
                closed.addAll(ends[e].threads);
            }
            if (!closed.containsAll(wanted)) {
                continue;
            }
            for (int e : set(chosen)) {
                pence += askEnd(t, by, 'p', e);
            }
            int fewer = best == null ? 0 : Integer.bitCount(chosen) - Integer.bitCount(best[1]);
            if (best == null || pence < best[0] || pence == best[0] && fewer < 0) {
                best = new int[] {pence, chosen};
            }
        }
        return best;
    }

    private int pence;
    private int bought;
    private int forgedOnes;
    private int illOnes;
    private int went;
    private int toldOnes;
    private int given;
    private int[] firstIll;

    private int buy(Town t, List<String> by, int k, int e, int price) {
        int g = askEnd(t, by, 'g', e);
        t.tellers[k].purse -= price;
        t.stock[e]--;
        t.x = (int) ((25173L * t.x + 13849) % 65536);
        TreeSet<Integer> closing = new TreeSet<>(ends[e].threads);
        if (t.x % 10 < g) {
            closing.pollFirst();
            forgedOnes++;
        }
        pence += price;
        bought++;
        closing.retainAll(t.tellers[k].open);
        t.tellers[k].open.removeAll(closing);
        return bits(closing);
    }

    private void go(Town t, List<String> by, int n) {
        pence = bought = forgedOnes = illOnes = went = toldOnes = given = 0;
        firstIll = null;
        for (int i = 1; i <= n && t.evening < 9999; i++) {
            for (int k = 0; k < 4; k++) {
                if (t.tellers[k] != null) {
                    evening(t, by, k, i);
                }
            }
            t.evening++;
        }
    }

    private void evening(Town t, List<String> by, int k, int i) {
        Teller teller = t.tellers[k];
        String story = stories[teller.story];
        int n = askTeller(t, by, 'n', k);
        for (int j = 0; j < n && teller.turn < story.length(); j++) {
            turn(story.charAt(teller.turn), teller.open);
            teller.turn++;
        }
        if (teller.turn == story.length() && !teller.open.isEmpty()) {
            int[] way = cheapestIn(t, by, teller.open);
            if (way != null && way[0] <= teller.purse) {
                int[] prices = new int[10];
                for (int e : set(way[1])) {
                    prices[e] = askEnd(t, by, 'p', e);
                }
                for (int e : set(way[1])) {
                    buy(t, by, k, e, prices[e]);
                }
            }
        }
        for (int l = 0; l < 10; l++) {
            Listener listener = t.listeners[l];
            if (listener == null || listener.teller != k) {
                continue;
            }
            if (teller.open.isEmpty()) {
                listener.tired = Math.max(0, listener.tired - askListener(t, by, 's', l));
            } else if (listener.tired < 9) {
                listener.tired = Math.min(9, listener.tired + askListener(t, by, 't', l));
                if (listener.tired == 9) {
                    t.ill++;
                    illOnes++;
                    firstIll = firstIll == null ? new int[] {l, i} : firstIll;
                }
            }
            if (askListener(t, by, 'x', l) == 1) {
                listener.teller = -2;
                went++;
            }
        }
        if (teller.turn == story.length() && teller.open.isEmpty()) {
            for (int l = 0; l < 10; l++) {
                if (t.listeners[l] != null && t.listeners[l].teller == k) {
                    int before = teller.purse;
                    teller.purse = Math.min(9999, before + askListener(t, by, 'f', l));
                    given += teller.purse - before;
                }
            }
            t.told++;
            toldOnes++;
            teller.turn = 0;
        }
    }

    // ---- the face

    int feed(int a, int b, int c, int d, int e) {
        if (tape.size() + 20 > 260) {
            return -1;
        }
        for (int word : new int[] {a, b, c, d, e}) {
            tape.add(word >>> 24);
            tape.add(word >>> 16 & 255);
            tape.add(word >>> 8 & 255);
            tape.add(word & 255);
        }
        return tape.size();
    }

    int story(int k, int n) {
        if (k < 0 || k > 5 || n < 1 || n > 80 || n > tape.size()) {
            return -1;
        }
        text = fromTape(n);
        at = 0;
        try {
            String all = turns(0, 0);
            stories[k] = all;
            for (Teller t : town.tellers) {
                if (t != null && t.story == k) {
                    t.turn = 0;
                    t.open.clear();
                }
            }
            return all.length();
        } catch (Fault f) {
            return f.answer;
        }
    }

    int law(int n) {
        if (n < 1 || n > 240 || n > tape.size()) {
            return -1;
        }
        text = fromTape(n);
        at = 0;
        try {
            law = clauses();
            return law.size();
        } catch (Fault f) {
            return f.answer;
        }
    }

    boolean end(int e, int threads, int price, int stock, int days) {
        if (e < 0 || e > 9 || threads < 1 || threads > 1023 || price < 0 || price > 99 || stock < 0 || stock > 9
            || days < 1 || days > 30) {
            return false;
        }
        ends[e] = new End();
        ends[e].threads = set(threads);
        ends[e].price = price;
        ends[e].days = days;
        town.stock[e] = stock;
        return true;
    }

    private boolean told(int k) {
        return k >= 0 && k < 6 && stories[k] != null;
    }

    boolean teller(int k, int story, int purse) {
        if (k < 0 || k > 3 || !told(story) || purse < 0 || purse > 9999) {
            return false;
        }
        town.tellers[k] = new Teller();
        town.tellers[k].story = story;
        town.tellers[k].purse = purse;
        return true;
    }

    private boolean isTeller(int k) {
        return k >= 0 && k < 4 && town.tellers[k] != null;
    }

    private boolean isListener(int l) {
        return l >= 0 && l < 10 && town.listeners[l] != null;
    }

    private boolean isEnd(int e) {
        return e >= 0 && e < 10 && ends[e] != null;
    }

    boolean listener(int l, int teller, int age) {
        if (l < 0 || l > 9 || !isTeller(teller) || age < 0 || age > 99) {
            return false;
        }
        town.listeners[l] = new Listener();
        town.listeners[l].teller = teller;
        town.listeners[l].age = age;
        return true;
    }

    int evenings(int n) {
        if (n < 1 || n > 60) {
            return -1;
        }
        go(town, law, n);
        return pence;
    }

    int tried(int n, int what) {
        return tryBy(law, n, what);
    }

    int other(int n, int what) {
        return tryBy(copied, n, what);
    }

    private int tryBy(List<String> by, int n, int what) {
        if (n < 1 || n > 60) {
            return -1;
        }
        Town t = town.twin();
        go(t, by, n);
        if (what >= 0 && what <= 6) {
            return new int[] {pence, bought, forgedOnes, illOnes, went, toldOnes, given}[what];
        }
        if (what >= 10 && what < 14 && isTeller(what - 10)) {
            return t.tellers[what - 10].purse;
        }
        if (what >= 20 && what < 24 && isTeller(what - 20)) {
            return bits(t.tellers[what - 20].open);
        }
        return what >= 30 && what < 40 && isListener(what - 30) ? t.listeners[what - 30].tired : -1;
    }

    int copy() {
        copied = law;
        return law.size();
    }

    int first(int n, int what) {
        if (n < 1 || n > 60 || what < 0 || what > 1) {
            return -1;
        }
        go(town.twin(), law, n);
        return firstIll == null ? -2 : firstIll[what];
    }

    private int comes(int k) {
        TreeSet<Integer> in = new TreeSet<>();
        TreeSet<Integer> open = new TreeSet<>();
        for (char c : stories[k].toCharArray()) {
            TreeSet<Integer> before = new TreeSet<>(open);
            turn(c, open);
            if (Character.isLetter(c)) {
                in.add(Character.toLowerCase(c) - 'a');
            }
            if (c == '*') {
                TreeSet<Integer> fresh = new TreeSet<>(open);
                fresh.removeAll(before);
                in.addAll(fresh);
            }
        }
        return bits(in);
    }

    private void gather(int k, TreeSet<Integer> group) {
        if (group.add(k)) {
            for (int j = 0; j < 6; j++) {
                if (told(j) && (comes(j) & comes(k)) != 0) {
                    gather(j, group);
                }
            }
        }
    }

    int storyIs(int k, int what) {
        if (!told(k)) {
            return -1;
        }
        TreeSet<Integer> open = new TreeSet<>();
        int most = 0;
        for (char c : stories[k].toCharArray()) {
            turn(c, open);
            most = Math.max(most, open.size());
        }
        TreeSet<Integer> group = new TreeSet<>();
        gather(k, group);
        int[] all = {stories[k].length(), bits(open), most, comes(k), bits(group)};
        return what >= 0 && what < 5 ? all[what] : -1;
    }

    int open(int k, int turns, int threads) {
        if (!told(k) || turns < 0 || turns > stories[k].length() || threads < 0 || threads > 1023) {
            return -1;
        }
        TreeSet<Integer> open = set(threads);
        turns(stories[k].substring(0, turns), open);
        return bits(open);
    }

    int endIs(int e, int what) {
        if (!isEnd(e) || what < 0 || what > 5) {
            return -1;
        }
        return new int[] {bits(ends[e].threads), ends[e].price, town.stock[e], ends[e].days,
            askEnd(town, law, 'p', e), askEnd(town, law, 'g', e)}[what];
    }

    int tellerIs(int k, int what) {
        if (!isTeller(k) || what < 0 || what > 5) {
            return -1;
        }
        Teller t = town.tellers[k];
        TreeSet<Integer> bound = new TreeSet<>();
        for (int l = 0; l < 10; l++) {
            if (isListener(l) && town.listeners[l].teller == k) {
                bound.add(l);
            }
        }
        return new int[] {t.story, t.purse, t.turn, bits(t.open), bits(bound), askTeller(town, law, 'n', k)}[what];
    }

    int listenerIs(int l, int what) {
        if (!isListener(l) || what < 0 || what > 2) {
            return -1;
        }
        Listener x = town.listeners[l];
        return new int[] {x.teller, x.age, x.tired}[what];
    }

    int cheapest(int threads, int what) {
        if (threads < 1 || threads > 1023 || what < 0 || what > 1) {
            return -1;
        }
        int[] way = cheapestIn(town, law, set(threads));
        return way == null ? -2 : way[what];
    }

    int buys(int k, int e) {
        if (!isTeller(k) || !isEnd(e) || town.stock[e] == 0 || town.tellers[k].purse < askEnd(town, law, 'p', e)) {
            return -1;
        }
        return buy(town, law, k, e, askEnd(town, law, 'p', e));
    }

    private static boolean isLess(List<Integer> a, List<Integer> b) {
        for (int i = 0; i < a.size() && i < b.size(); i++) {
            if (!a.get(i).equals(b.get(i))) {
                return a.get(i) < b.get(i);
            }
        }
        return a.size() < b.size();
    }

    private List<Integer> fit(String s, int i, int open, int allowed, Map<Integer, List<Integer>> known) {
        if (i == s.length()) {
            return (open & ~allowed) == 0 ? new ArrayList<>() : null;
        }
        int key = i * 1024 + open;
        if (!known.containsKey(key)) {
            TreeSet<Integer> after = set(open);
            turn(s.charAt(i), after);
            List<Integer> told = fit(s, i + 1, bits(after), allowed, known);
            List<Integer> rest = fit(s, i + 1, open, allowed, known);
            List<Integer> left = null;
            if (rest != null) {
                left = new ArrayList<>(rest);
                left.add(0, i);
            }
            boolean takesLeft = told == null
                || left != null && (left.size() < told.size() || left.size() == told.size() && isLess(left, told));
            known.put(key, takesLeft ? left : told);
        }
        return known.get(key);
    }

    int fitting(int k, int threads, int what) {
        if (!told(k) || threads < 0 || threads > 1023) {
            return -1;
        }
        List<Integer> row = fit(stories[k], 0, 0, threads, new HashMap<>());
        if (what == 100) {
            return row.size();
        }
        return what >= 0 && what < row.size() ? row.get(what) : -4;
    }

    int wouldDo(int k, int e, int what) {
        if (!told(k) || !isEnd(e) || what < 0 || what > 2) {
            return -1;
        }
        List<Integer> where = new ArrayList<>();
        for (int i = 0; i <= stories[k].length(); i++) {
            TreeSet<Integer> open = new TreeSet<>();
            turns(stories[k].substring(0, i), open);
            if (!open.isEmpty() && ends[e].threads.containsAll(open)) {
                where.add(i);
            }
        }
        if (what == 0) {
            return where.size();
        }
        return where.isEmpty() ? -2 : where.get(what == 1 ? 0 : where.size() - 1);
    }

    private void orders(List<Integer> row, TreeSet<Integer> left, List<List<Integer>> all) {
        if (left.isEmpty()) {
            all.add(new ArrayList<>(row));
        }
        for (int k : left) {
            TreeSet<Integer> rest = new TreeSet<>(left);
            rest.remove(k);
            row.add(k);
            orders(row, rest, all);
            row.remove(row.size() - 1);
        }
    }

    private boolean allTold(int bits) {
        for (int i = 0; i < 32; i++) {
            if ((bits >>> i & 1) == 1 && !told(i)) {
                return false;
            }
        }
        return true;
    }

    int series(int bits, int what) {
        int many = Integer.bitCount(bits);
        if (!allTold(bits) || many < 2 || many > 5 || what != 20 && what != 21 && (what < 0 || what >= many)) {
            return -1;
        }
        List<List<Integer>> all = new ArrayList<>();
        orders(new ArrayList<>(), set(bits), all);
        List<Integer> best = null;
        int bestMost = 99;
        int bestEnd = 99;
        for (List<Integer> row : all) {
            TreeSet<Integer> open = new TreeSet<>();
            int most = 0;
            for (int k : row) {
                for (char c : stories[k].toCharArray()) {
                    turn(c, open);
                    most = Math.max(most, open.size());
                }
            }
            if (most < bestMost || most == bestMost && (open.size() < bestEnd
                || open.size() == bestEnd && isLess(row, best))) {
                best = row;
                bestMost = most;
                bestEnd = open.size();
            }
        }
        return what == 20 ? bestMost : what == 21 ? bestEnd : best.get(what);
    }

    int knots() {
        TreeSet<Integer> groups = new TreeSet<>();
        for (int k = 0; k < 6; k++) {
            if (told(k)) {
                groups.add(storyIs(k, 4));
            }
        }
        return groups.size();
    }

    int winter(int days, int n, int what) {
        int told = Integer.bitCount(count(4));
        if (days < 0 || days > 300 || what < 0 || what > 2 || n < 1 || n > 10 || n != told || n > tape.size()) {
            return -1;
        }
        String bytes = fromTape(n);
        int[] tenths = new int[10];
        int next = 0;
        for (int e = 0; e < 10; e++) {
            if (isEnd(e)) {
                tenths[e] = bytes.charAt(next);
                next++;
                if (tenths[e] > 10) {
                    bytes = null;
                    break;
                }
            }
        }
        if (bytes == null) {
            return -2;
        }
        int[] best = {0, 0, 0};
        for (int made = 1; made < 1024; made++) {
            if ((made & ~count(4)) != 0) {
                continue;
            }
            int worth = 0;
            int needs = 0;
            for (int e : set(made)) {
                worth += tenths[e] * ends[e].price;
                needs += ends[e].days;
            }
            if (needs <= days && (worth > best[0] || worth == best[0] && needs < best[2])) {
                best = new int[] {worth, made, needs};
            }
        }
        return best[what];
    }

    private static boolean place(int i, int[] from, int[] to, int[] has, int[] when, boolean[] seen) {
        for (int d = from[i]; d <= to[i]; d++) {
            if (!seen[d]) {
                seen[d] = true;
                if (has[d] == -1 || has[d] >= 0 && when[has[d]] == d && place(has[d], from, to, has, when, seen)) {
                    has[d] = i;
                    when[i] = d;
                    return true;
                }
            }
        }
        return false;
    }

    /** How many can have it when the first so many have their evenings already (100: never). */
    private static int most(int[] from, int[] to, int fixed, int[] row) {
        int[] has = new int[100];
        Arrays.fill(has, -1);
        int many = 0;
        for (int i = 0; i < fixed; i++) {
            if (row[i] < 100) {
                if (has[row[i]] != -1) {
                    return -1;
                }
                has[row[i]] = -2;
                many++;
            }
        }
        int[] when = new int[8];
        Arrays.fill(when, -1);
        for (int i = fixed; i < from.length; i++) {
            if (place(i, from, to, has, when, new boolean[100])) {
                many++;
            }
        }
        return many;
    }

    int lent(int n, int what) {
        if (n < 1 || n > 8 || 2 * n > tape.size()) {
            return -1;
        }
        String bytes = fromTape(2 * n);
        int[] from = new int[n];
        int[] to = new int[n];
        for (int i = 0; i < n; i++) {
            from[i] = bytes.charAt(2 * i);
            to[i] = bytes.charAt(2 * i + 1);
            if (from[i] > 99 || to[i] > 99 || to[i] < from[i]) {
                return -2;
            }
        }
        if (what != 20 && (what < 0 || what >= n)) {
            return -4;
        }
        int[] row = new int[n];
        int all = most(from, to, 0, row);
        for (int i = 0; i < n; i++) {
            row[i] = from[i];
            while (most(from, to, i + 1, row) != all) {
                row[i] = row[i] == to[i] ? 100 : row[i] + 1;
            }
        }
        return what == 20 ? all : row[what];
    }

    int forged(int which, int sniffed, int smelt, int what) {
        if (which < 1 || which > 1023 || (which & ~count(4)) != 0 || sniffed < 0 || sniffed > 1023 || what < 0
            || what > 1 || smelt != -1 && !set(sniffed).contains(smelt)) {
            return -1;
        }
        TreeSet<Integer> left = new TreeSet<>();
        for (int e : set(which)) {
            int lowest = ends[e].threads.first();
            if (smelt == -1 ? !set(sniffed).contains(lowest) : lowest == smelt) {
                left.add(e);
            }
        }
        if (what == 0) {
            return bits(left);
        }
        int best = -2;
        int bestPart = left.size();
        for (int thread = 0; thread < 10; thread++) {
            int leave = 0;
            for (int e : left) {
                leave += ends[e].threads.first() == thread ? 1 : 0;
            }
            int part = Math.max(leave, left.size() - leave);
            if (part < bestPart) {
                best = thread;
                bestPart = part;
            }
        }
        return best;
    }

    /** How many were open behind each turn of a told story if a told end was put in behind one of them. */
    String heard(int k, int e, int behind) {
        TreeSet<Integer> open = new TreeSet<>();
        StringBuilder all = new StringBuilder();
        for (int i = 1; i <= stories[k].length(); i++) {
            turn(stories[k].charAt(i - 1), open);
            if (i == behind) {
                open.removeAll(ends[e].threads);
            }
            all.append((char) open.size());
        }
        return all.toString();
    }

    int yawns(int k, int n, int what) {
        if (!told(k) || n < 1 || n > 20 || n > tape.size() || what < 0 || what > 1) {
            return -1;
        }
        String bytes = fromTape(n);
        String s = stories[k];
        if (n > s.length()) {
            return -2;
        }
        int ways = 0;
        TreeSet<Integer> which = new TreeSet<>();
        for (int e = 0; e < 10; e++) {
            for (int i = 1; isEnd(e) && i <= s.length(); i++) {
                if (heard(k, e, i).endsWith(bytes)) {
                    ways++;
                    which.add(e);
                }
            }
        }
        return what == 0 ? bits(which) : ways;
    }

    private void cuts(List<Integer> pages, int from, int volumes, List<Integer> row, List<List<Integer>> all) {
        if (volumes == 1) {
            all.add(new ArrayList<>(row));
        }
        for (int next = from + 1; volumes > 1 && next < pages.size(); next++) {
            row.add(next);
            cuts(pages, next, volumes - 1, row, all);
            row.remove(row.size() - 1);
        }
    }

    int book(int bits, int volumes, int what) {
        if (bits < 1 || bits > 63 || !allTold(bits) || volumes < 1 || volumes > 3 || volumes > Integer.bitCount(bits)
            || what < 0 || what > 2) {
            return -1;
        }
        List<Integer> of = new ArrayList<>(set(bits));
        List<List<Integer>> all = new ArrayList<>();
        cuts(of, 0, volumes, new ArrayList<>(), all);
        int best = Integer.MAX_VALUE;
        List<Integer> row = null;
        for (List<Integer> way : all) {
            int thickest = 0;
            int thick = 0;
            for (int i = 0; i < of.size(); i++) {
                thick = way.contains(i) ? 0 : thick;
                thick += stories[of.get(i)].length();
                thickest = Math.max(thickest, thick);
            }
            if (thickest < best || thickest == best && isLess(way, row)) {
                best = thickest;
                row = way;
            }
        }
        return what == 0 ? best : what > row.size() ? -2 : of.get(row.get(what - 1));
    }

    boolean seed(int x) {
        if (x < 0 || x > 65535) {
            return false;
        }
        town.x = x;
        return true;
    }

    int keep() {
        kept = town.twin();
        return town.evening;
    }

    boolean undo() {
        if (kept == null) {
            return false;
        }
        town = kept.twin();
        for (Teller t : town.tellers) {
            if (t != null) {
                t.turn = Math.min(t.turn, stories[t.story].length());
            }
        }
        return true;
    }

    int check(int n) {
        if (n < 0 || n > 10 || n > tape.size()) {
            return -2;
        }
        String bytes = fromTape(n);
        for (int l = 0; l < n; l++) {
            if (bytes.charAt(l) != (isListener(l) ? town.listeners[l].tired : 0)) {
                return l;
            }
        }
        return -1;
    }

    int count(int what) {
        TreeSet<Integer> s = new TreeSet<>();
        for (int i = 0; i < 10; i++) {
            if (what == 3 && told(i) || what == 4 && isEnd(i) || what == 5 && isTeller(i)
                || what == 6 && isListener(i)) {
                s.add(i);
            }
        }
        switch (what) {
            case 0: return town.evening;
            case 1: return town.ill;
            case 2: return town.told;
            case 7: return law.size();
            case 8: return tape.size();
            case 9: return town.x;
            default: return what >= 3 && what <= 6 ? bits(s) : -1;
        }
    }
}
