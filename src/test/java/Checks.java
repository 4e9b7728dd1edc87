/** Counts answers that are not due, and helps to put texts on a tape. */
final class Checks {
    private final String name;
    private int asked = 0;
    private int wrong = 0;

    Checks(String name) {
        this.name = name;
    }

    void due(String what, long got, long want) {
        asked++;
        if (got != want) {
            wrong++;
            if (wrong <= 40) {
                System.out.println(name + ": " + what + " answered " + got + ", due is " + want);
            }
        }
    }

    void due(String what, boolean got, boolean want) {
        due(what, got ? 1 : 0, want ? 1 : 0);
    }

    void due(String what, String got, String want) {
        boolean isDue = got.equals(want);
        due(isDue ? what : what + " (" + got + ", due is " + want + ")", isDue, true);
    }

    int wrongOnes() {
        return wrong;
    }

    /** Prints the sum and ends with exit code 1 if an answer was wrong. */
    void finish() {
        System.out.println(name + ": " + asked + " answers, " + wrong + " not as due");
        if (wrong != 0) {
            System.exit(1);
        }
    }

    /** Feeds bytes by twenties, blanks behind the last. */
    static int put(LineGuild guild, int... bytes) {
        int answer = 0;
        for (int from = 0; from < bytes.length; from += 20) {
            int[] words = new int[5];
            for (int i = 0; i < 20; i++) {
                int next = from + i < bytes.length ? bytes[from + i] : 32;
                words[i / 4] = words[i / 4] << 8 | next & 255;
            }
            answer = guild.feed(words[0], words[1], words[2], words[3], words[4]);
        }
        return answer;
    }

    static int put(LineGuild guild, String text) {
        int[] bytes = new int[text.length()];
        for (int i = 0; i < bytes.length; i++) {
            bytes[i] = text.charAt(i);
        }
        return put(guild, bytes);
    }

    static int story(LineGuild guild, int k, String text) {
        put(guild, text);
        return guild.story(k, text.length());
    }

    static int law(LineGuild guild, String text) {
        put(guild, text);
        return guild.law(text.length());
    }
}
