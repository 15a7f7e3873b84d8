/** What the tests share: counts wrong answers, tells texts, and ends with exit code 1 if an answer was wrong. */
final class Check {
    /** A call that is due to throw NoSuchElementException. */
    interface Call {
        int make();
    }

    static final long THROWS = Long.MIN_VALUE;
    private String sentence = "";
    private final java.util.Set<String> sentences = new java.util.HashSet<>();
    private int wrong = 0;
    private int asked = 0;

    /** What follows tests these words of the document; they must stand there. */
    void sentence(String words) {
        sentence = words;
        if (sentences.add(words) && !Document.says(words)) {
            wrong++;
            System.out.println("the document does not say: " + words);
        }
    }

    void due(String call, long got, long want) {
        asked++;
        if (got != want) {
            tellWrong(call, show(got), show(want));
        }
    }

    void same(String call, String got, String want) {
        asked++;
        if (!got.equals(want)) {
            tellWrong(call, got, want);
        }
    }

    private void tellWrong(String call, String got, String want) {
        wrong++;
        System.out.println((sentence.isEmpty() ? "" : "[" + sentence + "] ") + call + " answered " + got + ", due is " + want);
    }

    void due(String call, boolean got, boolean want) {
        due(call, got ? 1 : 0, want ? 1 : 0);
    }

    void dueThrow(String call, Call made) {
        due(call, answer(made), THROWS);
    }

    static long answer(Call made) {
        try {
            return made.make();
        } catch (java.util.NoSuchElementException e) {
            return THROWS;
        }
    }

    private static String show(long answer) {
        return answer == THROWS ? "throws" : Long.toString(answer);
    }

    /** Feeds the letters in twenties, the last ones filled up by bytes 0. */
    static int feed(PivotDocks x, String letters) {
        int answer = x.count(7);
        for (int at = 0; at < letters.length(); at += 20) {
            answer = x.feed(four(letters, at), four(letters, at + 4), four(letters, at + 8),
                four(letters, at + 12), four(letters, at + 16));
        }
        return answer;
    }

    static int four(String letters, int at) {
        int number = 0;
        for (int k = at; k < at + 4; k++) {
            number = number << 8 | (k < letters.length() ? letters.charAt(k) & 255 : 0);
        }
        return number;
    }

    static int tell(PivotDocks x, String letters) {
        feed(x, letters);
        return x.text(letters.length());
    }

    static PivotDocks told(String letters) {
        PivotDocks x = new PivotDocks();
        int answer = tell(x, letters);
        if (answer < 0) {
            throw new IllegalStateException("the test's own text has a fault: " + answer + ": " + letters);
        }
        return x;
    }

    static int fault(int place, int kind) {
        return -2 - (8 * place + kind);
    }

    static String sheet(PivotDocks x) {
        StringBuilder text = new StringBuilder();
        for (int i = 0; i < x.sheet(-1); i++) {
            text.append((char) x.sheet(i));
        }
        return text.toString();
    }

    void end(String name) {
        String quoted = sentences.isEmpty() ? "" : sentences.size() + " sentences, ";
        System.out.println(name + ": " + quoted + asked + " answers, " + wrong + " wrong");
        if (wrong != 0) {
            System.exit(1);
        }
    }
}
