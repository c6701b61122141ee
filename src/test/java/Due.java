/** Counts the answers that are as due, and tells each one that is not; feeds texts to a prover. */
final class Due {
    private final String test;
    private int right;
    private int wrong;
    private String under = "";

    Due(String test) {
        this.test = test;
    }

    void is(String call, long got, long want) {
        if (got == want) {
            right++;
            return;
        }
        wrong++;
        if (wrong <= 50) {
            System.out.println(test + ": " + under + call + " answered " + got + ", due is " + want);
        }
    }

    void isText(String call, String got, String want) {
        if (got.equals(want)) {
            right++;
            return;
        }
        wrong++;
        System.out.println(test + ": " + under + call + " told \"" + got + "\", due is \"" + want + "\"");
    }

    /** The words that the next answers are held to. */
    void under(String words) {
        under = words.isEmpty() ? "" : "\"" + words + "\": ";
    }

    int answers() {
        return right + wrong;
    }

    boolean isBad() {
        return wrong > 0;
    }

    void end() {
        System.out.println(test + ": " + right + " answers as due, " + wrong + " not");
        if (wrong > 0 || right == 0) {
            System.exit(1);
        }
    }

    static void feed(KinProver x, String text) {
        for (int i = 0; i < text.length(); i++) {
            x.feed(text.charAt(i));
        }
    }

    static int person(KinProver x, String name, int sex) {
        feed(x, name);
        return x.person(sex);
    }

    /** So many PERSONS without a told SEX, all of the NAME p. */
    static KinProver people(int count) {
        KinProver x = new KinProver();
        for (int i = 0; i < count; i++) {
            person(x, "p", 0);
        }
        return x;
    }

    static int state(KinProver x, String text) {
        feed(x, text);
        return x.state(1);
    }

    static KinProver told(int persons, String... texts) {
        KinProver x = people(persons);
        for (String text : texts) {
            if (state(x, text) < 0) {
                throw new IllegalStateException("no statement: " + text);
            }
        }
        return x;
    }

    static String paper(KinProver x) {
        StringBuilder text = new StringBuilder();
        int letter = x.paper(0);
        for (int i = 1; letter != KinProver.NONE; i++) {
            text.append((char) letter);
            letter = x.paper(i);
        }
        return text.toString();
    }

    static String title(KinProver x, int a, int b) {
        int length = x.title(a, b);
        String text = paper(x);
        return length == text.length() ? text : text + " (" + length + ")";
    }

    static String proved(KinProver x, int person, int what, int side) {
        int length = x.prove(person, what, side);
        String text = paper(x);
        return length == text.length() ? text : text + " (" + length + ")";
    }

    /** All that stands in one but THE PAPER: PERSONS, STATEMENTS, THE TAPE's length, the first places of LISTS. */
    static String stands(KinProver x) {
        StringBuilder all = new StringBuilder();
        for (int what = 0; what <= 4; what++) {
            all.append(x.told(what)).append(what < 4 ? '/' : '\n');
        }
        for (int p = 0; p < x.told(0); p++) {
            for (int i = 0; i < x.name(p, -1); i++) {
                all.append((char) x.name(p, i));
            }
            for (int what = 0; what <= 7; what++) {
                all.append(' ').append(x.people(p, what));
            }
            for (int end = 0; end < 4; end++) {
                all.append(' ').append(x.end(p, end / 2, end % 2));
            }
            all.append('\n');
        }
        for (int s = 0; s < x.told(2); s++) {
            for (int what = 0; what <= 5; what++) {
                all.append(x.of(s, what)).append(what < 5 ? ' ' : '\n');
            }
        }
        for (int place = 0; place < 20; place++) {
            long value = x.get(place / 5, place % 5);
            all.append(value == KinProver.NO ? "NO" : "" + value).append(' ');
        }
        return all.toString();
    }
}
