/** Long runs of calls, always the same ones, on KinProver and on KinModel: each answer must be alike. */
public final class ModelTest {
    private static final Due due = new Due("ModelTest");
    private static long seed = 20261118;
    private static KinProver x;
    private static KinModel y;
    private static int persons;
    private static int statements;
    /**
     * 0 anything; 1, 2 families, whose even PERSONS are mothers, odd ones fathers; 3 rings of OLDER; 4 couples' children,
     * so that there are whole kin; 5 anybody's children, so that ANCESTORS go in rings and some have several mothers.
     */
    private static int sort;

    public static void main(String[] args) {
        for (int run = 0; run < 720 && !due.isBad(); run++) {
            x = new KinProver();
            y = new KinModel();
            persons = 0;
            statements = 0;
            sort = run % 6;
            try {
                oneRun(run);
            } catch (RuntimeException e) {
                due.is("run " + run + " threw " + e + " at " + e.getStackTrace()[0], 1, 0);
            }
        }
        due.end();
    }

    private static int below(int bound) {
        seed = seed * 6364136223846793005L + 1442695040888963407L;
        return (int) ((seed >>> 33) % bound);
    }

    private static boolean oneIn(int n) {
        return below(n) == 0;
    }

    private static void oneRun(int run) {
        int crowd = oneIn(12) ? 31 : sort == 4 ? 12 + below(15) : 2 + below(oneIn(3) || sort == 2 ? 20 : 8);
        int eras = oneIn(3) ? 3000 : 150;
        int mostStatements = oneIn(8) && sort != 3 ? 62 : sort == 4 ? 3 * crowd / 2
            : 4 + below(sort == 2 || sort == 5 ? 50 : sort == 1 ? 30 : 12);
        for (int i = 0; i < crowd; i++) {
            newPerson();
        }
        for (int i = 0; i < mostStatements; i++) {
            newStatement(run, eras);
            change();
            ask(4 + below(10));
        }
        sweep();
        for (int i = 0; i < 40; i++) {
            change();
            ask(6);
        }
        sweep();
    }

    private static void feed(String text) {
        for (int i = 0; i < text.length(); i++) {
            due.is("feed", x.feed(text.charAt(i)), y.feed(text.charAt(i)));
        }
    }

    private static void newPerson() {
        StringBuilder name = new StringBuilder();
        int letters = oneIn(12) ? below(10) : 1 + below(3);
        for (int i = 0; i < letters; i++) {
            name.append((char) (oneIn(60) ? 1 + below(127) : 'a' + below(3)));
        }
        feed(name.toString());
        int told = sort == 0 ? below(2) : persons % 2;
        int sex = oneIn(60) ? below(5) - 1 : oneIn(2) ? 0 : 1 + told;
        due.is("person(" + sex + ") of " + name, x.person(sex), y.person(sex));
        persons = x.told(0);
        if (oneIn(2)) {
            due.is("clear", x.clear(), y.clear());
        }
    }

    private static int who() {
        return oneIn(40) ? edge(persons) : persons == 0 ? 0 : below(persons);
    }

    private static int which() {
        return oneIn(20) ? edge(statements) : statements == 0 ? 0 : below(statements);
    }

    private static int small(int count) {
        return oneIn(25) ? edge(count) : below(count);
    }

    private static int edge(int bound) {
        int[] edges = {bound, -1, -2, bound + 1, Integer.MIN_VALUE, Integer.MAX_VALUE, 100, 99, 40, 41};
        return edges[below(edges.length)];
    }

    private static String text(int eras) {
        if (oneIn(12)) {
            return anyText(eras, who(), who());
        }
        return switch (sort) {
            case 0 -> anyText(eras, who(), who());
            case 3 -> ringText();
            case 4 -> coupleText();
            case 5 -> anybodyText();
            default -> familyText(who());
        };
    }

    /** Mostly such that parents have lesser numbers, and years that may be. */
    private static String anyText(int eras, int a, int b) {
        int base = 1500;
        if (!oneIn(10)) {
            int low = Math.min(a, b);
            a = Math.max(a, b);
            b = low;
        }
        int guess = eras == 3000 ? below(3001) : base + 12 * Math.max(0, Math.min(a, 40)) + below(30);
        int lo = Math.max(0, guess);
        int hi = oneIn(20) ? lo - 1 : lo + below(oneIn(2) ? 10 : 120);
        return switch (below(oneIn(6) ? 8 : 7)) {
            case 0 -> "b " + a + " " + lo + " " + hi;
            case 1 -> "d " + a + " " + (lo + 40) + " " + (hi + 60);
            case 2 -> "m " + a + " " + b;
            case 3 -> "f " + a + " " + b;
            case 4 -> "w " + a + " " + b + " " + (lo + 25) + " " + (hi + 35);
            case 5 -> oneIn(3) ? "s " + a + " " + b : "m " + a + " " + b;
            case 6 -> "l " + a + " " + (lo + 20);
            default -> "o " + b + " " + a + " " + below(oneIn(8) ? 102 : 12);
        };
    }

    /** Two PERSONS after two are children of two of those before; now and then two of one brood are one. */
    private static String familyText(int a) {
        int brood = sort == 1 ? 2 : 4;
        int over = Math.max(0, Math.min(a / brood - (oneIn(8) ? 2 : 1), 20));
        int mother = over * brood + (oneIn(9) ? 2 : 0);
        int father = over * brood + 1 + (oneIn(5) ? 2 : 0);
        int born = 1000 + 25 * (a / brood) + below(20);
        if (a >= brood && !oneIn(3)) {
            return oneIn(2) ? "m " + a + " " + mother : "f " + a + " " + father;
        }
        return switch (below(8)) {
            case 0 -> "w " + mother + " " + father + " " + (born - 10) + " " + (born + 50);
            case 1 -> "s " + a + " " + (a + 2);
            case 2 -> "l " + a + " " + (born + 20);
            case 3 -> "d " + a + " " + (born + 30) + " " + (born + 100);
            case 4 -> "o " + a + " " + (a + 1) + " " + below(4);
            default -> "b " + a + " " + born + " " + (born + below(40));
        };
    }

    /** Each older than the next one, told from the last to the first, so that many ROUNDS are gone. */
    private static String ringText() {
        int a = Math.max(0, persons - 1 - statements % Math.max(1, persons));
        int b = (a + 1) % Math.max(1, persons);
        return switch (below(6)) {
            case 0 -> familyText(who());
            case 1 -> "o " + who() + " " + who() + " " + below(100);
            default -> "o " + a + " " + b + " " + (oneIn(3) ? below(60) : 0);
        };
    }

    /** Six PERSONS after six are children of three couples among the six ahead, two of each; a few of another one's. */
    private static String coupleText() {
        if (oneIn(8)) {
            return familyText(who());
        }
        int a = 6 + statements / 2 % Math.max(1, persons - 6);
        int over = a / 6 * 6 - 6;
        int couple = oneIn(15) ? below(3) : a % 6 / 2;
        return statements % 2 == 0 ? "m " + a + " " + (over + 2 * couple) : "f " + a + " " + (over + (2 * couple + 3) % 6);
    }

    /** One PERSON after the other is told a mother and a father, whoever these are. */
    private static String anybodyText() {
        if (oneIn(8)) {
            return familyText(who());
        }
        int a = statements / 2 % Math.max(1, persons);
        int couple = 2 * below(Math.max(1, persons / 2));
        return statements % 2 == 0 ? "m " + a + " " + couple : "f " + a + " " + (couple + 1);
    }

    private static String maybeBroken(String text) {
        if (!oneIn(12) || text.isEmpty()) {
            return text;
        }
        int at = below(text.length());
        return switch (below(5)) {
            case 0 -> text.substring(0, at);
            case 1 -> text.substring(0, at) + (char) (1 + below(127)) + text.substring(at + 1);
            case 2 -> text.substring(0, at) + " 0123456789".charAt(below(11)) + text.substring(at);
            case 3 -> text + " 0123456789x".charAt(below(12));
            default -> text.substring(0, at) + text.substring(at + 1);
        };
    }

    private static void newStatement(int run, int eras) {
        String text = maybeBroken(text(eras));
        feed(text);
        int live = oneIn(30) ? below(4) - 1 : oneIn(6) ? 0 : 1;
        due.is("run " + run + ": state(" + live + ") of " + text, x.state(live), y.state(live));
        statements = x.told(2);
        if (oneIn(3)) {
            due.is("clear", x.clear(), y.clear());
        }
        if (x.clash(0) != 0 && sort != 5 && !oneIn(3)) {
            int last = statements - 1;
            due.is("live(" + last + ", 0)", x.live(last, 0), y.live(last, 0));
        }
    }

    private static void change() {
        int v;
        int w;
        switch (below(9)) {
            case 0:
                v = who();
                w = small(3);
                due.is("sex(" + v + ", " + w + ")", x.sex(v, w), y.sex(v, w));
                break;
            case 1:
            case 2:
                v = which();
                w = small(2);
                due.is("live(" + v + ", " + w + ")", x.live(v, w), y.live(v, w));
                break;
            case 3:
                due.is("image()", x.image(), y.image());
                break;
            case 4:
                if (oneIn(4)) {
                    due.is("undo()", x.undo(), y.undo());
                    persons = x.told(0);
                    statements = x.told(2);
                }
                break;
            case 5:
                v = small(4);
                w = oneIn(4) ? below(44) - 2 : 10 + below(31);
                due.is("list(" + v + ", " + w + ")", x.list(v, w), y.list(v, w));
                break;
            case 6:
                v = small(4);
                w = small(20);
                int to = oneIn(2) ? who() : edge(0);
                due.is("set(" + v + ", " + w + ", " + to + ")", x.set(v, w, to), y.set(v, w, to));
                break;
            case 7:
                v = small(4);
                w = oneIn(3) ? small(20) : 0;
                due.is("lay(" + v + ", " + w + ")", x.lay(v, w), y.lay(v, w));
                due.is("judge(" + v + ", " + w + ") behind it", x.judge(v, w), y.judge(v, w));
                break;
            default:
                feed("" + (char) ('a' + below(3)));
                if (oneIn(2)) {
                    v = small(4);
                    due.is("find(" + v + ")", x.find(v), y.find(v));
                }
                break;
        }
    }

    private static void ask(int times) {
        for (int i = 0; i < times; i++) {
            switch (below(4)) {
                case 0 -> askText();
                case 1, 2 -> askRange(who(), small(2), small(2));
                default -> askKin(who(), who());
            }
        }
    }

    private static void askText() {
        int s = which();
        int what = small(6);
        int i = small(8) - 1;
        due.is("of(" + s + ", " + what + ")", x.of(s, what), y.of(s, what));
        due.is("spell(" + s + ")", x.spell(s), y.spell(s));
        samePaper();
        int p = who();
        due.is("name(" + p + ", " + i + ")", x.name(p, i), y.name(p, i));
        due.is("byName(" + p + ")", x.byName(p), y.byName(p));
        due.is("paper(" + i + ")", x.paper(i), y.paper(i));
        int told = small(8);
        due.is("told(" + told + ")", x.told(told), y.told(told));
        int list = small(4);
        due.is("get(" + list + ", " + i + ")", x.get(list, i), y.get(list, i));
        due.is("judge(" + list + ", " + i + ")", x.judge(list, i), y.judge(list, i));
        int bad = edge(127);
        if (bad < 1 || bad > 127) {
            due.is("feed(" + bad + ")", x.feed(bad), y.feed(bad));
        }
    }

    private static void samePaper() {
        due.is("told(5)", x.told(5), y.told(5));
        for (int i = 0; i <= x.told(5); i++) {
            due.is("paper(" + i + ")", x.paper(i), y.paper(i));
        }
    }

    private static void askRange(int p, int what, int side) {
        due.is("end", x.end(p, what, side), y.end(p, what, side));
        int s = which();
        due.is("year", x.year(s, side), y.year(s, side));
        int link = oneIn(10) ? 95 + below(8) : small(6);
        int part = small(3);
        due.is("proof", x.proof(p, what, side, link, part), y.proof(p, what, side, link, part));
        due.is("why", x.why(side, link, part), y.why(side, link, part));
        due.is("prove", x.prove(p, what, side), y.prove(p, what, side));
        samePaper();
        due.is("clash", x.clash(what), y.clash(what));
        due.is("rounds", x.rounds(), y.rounds());
        if (oneIn(6)) {
            int i = small(5) - 1;
            due.is("culprit(" + i + ")", x.culprit(i), y.culprit(i));
        }
        if (oneIn(3)) {
            int q = who();
            due.is("same(" + p + ", " + q + ")", x.same(p, q), y.same(p, q));
        }
        if (oneIn(2)) {
            String text = maybeBroken(text(150));
            feed(text);
            due.is("narrows by " + text, x.narrows(p, what), y.narrows(p, what));
            due.is("told(4)", x.told(4), y.told(4));
            due.is("clear", x.clear(), y.clear());
        }
    }

    private static void askKin(int a, int b) {
        String two = "(" + a + ", " + b + ")";
        due.is("kin" + two, x.kin(a, b), y.kin(a, b));
        due.is("common" + two, x.common(a, b), y.common(a, b));
        due.is("half" + two, x.half(a, b), y.half(a, b));
        due.is("title" + two, x.title(a, b), y.title(a, b));
        samePaper();
        int i = small(7) - 1;
        due.is("path" + two + " " + i, x.path(a, b, i), y.path(a, b, i));
        int what = small(8);
        due.is("people(" + a + ", " + what + ")", x.people(a, what), y.people(a, what));
        int sort = small(3);
        due.is("relatives(" + a + ", " + sort + ")", x.relatives(a, sort), y.relatives(a, sort));
        due.is("ancestors(" + a + ")", x.ancestors(a), y.ancestors(a));
        due.is("descendants(" + a + ")", x.descendants(a), y.descendants(a));
        due.is("order(" + a + ")", x.order(a), y.order(a));
        due.is("ahead" + two, x.ahead(a, b), y.ahead(a, b));
    }

    private static void sweep() {
        for (int p = -1; p <= persons; p++) {
            for (int what = -1; what <= 8; what++) {
                due.is("people(" + p + ", " + what + ")", x.people(p, what), y.people(p, what));
                due.is("told(" + what + ")", x.told(what), y.told(what));
            }
            for (int k = 0; k < 4; k++) {
                askRange(p, k / 2, k % 2);
            }
            for (int q = -1; q <= persons; q++) {
                askKin(p, q);
                for (int i = -2; i < 7; i++) {
                    due.is("path(" + p + ", " + q + ", " + i + ")", x.path(p, q, i), y.path(p, q, i));
                }
            }
        }
        for (int s = -1; s <= statements; s++) {
            due.is("culprit(" + s + ")", x.culprit(s), y.culprit(s));
            due.is("year(" + s + ", 0)", x.year(s, 0), y.year(s, 0));
            due.is("year(" + s + ", 1)", x.year(s, 1), y.year(s, 1));
        }
    }
}
