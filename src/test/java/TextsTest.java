/** Promises 1 to 13: texts, persons, statements. */
public final class TextsTest {
    private static final Due due = new Due("TextsTest");

    public static void main(String[] args) {
        newObject();
        feedAndClear();
        paper();
        person();
        sex();
        state();
        faultsOfStatements();
        live();
        of();
        spell();
        name();
        find();
        byName();
        due.end();
    }

    private static void newObject() {
        KinProver x = new KinProver();
        int[] told = {0, 0, 0, 0, 0, 0, 0, -5};
        for (int what = 0; what < told.length; what++) {
            due.is("told(" + what + ") of a new object", x.told(what), told[what]);
        }
        due.is("rounds of a new object", x.rounds(), 1);
        due.is("clash of a new object", x.clash(0), 0);
        due.is("name of a new object", x.name(0, -1), -1);
        due.is("of a new object", x.of(0, 0), -1);
        due.is("undo of a new object", x.undo(), -3);
        due.is("get of a new object", x.get(0, 0), KinProver.NO);
        due.is("NO", KinProver.NO, Long.MIN_VALUE);
        due.is("NONE", KinProver.NONE, -1);
        due.is("BAD", KinProver.BAD, -2);
        due.is("STATE", KinProver.STATE, -3);
        due.is("FULL", KinProver.FULL, -4);
    }

    private static void feedAndClear() {
        KinProver x = new KinProver();
        due.is("clear of nothing", x.clear(), 0);
        due.is("feed(0)", x.feed(0), -2);
        due.is("feed(128)", x.feed(128), -2);
        due.is("feed(-1)", x.feed(-1), -2);
        due.is("feed(353)", x.feed(353), -2);
        due.is("feed(1)", x.feed(1), 1);
        due.is("feed(127)", x.feed(127), 2);
        for (int i = 3; i <= 60; i++) {
            due.is("feed, byte " + i, x.feed('a'), i);
        }
        due.is("feed, byte 61", x.feed('a'), -4);
        due.is("feed(0) behind 60", x.feed(0), -2);
        due.is("told(4)", x.told(4), 60);
        due.is("clear", x.clear(), 60);
        due.is("told(4) behind clear", x.told(4), 0);
        due.is("feed behind clear", x.feed('b'), 1);
    }

    private static void paper() {
        KinProver x = Due.told(2, "l 1 0");
        due.is("paper(0) of nothing", x.paper(0), -1);
        due.is("spell", x.spell(0), 5);
        due.is("paper(-1)", x.paper(-1), -1);
        due.is("paper(0)", x.paper(0), 'l');
        due.is("paper(4)", x.paper(4), '0');
        due.is("paper(5)", x.paper(5), -1);
        due.is("paper, far", x.paper(Integer.MAX_VALUE), -1);
        due.is("paper, far below", x.paper(Integer.MIN_VALUE), -1);
        due.is("told(5)", x.told(5), 5);
        due.is("title of no such", x.title(0, 2), -1);
        due.isText("paper behind a call that told none", Due.paper(x), "l 1 0");
        due.is("title", x.title(0, 0), 4);
        due.isText("paper behind title", Due.paper(x), "self");
        due.is("prove nothing", x.prove(0, 0, 0), 0);
        due.is("told(5) of an empty text", x.told(5), 0);
    }

    private static void person() {
        KinProver x = new KinProver();
        due.is("person, empty", x.person(0), -100);
        Due.feed(x, "abcdefg");
        due.is("person, seven letters", x.person(2), 0);
        due.is("told(4) behind person", x.told(4), 0);
        Due.feed(x, "abcdefgh");
        due.is("person, eight letters", x.person(2), -107);
        due.is("told(4) behind a fault", x.told(4), 0);
        Due.feed(x, "abcdefgH");
        due.is("person, the eighth a capital", x.person(2), -107);
        Due.feed(x, "ab cdefgh");
        due.is("person, blank", x.person(2), -102);
        Due.feed(x, "a`");
        due.is("person, ahead of a", x.person(2), -101);
        Due.feed(x, "a{");
        due.is("person, behind z", x.person(2), -101);
        Due.feed(x, "az");
        due.is("person(-1)", x.person(-1), -1);
        due.is("person(3)", x.person(3), -1);
        due.is("told(4) stays", x.told(4), 2);
        due.is("person(1)", x.person(1), 1);
        due.is("sex of it", x.people(1, 2), 1);
        for (int i = 2; i < 30; i++) {
            due.is("person " + i, Due.person(x, "q", 0), i);
        }
        Due.feed(x, "A");
        due.is("person 31", x.person(0), -4);
        due.is("person 31 of no such sex", x.person(3), -1);
        due.is("told(4) behind FULL", x.told(4), 1);
        due.is("told(0)", x.told(0), 30);
    }

    private static void sex() {
        KinProver x = Due.people(2);
        due.is("sex(0, 1)", x.sex(0, 1), 0);
        due.is("sex(0, 2)", x.sex(0, 2), 1);
        due.is("people(0, 2)", x.people(0, 2), 2);
        due.is("sex(0, 0)", x.sex(0, 0), 2);
        due.is("people(0, 2) then", x.people(0, 2), 0);
        due.is("sex(2, 0)", x.sex(2, 0), -1);
        due.is("sex(-1, 0)", x.sex(-1, 0), -1);
        due.is("sex(0, 3)", x.sex(0, 3), -1);
        due.is("sex(0, -1)", x.sex(0, -1), -1);
        due.is("sex(0, 1) behind these", x.sex(0, 1), 0);
    }

    private static void state() {
        KinProver x = Due.people(3);
        due.is("state, empty", x.state(1), -100);
        Due.feed(x, "b 2 0 3000");
        due.is("state(2)", x.state(2), -1);
        due.is("state(-1)", x.state(-1), -1);
        due.is("told(4) stays", x.told(4), 10);
        due.is("state(0)", x.state(0), 0);
        due.is("told(4) behind state", x.told(4), 0);
        due.is("live ones", x.told(3), 0);
        Due.feed(x, "b 3");
        due.is("state, a fault", x.state(1), -102);
        due.is("told(4) behind a fault", x.told(4), 0);
        due.is("told(2)", x.told(2), 1);
        for (int i = 1; i < 60; i++) {
            due.is("statement " + i, Due.state(x, "o 0 1 0"), i);
        }
        due.is("live ones then", x.told(3), 59);
        Due.feed(x, "?");
        due.is("statement 61", x.state(1), -4);
        due.is("statement 61, live 2", x.state(2), -1);
        due.is("told(4) behind FULL", x.told(4), 1);
        due.is("told(2) of all", x.told(2), 60);
    }

    private static void faultsOfStatements() {
        String[] texts = {
            "x 0 1 2", "B 0 1 2", " b 0 1 2", "b", "b ", "b0 1 2", "b  0 1 2", "b x", "b 0", "b 0 ", "b 0 1", "b 0 1 ",
            "b 0 1 2 ", "b 0 1 2x", "b 0 1 12345", "b 0 12345", "b 00000 1 2", "b 0000 0001 0002x", "b 3 1 2",
            "b 10", "b 9999", "b 0 3001", "b 0 3000 3001", "b 0 5 4", "b 0 5 04", "d 0 10 9", "d 0 -1 9",
            "m 0", "m 0 0", "m 0 00", "m 0 3", "m 0 1 ", "m 0 1 2", "f 2 2", "s 1 1", "s 1,2", "w 0 1", "w 0 0 1 2",
            "w 0 1 2 1", "w 0 1 2 3001", "w 3 3", "l 0", "l 0 3001", "l 0 1 ", "l 0 99999", "o 0 1", "o 0 1 100",
            "o 0 1 0100", "o 0 1 99 ", "o 0 0 100", "o 0 1 00099", "m 0 0x", "b 0 3001x", "d 0 5 4 ", "b\t0 1 2", "b 0 1 31234"};
        int[] faults = {
            0, 0, 0, 1, 2, 1, 2, 2, 3, 4, 5, 6,
            7, 7, 10, 8, 6, 16, 2,
            2, 2, 4, 9, 6, 6, 7, 4,
            3, 4, 4, 4, 5, 5, 4, 4, 3, 5, 4,
            8, 8, 2, 3, 4, 5, 4, 5, 6,
            6, 8, 4, 10, 4, 4, 6, 1, 6};
        for (int i = 0; i < texts.length; i++) {
            KinProver x = Due.people(3);
            due.is("state of \"" + texts[i] + "\"", Due.state(x, texts[i]), -100 - faults[i]);
            due.is("statements behind \"" + texts[i] + "\"", x.told(2), 0);
        }
        KinProver y = Due.people(3);
        String[] good = {"b 0000 0000 3000", "d 2 0 0", "m 0 1", "f 1 0002", "w 2 0 9 9", "s 0 1", "l 1 3000", "o 2 1 0099"};
        for (int i = 0; i < good.length; i++) {
            due.is("state of \"" + good[i] + "\"", Due.state(y, good[i]), i);
            due.is("its sort", y.of(i, 0), i);
        }
    }

    private static void live() {
        KinProver x = Due.told(1, "b 0 1 2");
        due.is("live(0, 1)", x.live(0, 1), 1);
        due.is("live(0, 0)", x.live(0, 0), 1);
        due.is("end behind it", x.end(0, 0, 0), 0);
        due.is("live(0, 0) again", x.live(0, 0), 0);
        due.is("live(0, 1) again", x.live(0, 1), 0);
        due.is("end then", x.end(0, 0, 0), 1);
        due.is("live(1, 1)", x.live(1, 1), -1);
        due.is("live(-1, 1)", x.live(-1, 1), -1);
        due.is("live(0, 2)", x.live(0, 2), -1);
        due.is("live(0, -1)", x.live(0, -1), -1);
        due.is("live stays", x.of(0, 5), 1);
    }

    private static void of() {
        KinProver x = Due.told(4, "b 1 2 3", "d 1 4 5", "m 1 2", "f 2 3", "w 3 1 6 7", "s 3 0", "l 2 8", "o 0 3 9");
        int[][] want = {
            {0, 1, -5, 2, 3, 1}, {1, 1, -5, 4, 5, 1}, {2, 1, 2, -5, -5, 1}, {3, 2, 3, -5, -5, 1},
            {4, 3, 1, 6, 7, 1}, {5, 3, 0, -5, -5, 1}, {6, 2, -5, 8, -5, 1}, {7, 0, 3, 9, -5, 1}};
        for (int s = 0; s < want.length; s++) {
            for (int what = 0; what < 6; what++) {
                due.is("of(" + s + ", " + what + ")", x.of(s, what), want[s][what]);
            }
        }
        due.is("of(0, 6)", x.of(0, 6), -1);
        due.is("of(0, -1)", x.of(0, -1), -1);
        due.is("of(8, 0)", x.of(8, 0), -1);
        due.is("of(-1, 0)", x.of(-1, 0), -1);
        x.live(3, 0);
        due.is("of(3, 5)", x.of(3, 5), 0);
    }

    private static void spell() {
        KinProver x = Due.told(12, "b 0000 0007 0080", "d 01 900 3000", "m 10 0011", "f 9 010", "w 2 3 0 0100", "s 5 4",
            "l 8 0000", "o 6 7 0009");
        String[] want = {"b 0 7 80", "d 1 900 3000", "m 10 11", "f 9 10", "w 2 3 0 100", "s 5 4", "l 8 0", "o 6 7 9"};
        for (int s = 0; s < want.length; s++) {
            due.is("spell(" + s + ")", x.spell(s), want[s].length());
            due.isText("paper of it", Due.paper(x), want[s]);
        }
        due.is("spell(8)", x.spell(8), -1);
        due.is("spell(-1)", x.spell(-1), -1);
        due.isText("paper behind these", Due.paper(x), "o 6 7 9");
    }

    private static void name() {
        KinProver x = new KinProver();
        Due.person(x, "ada", 1);
        Due.person(x, "zacharz", 2);
        due.is("name(0, -1)", x.name(0, -1), 3);
        due.is("name(1, -1)", x.name(1, -1), 7);
        due.is("name(0, 0)", x.name(0, 0), 'a');
        due.is("name(0, 1)", x.name(0, 1), 'd');
        due.is("name(0, 3)", x.name(0, 3), -1);
        due.is("name(1, 6)", x.name(1, 6), 'z');
        due.is("name(1, 7)", x.name(1, 7), -1);
        due.is("name(0, -2)", x.name(0, -2), -1);
        due.is("name(2, 0)", x.name(2, 0), -1);
        due.is("name(-1, -1)", x.name(-1, -1), -1);
    }

    private static int found(KinProver x, String name, int i) {
        Due.feed(x, name);
        int answer = x.find(i);
        due.is("told(4) behind find", x.told(4), 0);
        return answer;
    }

    private static void find() {
        KinProver x = new KinProver();
        String[] names = {"bo", "ada", "bo", "b", "bob", "bo"};
        for (String name : names) {
            Due.person(x, name, 0);
        }
        due.is("find bo 0", found(x, "bo", 0), 0);
        due.is("find bo 1", found(x, "bo", 1), 2);
        due.is("find bo 2", found(x, "bo", 2), 5);
        due.is("find bo 3", found(x, "bo", 3), -5);
        due.is("find bo -1", found(x, "bo", -1), -5);
        due.is("find b 0", found(x, "b", 0), 3);
        due.is("find bobo 0", found(x, "bobo", 0), -5);
        due.is("find of no NAME", found(x, "Bo", 0), -5);
        due.is("find of nothing", found(x, "", 0), -5);
        due.is("find of eight", found(x, "bobobobo", 0), -5);
    }

    private static void byName() {
        KinProver x = new KinProver();
        String[] names = {"bob", "bo", "ada", "bo", "b", "zz", "az"};
        int[] want = {2, 6, 4, 1, 3, 0, 5};
        for (String name : names) {
            Due.person(x, name, 0);
        }
        for (int i = 0; i < want.length; i++) {
            due.is("byName(" + i + ")", x.byName(i), want[i]);
        }
        due.is("byName(7)", x.byName(7), -1);
        due.is("byName(-1)", x.byName(-1), -1);
        due.is("told(6)", x.told(6), 6);
    }
}
