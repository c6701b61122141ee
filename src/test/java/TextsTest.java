/** Promises 1 to 13, word by word: texts, persons, statements. */
public final class TextsTest {
    private static final Due due = new Due("TextsTest");
    private static final Words words = new Words(due);

    public static void main(String[] args) {
        newObject();
        feedAndClear();
        paper();
        person();
        sex();
        state();
        faultsOfStatements();
        live();
        of();
        spell();
        name();
        find();
        byName();
        words.endPart();
        due.end();
    }

    private static void newObject() {
        words.promise(1);
        words.say("No PERSONS.");
        KinProver x = new KinProver();
        int[] told = {0, 0, 0, 0, 0, 0, 0, -5};
        for (int what = 0; what < told.length; what++) {
            due.is("told(" + what + ") of a new object", x.told(what), told[what]);
        }
        due.is("rounds of a new object", x.rounds(), 1);
        due.is("clash of a new object", x.clash(0), 0);
        due.is("name of a new object", x.name(0, -1), -1);
        due.is("of a new object", x.of(0, 0), -1);
        due.is("undo of a new object", x.undo(), -3);
        due.is("get of a new object", x.get(0, 0), KinProver.NO);
        due.is("NO", KinProver.NO, Long.MIN_VALUE);
        due.is("NONE", KinProver.NONE, -1);
        due.is("BAD", KinProver.BAD, -2);
        due.is("STATE", KinProver.STATE, -3);
        due.is("FULL", KinProver.FULL, -4);
    }

    private static void feedAndClear() {
        words.promise(2);
        words.say("A byte (1 .. 127) comes behind THE TAPE's: how many it has.");
        KinProver x = new KinProver();
        due.is("feed(1)", x.feed(1), 1);
        due.is("feed(127)", x.feed(127), 2);
        for (int i = 3; i <= 60; i++) {
            due.is("feed, byte " + i, x.feed('a'), i);
        }
        words.say("BAD;");
        KinProver y = new KinProver();
        int[] bad = {0, 128, -1, 353, -128, 256, Integer.MIN_VALUE, Integer.MAX_VALUE};
        for (int letter : bad) {
            due.is("feed(" + letter + ")", y.feed(letter), -2);
            due.is("feed(" + letter + ") on a full one", x.feed(letter), -2);
        }
        due.is("told(4)", y.told(4), 0);
        words.say("FULL.");
        due.is("feed, byte 61", x.feed('a'), -4);
        due.is("told(4)", x.told(4), 60);
        words.promise(3);
        words.say("THE TAPE is empty then: how many bytes it had.");
        due.is("clear", x.clear(), 60);
        due.is("told(4) behind clear", x.told(4), 0);
        due.is("clear of nothing", x.clear(), 0);
        due.is("feed behind clear", x.feed('b'), 1);
        due.is("clear of one", x.clear(), 1);
    }

    private static void paper() {
        words.promise(4);
        words.say("Byte i of THE PAPER.");
        KinProver x = Due.told(2, "l 1 0");
        due.is("spell", x.spell(0), 5);
        due.is("paper(0)", x.paper(0), 'l');
        due.is("paper(1)", x.paper(1), ' ');
        due.is("paper(4)", x.paper(4), '0');
        due.is("title of no such", x.title(0, 2), -1);
        due.isText("paper behind a call that told none", Due.paper(x), "l 1 0");
        due.is("title", x.title(0, 0), 4);
        due.isText("paper behind title", Due.paper(x), "self");
        words.say("NONE.");
        due.is("paper(4)", x.paper(4), -1);
        due.is("paper(-1)", x.paper(-1), -1);
        due.is("paper, far", x.paper(Integer.MAX_VALUE), -1);
        due.is("paper, far below", x.paper(Integer.MIN_VALUE), -1);
        due.is("paper(0) of a new object", new KinProver().paper(0), -1);
        due.is("prove nothing", x.prove(0, 0, 0), 0);
        due.is("paper(0) of an empty text", x.paper(0), -1);
    }

    private static void person() {
        words.promise(5);
        words.say("A PERSON comes, THE TAPE is the NAME: its number;");
        KinProver x = new KinProver();
        due.is("person, one letter", Due.person(x, "a", 0), 0);
        due.is("person, seven letters", Due.person(x, "abcdefg", 2), 1);
        due.is("person, the last letter", Due.person(x, "zaz", 1), 2);
        due.is("person, the same NAME", Due.person(x, "a", 0), 3);
        due.is("told(4) behind person", x.told(4), 0);
        due.is("told(0)", x.told(0), 4);
        due.is("its NAME", x.name(1, 6), 'g');
        due.is("its SEX", x.people(1, 2), 2);
        due.is("PEOPLE, once asked", x.told(1), 4);
        KinProver y = Due.people(1);
        due.is("PEOPLE, asked ahead of it", y.told(1), 1);
        due.is("order(1) ahead of it", y.order(1), -1);
        Due.person(y, "b", 1);
        due.is("order(1) behind it", y.order(1), 1);
        words.say("-100 less the FAULT (of a NAME: the first byte that is none of a .. z, the eighth;");
        String[] names = {"A", "`", "{", "1", " a", "a ", "ab cd", "aZaZ", "abcdefG", "abcdefgh", "abcdefgH", "ab!defgh",
            "abcdefghi", "\u0001", "a\u007f", "abcdefg "};
        int[] faults = {0, 0, 0, 0, 0, 1, 2, 1, 6, 7, 7, 2, 7, 0, 1, 7};
        for (int i = 0; i < names.length; i++) {
            due.is("person " + names[i], Due.person(x, names[i], 1), -100 - faults[i]);
            due.is("told(4) behind " + names[i], x.told(4), 0);
        }
        due.is("60 letters", Due.person(x, "a".repeat(60), 1), -107);
        words.say("the length of an empty one).");
        due.is("person, empty", x.person(0), -100);
        due.is("told(0)", x.told(0), 4);
        words.say("NONE: sex;");
        Due.feed(x, "b?");
        due.is("person(-1)", x.person(-1), -1);
        due.is("person(3)", x.person(3), -1);
        due.is("person(MIN)", x.person(Integer.MIN_VALUE), -1);
        due.is("told(4) stays", x.told(4), 2);
        due.is("told(0) stays", x.told(0), 4);
        x.clear();
        words.say("FULL: 30");
        for (int i = 4; i < 30; i++) {
            due.is("person " + i, Due.person(x, "q", 0), i);
        }
        Due.feed(x, "q");
        due.is("person 30", x.person(0), -4);
        due.is("person 30 of no such SEX", x.person(3), -1);
        words.say("(THE TAPE stays behind these).");
        due.is("told(4) behind FULL and NONE", x.told(4), 1);
        due.is("find what stayed", x.find(0), 4);
        due.is("told(0)", x.told(0), 30);
        due.is("person, empty and FULL", x.person(0), -4);
    }

    private static void sex() {
        words.promise(6);
        words.say("A PERSON has another SEX: what it had.");
        KinProver x = Due.people(2);
        due.is("sex(0, 1)", x.sex(0, 1), 0);
        due.is("sex(0, 2)", x.sex(0, 2), 1);
        due.is("people(0, 2)", x.people(0, 2), 2);
        due.is("sex(0, 2) again", x.sex(0, 2), 2);
        due.is("sex(0, 0)", x.sex(0, 0), 2);
        due.is("people(0, 2) then", x.people(0, 2), 0);
        due.is("people(1, 2)", x.people(1, 2), 0);
        words.say("NONE: person, sex.");
        due.is("sex(2, 0)", x.sex(2, 0), -1);
        due.is("sex(-1, 0)", x.sex(-1, 0), -1);
        due.is("sex(0, 3)", x.sex(0, 3), -1);
        due.is("sex(0, -1)", x.sex(0, -1), -1);
        due.is("sex(0, 1) behind these", x.sex(0, 1), 0);
        Due.state(x, "f 0 1");
        due.is("the SEX that a FATHER tells is not the PERSON's", x.sex(1, 1), 0);
        due.is("people(1, 2) of both", x.people(1, 2), 3);
    }

    private static void state() {
        words.promise(7);
        words.say("THE TAPE is a STATEMENT, LIVE (1) or not (0): its number;");
        KinProver x = Due.people(3);
        Due.feed(x, "b 2 0 3000");
        due.is("state(0)", x.state(0), 0);
        due.is("told(4) behind state", x.told(4), 0);
        due.is("live ones", x.told(3), 0);
        due.is("state(1)", Due.state(x, "b 2 0 3000"), 1);
        due.is("live ones then", x.told(3), 1);
        words.say("-100 less the FAULT.");
        due.is("state, empty", x.state(1), -100);
        due.is("state, a fault", Due.state(x, "b 3"), -102);
        due.is("told(4) behind a fault", x.told(4), 0);
        due.is("told(2)", x.told(2), 2);
        words.say("NONE: live;");
        Due.feed(x, "b 2 0 3000");
        due.is("state(2)", x.state(2), -1);
        due.is("state(-1)", x.state(-1), -1);
        due.is("told(4) stays", x.told(4), 10);
        due.is("told(2) stays", x.told(2), 2);
        due.is("what stayed is a STATEMENT", x.state(0), 2);
        words.say("FULL: 60");
        for (int i = 3; i < 60; i++) {
            due.is("statement " + i, Due.state(x, "s 0 1"), i);
        }
        Due.feed(x, "s 0 1");
        due.is("statement 60", x.state(1), -4);
        due.is("statement 60, live 2", x.state(2), -1);
        words.say("(THE TAPE stays behind these).");
        due.is("told(4) behind FULL", x.told(4), 5);
        due.is("told(2) of all", x.told(2), 60);
        x.clear();
        due.is("state, empty and FULL", x.state(1), -4);
    }

    private static void faultsOfStatements() {
        String[] texts = {
            "x 0 1 2", "B 0 1 2", " b 0 1 2", "b", "b ", "b0 1 2", "b  0 1 2", "b x", "b 0", "b 0 ", "b 0 1", "b 0 1 ",
            "b 0 1 2 ", "b 0 1 2x", "b 0 1 12345", "b 0 12345", "b 00000 1 2", "b 0000 0001 0002x", "b 3 1 2",
            "b 10", "b 9999", "b 0 3001", "b 0 3000 3001", "b 0 5 4", "b 0 5 04", "d 0 10 9", "d 0 -1 9",
            "m 0", "m 0 0", "m 0 00", "m 0 3", "m 0 1 ", "m 0 1 2", "f 2 2", "s 1 1", "s 1,2", "w 0 1", "w 0 0 1 2",
            "w 0 1 2 1", "w 0 1 2 3001", "w 3 3", "l 0", "l 0 3001", "l 0 1 ", "l 0 99999", "o 0 1", "o 0 1 100",
            "o 0 1 0100", "o 0 1 99 ", "o 0 0 100", "o 0 1 00099", "m 0 0x", "b 0 3001x", "d 0 5 4 ", "b\t0 1 2", "b 0 1 31234"};
        int[] faults = {
            0, 0, 0, 1, 2, 1, 2, 2, 3, 4, 5, 6,
            7, 7, 10, 8, 6, 16, 2,
            2, 2, 4, 9, 6, 6, 7, 4,
            3, 4, 4, 4, 5, 5, 4, 4, 3, 5, 4,
            8, 8, 2, 3, 4, 5, 4, 5, 6,
            6, 8, 4, 10, 4, 4, 6, 1, 6};
        for (int i = 0; i < texts.length; i++) {
            KinProver x = Due.people(3);
            due.is("state of \"" + texts[i] + "\"", Due.state(x, texts[i]), -100 - faults[i]);
            due.is("statements behind \"" + texts[i] + "\"", x.told(2), 0);
        }
        KinProver y = Due.people(3);
        String[] good = {"b 0000 0000 3000", "d 2 0 0", "m 0 1", "f 1 0002", "w 2 0 9 9", "s 0 1", "l 1 3000", "o 2 1 0099"};
        for (int i = 0; i < good.length; i++) {
            due.is("state of \"" + good[i] + "\"", Due.state(y, good[i]), i);
            due.is("its sort", y.of(i, 0), i);
        }
    }

    private static void live() {
        words.promise(8);
        words.say("A STATEMENT is LIVE (1) or not (0): what it was.");
        KinProver x = Due.told(1, "b 0 1 2");
        due.is("live(0, 1)", x.live(0, 1), 1);
        due.is("live(0, 0)", x.live(0, 0), 1);
        due.is("end behind it", x.end(0, 0, 0), 0);
        due.is("live(0, 0) again", x.live(0, 0), 0);
        due.is("live(0, 1) again", x.live(0, 1), 0);
        due.is("end then", x.end(0, 0, 0), 1);
        words.say("NONE: statement, live.");
        due.is("live(1, 1)", x.live(1, 1), -1);
        due.is("live(-1, 1)", x.live(-1, 1), -1);
        due.is("live(0, 2)", x.live(0, 2), -1);
        due.is("live(0, -1)", x.live(0, -1), -1);
        due.is("live stays", x.of(0, 5), 1);
    }

    private static void of() {
        words.promise(9);
        words.say("Of a STATEMENT what 0 SORT, 1 a, 2 b (-5: none), 3 lo (-5), 4 hi (-5), 5 LIVE (1, 0).");
        KinProver x = Due.told(4, "b 1 2 3", "d 1 4 5", "m 1 2", "f 2 3", "w 3 1 6 7", "s 3 0", "l 2 8", "o 0 3 9");
        int[][] want = {
            {0, 1, -5, 2, 3, 1}, {1, 1, -5, 4, 5, 1}, {2, 1, 2, -5, -5, 1}, {3, 2, 3, -5, -5, 1},
            {4, 3, 1, 6, 7, 1}, {5, 3, 0, -5, -5, 1}, {6, 2, -5, 8, -5, 1}, {7, 0, 3, 9, -5, 1}};
        for (int s = 0; s < want.length; s++) {
            for (int what = 0; what < 6; what++) {
                due.is("of(" + s + ", " + what + ")", x.of(s, what), want[s][what]);
            }
        }
        x.live(3, 0);
        due.is("of(3, 5)", x.of(3, 5), 0);
        due.is("of(3, 2) of one not LIVE", x.of(3, 2), 3);
        words.say("NONE: statement, what.");
        due.is("of(0, 6)", x.of(0, 6), -1);
        due.is("of(0, -1)", x.of(0, -1), -1);
        due.is("of(8, 0)", x.of(8, 0), -1);
        due.is("of(-1, 0)", x.of(-1, 0), -1);
        due.is("of(8, 2)", x.of(8, 2), -1);
    }

    private static void spell() {
        words.promise(10);
        words.say("THE PAPER becomes a STATEMENT as a text: how many bytes.");
        KinProver x = Due.told(12, "b 0000 0007 0080", "d 01 900 3000", "m 10 0011", "f 9 010", "w 2 3 0 0100", "s 5 4",
            "l 8 0000", "o 6 7 0009");
        String[] want = {"b 0 7 80", "d 1 900 3000", "m 10 11", "f 9 10", "w 2 3 0 100", "s 5 4", "l 8 0", "o 6 7 9"};
        for (int s = 0; s < want.length; s++) {
            due.is("spell(" + s + ")", x.spell(s), want[s].length());
            due.isText("paper of it", Due.paper(x), want[s]);
        }
        x.live(7, 0);
        due.is("spell of one not LIVE", x.spell(7), 7);
        words.say("NONE.");
        due.is("spell(8)", x.spell(8), -1);
        due.is("spell(-1)", x.spell(-1), -1);
        due.isText("paper behind these", Due.paper(x), "o 6 7 9");
        due.is("spell(60)", x.spell(60), -1);
    }

    private static void name() {
        words.promise(11);
        words.say("Letter i of a PERSON's NAME;");
        KinProver x = new KinProver();
        Due.person(x, "ada", 1);
        Due.person(x, "zacharz", 2);
        Due.state(x, "s 0 1");
        due.is("name(0, 0)", x.name(0, 0), 'a');
        due.is("name(0, 1)", x.name(0, 1), 'd');
        due.is("name(1, 0)", x.name(1, 0), 'z');
        due.is("name(1, 6)", x.name(1, 6), 'z');
        words.say("i -1: how many.");
        due.is("name(0, -1)", x.name(0, -1), 3);
        due.is("name(1, -1)", x.name(1, -1), 7);
        words.say("NONE: person, i.");
        due.is("name(0, 3)", x.name(0, 3), -1);
        due.is("name(1, 7)", x.name(1, 7), -1);
        due.is("name(0, -2)", x.name(0, -2), -1);
        due.is("name(0, MAX)", x.name(0, Integer.MAX_VALUE), -1);
        due.is("name(0, MIN)", x.name(0, Integer.MIN_VALUE), -1);
        due.is("name(2, 0)", x.name(2, 0), -1);
        due.is("name(-1, -1)", x.name(-1, -1), -1);
        due.is("name(2, -1)", x.name(2, -1), -1);
    }

    private static int found(KinProver x, String name, int i) {
        Due.feed(x, name);
        int answer = x.find(i);
        due.is("told(4) behind find", x.told(4), 0);
        return answer;
    }

    private static void find() {
        words.promise(12);
        words.say("THE TAPE's bytes are a NAME: the i-th PERSON with it (0 the first by numbers);");
        KinProver x = new KinProver();
        String[] names = {"bo", "ada", "bo", "b", "bob", "bo", "boboxyz"};
        for (String name : names) {
            Due.person(x, name, 0);
        }
        due.is("find bo 0", found(x, "bo", 0), 0);
        due.is("find bo 1", found(x, "bo", 1), 2);
        due.is("find bo 2", found(x, "bo", 2), 5);
        due.is("find b 0", found(x, "b", 0), 3);
        due.is("find bob 0", found(x, "bob", 0), 4);
        due.is("find boboxyz 0", found(x, "boboxyz", 0), 6);
        words.say("-5: there is none (i below 0, bytes that are no NAME, too).");
        due.is("find bo 3", found(x, "bo", 3), -5);
        due.is("find b 1", found(x, "b", 1), -5);
        due.is("find bo MAX", found(x, "bo", Integer.MAX_VALUE), -5);
        due.is("find bo -1", found(x, "bo", -1), -5);
        due.is("find bo MIN", found(x, "bo", Integer.MIN_VALUE), -5);
        due.is("find bobo 0", found(x, "bobo", 0), -5);
        due.is("find of no NAME", found(x, "Bo", 0), -5);
        due.is("find of nothing", found(x, "", 0), -5);
        due.is("find of eight", found(x, "boboxyzz", 0), -5);
        due.is("find of a new object", found(new KinProver(), "bo", 0), -5);
    }

    private static void byName() {
        words.promise(13);
        words.say("The i-th PERSON by NAMES (letter by letter, one that ends ahead first) (as words stand in a book),");
        KinProver x = new KinProver();
        String[] names = {"bob", "bo", "ada", "bo", "b", "zz", "az", "boa", "bzzzzzz"};
        int[] want = {2, 6, 4, 1, 3, 7, 0, 8, 5};
        for (String name : names) {
            Due.person(x, name, 0);
        }
        for (int i = 0; i < want.length; i++) {
            due.is("byName(" + i + ")", x.byName(i), want[i]);
        }
        words.say("of one NAME by numbers.");
        KinProver y = Due.people(30);
        for (int i = 0; i < 30; i++) {
            due.is("byName(" + i + ") of one NAME", y.byName(i), i);
        }
        words.say("NONE.");
        due.is("byName(9)", x.byName(9), -1);
        due.is("byName(30)", y.byName(30), -1);
        due.is("byName(-1)", x.byName(-1), -1);
        due.is("byName(MAX)", x.byName(Integer.MAX_VALUE), -1);
        due.is("byName(0) of a new object", new KinProver().byName(0), -1);
        due.is("told(6)", x.told(6), 8);
    }
}
