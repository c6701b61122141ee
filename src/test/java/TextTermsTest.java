/** The document's Terms, part 3, word by word: the tape, faults, the paper, lists, the image, answers. */
public final class TextTermsTest {
    private static final Due due = new Due("TextTermsTest");
    private static final Words words = new Words(due);

    public static void main(String[] args) {
        words.part("==== 3 ", "Ahead of the calls `feed`");
        tape();
        textsOfStatements();
        faultsOfNumbers();
        faultsOfBytes();
        paper();
        lists();
        laid();
        judged();
        image();
        answers();
        firstNamed();
        changesNothing();
        tapeIsEmpty();
        standsForItsPeople();
        words.endPart();
        due.end();
    }

    private static void is(String call, long got, long want) {
        due.is(call, got, want);
    }

    private static void tape() {
        words.say("THE TAPE holds 0 .. 60 bytes.");
        KinProver x = new KinProver();
        is("told(4)", x.told(4), 0);
        is("clear", x.clear(), 0);
        for (int i = 1; i <= 60; i++) {
            is("feed", x.feed(' '), i);
        }
        is("feed, one more", x.feed(' '), -4);
        is("told(4), full", x.told(4), 60);
        is("clear, full", x.clear(), 60);
        is("clear, empty", x.clear(), 0);
    }

    private static void isText(String text) {
        KinProver x = Due.people(12);
        is("state of " + text, Due.state(x, text), 0);
        x.spell(0);
        due.isText("spell of " + text, Due.paper(x), text);
    }

    private static void isFault(String text, int place) {
        KinProver x = Due.people(12);
        is("state of \"" + text + "\"", Due.state(x, text), -100 - place);
        is("told(2) behind it", x.told(2), 0);
    }

    private static void textsOfStatements() {
        words.say("A STATEMENT as a text: a letter, PERSONS and numbers, with blanks between, as told:");
        isText("w 10 11 1900 2000");
        isFault("w10 11 1900 2000", 1);
        isFault("w  10 11 1900 2000", 2);
        isFault(" w 10 11 1900 2000", 0);
        isFault("w 10\t11 1900 2000", 4);
        isFault("w 10 11 1900 2000 ", 17);
        isFault("w 10,11 1900 2000", 4);
        isFault("W 10 11 1900 2000", 0);
        says("b a lo hi;", "b 11 0 3000", "b 11 5");
        says("d a lo hi;", "d 0 7 7", "d 0 7");
        says("m a b;", "m 0 11", "m 0");
        says("f a b;", "f 11 0", "f 11");
        says("w a b lo hi (MARRIED);", "w 1 2 3 4", "w 1 2 3");
        says("s a b;", "s 3 2", "s 3");
        says("l a lo (ALIVE);", "l 4 3000", "l 4");
        says("o a b lo.", "o 5 6 99", "o 5 6");
        words.say("Numbers have 1 to 4 figures");
        isFault("b  5 9", 2);
        isText("b 0 5 9");
        isText("b 0 50 99");
        isText("b 0 500 999");
        isText("b 0 1500 2999");
        is("4 figures", Due.state(Due.people(1), "b 0000 0005 0009"), 0);
        is("1 to 3 figures ahead of a 0", Due.state(Due.people(1), "b 00 05 009"), 0);
        isFault("b 00000 5 9", 6);
        words.say("(four at most are taken, and looked at ahead of the byte behind).");
        isFault("b 0 00000 9", 8);
        isFault("b 0 00059 9", 8);
        isFault("b 0 30019 9", 4);
        isFault("b 0 30009 9", 8);
        isFault("b 12345 5 9", 2);
        isFault("b 12x", 2);
        isFault("b 11x", 4);
        isFault("o 0 1 1000000", 6);
        isFault("b 0 5 4x", 6);
    }

    /** The text is one; without its last number it ends too early; with more behind it the fault is there. */
    private static void says(String sentence, String text, String ended) {
        words.say(sentence);
        isText(text);
        isFault(text.substring(0, text.lastIndexOf(' ')), text.lastIndexOf(' '));
        isFault(ended, ended.length());
        isFault(text + " 0", text.length());
        isFault(text.substring(0, 1), 1);
    }

    private static void faultsOfNumbers() {
        words.say("FAULT (the first that is met from the left):");
        isFault("b 12 3001 3002", 2);
        isFault("b 11 3001 3002", 5);
        isFault("b 11 3000 3002", 10);
        isFault("b 11 3000 2999x", 10);
        isFault("w 12 12 9 8", 2);
        isFault("w 11 11 9 8", 5);
        isFault("w 11 10 9 8", 10);
        isFault("x 12", 0);
        words.say("of a number that may not be (no such PERSON,");
        isFault("b 12 5 9", 2);
        isFault("m 0 12", 4);
        isFault("m 12 0", 2);
        isFault("b 9999 5 9", 2);
        is("with nobody", Due.state(new KinProver(), "b 0 5 9"), -102);
        words.say("b that is a,");
        isFault("m 3 3", 4);
        isFault("f 3 03", 4);
        isFault("w 10 0010 5 9", 5);
        isFault("s 0 0", 4);
        isFault("o 1 1 5", 4);
        KinProver one = Due.told(2, "s 0 1");
        is("b that is one with a", Due.state(one, "m 0 1"), 1);
        words.say("a YEAR above 3000,");
        isFault("b 0 3001 3001", 4);
        isFault("b 0 3000 3001", 9);
        isFault("d 0 9999 3000", 4);
        isFault("w 0 1 3001 3001", 6);
        isFault("w 0 1 0 3001", 8);
        isFault("l 0 3001", 4);
        isText("l 0 3000");
        isText("b 0 3000 3000");
        words.say("hi below lo,");
        isFault("b 0 5 4", 6);
        isFault("d 0 3000 0", 9);
        isFault("w 0 1 5 4", 8);
        isText("b 0 5 5");
        words.say("OLDER's above 99)");
        isFault("o 0 1 100", 6);
        isFault("o 0 1 9999", 6);
        isText("o 0 1 99");
        isText("o 0 1 0");
        words.say("where it begins;");
        isFault("b 11 100 0099", 9);
        isFault("w 10 11 3000 2999", 13);
        isFault("o 10 11 0100", 8);
        isFault("s 11 0011", 5);
    }

    private static void faultsOfBytes() {
        words.say("otherwise the place (from 0) of the first byte with which no such text goes on;");
        isFault("x", 0);
        isFault("x 0 1", 0);
        isFault("bb", 1);
        isFault("b x", 2);
        isFault("b 0x", 3);
        isFault("b 0 x", 4);
        isFault("b 0 5x", 5);
        isFault("b 0 5 x", 6);
        isFault("b 0 5 9x", 7);
        isFault("b 0 5 9 ", 7);
        isFault("b -1 5 9", 2);
        isFault("b 0 /", 4);
        isFault("b 0 :", 4);
        isFault("m 0 1 5", 5);
        isFault("b 0 5 9" + " ".repeat(53), 7);
        words.say("the length, if it ends too early.");
        isFault("", 0);
        isFault("b", 1);
        isFault("b ", 2);
        isFault("b 0", 3);
        isFault("b 0 ", 4);
        isFault("b 0 5", 5);
        isFault("b 0 5 ", 6);
        isFault("w 10 11 1900 ", 13);
        words.say("A text with a FAULT does nothing.");
        KinProver x = Due.told(2, "b 0 5 9");
        String stood = Due.stands(x);
        is("state", Due.state(x, "b 1 5 9 "), -107);
        is("person", Due.person(x, "aB", 1), -101);
        Due.feed(x, "b 1 5");
        is("narrows", x.narrows(0, 0), -105);
        due.isText("what stands", Due.stands(x), stood);
        is("the next", Due.state(x, "l 0 7"), 1);
    }

    private static void isPaper(KinProver x, int length, String want) {
        is("bytes", length, want.length());
        is("told(5)", x.told(5), want.length());
        due.isText("THE PAPER", Due.paper(x), want);
    }

    private static void paper() {
        words.say("THE PAPER holds the latest text told by a call");
        KinProver x = Due.told(2, "b 0 5 9", "m 1 0");
        isPaper(x, x.spell(0), "b 0 5 9");
        isPaper(x, x.title(0, 1), "child");
        isPaper(x, x.prove(0, 0, 0), "0");
        isPaper(x, x.prove(0, 1, 1), "L0<0");
        isPaper(x, x.spell(1), "m 1 0");
        isPaper(x, x.prove(1, 1, 1), "L1<1<0");
        KinProver y = Due.told(1);
        y.title(0, 0);
        isPaper(y, y.prove(0, 0, 0), "");
        y.title(0, 0);
        y.spell(0);
        y.title(0, 1);
        y.prove(0, 0, 2);
        Due.feed(y, "abc");
        y.find(0);
        isPaper(y, 4, "self");
        words.say("(nothing at first):");
        KinProver z = Due.told(2, "b 0 5 9");
        is("told(5)", z.told(5), 0);
        is("paper(0)", z.paper(0), -1);
        is("paper(-1)", z.paper(-1), -1);
        words.say("a STATEMENT as a text, numbers as short as can be;");
        KinProver w = Due.told(11, "b 0000 0000 0010", "d 010 0099 0100", "l 1 0999", "w 1 02 1000 3000", "o 0 1 0009");
        isPaper(w, w.spell(0), "b 0 0 10");
        isPaper(w, w.spell(1), "d 10 99 100");
        isPaper(w, w.spell(2), "l 1 999");
        isPaper(w, w.spell(3), "w 1 2 1000 3000");
        isPaper(w, w.spell(4), "o 0 1 9");
        words.say("a TITLE.");
        isPaper(w, w.title(1, 2), "spouse");
        isPaper(w, w.title(3, 2), "none");
    }

    private static void lists() {
        words.say("LISTS 0 .. 3 hold nothing (at first)");
        KinProver x = new KinProver();
        for (int list = 0; list <= 3; list++) {
            is("get(" + list + ", 0)", x.get(list, 0), KinProver.NO);
            is("judge(" + list + ", 0)", x.judge(list, 0), -11);
        }
        is("judge(-1, 0)", x.judge(-1, 0), -1);
        is("judge(4, 0)", x.judge(4, 0), -1);
        words.say("or a row of 0 .. 40 ints.");
        is("list(0, 0)", x.list(0, 0), 1);
        is("get(0, 0)", x.get(0, 0), KinProver.NO);
        is("list(3, 40)", x.list(3, 40), 1);
        is("set(3, 39, MIN)", x.set(3, 39, Integer.MIN_VALUE), 1);
        is("get(3, 39)", x.get(3, 39), Integer.MIN_VALUE);
        is("set(3, 0, MAX)", x.set(3, 0, Integer.MAX_VALUE), 1);
        is("get(3, 0)", x.get(3, 0), Integer.MAX_VALUE);
        is("get(3, 40)", x.get(3, 40), KinProver.NO);
        is("list(3, 41)", x.list(3, 41), -2);
        is("get(3, 39) stays", x.get(3, 39), Integer.MIN_VALUE);
        words.say("NOTHING (-11): there is none;");
        is("set(1, 0, 1)", x.set(1, 0, 1), -11);
        is("lay(1, 0)", x.lay(1, 0), -11);
        is("judge(2, 0)", x.judge(2, 0), -11);
        is("set(0, 0, 1), a row of none", x.set(0, 0, 1), -13);
        words.say("BEYOND (-13): no such place;");
        is("set(3, 40, 1)", x.set(3, 40, 1), -13);
        is("set(3, -1, 1)", x.set(3, -1, 1), -13);
        is("set(3, MAX, 1)", x.set(3, Integer.MAX_VALUE, 1), -13);
        is("set(3, MIN, 1)", x.set(3, Integer.MIN_VALUE, 1), -13);
        words.say("BELOW (-14): a size below 0.");
        is("list(3, -1)", x.list(3, -1), -14);
        is("list(3, MIN)", x.list(3, Integer.MIN_VALUE), -14);
        is("get(3, 39) stays", x.get(3, 39), Integer.MIN_VALUE);
    }

    private static void isRow(KinProver x, int list, int... want) {
        for (int i = 0; i < want.length; i++) {
            is("get(" + list + ", " + i + ")", x.get(list, i), want[i]);
        }
    }

    /** ORDER: 2, 0, 1. */
    private static KinProver three() {
        KinProver x = Due.told(3, "b 2 1900 1910", "b 0 1910 1915", "b 1 1910 1920");
        x.list(0, 5);
        x.list(1, 2);
        return x;
    }

    private static void laid() {
        words.say("LAID into a LIST from a place on: PEOPLE in ORDER, until a place isn't there.");
        KinProver x = three();
        is("lay(0, 0)", x.lay(0, 0), 3);
        isRow(x, 0, 2, 0, 1, 0, 0);
        is("lay(0, 2)", x.lay(0, 2), 3);
        isRow(x, 0, 2, 0, 2, 0, 1);
        is("lay(0, 3)", x.lay(0, 3), -13);
        isRow(x, 0, 2, 0, 2, 2, 0);
        is("lay(0, 4)", x.lay(0, 4), -13);
        isRow(x, 0, 2, 0, 2, 2, 2);
        is("lay(0, 5)", x.lay(0, 5), -13);
        is("lay(0, -1)", x.lay(0, -1), -13);
        is("lay(0, -2)", x.lay(0, -2), -13);
        is("lay(0, MAX)", x.lay(0, Integer.MAX_VALUE), -13);
        is("lay(0, MIN)", x.lay(0, Integer.MIN_VALUE), -13);
        isRow(x, 0, 2, 0, 2, 2, 2);
        is("lay(1, 0)", x.lay(1, 0), -13);
        isRow(x, 1, 2, 0);
    }

    private static void judged() {
        words.say("JUDGED: the first place of ORDER that isn't what the LIST has there, from a place on;");
        KinProver x = three();
        x.lay(0, 1);
        is("judge(0, 0)", x.judge(0, 0), 0);
        x.set(0, 3, 7);
        is("judge(0, 1), the last", x.judge(0, 1), 2);
        x.set(0, 2, 7);
        is("judge(0, 1), the one ahead", x.judge(0, 1), 1);
        words.say("-5: none;");
        x.lay(0, 1);
        is("judge(0, 1)", x.judge(0, 1), -5);
        x.lay(0, 2);
        is("judge(0, 2)", x.judge(0, 2), -5);
        words.say("100 and how many were looked at, if the list ends ahead of that");
        x.lay(0, 3);
        is("judge(0, 3)", x.judge(0, 3), 102);
        x.set(0, 4, 2);
        is("judge(0, 3), the last one is not as ORDER", x.judge(0, 3), 1);
        is("judge(0, 4)", x.judge(0, 4), 101);
        is("judge(0, 5)", x.judge(0, 5), 100);
        is("judge(0, 6)", x.judge(0, 6), 100);
        is("judge(0, MAX)", x.judge(0, Integer.MAX_VALUE), 100);
        x.lay(1, 0);
        is("judge(1, 0)", x.judge(1, 0), 102);
        words.say("(or the place is below 0).");
        is("judge(0, -1)", x.judge(0, -1), 100);
        is("judge(0, -3)", x.judge(0, -3), 100);
        is("judge(0, MIN)", x.judge(0, Integer.MIN_VALUE), 100);
    }

    private static void image() {
        words.say("THE IMAGE: PERSONS, STATEMENTS");
        KinProver x = Due.told(2, "b 0 5 9", "m 1 0");
        x.sex(0, 1);
        String stood = Due.stands(x);
        x.image();
        Due.person(x, "new", 2);
        x.sex(0, 2);
        x.sex(1, 2);
        x.live(0, 0);
        Due.state(x, "s 2 1");
        Due.state(x, "b 2 1 1");
        x.undo();
        due.isText("what stands", Due.stands(x), stood);
        words.say("(THE TAPE, THE PAPER, LISTS stay by undo()).");
        Due.feed(x, "p");
        x.list(2, 2);
        x.title(1, 0);
        x.image();
        x.set(2, 1, 8);
        x.spell(0);
        Due.feed(x, "qr");
        is("undo", x.undo(), 2);
        is("THE TAPE", x.told(4), 3);
        due.isText("THE PAPER", Due.paper(x), "b 0 5 9");
        is("the LIST", x.get(2, 1), 8);
        is("THE TAPE's bytes", x.person(0), 2);
        is("its last letter", x.name(2, 2), 'r');
    }

    private static void answers() {
        words.say("Answers: NONE (-1) no such number; BAD (-2) a number is not as told; STATE (-3) as told; FULL (-4);");
        is("NONE", KinProver.NONE, -1);
        is("BAD", KinProver.BAD, -2);
        is("STATE", KinProver.STATE, -3);
        is("FULL", KinProver.FULL, -4);
        words.say("(-5 is told only where none of them is, but as told).");
        KinProver x = Due.told(3, "m 0 1");
        is("kin(0, 2)", x.kin(0, 2), -5);
        is("kin(0, 3)", x.kin(0, 3), -1);
        is("path(0, 2, -2)", x.path(0, 2, -2), -1);
        is("path(0, 2, 99)", x.path(0, 2, 99), -5);
        is("path(0, 1, 99)", x.path(0, 1, 99), -1);
        is("clash(1)", x.clash(1), -5);
        is("clash(2)", x.clash(2), -1);
        is("of(0, 3)", x.of(0, 3), -5);
        is("of(1, 3)", x.of(1, 3), -1);
        is("people(2, 3)", x.people(2, 3), -5);
        is("people(3, 3)", x.people(3, 3), -1);
        is("proof of nothing, part 1", x.proof(2, 0, 0, 0, 1), -3);
        is("proof of nothing, part 3", x.proof(2, 0, 0, 0, 3), -1);
        words.say("-100 less the FAULT of a text;");
        is("person", Due.person(x, "ab1", 0), -102);
        is("state", Due.state(x, "b 0 5 4"), -106);
        words.say("The constants: `NO = Long.MIN_VALUE`: No such number.");
        is("NO", KinProver.NO, Long.MIN_VALUE);
        is("get(4, 0)", x.get(4, 0), Long.MIN_VALUE);
        is("ancestors(3)", x.ancestors(3), Long.MIN_VALUE);
    }

    private static void firstNamed() {
        words.say("the first that a call's words name");
        KinProver x = Due.told(2, "b 0 5 9");
        is("culprit, below -1, no CLASH", x.culprit(-2), -1);
        is("culprit, no i-th, no CLASH", x.culprit(7), -3);
        is("year, no such side, no MARRIED", x.year(0, 2), -1);
        is("proof, no such link, RESTS on nothing", x.proof(1, 0, 0, 100, 0), -1);
        is("why, no such link, no CLASH", x.why(0, 100, 0), -1);
        is("why, no CLASH", x.why(0, 99, 0), -3);
        is("set, NOTHING, BEYOND", x.set(0, 99, 0), -11);
        is("set, NONE, NOTHING", x.set(4, 99, 0), -1);
        is("lay, NOTHING, BEYOND", x.lay(0, -1), -11);
        is("judge, NOTHING, below 0", x.judge(0, -1), -11);
        is("list, NONE, BAD", x.list(4, 41), -1);
        is("list, NONE, BELOW", x.list(-1, -1), -1);
        is("path, NONE, no such ancestor", x.path(0, 1, -2), -1);
        is("same, NONE, the same", x.same(2, 2), -1);
        Due.state(x, "b 0 1 2");
        Due.feed(x, "x");
        is("narrows, NONE, STATE, a FAULT", x.narrows(0, 2), -1);
        is("narrows, STATE, a FAULT", x.narrows(0, 0), -3);
        x.clear();
        for (int i = 2; i < 60; i++) {
            Due.state(x, "l 1 0");
        }
        Due.feed(x, "?");
        is("narrows, NONE, FULL, STATE", x.narrows(2, 0), -1);
        is("narrows, FULL, STATE, a FAULT", x.narrows(0, 0), -4);
        is("state, NONE, FULL, a FAULT", x.state(2), -1);
        is("state, FULL, a FAULT", x.state(1), -4);
        is("told(4)", x.told(4), 1);
        KinProver y = Due.people(30);
        Due.feed(y, "?".repeat(60));
        is("feed, BAD, FULL", y.feed(128), -2);
        is("person, NONE, FULL, a FAULT", y.person(3), -1);
        is("person, FULL, a FAULT", y.person(2), -4);
        is("told(4)", y.told(4), 60);
        KinProver z = Due.people(1);
        Due.feed(z, "?");
        is("person, NONE, a FAULT", z.person(-1), -1);
        is("state, NONE, a FAULT", z.state(-1), -1);
        is("narrows, NONE, a FAULT", z.narrows(1, 0), -1);
        is("told(4)", z.told(4), 1);
    }

    /** Two PERSONS who have two, a MARRIED, a LIST with a row, two bytes on THE TAPE, "self" on THE PAPER. */
    private static KinProver some() {
        KinProver x = Due.told(4, "m 2 0", "f 2 1", "w 0 1 1900 1950", "b 3 1 2");
        x.live(3, 0);
        x.list(1, 4);
        x.set(1, 2, 9);
        x.title(0, 0);
        Due.feed(x, "p");
        return x;
    }

    private static void refused(KinProver x) {
        int[] answers = {x.feed(0), x.feed(128), x.paper(-1), x.paper(9), x.person(3), x.sex(4, 0), x.sex(0, 3), x.state(2),
            x.live(4, 0), x.live(0, 2), x.of(4, 0), x.of(0, 6), x.spell(4), x.name(4, 0), x.name(0, 1), x.byName(4),
            x.people(4, 0), x.people(0, 8), x.end(4, 0, 0), x.end(0, 2, 0), x.year(4, 0), x.year(0, 0),
            x.proof(4, 0, 0, 0, 0), x.proof(3, 0, 0, 0, 0), x.prove(4, 0, 0), x.prove(0, 0, 2), x.clash(2), x.why(0, 0, 0),
            x.why(2, 0, 0), x.culprit(-2), x.culprit(0), x.same(0, 4), x.same(0, 0), x.narrows(4, 0), x.narrows(0, 2),
            x.kin(0, 4), x.kin(0, 3), x.common(4, 0), x.common(0, 3), x.half(0, 4), x.half(0, 3), x.title(4, 0),
            x.title(0, 4), x.path(0, 4, 0), x.path(0, 3, 0), x.path(0, 0, 1), x.order(4), x.ahead(0, 4), x.told(8),
            x.list(4, 0), x.list(1, 41), x.list(1, -1), x.set(4, 0, 0), x.set(0, 0, 0), x.set(1, 4, 0), x.set(1, -1, 0),
            x.lay(4, 0), x.lay(0, 0), x.lay(1, -1), x.lay(1, 4), x.judge(4, 0), x.judge(0, 0), x.undo()};
        for (int i = 0; i < answers.length; i++) {
            is("refused call " + i + " is below 0", answers[i] < 0 ? 1 : 0, 1);
        }
        long[] none = {x.relatives(4, 0), x.relatives(0, 3), x.ancestors(4), x.descendants(-1), x.get(4, 0), x.get(0, 0)};
        for (int i = 0; i < none.length; i++) {
            is("refused call of a long " + i, none[i], KinProver.NO);
        }
    }

    private static void asked(KinProver x) {
        x.paper(0);
        x.of(0, 0);
        x.name(0, 0);
        x.byName(1);
        x.people(0, 1);
        x.end(0, 0, 0);
        x.year(2, 0);
        x.proof(0, 0, 0, 0, 0);
        x.clash(0);
        x.culprit(-1);
        x.same(0, 3);
        x.same(2, 1);
        x.rounds();
        x.kin(2, 0);
        x.common(2, 1);
        x.half(0, 2);
        x.path(2, 1, 1);
        x.relatives(0, 2);
        x.ancestors(2);
        x.descendants(1);
        x.order(1);
        x.ahead(0, 2);
        x.told(7);
        x.get(1, 2);
        x.judge(1, 0);
    }

    private static void changesNothing() {
        words.say("What is answered so changes nothing (but LISTS by BEYOND, as told);");
        KinProver x = some();
        refused(x);
        due.isText("what stands", Due.stands(x), Due.stands(some()));
        due.isText("THE PAPER", Due.paper(x), "self");
        is("THE TAPE", x.find(1), 1);
        KinProver y = some();
        is("lay(1, 2)", y.lay(1, 2), -13);
        is("get(1, 2)", y.get(1, 2), 3);
        words.say("what is asked changes nothing but THE PAPER, LISTS into which it is LAID.");
        KinProver z = some();
        asked(z);
        due.isText("what stands", Due.stands(z), Due.stands(some()));
        due.isText("THE PAPER", Due.paper(z), "self");
        z.prove(2, 1, 0);
        z.spell(0);
        z.title(2, 0);
        due.isText("what stands behind texts", Due.stands(z), Due.stands(some()));
        is("THE TAPE", z.find(0), 0);
        KinProver w = some();
        w.clear();
        w.list(2, 4);
        is("lay(2, 0)", w.lay(2, 0), 4);
        is("get(1, 2) of another LIST", w.get(1, 2), 9);
        Due.feed(w, "s 0 3");
        is("narrows", w.narrows(0, 0), 0);
        is("told(2)", w.told(2), 4);
        is("of(4, 0)", w.of(4, 0), -1);
        is("people(3, 0)", w.people(3, 0), 3);
        askedAheadOfAChange();
    }

    private static final int ASKS = 27;
    private static final int CHANGES = 6;

    private static long ask(KinProver x, int which) {
        return switch (which) {
            case 0 -> x.people(0, 2);
            case 1 -> x.people(3, 7);
            case 2 -> x.end(2, 0, 0);
            case 3 -> x.year(2, 0);
            case 4 -> x.proof(0, 0, 0, 0, 0);
            case 5 -> x.prove(2, 1, 1);
            case 6 -> x.clash(0);
            case 7 -> x.clash(1);
            case 8 -> x.why(0, 0, 0);
            case 9 -> x.culprit(-1);
            case 10 -> x.same(2, 3);
            case 11 -> x.rounds();
            case 12 -> x.kin(2, 0);
            case 13 -> x.common(2, 3);
            case 14 -> x.half(2, 3);
            case 15 -> x.title(0, 2);
            case 16 -> x.path(2, 0, -1);
            case 17 -> x.relatives(1, 0);
            case 18 -> x.ancestors(2);
            case 19 -> x.descendants(0);
            case 20 -> x.order(1);
            case 21 -> x.ahead(0, 2);
            case 22 -> x.told(1);
            case 23 -> x.told(3);
            case 24 -> x.told(7);
            case 25 -> x.lay(1, 0);
            default -> x.judge(1, 0);
        };
    }

    private static void change(KinProver x, int which) {
        switch (which) {
            case 0 -> x.person(2);
            case 1 -> x.sex(0, 2);
            case 2 -> x.live(0, 0);
            case 3 -> x.live(3, 1);
            case 4 -> {
                x.clear();
                Due.state(x, "s 3 2");
            }
            default -> x.undo();
        }
    }

    /** Its image is another: 0 is the mother of 3. */
    private static KinProver someAndAnImage() {
        KinProver x = Due.told(4, "b 0 1800 1810", "m 3 0", "f 2 3", "m 1 3");
        x.image();
        x.live(0, 0);
        x.live(1, 0);
        x.live(2, 0);
        x.live(3, 0);
        x.list(1, 4);
        x.set(1, 1, 1);
        Due.state(x, "m 2 0");
        Due.state(x, "b 0 1900 1910");
        Due.feed(x, "new");
        return x;
    }

    private static void askedAheadOfAChange() {
        for (int change = 0; change < CHANGES; change++) {
            for (int which = 0; which < ASKS; which++) {
                KinProver x = someAndAnImage();
                KinProver y = someAndAnImage();
                x.told(1);
                x.culprit(-1);
                change(x, change);
                change(y, change);
                is("asked " + which + " behind change " + change, ask(x, which), ask(y, which));
                due.isText("what stands behind both", Due.stands(x), Due.stands(y));
            }
        }
    }

    private static void tapeIsEmpty() {
        words.say("THE TAPE is empty behind each call that reads it.");
        KinProver x = Due.people(2);
        Due.feed(x, "ab");
        is("person", x.person(1), 2);
        is("told(4)", x.told(4), 0);
        Due.feed(x, "a!");
        is("person, a FAULT", x.person(1), -101);
        is("told(4)", x.told(4), 0);
        Due.feed(x, "l 0 5");
        is("state", x.state(1), 0);
        is("told(4)", x.told(4), 0);
        Due.feed(x, "l 0 5 ");
        is("state, a FAULT", x.state(1), -105);
        is("told(4)", x.told(4), 0);
        Due.feed(x, "ab");
        is("find", x.find(0), 2);
        is("told(4)", x.told(4), 0);
        Due.feed(x, "a?");
        is("find, no NAME", x.find(0), -5);
        is("told(4)", x.told(4), 0);
        Due.feed(x, "ab");
        is("find, below 0", x.find(-1), -5);
        is("told(4)", x.told(4), 0);
        Due.feed(x, "l 1 5");
        is("narrows", x.narrows(1, 0), 2995);
        is("told(4)", x.told(4), 0);
        Due.feed(x, "l 1 5 ");
        is("narrows, a FAULT", x.narrows(1, 0), -105);
        is("told(4)", x.told(4), 0);
        Due.feed(x, "m 0 1");
        is("narrows, a CLASH", x.narrows(1, 0), -1004);
        is("told(4)", x.told(4), 0);
    }

    private static void standsForItsPeople() {
        words.say("A PERSON told to a call stands for its PEOPLE.");
        KinProver x = Due.told(8, "s 5 0", "s 6 1", "m 5 1", "b 0 1900 1910", "w 5 7 1930 1930", "f 2 0", "f 3 5");
        is("people", x.people(5, 3), 1);
        is("end", x.end(5, 0, 0), 1900);
        is("proof", x.proof(5, 0, 0, 0, 0), 3);
        is("prove", x.prove(5, 1, 1), 4);
        is("kin", x.kin(5, 6), 100);
        is("common", x.common(5, 6), 1);
        is("half", x.half(3, 2), 1);
        is("title", x.title(5, 7), 6);
        is("path", x.path(5, 6, 1), 1);
        is("path, itself", x.path(5, 6, 0), 0);
        is("relatives", x.relatives(5, 0), 12);
        is("ancestors", x.ancestors(5), 2);
        is("descendants", x.descendants(6), 13);
        is("ahead", x.ahead(6, 5), 1);
        is("ahead of the same", x.ahead(0, 5), 0);
        is("same, who are one", x.same(5, 0), 0);
        Due.feed(x, "l 0 1905");
        is("narrows", x.narrows(5, 0), 5);
    }
}
