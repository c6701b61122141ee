/** Promises 36 to 42, word by word: lists, the image. */
public final class ListsTest {
    private static final Due due = new Due("ListsTest");
    private static final Words words = new Words(due);

    public static void main(String[] args) {
        list();
        set();
        get();
        lay();
        judge();
        nobody();
        imageAndUndo();
        undoOfPeople();
        words.endPart();
        due.end();
    }

    private static void list() {
        words.promise(36);
        words.say("A LIST becomes a row of n ints, all 0: 1.");
        KinProver x = new KinProver();
        due.is("list(0, 40)", x.list(0, 40), 1);
        for (int i = 0; i < 40; i++) {
            due.is("get(0, " + i + ")", x.get(0, i), 0);
        }
        due.is("get(0, 40)", x.get(0, 40), KinProver.NO);
        for (int i = 0; i < 40; i++) {
            x.set(0, i, 7 + i);
        }
        due.is("list(0, 2)", x.list(0, 2), 1);
        due.is("get(0, 0) anew", x.get(0, 0), 0);
        due.is("get(0, 1) anew", x.get(0, 1), 0);
        due.is("get(0, 2)", x.get(0, 2), KinProver.NO);
        due.is("list(0, 40) again", x.list(0, 40), 1);
        due.is("get(0, 1) again", x.get(0, 1), 0);
        due.is("get(0, 39) again", x.get(0, 39), 0);
        due.is("list(3, 0)", x.list(3, 0), 1);
        due.is("get(3, 0)", x.get(3, 0), KinProver.NO);
        due.is("set(3, 0, 1)", x.set(3, 0, 1), -13);
        due.is("set(2, 0, 1)", x.set(2, 0, 1), -11);
        words.say("NONE: list;");
        due.is("list(4, 1)", x.list(4, 1), -1);
        due.is("list(-1, 1)", x.list(-1, 1), -1);
        due.is("list(4, 41)", x.list(4, 41), -1);
        due.is("list(4, -1)", x.list(4, -1), -1);
        due.is("list(MIN, 1)", x.list(Integer.MIN_VALUE, 1), -1);
        words.say("BAD: n above 40;");
        x.set(0, 1, 7);
        due.is("list(0, 41)", x.list(0, 41), -2);
        due.is("list(0, MAX)", x.list(0, Integer.MAX_VALUE), -2);
        due.is("list(1, 41)", x.list(1, 41), -2);
        due.is("get(0, 1) stays", x.get(0, 1), 7);
        due.is("nothing there still", x.set(1, 0, 1), -11);
        words.say("BELOW.");
        due.is("list(0, -1)", x.list(0, -1), -14);
        due.is("list(0, MIN)", x.list(0, Integer.MIN_VALUE), -14);
        due.is("list(1, -1)", x.list(1, -1), -14);
        due.is("get(0, 1) stays", x.get(0, 1), 7);
        due.is("nothing there still", x.set(1, 0, 1), -11);
    }

    private static void set() {
        words.promise(37);
        words.say("Place i of a LIST becomes v: 1.");
        KinProver x = new KinProver();
        x.list(1, 3);
        due.is("set(1, 0, MAX)", x.set(1, 0, Integer.MAX_VALUE), 1);
        due.is("set(1, 2, MIN)", x.set(1, 2, Integer.MIN_VALUE), 1);
        due.is("get(1, 0)", x.get(1, 0), Integer.MAX_VALUE);
        due.is("get(1, 1)", x.get(1, 1), 0);
        due.is("get(1, 2)", x.get(1, 2), Integer.MIN_VALUE);
        words.say("NONE;");
        due.is("set(4, 0, 1)", x.set(4, 0, 1), -1);
        due.is("set(-1, 0, 1)", x.set(-1, 0, 1), -1);
        due.is("set(4, -1, 1)", x.set(4, -1, 1), -1);
        words.say("NOTHING;");
        due.is("set(0, 0, 1)", x.set(0, 0, 1), -11);
        due.is("set(0, -1, 1)", x.set(0, -1, 1), -11);
        due.is("set(0, 40, 1)", x.set(0, 40, 1), -11);
        words.say("BEYOND.");
        due.is("set(1, 3, 1)", x.set(1, 3, 1), -13);
        due.is("set(1, -1, 1)", x.set(1, -1, 1), -13);
        due.is("set(1, MAX, 1)", x.set(1, Integer.MAX_VALUE, 1), -13);
        due.is("set(1, MIN, 1)", x.set(1, Integer.MIN_VALUE, 1), -13);
        x.list(2, 0);
        due.is("set(2, 0, 1)", x.set(2, 0, 1), -13);
    }

    private static void get() {
        words.promise(38);
        words.say("Place i of a LIST.");
        KinProver x = new KinProver();
        x.list(3, 2);
        x.set(3, 1, -1);
        due.is("get(3, 0)", x.get(3, 0), 0);
        due.is("get(3, 1)", x.get(3, 1), -1);
        words.say("NO: no such LIST, nothing there, no such place.");
        due.is("get(4, 0)", x.get(4, 0), KinProver.NO);
        due.is("get(-1, 0)", x.get(-1, 0), KinProver.NO);
        due.is("get(0, 0)", x.get(0, 0), KinProver.NO);
        due.is("get(0, -1)", x.get(0, -1), KinProver.NO);
        due.is("get(3, 2)", x.get(3, 2), KinProver.NO);
        due.is("get(3, -1)", x.get(3, -1), KinProver.NO);
        due.is("get(3, MAX)", x.get(3, Integer.MAX_VALUE), KinProver.NO);
        due.is("get(3, MIN)", x.get(3, Integer.MIN_VALUE), KinProver.NO);
    }

    /** ORDER: 2, 0, 1. */
    private static KinProver three() {
        return Due.told(3, "b 2 1900 1910", "b 0 1910 1915", "b 1 1910 1920");
    }

    private static void isList(String call, KinProver x, int list, int... want) {
        for (int i = 0; i < want.length; i++) {
            due.is(call + ", place " + i, x.get(list, i), want[i]);
        }
        due.is(call + ", the end", x.get(list, want.length), KinProver.NO);
    }

    private static void lay() {
        words.promise(39);
        words.say("PEOPLE are LAID into a LIST from i on: how many.");
        KinProver x = three();
        x.list(0, 5);
        x.set(0, 0, 9);
        due.is("lay(0, 1)", x.lay(0, 1), 3);
        isList("lay(0, 1)", x, 0, 9, 2, 0, 1, 0);
        due.is("lay(0, 2)", x.lay(0, 2), 3);
        isList("lay(0, 2)", x, 0, 9, 2, 2, 0, 1);
        words.say("NONE;");
        due.is("lay(4, 0)", x.lay(4, 0), -1);
        due.is("lay(-1, 0)", x.lay(-1, 0), -1);
        words.say("NOTHING;");
        due.is("lay(1, 0)", x.lay(1, 0), -11);
        due.is("lay(1, -1)", x.lay(1, -1), -11);
        words.say("BEYOND: not all were (those that had a place are there all the same;");
        due.is("lay(0, 3)", x.lay(0, 3), -13);
        isList("lay(0, 3)", x, 0, 9, 2, 2, 2, 0);
        due.is("lay(0, 4)", x.lay(0, 4), -13);
        isList("lay(0, 4)", x, 0, 9, 2, 2, 2, 2);
        due.is("lay(0, 5)", x.lay(0, 5), -13);
        due.is("lay(0, MAX)", x.lay(0, Integer.MAX_VALUE), -13);
        due.is("lay(0, MAX - 1)", x.lay(0, Integer.MAX_VALUE - 1), -13);
        isList("lay beyond", x, 0, 9, 2, 2, 2, 2);
        words.say("none, if i is below 0).");
        due.is("lay(0, -1)", x.lay(0, -1), -13);
        due.is("lay(0, -2)", x.lay(0, -2), -13);
        due.is("lay(0, MIN)", x.lay(0, Integer.MIN_VALUE), -13);
        isList("lay below 0", x, 0, 9, 2, 2, 2, 2);
        x.list(1, 3);
        Due.state(x, "s 1 2");
        due.is("lay(1, 1)", x.lay(1, 1), 2);
        isList("lay(1, 1)", x, 1, 0, 1, 0);
        KinProver y = Due.people(30);
        y.list(3, 40);
        due.is("lay(3, 10)", y.lay(3, 10), 30);
        due.is("get(3, 39)", y.get(3, 39), 29);
        due.is("lay(3, 11)", y.lay(3, 11), -13);
        due.is("get(3, 39) then", y.get(3, 39), 28);
        due.is("judge(3, 11)", y.judge(3, 11), 129);
    }

    private static void judge() {
        words.promise(40);
        words.say("JUDGED by a LIST from i on.");
        KinProver x = three();
        x.list(0, 5);
        x.lay(0, 1);
        due.is("judge(0, 1)", x.judge(0, 1), -5);
        due.is("judge(0, 0)", x.judge(0, 0), 0);
        x.set(0, 3, 7);
        due.is("judge(0, 1), another last", x.judge(0, 1), 2);
        x.set(0, 2, 7);
        due.is("judge(0, 1), another", x.judge(0, 1), 1);
        x.list(1, 2);
        x.lay(1, 0);
        due.is("judge(1, 0)", x.judge(1, 0), 102);
        due.is("judge(1, 2)", x.judge(1, 2), 100);
        due.is("judge(1, 3)", x.judge(1, 3), 100);
        due.is("judge(1, -1)", x.judge(1, -1), 100);
        due.is("judge(1, MIN)", x.judge(1, Integer.MIN_VALUE), 100);
        due.is("judge(1, MAX)", x.judge(1, Integer.MAX_VALUE), 100);
        x.set(1, 1, 2);
        due.is("judge(1, 1)", x.judge(1, 1), 101);
        due.is("judge(1, 0), another", x.judge(1, 0), 1);
        isList("judged", x, 1, 2, 2);
        x.list(2, 0);
        due.is("judge(2, 0) of no places", x.judge(2, 0), 100);
        x.lay(0, 1);
        x.live(0, 0);
        due.is("judge(0, 1) behind a change of ORDER", x.judge(0, 1), -5);
        x.live(1, 0);
        due.is("judge(0, 1) behind another", x.judge(0, 1), 0);
        due.is("lay(0, 1) behind it", x.lay(0, 1), 3);
        isList("lay(0, 1) behind it", x, 0, 0, 0, 2, 1, 0);
        words.say("NONE;");
        due.is("judge(4, 0)", x.judge(4, 0), -1);
        due.is("judge(-1, -1)", x.judge(-1, -1), -1);
        words.say("NOTHING.");
        due.is("judge(3, 0)", x.judge(3, 0), -11);
        due.is("judge(3, -1)", x.judge(3, -1), -11);
    }

    /** Without PEOPLE all of them have been laid, and none is another. */
    private static void nobody() {
        KinProver x = new KinProver();
        due.is("lay(0, 0) of nothing", x.lay(0, 0), -11);
        due.is("judge(0, 0) of nothing", x.judge(0, 0), -11);
        x.list(0, 0);
        due.is("lay(0, 0)", x.lay(0, 0), 0);
        due.is("judge(0, 0)", x.judge(0, 0), -5);
        x.list(0, 3);
        due.is("lay(0, 3)", x.lay(0, 3), 0);
        due.is("judge(0, 3)", x.judge(0, 3), -5);
    }

    private static void imageAndUndo() {
        words.promise(41);
        words.say("THE IMAGE is taken: how many STATEMENTS there are.");
        KinProver x = three();
        due.is("undo, no image", x.undo(), -3);
        due.is("image", x.image(), 3);
        due.is("image again", x.image(), 3);
        due.is("image of nobody", new KinProver().image(), 0);
        words.promise(42);
        words.say("All is as THE IMAGE: how many STATEMENTS there are.");
        x.list(2, 3);
        x.set(2, 1, 5);
        x.title(0, 0);
        x.sex(1, 2);
        x.live(0, 0);
        Due.state(x, "m 0 1");
        Due.person(x, "zz", 1);
        Due.feed(x, "ab");
        due.is("SEX ahead of undo", x.people(1, 2), 3);
        due.is("undo", x.undo(), 3);
        int[] told = {3, 3, 3, 3, 2, 4, 1, 0};
        for (int what = 0; what < told.length; what++) {
            due.is("told(" + what + ") behind undo", x.told(what), told[what]);
        }
        due.is("SEX behind undo", x.people(1, 2), 0);
        due.is("END behind undo", x.end(2, 0, 0), 1900);
        due.is("LIVE behind undo", x.of(0, 5), 1);
        due.is("of(3, 0) behind undo", x.of(3, 0), -1);
        due.is("LIST behind undo", x.get(2, 1), 5);
        due.isText("PAPER behind undo", Due.paper(x), "self");
        due.is("name(3, 0) behind undo", x.name(3, 0), -1);
        x.clear();
        Due.state(x, "m 1 2");
        due.is("undo again", x.undo(), 3);
        Due.person(x, "new", 2);
        due.is("name of the next", x.name(3, 0), 'n');
        due.is("image anew", x.image(), 3);
        x.live(1, 0);
        x.undo();
        due.is("told(0) behind the image anew", x.told(0), 4);
        due.is("LIVE behind the image anew", x.of(1, 5), 1);
        words.say("STATE: there is none.");
        KinProver y = three();
        due.is("undo", y.undo(), -3);
        due.is("what stands", y.told(2), 3);
        due.is("undo of nobody", new KinProver().undo(), -3);
    }

    private static void undoOfPeople() {
        KinProver x = new KinProver();
        due.is("image of nothing", x.image(), 0);
        Due.person(x, "a", 1);
        Due.person(x, "b", 2);
        Due.state(x, "s 0 1");
        due.is("clash", x.clash(0), 1);
        due.is("culprits", x.culprit(-1), 1);
        due.is("undo to nothing", x.undo(), 0);
        due.is("clash behind undo", x.clash(0), 0);
        due.is("culprits behind undo", x.culprit(-1), -3);
        due.is("told(1) behind undo", x.told(1), 0);
        due.is("order(0) behind undo", x.order(0), -1);
        KinProver y = new KinProver();
        String[] names = {"abcdefg", "b"};
        for (String name : names) {
            Due.person(y, name, 0);
        }
        Due.state(y, "b 0 1 2");
        y.image();
        y.undo();
        Due.state(y, "d 1 3 4");
        Due.person(y, "c", 1);
        y.undo();
        due.is("name(0, -1)", y.name(0, -1), 7);
        due.is("name(0, 6)", y.name(0, 6), 'g');
        due.is("name(1, 0)", y.name(1, 0), 'b');
        int[] want = {0, 0, -5, 1, 2, 1};
        for (int what = 0; what < want.length; what++) {
            due.is("of(0, " + what + ")", y.of(0, what), want[what]);
        }
    }
}
