/** Promises 25 to 35, word by word: kin, titles, ways, relatives, order. */
public final class KinTest {
    private static final Due due = new Due("KinTest");
    private static final Words words = new Words(due);
    private static final int[][] NO_PAIRS = {{10, 0}, {0, 10}, {-1, 0}, {0, -1}, {10, 10}, {4, 10}, {10, 9},
        {Integer.MIN_VALUE, Integer.MAX_VALUE}};

    public static void main(String[] args) {
        kin();
        common();
        half();
        title();
        path();
        pathOfTwoWays();
        relatives();
        spouses();
        ancestors();
        descendants();
        order();
        ahead();
        told();
        words.endPart();
        due.end();
    }

    /**
     * 0 and 1 have 2 (she) and 3 (he); 0 alone has 6 (she) too; 2 has 4; 3 has 5 (she); 5 has 7 (he);
     * 4 and 8 are married; 9 is nobody's.
     */
    private static KinProver family() {
        KinProver x = Due.told(10, "m 2 0", "f 2 1", "m 3 0", "f 3 1", "m 4 2", "f 5 3", "m 6 0", "m 7 5", "w 4 8 0 3000");
        int[] sexes = {0, 0, 0, 0, 0, 0, 1, 2, 0, 0};
        for (int p = 0; p < sexes.length; p++) {
            x.sex(p, sexes[p]);
        }
        return x;
    }

    private static void isKin(KinProver x, int a, int b, int kin, int common, int half) {
        String two = "(" + a + ", " + b + ")";
        due.is("kin" + two, x.kin(a, b), kin);
        due.is("common" + two, x.common(a, b), common);
        due.is("half" + two, x.half(a, b), half);
    }

    private static void kin() {
        words.promise(25);
        words.say("KIN: 100 times UP, and DOWN;");
        KinProver x = family();
        isKin(x, 4, 4, 0, 4, 0);
        isKin(x, 4, 2, 100, 2, 0);
        isKin(x, 2, 4, 1, 2, 0);
        isKin(x, 4, 1, 200, 1, 0);
        isKin(x, 2, 3, 101, 0, 0);
        isKin(x, 4, 5, 202, 0, 0);
        isKin(x, 4, 7, 203, 0, 0);
        isKin(x, 7, 4, 302, 0, 0);
        isKin(x, 7, 2, 301, 0, 0);
        Due.state(x, "s 9 5");
        isKin(x, 9, 7, 1, 5, 0);
        isKin(x, 4, 9, 202, 0, 0);
        KinProver y = Due.told(6, "m 0 2", "m 1 3", "m 3 2", "f 0 4", "f 5 4", "f 1 5");
        isKin(y, 0, 1, 102, 2, 1);
        KinProver z = Due.told(6, "m 2 4", "m 0 2", "f 0 5", "f 1 5", "m 1 4");
        isKin(z, 0, 1, 101, 5, 1);
        KinProver w = Due.told(5, "m 0 2", "m 2 4", "f 0 3", "m 1 4", "f 1 4", "m 3 1");
        isKin(w, 0, 1, 200, 1, 0);
        KinProver v = Due.told(4, "m 0 1", "m 1 2", "m 2 0", "m 3 1");
        isKin(v, 0, 0, 0, 0, 0);
        isKin(v, 0, 2, 1, 0, 0);
        isKin(v, 2, 1, 1, 2, 0);
        isKin(v, 3, 0, 101, 1, 1);
        words.say("-5: no such ancestor.");
        x.live(9, 0);
        due.is("kin(4, 8)", x.kin(4, 8), -5);
        due.is("kin(0, 1)", x.kin(0, 1), -5);
        due.is("kin(9, 4)", x.kin(9, 4), -5);
        words.say("NONE: either.");
        for (int[] pair : NO_PAIRS) {
            due.is("kin(" + pair[0] + ", " + pair[1] + ")", x.kin(pair[0], pair[1]), -1);
        }
    }

    private static void common() {
        words.promise(26);
        words.say("That ancestor (or itself);");
        KinProver x = family();
        due.is("common(4, 5)", x.common(4, 5), 0);
        due.is("common(4, 1)", x.common(4, 1), 1);
        due.is("common(1, 4)", x.common(1, 4), 1);
        due.is("common(9, 9)", x.common(9, 9), 9);
        words.say("-5.");
        due.is("common(4, 8)", x.common(4, 8), -5);
        due.is("common(9, 4)", x.common(9, 4), -5);
        words.say("NONE: either.");
        for (int[] pair : NO_PAIRS) {
            due.is("common(" + pair[0] + ", " + pair[1] + ")", x.common(pair[0], pair[1]), -1);
        }
    }

    private static void half() {
        words.promise(27);
        words.say("HALF: 1, 0;");
        KinProver x = family();
        isKin(x, 2, 6, 101, 0, 1);
        isKin(x, 6, 4, 102, 0, 1);
        isKin(x, 4, 6, 201, 0, 1);
        isKin(x, 6, 7, 103, 0, 1);
        Due.state(x, "f 6 9");
        isKin(x, 2, 6, 101, 0, 1);
        Due.state(x, "s 9 1");
        isKin(x, 2, 6, 101, 0, 0);
        isKin(x, 4, 6, 201, 0, 0);
        x.live(10, 0);
        isKin(x, 2, 6, 101, 0, 1);
        KinProver y = Due.told(4, "m 1 0", "m 2 0");
        isKin(y, 1, 2, 101, 0, 1);
        KinProver z = Due.told(7, "m 4 1", "f 5 2", "m 3 0", "f 4 0", "f 5 0", "m 3 1", "m 6 2");
        isKin(z, 3, 4, 101, 0, 1);
        words.say("-5: no such ancestor.");
        due.is("half(4, 8)", x.half(4, 8), -5);
        due.is("half(9, 4)", x.half(9, 4), -5);
        words.say("NONE: either.");
        for (int[] pair : NO_PAIRS) {
            due.is("half(" + pair[0] + ", " + pair[1] + ")", x.half(pair[0], pair[1]), -1);
        }
    }

    private static void title() {
        words.promise(28);
        words.say("THE PAPER becomes the TITLE of b to a: how many bytes.");
        titles();
        titlesByMarriage();
        cousins();
        longTitle();
        words.say("NONE: either.");
        KinProver x = family();
        x.title(4, 5);
        for (int[] pair : NO_PAIRS) {
            due.is("title(" + pair[0] + ", " + pair[1] + ")", x.title(pair[0], pair[1]), -1);
        }
        due.isText("THE PAPER behind these", Due.paper(x), "cousin1");
    }

    private static void isTitle(KinProver x, int a, int b, String want) {
        due.isText("title(" + a + ", " + b + ")", Due.title(x, a, b), want);
    }

    private static void titles() {
        KinProver x = family();
        isTitle(x, 4, 4, "self");
        isTitle(x, 4, 2, "mother");
        isTitle(x, 5, 3, "father");
        isTitle(x, 2, 4, "child");
        isTitle(x, 3, 5, "daughter");
        isTitle(x, 5, 7, "son");
        isTitle(x, 0, 4, "grandchild");
        isTitle(x, 0, 5, "granddaughter");
        isTitle(x, 0, 7, "grandgrandson");
        isTitle(x, 4, 0, "grandmother");
        isTitle(x, 4, 1, "grandfather");
        isTitle(x, 7, 1, "grandgrandfather");
        isTitle(x, 2, 3, "brother");
        isTitle(x, 3, 2, "sister");
        isTitle(x, 2, 5, "niece");
        isTitle(x, 2, 7, "grandnephew");
        isTitle(x, 3, 4, "nibling");
        isTitle(x, 4, 3, "uncle");
        isTitle(x, 5, 2, "aunt");
        isTitle(x, 7, 2, "grandaunt");
        isTitle(x, 2, 6, "halfsister");
        isTitle(x, 6, 3, "halfbrother");
        isTitle(x, 4, 6, "halfaunt");
        isTitle(x, 7, 6, "halfgrandaunt");
        isTitle(x, 6, 4, "halfnibling");
        isTitle(x, 6, 7, "halfgrandnephew");
        due.is("title(0, 7), bytes", x.title(0, 7), 13);
        KinProver y = Due.told(5, "m 2 0", "m 3 0", "f 2 1", "f 3 1", "m 4 3");
        isTitle(y, 2, 3, "sister");
        isTitle(y, 3, 2, "sibling");
        isTitle(y, 4, 2, "auncle");
        y.sex(2, 2);
        isTitle(y, 2, 4, "nibling");
        isTitle(y, 4, 2, "uncle");
        Due.state(y, "m 1 2");
        due.is("its sort of CLASH", y.clash(0), 1);
        isTitle(y, 3, 2, "sibling");
        y.live(2, 0);
        y.live(3, 0);
        isTitle(y, 1, 2, "parent");
    }

    private static void titlesByMarriage() {
        KinProver x = family();
        isTitle(x, 4, 8, "spouse");
        x.sex(8, 1);
        isTitle(x, 4, 8, "wife");
        isTitle(x, 8, 4, "spouse");
        x.sex(4, 2);
        isTitle(x, 8, 4, "husband");
        isTitle(x, 8, 2, "none");
        x.live(8, 0);
        isTitle(x, 4, 8, "none");
        x.live(8, 1);
        Due.state(x, "s 9 8");
        isTitle(x, 4, 9, "wife");
        Due.state(x, "w 2 3 0 3000");
        isTitle(x, 2, 3, "brother");
    }

    private static void cousins() {
        KinProver x = family();
        isTitle(x, 4, 5, "cousin1");
        isTitle(x, 4, 7, "cousin1/1");
        isTitle(x, 7, 4, "cousin1/1");
        KinProver y = Due.told(9, "m 1 0", "m 2 0", "m 3 1", "m 4 2", "m 5 3", "m 6 4", "m 7 6", "m 8 7");
        isTitle(y, 3, 4, "halfcousin1");
        isTitle(y, 5, 6, "halfcousin2");
        isTitle(y, 3, 8, "halfcousin1/3");
        isTitle(y, 8, 5, "halfcousin2/2");
    }

    /** The longest line that 30 PERSONS can stand in, and the 15th cousins that they can be. */
    private static void longTitle() {
        KinProver x = Due.people(30);
        for (int p = 1; p < 30; p++) {
            Due.state(x, "m " + p + " " + (p - 1));
        }
        due.is("title(0, 29)", x.title(0, 29), 145);
        isTitle(x, 29, 0, "grand".repeat(28) + "mother");
        due.is("told(5)", x.told(5), 146);
        due.is("kin(29, 0)", x.kin(29, 0), 2900);
        due.is("path(29, 0, -1)", x.path(29, 0, -1), 30);
        due.is("path(29, 0, 29)", x.path(29, 0, 29), 0);
        due.is("greatest GENERATION", x.told(7), 29);
        due.is("ancestors(29)", x.ancestors(29), (1L << 29) - 1);
        due.is("descendants(0)", x.descendants(0), (1L << 30) - 2);
        KinProver y = Due.people(30);
        for (int p = 1; p < 29; p++) {
            Due.state(y, "f " + p + " " + Math.max(0, p - 2));
        }
        isTitle(y, 27, 28, "halfcousin13");
        isTitle(y, 3, 28, "halfcousin1/12");
    }

    private static void isPath(KinProver x, int a, int b, int... want) {
        String two = "path(" + a + ", " + b + ", ";
        due.is(two + "-1)", x.path(a, b, -1), want.length);
        for (int i = 0; i < want.length; i++) {
            due.is(two + i + ")", x.path(a, b, i), want[i]);
        }
        due.is(two + want.length + ")", x.path(a, b, want.length), -1);
        due.is(two + "far)", x.path(a, b, Integer.MAX_VALUE), -1);
        due.is(two + "-2)", x.path(a, b, -2), -1);
    }

    private static void path() {
        words.promise(29);
        words.say("The i-th of the way from a to b: from a up to that ancestor, then down to b,");
        KinProver x = family();
        isPath(x, 4, 4, 4);
        isPath(x, 4, 5, 4, 2, 0, 3, 5);
        isPath(x, 7, 4, 7, 5, 3, 0, 2, 4);
        isPath(x, 4, 1, 4, 2, 1);
        isPath(x, 1, 7, 1, 3, 5, 7);
        Due.state(x, "s 9 7");
        isPath(x, 9, 3, 7, 5, 3);
        words.say("i -1: how many there are, a and b, too.");
        due.is("path(4, 5, -1)", x.path(4, 5, -1), 5);
        due.is("path(4, 2, -1)", x.path(4, 2, -1), 2);
        due.is("path(4, 4, -1)", x.path(4, 4, -1), 1);
        words.say("NONE: either, i below -1;");
        for (int[] pair : NO_PAIRS) {
            due.is("path(" + pair[0] + ", " + pair[1] + ", 0)", x.path(pair[0], pair[1], 0), -1);
            due.is("path(" + pair[0] + ", " + pair[1] + ", -1)", x.path(pair[0], pair[1], -1), -1);
        }
        due.is("path(4, 5, -2)", x.path(4, 5, -2), -1);
        due.is("path(4, 8, -2)", x.path(4, 8, -2), -1);
        due.is("path(4, 8, MIN)", x.path(4, 8, Integer.MIN_VALUE), -1);
        words.say("-5: no such ancestor;");
        due.is("path(4, 8, 0)", x.path(4, 8, 0), -5);
        due.is("path(4, 8, -1)", x.path(4, 8, -1), -5);
        due.is("path(4, 8, MAX)", x.path(4, 8, Integer.MAX_VALUE), -5);
        words.say("NONE: there is no i-th.");
        due.is("path(4, 5, 5)", x.path(4, 5, 5), -1);
        due.is("path(4, 4, 1)", x.path(4, 4, 1), -1);
        due.is("path(4, 5, MAX)", x.path(4, 5, Integer.MAX_VALUE), -1);
    }

    /** From the ancestor down: 7 rather than 8, though that leads to 6 rather than to 5. */
    private static void pathOfTwoWays() {
        words.say("each time by the least number that is on a shortest way up"
            + " (from that ancestor down: of a to it, of b to it);");
        KinProver x = Due.told(10, "m 0 6", "f 0 5", "m 6 7", "m 5 8", "m 7 9", "m 8 9");
        isPath(x, 0, 9, 0, 6, 7, 9);
        isPath(x, 9, 0, 9, 7, 6, 0);
        KinProver y = Due.told(8, "m 0 6", "f 0 5", "m 6 7", "m 5 7", "m 1 3", "f 1 4", "m 3 7", "m 4 7");
        KinProver z = Due.told(10, "m 0 5", "m 5 9", "f 0 4", "m 4 1", "m 1 9");
        isPath(z, 0, 9, 0, 5, 9);
        isPath(z, 9, 0, 9, 5, 0);
        isPath(y, 0, 1, 0, 5, 7, 3, 1);
        isPath(y, 1, 0, 1, 3, 7, 5, 0);
    }

    private static long bits(int... numbers) {
        long set = 0;
        for (int number : numbers) {
            set |= 1L << number;
        }
        return set;
    }

    private static void relatives() {
        words.promise(30);
        words.say("PEOPLE (bits) that are children of a PERSON (what 0),");
        KinProver x = family();
        due.is("children of 0", x.relatives(0, 0), bits(2, 3, 6));
        due.is("children of 1", x.relatives(1, 0), bits(2, 3));
        due.is("children of 4", x.relatives(4, 0), 0);
        KinProver y = Due.told(4, "m 1 0", "m 0 1", "s 1 0", "f 3 2");
        due.is("children of its own mother", y.relatives(1, 0), bits(0));
        words.say("that have a told MOTHER or FATHER who is MOTHER or FATHER of it (1, without itself),");
        due.is("siblings of 2", x.relatives(2, 1), bits(3, 6));
        due.is("siblings of 6", x.relatives(6, 1), bits(2, 3));
        due.is("siblings of 0", x.relatives(0, 1), 0);
        due.is("siblings of 4", x.relatives(4, 1), 0);
        due.is("siblings of its own mother", y.relatives(0, 1), 0);
        due.is("siblings of an only one", y.relatives(3, 1), 0);
        KinProver z = Due.people(30);
        Due.state(z, "m 0 28");
        Due.state(z, "m 29 28");
        due.is("siblings of the last", z.relatives(29, 1), bits(0));
        due.is("siblings of the first", z.relatives(0, 1), bits(29));
        due.is("children of 28", z.relatives(28, 0), bits(0, 29));
        due.is("descendants of 28", z.descendants(28), bits(0, 29));
        due.is("how many", z.people(28, 5), 2);
        Due.state(x, "f 9 0");
        due.is("by a mother who is a father", x.relatives(2, 1), bits(3, 6, 9));
        due.is("by a father who is a mother", x.relatives(9, 1), bits(2, 3, 6));
        words.say("NO: person, what.");
        for (int what = -1; what <= 3; what++) {
            due.is("relatives(10, " + what + ")", x.relatives(10, what), KinProver.NO);
            due.is("relatives(-1, " + what + ")", x.relatives(-1, what), KinProver.NO);
        }
        due.is("relatives(0, 3)", x.relatives(0, 3), KinProver.NO);
        due.is("relatives(0, -1)", x.relatives(0, -1), KinProver.NO);
        due.is("relatives(0, 0) of nobody", new KinProver().relatives(0, 0), KinProver.NO);
    }

    private static void spouses() {
        words.say("that a LIVE MARRIED tells with it (2;");
        KinProver x = family();
        due.is("spouses of 4", x.relatives(4, 2), bits(8));
        due.is("spouses of 8", x.relatives(8, 2), bits(4));
        due.is("spouses of 0", x.relatives(0, 2), 0);
        Due.state(x, "w 9 4 5 5");
        due.is("spouses of 4, two", x.relatives(4, 2), bits(8, 9));
        x.live(8, 0);
        due.is("spouses of 4, one not LIVE", x.relatives(4, 2), bits(9));
        words.say("itself, if one tells it with itself).");
        Due.state(x, "s 9 4");
        due.is("spouses of 9", x.relatives(9, 2), bits(4));
        x.live(8, 1);
        due.is("spouses of 9, two", x.relatives(9, 2), bits(4, 8));
        due.is("MARRIEDs of 9", x.people(9, 6), 2);
    }

    private static void ancestors() {
        words.promise(31);
        words.say("ANCESTORS of a PERSON (bits by numbers of PEOPLE).");
        KinProver x = family();
        due.is("ancestors(7)", x.ancestors(7), bits(0, 1, 3, 5));
        due.is("ancestors(0)", x.ancestors(0), 0);
        Due.state(x, "s 9 3");
        due.is("ancestors(9)", x.ancestors(9), bits(0, 1));
        Due.state(x, "m 0 7");
        due.is("ancestors(7) in a ring", x.ancestors(7), bits(0, 1, 3, 5, 7));
        due.is("ancestors(6) of a ring", x.ancestors(6), bits(0, 1, 3, 5, 7));
        words.say("NO.");
        due.is("ancestors(10)", x.ancestors(10), KinProver.NO);
        due.is("ancestors(-1)", x.ancestors(-1), KinProver.NO);
        due.is("ancestors(MAX)", x.ancestors(Integer.MAX_VALUE), KinProver.NO);
    }

    private static void descendants() {
        words.promise(32);
        words.say("PEOPLE of whom a PERSON is an ANCESTOR (bits).");
        KinProver x = family();
        due.is("descendants(0)", x.descendants(0), bits(2, 3, 4, 5, 6, 7));
        due.is("descendants(3)", x.descendants(3), bits(5, 7));
        due.is("descendants(7)", x.descendants(7), 0);
        Due.state(x, "s 9 3");
        due.is("descendants(9)", x.descendants(9), bits(5, 7));
        Due.state(x, "m 0 7");
        due.is("descendants(7) in a ring", x.descendants(7), bits(0, 2, 3, 4, 5, 6, 7));
        words.say("NO.");
        due.is("descendants(10)", x.descendants(10), KinProver.NO);
        due.is("descendants(-1)", x.descendants(-1), KinProver.NO);
        due.is("descendants(MIN)", x.descendants(Integer.MIN_VALUE), KinProver.NO);
    }

    private static void isOrder(KinProver x, int... want) {
        for (int i = 0; i < want.length; i++) {
            due.is("order(" + i + ")", x.order(i), want[i]);
        }
        due.is("order(" + want.length + ")", x.order(want.length), -1);
    }

    private static void order() {
        words.promise(33);
        words.say("The i-th of ORDER.");
        KinProver x = Due.told(6, "b 0 1900 1910", "b 1 1900 1905", "b 2 1800 1990", "b 3 1900 1905", "b 5 0 2999");
        isOrder(x, 5, 4, 2, 1, 3, 0);
        Due.state(x, "s 2 0");
        isOrder(x, 5, 4, 1, 3, 0);
        Due.state(x, "m 4 3");
        Due.state(x, "f 4 3");
        isOrder(x, 0, 1, 3, 4, 5);
        KinProver y = Due.told(2, "b 1 5 5", "b 0 1900 1900", "b 0 6 6");
        due.is("sort", y.clash(0), 4);
        isOrder(y, 1, 0);
        words.say("NONE.");
        due.is("order(5)", x.order(5), -1);
        due.is("order(-1)", x.order(-1), -1);
        due.is("order(MAX)", x.order(Integer.MAX_VALUE), -1);
        due.is("order(0) of nobody", new KinProver().order(0), -1);
    }

    private static void ahead() {
        words.promise(34);
        words.say("What is surely so of two: 1 a was BORN ahead of b, 2 behind, 0 neither is sure (by ENDS of BORN;");
        KinProver x = Due.told(6, "b 0 1900 1910", "b 1 1911 1920", "b 2 1910 1930", "b 3 1911 1911", "b 4 1911 1911");
        int[][] want = {{0, 1, 0, 1, 1, 0}, {2, 0, 0, 0, 0, 0}, {0, 0, 0, 0, 0, 0}, {2, 0, 0, 0, 0, 0}, {2, 0, 0, 0, 0, 0},
            {0, 0, 0, 0, 0, 0}};
        for (int a = 0; a < 6; a++) {
            for (int b = 0; b < 6; b++) {
                due.is("ahead(" + a + ", " + b + ")", x.ahead(a, b), want[a][b]);
            }
        }
        words.say("same ones: 0).");
        due.is("ahead(0, 0)", x.ahead(0, 0), 0);
        Due.state(x, "s 5 0");
        due.is("ahead(0, 5)", x.ahead(0, 5), 0);
        due.is("ahead(5, 1)", x.ahead(5, 1), 1);
        KinProver y = Due.told(2, "b 0 9 9", "b 0 5 5", "s 0 1");
        due.is("lower END of an EMPTY", y.end(0, 0, 0), 9);
        due.is("upper END of an EMPTY", y.end(0, 0, 1), 5);
        due.is("ahead of itself, EMPTY", y.ahead(0, 1), 0);
        words.say("NONE: either.");
        KinProver z = family();
        for (int[] pair : NO_PAIRS) {
            due.is("ahead(" + pair[0] + ", " + pair[1] + ")", z.ahead(pair[0], pair[1]), -1);
        }
    }

    private static void isTold(KinProver x, int what, int want) {
        due.is("told(" + what + ")", x.told(what), want);
    }

    private static void told() {
        words.promise(35);
        words.say("What 0 PERSONS,");
        KinProver x = family();
        KinProver nobody = new KinProver();
        isTold(x, 0, 10);
        isTold(nobody, 0, 0);
        isTold(Due.people(30), 0, 30);
        words.say("1 PEOPLE,");
        isTold(x, 1, 10);
        Due.state(x, "s 8 9");
        isTold(x, 1, 9);
        isTold(nobody, 1, 0);
        words.say("2 STATEMENTS,");
        isTold(x, 2, 10);
        isTold(nobody, 2, 0);
        words.say("3 LIVE ones,");
        isTold(x, 3, 10);
        x.live(0, 0);
        isTold(x, 3, 9);
        x.live(9, 0);
        isTold(x, 3, 8);
        isTold(x, 2, 10);
        words.say("4 bytes of THE TAPE,");
        isTold(x, 4, 0);
        Due.feed(x, "abc");
        isTold(x, 4, 3);
        isTold(x, 4, 3);
        words.say("5 of THE PAPER,");
        isTold(x, 5, 0);
        x.title(4, 4);
        isTold(x, 5, 4);
        isTold(nobody, 5, 0);
        words.say("6 unlike NAMES,");
        isTold(x, 6, 1);
        x.person(0);
        isTold(x, 6, 2);
        Due.person(x, "ab", 0);
        Due.person(x, "p", 0);
        Due.person(x, "ab", 0);
        isTold(x, 6, 3);
        isTold(nobody, 6, 0);
        words.say("7 the greatest GENERATION");
        isTold(x, 7, 3);
        isTold(Due.people(1), 7, 0);
        isTold(Due.told(3, "m 0 1", "f 1 2"), 7, 2);
        words.say("(-5: none, or no PERSONS).");
        isTold(nobody, 7, -5);
        isTold(Due.told(2, "m 0 1", "m 1 0"), 7, -5);
        words.say("NONE.");
        isTold(x, 8, -1);
        isTold(x, -1, -1);
        isTold(x, Integer.MAX_VALUE, -1);
        isTold(nobody, Integer.MIN_VALUE, -1);
    }
}
