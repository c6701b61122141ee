/** The document's Terms, part 2, word by word: kin, half kin, titles, order, generations. */
public final class KinTermsTest {
    private static final Due due = new Due("KinTermsTest");
    private static final Words words = new Words(due);

    public static void main(String[] args) {
        words.part("==== 2 ", "==== 3 ");
        kin();
        nearest();
        half();
        halfOfSeveral();
        titlesOfALine();
        titlesAside();
        titlesOfOthers();
        order();
        generation();
        withClash();
        words.endPart();
        due.end();
    }

    private static void is(String call, long got, long want) {
        due.is(call, got, want);
    }

    private static void isKin(KinProver x, int a, int b, int kin, int common) {
        is("kin(" + a + ", " + b + ")", x.kin(a, b), kin);
        is("common(" + a + ", " + b + ")", x.common(a, b), common);
    }

    private static void isHalf(int want, KinProver x, int a, int b) {
        is("half(" + a + ", " + b + ")", x.half(a, b), want);
    }

    private static void isTitle(String want, KinProver x, int a, int b) {
        due.isText("title(" + a + ", " + b + ")", Due.title(x, a, b), want);
    }

    /** Each of the rest is the child of the one ahead of it. */
    private static KinProver line(int persons) {
        KinProver x = Due.people(persons);
        for (int p = 1; p < persons; p++) {
            Due.state(x, "m " + p + " " + (p - 1));
        }
        return x;
    }

    private static void kin() {
        words.say("KIN of a to b: of all that are b itself or an ANCESTOR of b, and a itself or an ANCESTOR of a,");
        KinProver x = Due.told(8, "m 2 0", "f 2 1", "m 3 0", "f 3 1", "m 4 2", "f 5 3", "w 4 6 0 3000");
        isKin(x, 2, 2, 0, 2);
        isKin(x, 2, 0, 100, 0);
        isKin(x, 0, 2, 1, 0);
        isKin(x, 2, 3, 101, 0);
        isKin(x, 4, 5, 202, 0);
        isKin(x, 0, 1, -5, -5);
        isKin(x, 4, 6, -5, -5);
        isKin(x, 4, 7, -5, -5);
        isKin(x, 7, 7, 0, 7);
        x.live(5, 0);
        isKin(x, 4, 5, -5, -5);
        words.say("UP (from a), DOWN (from b).");
        isKin(x, 4, 0, 200, 0);
        isKin(x, 0, 4, 2, 0);
        isKin(x, 4, 3, 201, 0);
        isKin(x, 3, 4, 102, 0);
        isKin(line(30), 29, 0, 2900, 0);
        isKin(line(30), 0, 29, 29, 0);
    }

    private static void nearest() {
        words.say("that with the fewest steps up from a and from b added up,");
        KinProver x = Due.told(8, "m 0 5", "f 0 4", "m 4 1", "m 2 3", "m 3 5", "f 2 6", "m 6 1");
        isKin(x, 0, 2, 102, 5);
        isKin(x, 2, 0, 201, 5);
        KinProver u = Due.told(8, "m 0 3", "m 3 2", "m 1 2", "f 0 7", "f 1 5", "f 5 6", "f 6 7");
        isKin(u, 0, 1, 201, 2);
        isKin(u, 1, 0, 102, 2);
        words.say("of several that with the fewest from a,");
        KinProver y = Due.told(6, "m 0 5", "m 1 4", "m 4 5", "f 0 3", "f 3 2", "f 1 2");
        isKin(y, 0, 1, 102, 5);
        isKin(y, 1, 0, 102, 2);
        words.say("then the least number:");
        KinProver z = Due.told(4, "m 0 3", "m 1 3", "f 0 2", "f 1 2");
        isKin(z, 0, 1, 101, 2);
        isKin(Due.told(4, "m 2 1", "m 3 1", "f 2 0", "f 3 0"), 2, 3, 101, 0);
        isKin(Due.told(5, "m 3 2", "m 4 2", "f 3 1", "f 4 1", "s 0 2"), 3, 4, 101, 0);
        words.say("(By the fewest steps to each.)");
        KinProver w = Due.told(3, "m 0 2", "f 0 1", "m 1 2");
        isKin(w, 0, 2, 100, 2);
        isKin(w, 2, 0, 1, 2);
        KinProver v = Due.told(3, "m 0 1", "m 1 2", "m 2 0");
        isKin(v, 0, 0, 0, 0);
        isKin(v, 0, 1, 100, 1);
        isKin(v, 1, 0, 1, 1);
    }

    private static void half() {
        words.say("HALF: UP and DOWN are both 1 or more,");
        KinProver x = Due.told(6, "m 1 0", "m 2 0", "m 3 2");
        isHalf(0, x, 1, 1);
        isHalf(0, x, 1, 0);
        isHalf(0, x, 0, 1);
        isHalf(0, x, 3, 0);
        isHalf(0, x, 0, 3);
        isHalf(1, x, 1, 2);
        isHalf(-5, x, 1, 4);
        words.say("and the two just below it on these ways");
        isHalf(1, x, 1, 3);
        isHalf(1, x, 3, 1);
        Due.state(x, "f 1 4");
        Due.state(x, "f 3 4");
        isHalf(1, x, 1, 2);
        Due.state(x, "f 2 4");
        isHalf(0, x, 1, 2);
        KinProver y = Due.told(6, "m 2 0", "f 2 1", "m 3 0", "f 3 1", "m 4 2", "m 5 3");
        isHalf(0, y, 4, 5);
        isHalf(0, y, 4, 3);
        isHalf(0, y, 2, 5);
        y.live(3, 0);
        isHalf(1, y, 4, 5);
        isHalf(1, y, 4, 3);
        isHalf(1, y, 2, 5);
        words.say("haven't both, MOTHER and FATHER, told and alike.");
        isHalf(0, Due.told(4, "m 2 0", "f 2 1", "m 3 0", "f 3 1"), 2, 3);
        isHalf(1, Due.told(4, "m 2 0", "m 3 0"), 2, 3);
        isHalf(1, Due.told(4, "f 2 0", "f 3 0"), 2, 3);
        isHalf(1, Due.told(4, "m 2 0", "f 2 1", "m 3 0"), 2, 3);
        isHalf(1, Due.told(4, "m 2 0", "m 3 0", "f 3 1"), 2, 3);
        isHalf(1, Due.told(4, "f 2 0", "m 2 1", "f 3 0"), 2, 3);
        isHalf(1, Due.told(5, "m 2 0", "f 2 1", "m 3 0", "f 3 4"), 2, 3);
        isHalf(1, Due.told(5, "f 2 0", "m 2 1", "f 3 0", "m 3 4"), 2, 3);
        isHalf(0, Due.told(5, "f 2 0", "m 2 1", "f 3 0", "m 3 4", "s 4 1"), 2, 3);
    }

    private static void halfOfSeveral() {
        words.say("(of several the least number that is on such a shortest way)");
        isHalf(0, Due.told(7, "m 4 0", "f 4 1", "m 5 0", "m 6 0", "f 6 1", "m 3 4", "f 3 5"), 3, 6);
        isHalf(1, Due.told(7, "m 4 0", "f 5 1", "m 5 0", "m 6 0", "f 6 1", "m 3 4", "f 3 5"), 3, 6);
        isHalf(0, Due.told(7, "m 4 0", "f 4 1", "m 5 0", "m 6 0", "f 6 1", "m 3 4", "f 3 5"), 6, 3);
        isHalf(1, Due.told(7, "m 4 0", "f 5 1", "m 5 0", "m 6 0", "f 6 1", "m 3 4", "f 3 5"), 6, 3);
        isHalf(0, Due.told(10, "m 7 0", "f 7 1", "m 8 0", "m 6 0", "f 6 1", "m 2 8", "m 3 7", "m 9 2", "f 9 3"), 9, 6);
        isHalf(1, Due.told(10, "m 7 0", "f 8 1", "m 8 0", "m 6 0", "f 6 1", "m 2 8", "m 3 7", "m 9 2", "f 9 3"), 9, 6);
        isHalf(1, Due.told(8, "m 4 0", "f 4 1", "m 5 0", "m 6 0", "f 6 1", "m 7 5", "m 3 7", "f 3 5"), 3, 6);
        isHalf(0, Due.told(10, "m 0 5", "m 5 9", "f 5 7", "f 0 4", "m 4 1", "m 1 9", "m 8 9", "f 8 7"), 0, 8);
        isHalf(1, Due.told(10, "m 0 5", "m 5 9", "f 1 7", "f 0 4", "m 4 1", "m 1 9", "m 8 9", "f 8 7"), 0, 8);
    }

    private static KinProver sexes(KinProver x, int... sexes) {
        for (int p = 0; p < sexes.length; p++) {
            x.sex(p, sexes[p]);
        }
        return x;
    }

    private static void titlesOfALine() {
        words.say("TITLE, what b is to a: UP 0, DOWN 0: self.");
        KinProver x = Due.told(6, "f 1 0", "m 2 0", "f 2 3", "m 3 4", "m 4 5", "s 0 5");
        isTitle("self", x, 1, 1);
        isTitle("self", x, 0, 5);
        words.say("UP 0: (DOWN less 1 times \"grand\") and daughter, son, child by b's SEX.");
        KinProver y = sexes(line(4), 1, 1, 1, 1);
        isTitle("daughter", y, 0, 1);
        isTitle("granddaughter", y, 0, 2);
        isTitle("grandgranddaughter", y, 0, 3);
        y.sex(3, 2);
        isTitle("son", y, 2, 3);
        isTitle("grandson", y, 1, 3);
        isTitle("grandgrandson", y, 0, 3);
        y.sex(3, 0);
        isTitle("child", y, 2, 3);
        isTitle("grandgrandchild", y, 0, 3);
        isTitle("grand".repeat(28) + "child", line(30), 0, 29);
        words.say("DOWN 0: likewise mother, father, parent.");
        isTitle("mother", y, 1, 0);
        isTitle("grandmother", y, 2, 0);
        isTitle("grandgrandmother", y, 3, 0);
        isTitle("grand".repeat(28) + "mother", line(30), 29, 0);
        KinProver z = Due.told(4, "f 1 0", "f 2 1", "f 3 2");
        isTitle("father", z, 1, 0);
        isTitle("grandfather", z, 2, 0);
        isTitle("grandgrandfather", z, 3, 0);
        z.sex(0, 1);
        isTitle("parent", z, 1, 0);
        isTitle("grandgrandparent", z, 3, 0);
        isTitle("son", z, 0, 1);
    }

    /** 0 and 1 have 2, 3; 2 has 4, whose child is 5, whose child is 6. */
    private static KinProver sidelines() {
        return Due.told(7, "m 2 0", "f 2 1", "m 3 0", "f 3 1", "m 4 2", "m 5 4", "m 6 5");
    }

    private static void titlesAside() {
        words.say("UP 1, DOWN 1: sister, brother, sibling.");
        KinProver x = sidelines();
        isTitle("sister", x, 3, 2);
        isTitle("sibling", x, 2, 3);
        x.sex(3, 2);
        isTitle("brother", x, 2, 3);
        words.say("UP 1: (DOWN less 2 times \"grand\") and niece, nephew, nibling.");
        isTitle("niece", x, 3, 4);
        isTitle("grandniece", x, 3, 5);
        isTitle("grandgrandnibling", x, 3, 6);
        x.sex(6, 2);
        isTitle("grandgrandnephew", x, 3, 6);
        x.sex(6, 1);
        isTitle("grandgrandniece", x, 3, 6);
        x.live(4, 0);
        Due.state(x, "f 4 2");
        x.sex(4, 2);
        x.live(5, 0);
        isTitle("nephew", x, 3, 4);
        x.sex(4, 0);
        isTitle("nibling", x, 3, 4);
        words.say("DOWN 1: (UP less 2 times \"grand\") and aunt, uncle, auncle.");
        KinProver y = sidelines();
        isTitle("auncle", y, 4, 3);
        y.sex(3, 1);
        isTitle("aunt", y, 4, 3);
        isTitle("grandaunt", y, 5, 3);
        isTitle("grandgrandaunt", y, 6, 3);
        y.sex(3, 2);
        isTitle("uncle", y, 4, 3);
        isTitle("granduncle", y, 5, 3);
        y.sex(3, 0);
        isTitle("grandgrandauncle", y, 6, 3);
    }

    private static void titlesOfOthers() {
        words.say("Others: cousin, the lesser of UP and DOWN, less 1, as figures, and, if they are unlike,"
            + " / and how many these are apart.");
        KinProver x = Due.told(10, "m 2 0", "f 2 1", "m 3 0", "f 3 1", "m 4 2", "m 5 4", "m 6 5", "m 7 3", "m 8 7");
        x.sex(7, 2);
        isTitle("cousin1", x, 4, 7);
        isTitle("cousin1/1", x, 4, 8);
        isTitle("cousin1/1", x, 8, 4);
        isTitle("cousin2", x, 5, 8);
        isTitle("cousin1/2", x, 6, 7);
        isTitle("cousin2/1", x, 6, 8);
        KinProver y = Due.people(30);
        for (int p = 2; p < 30; p++) {
            Due.state(y, "m " + p + " " + (p < 4 ? 0 : p - 2));
        }
        Due.state(y, "f 2 1");
        Due.state(y, "f 3 1");
        isTitle("cousin13", y, 28, 29);
        isTitle("cousin9/4", y, 20, 29);
        isTitle("cousin10/3", y, 22, 29);
        isTitle("cousin1/12", y, 29, 4);
        words.say("HALF puts half ahead.");
        KinProver z = Due.told(8, "m 1 0", "m 2 0", "m 3 1", "m 4 2", "m 5 4", "m 6 5");
        isTitle("halfsister", z, 1, 2);
        isTitle("halfniece", z, 1, 4);
        isTitle("halfgrandaunt", z, 5, 1);
        isTitle("halfcousin1", z, 3, 4);
        isTitle("halfcousin1/2", z, 3, 6);
        isTitle("mother", z, 1, 0);
        isTitle("self", z, 1, 1);
        words.say("None of these (no such ancestor): wife, husband, spouse, if a LIVE MARRIED has both;");
        KinProver w = Due.told(5, "w 0 1 0 3000", "m 2 0", "m 3 0", "w 2 3 0 3000", "w 2 0 0 3000");
        isTitle("spouse", w, 0, 1);
        isTitle("wife", w, 1, 0);
        w.sex(1, 2);
        isTitle("husband", w, 0, 1);
        isTitle("halfsibling", w, 2, 3);
        isTitle("mother", w, 2, 0);
        words.say("else none.");
        isTitle("none", w, 0, 4);
        isTitle("none", w, 2, 1);
        w.live(0, 0);
        isTitle("none", w, 0, 1);
        w.live(0, 1);
        Due.state(w, "s 4 1");
        isTitle("husband", w, 0, 4);
    }

    private static void isOrder(KinProver x, int... want) {
        for (int i = 0; i < want.length; i++) {
            is("order(" + i + ")", x.order(i), want[i]);
        }
        is("order behind the last", x.order(want.length), -1);
    }

    private static void order() {
        words.say("ORDER: PEOPLE by the lower END of BORN,");
        KinProver x = Due.told(4, "b 0 1900 1910", "b 1 1899 1950", "b 2 1901 1901");
        isOrder(x, 3, 1, 0, 2);
        Due.state(x, "s 3 2");
        isOrder(x, 1, 0, 2);
        isOrder(Due.told(4, "b 1 1900 1910", "b 2 1901 1950", "b 3 1899 1950"), 0, 3, 1, 2);
        words.say("of one by the upper one,");
        isOrder(Due.told(4, "b 1 1900 1910", "b 2 1900 1905", "b 3 1900 1907"), 0, 2, 3, 1);
        isOrder(Due.told(3, "b 0 1900 1910", "b 1 1900 1909", "b 2 1900 1911"), 1, 0, 2);
        words.say("then by numbers.");
        isOrder(Due.told(4, "b 3 5 6", "b 2 5 6", "b 1 5 6"), 0, 1, 2, 3);
        isOrder(Due.told(4, "b 3 5 6", "b 2 5 6", "b 1 5 6", "b 0 5 7"), 1, 2, 3, 0);
    }

    private static void isGenerations(KinProver x, int... want) {
        for (int p = 0; p < want.length; p++) {
            is("people(" + p + ", 7)", x.people(p, 7), want[p]);
        }
    }

    private static void generation() {
        words.say("GENERATION: 0 of one without told parents;");
        KinProver x = Due.told(6, "m 1 0", "m 2 1", "f 2 3", "f 4 3", "m 4 2");
        is("of 0", x.people(0, 7), 0);
        is("of 3", x.people(3, 7), 0);
        is("of 5", x.people(5, 7), 0);
        words.say("else 1 more than the greatest of theirs");
        isGenerations(x, 0, 1, 2, 0, 3, 0);
        KinProver z = Due.told(4, "m 1 0", "f 2 1", "m 3 2", "f 3 0");
        isGenerations(z, 0, 1, 2, 3);
        isGenerations(Due.told(4, "m 0 1", "m 1 2", "m 2 3"), 3, 2, 1, 0);
        KinProver y = Due.people(30);
        for (int p = 0; p < 29; p++) {
            Due.state(y, "m " + p + " " + (p + 1));
        }
        for (int p = 0; p < 30; p++) {
            is("people(" + p + ", 7)", y.people(p, 7), 29 - p);
        }
        is("told(7)", y.told(7), 29);
        isKin(y, 0, 29, 2900, 29);
        is("ancestors(0)", y.ancestors(0), (1L << 30) - 2);
        words.say("(none, if any of PEOPLE is its own ANCESTOR, whatever the CLASH).");
        Due.state(x, "m 3 4");
        isGenerations(x, -5, -5, -5, -5, -5, -5);
        is("told(7)", x.told(7), -5);
        Due.state(x, "m 5 3");
        isGenerations(x, -5, -5, -5, -5, -5, -5);
        is("the CLASH, SEX", x.clash(0), 1);
        KinProver w = Due.told(4, "m 0 1", "m 0 2", "m 2 0");
        is("the CLASH, PARENTS", w.clash(0), 2);
        isGenerations(w, -5, -5, -5, -5);
        w.live(0, 0);
        is("the CLASH, SELF", w.clash(0), 3);
        isGenerations(w, -5, -5, -5, -5);
        w.live(2, 0);
        isGenerations(w, 1, 0, 0, 0);
        isGenerations(Due.told(2, "m 0 1", "b 0 5 5", "b 0 6 6"), 1, 0);
    }

    private static void withClash() {
        words.say("ANCESTORS and KIN go by all MOTHERS and FATHERS that LIVE STATEMENTS tell, also where there is a CLASH.");
        KinProver x = Due.told(6, "m 0 1", "m 0 2", "f 0 2", "f 2 3", "m 4 2", "m 3 5");
        is("the CLASH, SEX", x.clash(0), 1);
        is("ancestors(0)", x.ancestors(0), 46);
        isKin(x, 0, 1, 100, 1);
        isKin(x, 0, 3, 200, 3);
        isKin(x, 0, 4, 101, 2);
        x.live(2, 0);
        is("the CLASH, PARENTS", x.clash(0), 2);
        is("ancestors(0) with two MOTHERS", x.ancestors(0), 46);
        isKin(x, 0, 4, 101, 2);
        is("descendants(5)", x.descendants(5), 1 + 4 + 8 + 16);
        x.live(1, 0);
        is("ancestors(0) without the other", x.ancestors(0), 2);
        isKin(x, 0, 4, -5, -5);
        KinProver y = Due.told(4, "m 0 1", "m 1 0", "m 2 1");
        is("the CLASH, SELF", y.clash(0), 3);
        is("ancestors(0) in a ring", y.ancestors(0), 3);
        is("ancestors(2) of a ring", y.ancestors(2), 3);
        isKin(y, 0, 2, 2, 0);
        isKin(y, 1, 2, 1, 1);
        KinProver z = Due.told(3, "m 0 1", "b 0 5 5", "m 1 2");
        is("the CLASH, EMPTY", z.clash(0), 4);
        is("ancestors(0), EMPTY", z.ancestors(0), 6);
        isKin(z, 0, 2, 200, 2);
    }
}
