/** Promises 14 to 24, word by word: people, ranges, proofs, clashes. */
public final class RangesTest {
    private static final Due due = new Due("RangesTest");
    private static final Words words = new Words(due);

    public static void main(String[] args) {
        people();
        parentsAndChildren();
        generations();
        ends();
        rules();
        year();
        proof();
        links();
        prove();
        clash();
        clashOfEmpty();
        why();
        olderThanItself();
        culprit();
        culpritsOfEach();
        same();
        narrows();
        narrowsRefused();
        rounds();
        words.endPart();
        due.end();
    }

    private static void is(String call, long got, long want) {
        due.is(call, got, want);
    }

    private static void isPeople(KinProver x, int what, int... want) {
        for (int p = 0; p < want.length; p++) {
            is("people(" + p + ", " + what + ")", x.people(p, what), want[p]);
        }
    }

    /** 1, 3 and 5 are one, the mother of 0, 2 and 4; 0 is the father of 4. */
    private static KinProver six() {
        return Due.told(6, "s 3 1", "s 5 3", "m 2 5", "f 4 0", "m 0 3", "m 4 1", "w 0 2 5 9", "w 1 2 5 9", "w 3 5 0 3");
    }

    private static void people() {
        words.promise(14);
        words.say("Of a PERSON's PEOPLE what 0 its number,");
        KinProver x = six();
        isPeople(x, 0, 0, 1, 2, 1, 4, 1);
        x.live(0, 0);
        isPeople(x, 0, 0, 1, 2, 3, 4, 3);
        x.live(0, 1);
        words.say("1 how many PERSONS,");
        isPeople(x, 1, 1, 3, 1, 3, 1, 3);
        x.live(1, 0);
        isPeople(x, 1, 1, 2, 1, 2, 1, 1);
        words.say("2 SEX (0; 1 SHE, 2 HE, 3 both),");
        isPeople(x, 2, 2, 1, 0, 1, 0, 1);
        x.sex(1, 2);
        isPeople(x, 2, 2, 3, 0, 3, 0, 1);
        x.sex(4, 1);
        x.sex(2, 2);
        isPeople(x, 2, 2, 3, 2, 3, 1, 1);
        words.say("NONE: person, what.");
        for (int what = -1; what <= 8; what++) {
            is("people(6, " + what + ")", x.people(6, what), -1);
            is("people(-1, " + what + ")", x.people(-1, what), -1);
        }
        is("people(0, 8)", x.people(0, 8), -1);
        is("people(0, -1)", x.people(0, -1), -1);
        is("people(0, 0) of a new object", new KinProver().people(0, 0), -1);
    }

    private static void parentsAndChildren() {
        words.say("3 MOTHER (-5; of several the least),");
        KinProver x = six();
        isPeople(x, 3, 1, -5, 1, -5, 1, -5);
        Due.state(x, "m 4 2");
        is("the least of 2 and 1", x.people(4, 3), 1);
        x.live(5, 0);
        is("without the least", x.people(4, 3), 2);
        Due.state(x, "m 4 0");
        is("the least of 2 and 0", x.people(4, 3), 0);
        x.live(0, 0);
        is("mother of 2, parted", x.people(2, 3), 3);
        x.live(2, 0);
        is("no mother told of 2", x.people(2, 3), -5);
        words.say("4 FATHER likewise,");
        KinProver y = six();
        isPeople(y, 4, -5, -5, -5, -5, 0, -5);
        Due.state(y, "f 4 2");
        Due.state(y, "f 2 5");
        is("the least of 0 and 2", y.people(4, 4), 0);
        is("father of 2", y.people(2, 4), 1);
        y.live(3, 0);
        is("without the least", y.people(4, 4), 2);
        y.live(9, 0);
        is("no father told of 4", y.people(4, 4), -5);
        words.say("5 how many children (by LIVE STATEMENTS, unlike ones),");
        KinProver z = six();
        isPeople(z, 5, 1, 3, 0, 3, 0, 3);
        Due.state(z, "f 4 0");
        Due.state(z, "m 4 0");
        is("children of 0, each once", z.people(0, 5), 1);
        Due.state(z, "s 2 4");
        is("children of 1, two that are one", z.people(1, 5), 2);
        z.live(0, 0);
        is("children of 3, parted", z.people(3, 5), 2);
        z.live(4, 0);
        is("children of 3, one not LIVE", z.people(3, 5), 1);
        words.say("6 how many LIVE MARRIEDs it is in,");
        KinProver w = six();
        isPeople(w, 6, 1, 2, 2, 2, 0, 2);
        w.live(7, 0);
        isPeople(w, 6, 1, 1, 1, 1, 0, 1);
        w.live(8, 0);
        isPeople(w, 6, 1, 0, 1, 0, 0, 0);
        Due.state(w, "w 2 0 5 9");
        isPeople(w, 6, 2, 0, 2, 0, 0, 0);
    }

    private static void generations() {
        words.say("7 GENERATION (-5: none).");
        KinProver x = Due.told(5, "m 1 0", "m 2 1", "f 2 3", "f 4 2");
        isPeople(x, 7, 0, 1, 2, 0, 3);
        is("told(7)", x.told(7), 3);
        Due.state(x, "m 0 4");
        isPeople(x, 7, -5, -5, -5, -5, -5);
        is("told(7) in a ring", x.told(7), -5);
    }

    private static void isRange(String call, KinProver x, int person, int what, int low, int high) {
        is(call + ", lower", x.end(person, what, 0), low);
        is(call + ", upper", x.end(person, what, 1), high);
    }

    private static void ends() {
        words.promise(15);
        words.say("An END: of BORN (what 0) or DIED (1), the lower (side 0), the upper (1).");
        KinProver x = Due.told(2, "b 0 1900 1910");
        is("end(0, 0, 0)", x.end(0, 0, 0), 1900);
        is("end(0, 0, 1)", x.end(0, 0, 1), 1910);
        is("end(0, 1, 0)", x.end(0, 1, 0), 1900);
        is("end(0, 1, 1)", x.end(0, 1, 1), 2020);
        isRange("born 1", x, 1, 0, 0, 3000);
        Due.state(x, "s 1 0");
        isRange("born 1, who is 0", x, 1, 0, 1900, 1910);
        x.live(0, 0);
        isRange("born 0 without", x, 0, 0, 0, 3000);
        words.say("NONE.");
        int[][] none = {{2, 0, 0}, {-1, 0, 0}, {0, 2, 0}, {0, -1, 0}, {0, 0, 2}, {0, 0, -1}, {Integer.MAX_VALUE, 0, 0},
            {Integer.MIN_VALUE, 0, 0}, {0, Integer.MAX_VALUE, 0}, {0, 0, Integer.MIN_VALUE}};
        for (int[] n : none) {
            is("end(" + n[0] + ", " + n[1] + ", " + n[2] + ")", x.end(n[0], n[1], n[2]), -1);
            is("prove(" + n[0] + ", " + n[1] + ", " + n[2] + ")", x.prove(n[0], n[1], n[2]), -1);
            is("proof(" + n[0] + ", " + n[1] + ", " + n[2] + ", 0, 0)", x.proof(n[0], n[1], n[2], 0, 0), -1);
        }
    }

    private static void rules() {
        KinProver x = Due.told(1, "d 0 1900 1950");
        isRange("LIFE, born", x, 0, 0, 1790, 1950);
        x = Due.told(2, "b 0 1900 1910", "m 0 1");
        isRange("MOTHER, born", x, 1, 0, 1845, 1898);
        isRange("MOTHER, died", x, 1, 1, 1900, 2008);
        x = Due.told(2, "b 0 1900 1910", "f 0 1");
        isRange("FATHER, born", x, 1, 0, 1820, 1896);
        isRange("FATHER, died", x, 1, 1, 1899, 2006);
        x = Due.told(2, "b 1 1900 1910", "m 0 1");
        isRange("MOTHER, born of the child", x, 0, 0, 1912, 1965);
        x = Due.told(2, "b 1 1900 1910", "f 0 1");
        isRange("FATHER, born of the child", x, 0, 0, 1914, 1990);
        x = Due.told(2, "d 1 1900 1910", "m 0 1");
        isRange("MOTHER, died ahead of the child", x, 0, 0, 1802, 1910);
        x = Due.told(2, "d 1 1900 1910", "f 0 1");
        isRange("FATHER, died ahead of the child", x, 0, 0, 1804, 1911);
        x = Due.told(1, "l 0 1900");
        isRange("ALIVE, born", x, 0, 0, 1790, 1900);
        isRange("ALIVE, died", x, 0, 1, 1900, 2010);
        x = Due.told(2, "b 0 1900 1910", "o 0 1 7");
        isRange("OLDER, born of b", x, 1, 0, 1907, 3000);
        x = Due.told(2, "b 1 1900 1910", "o 0 1 7");
        isRange("OLDER, born of a", x, 0, 0, 0, 1903);
        x = Due.told(2, "w 0 1 1900 1950");
        for (int p = 0; p < 2; p++) {
            isRange("MARRIED, born", x, p, 0, 1790, 1936);
            isRange("MARRIED, died", x, p, 1, 1900, 2046);
        }
        x = Due.told(3, "b 0 1900 1910", "b 1 1905 1920", "s 1 2", "s 2 0");
        for (int p = 0; p < 3; p++) {
            isRange("SAME, born", x, p, 0, 1905, 1910);
        }
    }

    private static void year() {
        words.promise(16);
        words.say("Likewise of the YEAR of a MARRIED.");
        KinProver x = Due.told(2, "b 0 1900 1910", "w 0 1 1800 1950", "w 0 1 1920 1930");
        is("year(1, 0)", x.year(1, 0), 1914);
        is("year(1, 1)", x.year(1, 1), 1950);
        is("year(2, 0)", x.year(2, 0), 1920);
        is("year(2, 1)", x.year(2, 1), 1930);
        words.say("NONE: statement, side;");
        is("year(3, 0)", x.year(3, 0), -1);
        is("year(-1, 0)", x.year(-1, 0), -1);
        is("year(1, 2)", x.year(1, 2), -1);
        is("year(1, -1)", x.year(1, -1), -1);
        is("year(0, -1)", x.year(0, -1), -1);
        is("year(60, 0)", x.year(60, 0), -1);
        words.say("STATE: it is no LIVE MARRIED.");
        is("year(0, 0)", x.year(0, 0), -3);
        is("year(0, 1)", x.year(0, 1), -3);
        x.live(2, 0);
        is("year(2, 0) not LIVE", x.year(2, 0), -3);
        x.live(2, 1);
        is("year(2, 0) LIVE again", x.year(2, 0), 1920);
        KinProver y = Due.told(2, "d 0 1 2", "m 0 1", "f 0 1", "l 0 1", "s 0 1", "o 0 1 1");
        for (int s = 0; s < 6; s++) {
            is("year(" + s + ", 1)", y.year(s, 1), -3);
        }
    }

    private static void isProof(KinProver x, int[] end, int link, int rule, int range, int side) {
        int[] want = {rule, range, side};
        for (int part = 0; part < 3; part++) {
            is("proof(" + end[0] + ", " + end[1] + ", " + end[2] + ", " + link + ", " + part + ")",
                x.proof(end[0], end[1], end[2], link, part), want[part]);
        }
    }

    private static void proof() {
        words.promise(17);
        words.say("What an END RESTS on: of link 0 its RULE (part 0: a STATEMENT, or 100 and the PEOPLE of LIFE),");
        KinProver x = Due.told(3, "w 0 1 1900 1950", "b 0 1880 1890", "m 0 2");
        is("a STATEMENT", x.proof(1, 0, 0, 0, 0), 0);
        is("LIFE", x.proof(1, 1, 1, 0, 0), 101);
        is("LIFE of 0", x.proof(0, 1, 1, 0, 0), 100);
        words.say("the RANGE from which it came (part 1: PEOPLE times 2 and 0 BORN, 1 DIED, or 200 and a MARRIED;");
        is("BORN 1", x.proof(1, 1, 1, 0, 1), 2);
        is("BORN 0", x.proof(2, 0, 1, 0, 1), 0);
        is("a MARRIED", x.proof(1, 0, 0, 0, 1), 200);
        KinProver y = Due.told(3, "d 2 1900 1910", "d 2 1900 1910", "w 0 1 1900 1900");
        is("DIED 2", y.proof(2, 0, 0, 0, 1), 5);
        is("MARRIED 2", y.proof(1, 0, 0, 0, 1), 202);
        words.say("-5: none),");
        is("none, part 1", x.proof(0, 0, 0, 0, 1), -5);
        words.say("its side (part 2;");
        is("the lower", x.proof(2, 0, 0, 0, 2), 0);
        is("the upper", x.proof(2, 0, 1, 0, 2), 1);
        words.say("-5);");
        is("none, part 2", x.proof(0, 0, 0, 0, 2), -5);
        words.say("of link 1 what that RESTS on;");
        int[] diedOfB = {1, 1, 1};
        isProof(x, diedOfB, 0, 101, 2, 1);
        isProof(x, diedOfB, 1, 0, 200, 1);
        isProof(x, diedOfB, 2, 0, -5, -5);
        isProof(x, new int[] {2, 1, 0}, 0, 2, 0, 0);
        isProof(x, new int[] {2, 1, 0}, 1, 1, -5, -5);
    }

    /** Each is older than the other: the ENDS come nearer by two years a ROUND. */
    private static KinProver ring() {
        return Due.told(2, "o 0 1 1", "o 1 0 1");
    }

    private static void links() {
        words.say("and so on (100 links at most).");
        KinProver x = ring();
        for (int link = 0; link < 100; link++) {
            is("link " + link, x.proof(1, 0, 0, link, 0), link % 2);
        }
        is("link 99, RANGE", x.proof(1, 0, 0, 99, 1), 2);
        is("link 100", x.proof(1, 0, 0, 100, 0), -1);
        is("link MAX", x.proof(1, 0, 0, Integer.MAX_VALUE, 0), -1);
        words.say("NONE: person, what, side, link, part;");
        int[][] none = {{2, 0, 0, 0, 0}, {-1, 0, 0, 0, 0}, {0, 2, 0, 0, 0}, {0, -1, 0, 0, 0}, {0, 0, 2, 0, 0},
            {0, 0, -1, 0, 0}, {0, 0, 0, -1, 0}, {0, 0, 0, 100, 0}, {0, 0, 0, 0, 3}, {0, 0, 0, 0, -1}};
        KinProver y = Due.people(2);
        for (int[] n : none) {
            String five = "proof(" + n[0] + ", " + n[1] + ", " + n[2] + ", " + n[3] + ", " + n[4] + ")";
            is(five, x.proof(n[0], n[1], n[2], n[3], n[4]), -1);
            is(five + " of nothing", y.proof(n[0], n[1], n[2], n[3], n[4]), -1);
        }
        words.say("STATE: it RESTS on nothing (there).");
        isProof(y, new int[] {0, 0, 0}, 0, -3, -3, -3);
        isProof(y, new int[] {0, 1, 1}, 99, -3, -3, -3);
        Due.state(y, "b 0 1900 1910");
        isProof(y, new int[] {0, 0, 0}, 0, 0, -5, -5);
        isProof(y, new int[] {0, 0, 0}, 1, -3, -3, -3);
        isProof(y, new int[] {0, 0, 0}, 99, -3, -3, -3);
        isProof(y, new int[] {0, 1, 0}, 1, 0, -5, -5);
        isProof(y, new int[] {0, 1, 0}, 2, -3, -3, -3);
        isProof(y, new int[] {1, 0, 0}, 1, -3, -3, -3);
        isProof(y, new int[] {1, 1, 1}, 2, -3, -3, -3);
        isProof(y, new int[] {1, 1, 0}, 99, -3, -3, -3);
        KinProver w = Due.told(2, "w 0 1 0 3000", "d 0 5 2000");
        isProof(w, new int[] {0, 0, 1}, 0, 0, 200, 1);
        isProof(w, new int[] {0, 0, 1}, 1, 0, 1, 1);
        isProof(w, new int[] {0, 0, 1}, 2, 1, -5, -5);
        w.live(1, 0);
        isProof(w, new int[] {0, 0, 1}, 0, 0, 200, 1);
        isProof(w, new int[] {0, 0, 1}, 1, -3, -3, -3);
        isProof(w, new int[] {0, 0, 1}, 2, -3, -3, -3);
        KinProver z = Due.told(2, "o 0 1 5");
        isProof(z, new int[] {1, 0, 0}, 0, 0, 0, 0);
        isProof(z, new int[] {1, 0, 0}, 1, -3, -3, -3);
    }

    private static void prove() {
        words.promise(18);
        words.say("THE PAPER becomes the RULES on which an END RESTS, link by link");
        KinProver x = Due.told(12, "w 0 1 1900 1950", "b 0 1880 1890", "m 0 2");
        due.isText("prove(1, 0, 0)", Due.proved(x, 1, 0, 0), "0<0");
        due.isText("prove(0, 0, 0)", Due.proved(x, 0, 0, 0), "1");
        words.say("(100 at most), with < between:");
        StringBuilder text = new StringBuilder("0");
        for (int link = 1; link < 100; link++) {
            text.append(link % 2 == 0 ? "<0" : "<1");
        }
        due.isText("prove(1, 0, 0) in a ring", Due.proved(ring(), 1, 0, 0), text.toString());
        words.say("a STATEMENT's number, or L and the PEOPLE of LIFE: how many bytes");
        due.isText("prove(1, 1, 1)", Due.proved(x, 1, 1, 1), "L1<0<0");
        due.isText("prove(0, 1, 1)", Due.proved(x, 0, 1, 1), "L0<1");
        due.isText("prove(2, 1, 1)", Due.proved(x, 2, 1, 1), "L2<2<1");
        for (int i = 3; i < 10; i++) {
            Due.state(x, "s 0 3");
        }
        Due.state(x, "b 11 5 6");
        due.isText("prove(11, 1, 0)", Due.proved(x, 11, 1, 0), "L11<10");
        is("prove(11, 1, 0), bytes", x.prove(11, 1, 0), 6);
        words.say("(0: it RESTS on nothing).");
        is("prove(4, 0, 0)", x.prove(4, 0, 0), 0);
        is("THE PAPER then", x.told(5), 0);
        is("paper(0)", x.paper(0), -1);
        words.say("NONE: person, what, side.");
        x.prove(11, 1, 0);
        is("prove(12, 0, 0)", x.prove(12, 0, 0), -1);
        is("prove(-1, 0, 0)", x.prove(-1, 0, 0), -1);
        is("prove(0, 2, 0)", x.prove(0, 2, 0), -1);
        is("prove(0, -1, 0)", x.prove(0, -1, 0), -1);
        is("prove(0, 0, 2)", x.prove(0, 0, 2), -1);
        is("prove(0, 0, -1)", x.prove(0, 0, -1), -1);
        due.isText("paper behind these", Due.paper(x), "L11<10");
    }

    private static void clash() {
        words.promise(19);
        words.say("The CLASH: what 0 its sort (0: none),");
        KinProver x = Due.told(5, "m 0 3", "f 0 3", "m 0 2", "m 2 0", "b 1 5 5", "b 1 6 6");
        int[] off = {1, 0, 3, 5};
        for (int sort = 1; sort <= 4; sort++) {
            is("clash(0)", x.clash(0), sort);
            x.live(off[sort - 1], 0);
        }
        is("clash(0) of none", x.clash(0), 0);
        is("clash(0) of nobody", new KinProver().clash(0), 0);
        words.say("1 the PEOPLE,");
        KinProver y = Due.told(5, "m 0 3", "f 0 3", "f 1 2", "m 1 2");
        is("SEX", y.clash(1), 2);
        Due.state(y, "s 1 3");
        is("SEX of one with 1", y.clash(1), 1);
        is("PARENTS", Due.told(5, "m 4 0", "m 4 1", "f 3 2", "f 3 4").clash(1), 3);
        is("SELF", Due.told(5, "m 1 2", "f 2 3", "m 3 4", "f 4 1", "m 0 2").clash(1), 1);
        words.say("of EMPTY the RANGE (as proof() tells it;");
        is("BORN", Due.told(2, "b 1 5 5", "b 1 6 6").clash(1), 2);
        is("DIED", Due.told(2, "d 1 5 5", "d 1 6 6").clash(1), 3);
        is("MARRIED", Due.told(2, "b 0 1900 1910", "w 1 0 1800 1913").clash(1), 201);
        words.say("-5: no CLASH).");
        is("clash(1)", Due.told(2, "b 0 5 5").clash(1), -5);
        is("clash(1) of nobody", new KinProver().clash(1), -5);
        words.say("NONE.");
        is("clash(2)", y.clash(2), -1);
        is("clash(-1)", y.clash(-1), -1);
        is("clash(MAX) of none", new KinProver().clash(Integer.MAX_VALUE), -1);
    }

    private static void clashOfEmpty() {
        KinProver x = Due.told(2, "b 0 1900 1910", "d 0 1800 1890", "l 1 5");
        is("sort", x.clash(0), 4);
        is("RANGE", x.clash(1), 1);
        isRange("born 0", x, 0, 0, 1900, 1910);
        isRange("died 0", x, 0, 1, 1900, 1890);
        is("rounds", x.rounds(), 2);
        KinProver y = Due.told(2, "b 0 1900 1910", "w 1 0 1800 1913");
        is("year of an EMPTY, lower", y.year(1, 0), 1914);
        is("year of an EMPTY, upper", y.year(1, 1), 1913);
        KinProver z = Due.told(1, "d 0 2000 2000", "b 0 3000 3000", "b 0 5 6");
        is("all stops at once", z.rounds(), 1);
        is("RANGE stopped at", z.clash(1), 0);
        isRange("born, stopped at", z, 0, 0, 3000, 6);
    }

    private static void isWhy(KinProver x, int side, int link, int... want) {
        for (int part = 0; part < 3; part++) {
            is("why(" + side + ", " + link + ", " + part + ")", x.why(side, link, part),
                want.length == 1 ? want[0] : want[part]);
        }
    }

    private static void why() {
        words.promise(20);
        words.say("Like proof() of the lower END (side 0), the upper one (1), of the RANGE that is EMPTY.");
        KinProver x = Due.told(2, "b 0 1900 1910", "d 0 1800 1890", "l 1 5");
        isWhy(x, 0, 0, 100, 0, 0);
        isWhy(x, 0, 1, 0, -5, -5);
        isWhy(x, 1, 0, 1, -5, -5);
        KinProver y = Due.told(2, "b 0 1900 1910", "w 1 0 1800 1913");
        isWhy(y, 0, 0, 1, 0, 0);
        isWhy(y, 0, 1, 0, -5, -5);
        isWhy(y, 1, 0, 1, -5, -5);
        KinProver z = ring();
        is("RANGE", z.clash(1), 2);
        is("rounds", z.rounds(), 751);
        isRange("born 1", z, 1, 0, 1501, 1500);
        isRange("born 0", z, 0, 0, 1500, 1501);
        isWhy(z, 0, 98, 0, 0, 0);
        isWhy(z, 0, 99, 1, 2, 0);
        words.say("NONE: side, link, part;");
        int[][] none = {{2, 0, 0}, {-1, 0, 0}, {0, 100, 0}, {0, -1, 0}, {0, 0, 3}, {0, 0, -1}};
        for (int[] n : none) {
            is("why(" + n[0] + ", " + n[1] + ", " + n[2] + ")", x.why(n[0], n[1], n[2]), -1);
            is("why(" + n[0] + ", " + n[1] + ", " + n[2] + ") of none", new KinProver().why(n[0], n[1], n[2]), -1);
        }
        words.say("STATE: there is none, it RESTS on nothing (there).");
        isWhy(x, 0, 2, -3);
        isWhy(x, 1, 1, -3);
        isWhy(x, 1, 99, -3);
        isWhy(new KinProver(), 0, 0, -3);
        isWhy(Due.told(2, "b 0 5 5"), 1, 0, -3);
        isWhy(Due.told(2, "b 0 5 5", "b 0 6 6", "m 0 1", "f 0 1"), 0, 0, -3);
        KinProver w = Due.told(2, "b 0 3000 3000", "o 0 1 1");
        is("EMPTY above 3000", w.clash(1), 2);
        isWhy(w, 0, 0, 1, 0, 0);
        isWhy(w, 1, 0, -3);
    }

    private static void olderThanItself() {
        KinProver x = Due.told(2, "o 0 1 99", "s 0 1");
        is("sort", x.clash(0), 4);
        is("rounds", x.rounds(), 16);
        isRange("born", x, 0, 0, 1584, 1515);
        is("proof, RULE", x.proof(1, 0, 0, 50, 0), 0);
        is("proof, RANGE", x.proof(1, 0, 0, 50, 1), 0);
        isWhy(x, 0, 99, 0, 0, 0);
        isWhy(x, 1, 99, 0, 0, 1);
        KinProver y = Due.told(2, "o 0 1 0", "s 0 1");
        is("sort by 0", y.clash(0), 0);
        is("rounds by 0", y.rounds(), 1);
    }

    private static void culprit() {
        words.promise(21);
        words.say("The i-th of LIVE STATEMENTS without which alone there would be no CLASH;");
        KinProver x = Due.told(3, "b 0 1900 1910", "l 1 3", "d 0 1800 1890", "d 0 1800 1880");
        is("culprit(0)", x.culprit(0), 0);
        x.live(3, 0);
        is("culprit(0) then", x.culprit(0), 0);
        is("culprit(1) then", x.culprit(1), 2);
        words.say("i -1: how many.");
        is("culprit(-1)", x.culprit(-1), 2);
        x.live(3, 1);
        is("culprit(-1) with both", x.culprit(-1), 1);
        KinProver y = Due.told(2, "b 0 5 5", "b 0 6 6", "b 1 5 5", "b 1 6 6");
        is("none alone", y.culprit(-1), 0);
        KinProver sexes = Due.people(2);
        sexes.sex(0, 1);
        sexes.sex(1, 2);
        Due.state(sexes, "s 0 1");
        is("one SAME", sexes.culprit(-1), 1);
        Due.state(sexes, "s 1 0");
        is("two SAMEs", sexes.culprit(-1), 0);
        words.say("NONE: i below -1;");
        is("culprit(-2)", x.culprit(-2), -1);
        is("culprit(MIN)", x.culprit(Integer.MIN_VALUE), -1);
        is("culprit(-2), no CLASH", new KinProver().culprit(-2), -1);
        words.say("STATE: there is no CLASH;");
        x.live(0, 0);
        is("culprit(0), no CLASH", x.culprit(0), -3);
        is("culprit(-1), no CLASH", x.culprit(-1), -3);
        is("culprit(9), no CLASH", x.culprit(9), -3);
        is("culprit(-1) of nobody", new KinProver().culprit(-1), -3);
        words.say("NONE: there is no i-th.");
        x.live(0, 1);
        is("culprit(1)", x.culprit(1), -1);
        is("culprit(MAX)", x.culprit(Integer.MAX_VALUE), -1);
        is("culprit(0), none alone", y.culprit(0), -1);
    }

    private static void culpritsOfEach() {
        KinProver y = Due.told(3, "b 0 5 5", "b 1 9 9", "s 0 2", "s 2 1");
        is("by SAME", y.culprit(-1), 4);
        is("in a ring of OLDER", ring().culprit(-1), 2);
        is("beside a ring of OLDER", Due.told(3, "b 2 5 5", "b 2 6 6", "o 0 1 1", "o 1 0 1").culprit(-1), 0);
        KinProver x = Due.told(3, "b 0 1900 1910", "d 0 1800 1890");
        x.live(0, 0);
        Due.state(x, "m 2 0");
        Due.state(x, "f 2 0");
        is("of SEX", x.culprit(-1), 2);
        x.sex(0, 1);
        is("of SEX, by the PERSON too", x.culprit(-1), 1);
        is("of SEX, who", x.culprit(0), 3);
        KinProver z = Due.told(5, "b 4 0 0", "m 1 2", "f 2 3", "m 3 1", "m 0 1");
        is("of SELF", z.culprit(-1), 3);
        is("of SELF, the first", z.culprit(0), 1);
        is("of PARENTS", Due.told(3, "m 0 1", "m 0 2", "m 0 2").culprit(-1), 1);
        is("of two CLASHES", Due.told(4, "m 0 1", "m 0 2", "b 3 5 5", "b 3 6 6").culprit(-1), 0);
    }

    private static void same() {
        words.promise(22);
        words.say("The sort of the CLASH that there would be, were two PERSONS SAME by one more LIVE STATEMENT"
            + " (its number the next;");
        KinProver x = Due.told(4, "b 0 1900 1900", "b 1 1950 1950", "m 3 2");
        is("same(0, 1)", x.same(0, 1), 4);
        is("same(1, 0)", x.same(1, 0), 4);
        is("same(2, 3)", x.same(2, 3), 3);
        is("same(3, 2)", x.same(3, 2), 3);
        KinProver y = Due.told(6, "m 0 1", "f 2 3", "m 4 5");
        is("of SEX", y.same(1, 3), 1);
        is("of PARENTS", y.same(0, 4), 2);
        is("of SELF", y.same(5, 4), 3);
        Due.state(y, "b 5 3000 3000");
        is("with a CLASH now", y.same(2, 1), 4);
        is("who are one", Due.told(2, "s 0 1").same(1, 0), 0);
        is("to be older than itself", Due.told(2, "o 0 1 1").same(0, 1), 4);
        is("to be a ring of OLDER", Due.told(3, "o 0 1 1", "o 1 2 1").same(2, 0), 4);
        is("to be no ring of OLDER", Due.told(3, "o 0 1 1", "o 0 2 1").same(2, 1), 0);
        words.say("in thought, with 60 there, too);");
        is("nothing has changed", x.told(2), 3);
        is("nothing has changed, PEOPLE", x.told(1), 4);
        for (int i = 3; i < 60; i++) {
            Due.feed(x, "s 0 1");
            x.state(0);
        }
        is("same(0, 1) with 60", x.same(0, 1), 4);
        is("same(0, 2) with 60", x.same(0, 2), 0);
        is("told(2)", x.told(2), 60);
        is("of(60, 0)", x.of(60, 0), -1);
        Due.person(x, "q", 2);
        is("same(4, 2)", x.same(4, 2), 1);
        KinProver z = Due.people(3);
        z.sex(0, 1);
        for (int i = 0; i < 60; i++) {
            Due.state(z, "s 0 1");
        }
        is("LIVE ones", z.told(3), 60);
        is("same(0, 2) with 60 LIVE", z.same(0, 2), 0);
        z.sex(2, 2);
        is("same(2, 1) with 60 LIVE", z.same(2, 1), 1);
        is("LIVE ones then", z.told(3), 60);
        is("PEOPLE then", z.told(1), 2);
        words.say("0: none.");
        is("same(0, 2)", Due.told(4, "b 0 1900 1900", "m 3 2").same(0, 2), 0);
        is("same(0, 1)", Due.people(2).same(0, 1), 0);
        words.say("NONE: either, or they are the same PERSON.");
        is("same(0, 0)", x.same(0, 0), -1);
        is("same(4, 4)", x.same(4, 4), -1);
        is("same(0, 5)", x.same(0, 5), -1);
        is("same(5, 0)", x.same(5, 0), -1);
        is("same(-1, 0)", x.same(-1, 0), -1);
        is("same(0, -1)", x.same(0, -1), -1);
        is("same(-1, -1)", x.same(-1, -1), -1);
    }

    private static int narrowing(KinProver x, String text, int person, int what) {
        Due.feed(x, text);
        int answer = x.narrows(person, what);
        is("told(4) behind narrows by " + text, x.told(4), 0);
        return answer;
    }

    private static void narrows() {
        words.promise(23);
        words.say("How many YEARS the ENDS of BORN (what 0), DIED (1) of a PERSON would be narrowed in all (both sides),"
            + " were THE TAPE one more LIVE STATEMENT;");
        KinProver x = Due.told(3, "b 0 1900 1910");
        is("by MOTHER, born", narrowing(x, "m 0 1", 1, 0), 1845 + 3000 - 1898);
        is("by MOTHER, died", narrowing(x, "m 0 1", 1, 1), 1900 + 3000 - 2008);
        is("by MOTHER, of another", narrowing(x, "m 0 1", 2, 0), 0);
        is("by the same again", narrowing(x, "b 0 1900 1910", 0, 0), 0);
        is("by an earlier END", narrowing(x, "b 0 1900 1907", 0, 0), 3);
        is("by a later END", narrowing(x, "b 0 1904 1910", 0, 0), 4);
        is("by both ENDS", narrowing(x, "b 0 1904 1907", 0, 0), 7);
        is("by both ENDS, died", narrowing(x, "b 0 1904 1907", 0, 1), 7);
        is("by all YEARS", narrowing(x, "b 1 7 7", 1, 0), 3000);
        is("by SAME", narrowing(x, "s 2 0", 2, 0), 2990);
        is("by SAME, of the least", narrowing(x, "s 2 0", 0, 0), 0);
        is("nothing has changed", x.told(2), 1);
        is("nothing has changed, PEOPLE", x.told(1), 3);
        words.say("-1000 less the sort of the CLASH that there would be;");
        is("of EMPTY", narrowing(x, "d 0 0 1000", 1, 0), -1004);
        is("of EMPTY by a ring", narrowing(Due.told(2, "o 0 1 1"), "o 1 0 1", 1, 0), -1004);
        Due.state(x, "m 1 2");
        is("of SEX", narrowing(x, "f 0 2", 1, 0), -1001);
        is("of PARENTS", narrowing(x, "m 1 0", 1, 0), -1002);
        is("of SELF", narrowing(x, "m 2 1", 1, 0), -1003);
        words.say("-100 less the FAULT.");
        is("by a fault", narrowing(x, "d 0 0 3001", 1, 0), -106);
        is("by nothing", narrowing(x, "", 1, 0), -100);
        is("by no STATEMENT", narrowing(x, "?", 1, 0), -100);
    }

    private static void narrowsRefused() {
        words.say("NONE: person, what;");
        KinProver x = Due.told(3, "b 0 1900 1910");
        Due.feed(x, "l 0 1950");
        is("narrows(3, 0)", x.narrows(3, 0), -1);
        is("narrows(-1, 0)", x.narrows(-1, 0), -1);
        is("narrows(0, 2)", x.narrows(0, 2), -1);
        is("narrows(0, -1)", x.narrows(0, -1), -1);
        is("told(4) stays", x.told(4), 8);
        is("narrows(0, 1)", x.narrows(0, 1), 50);
        Due.state(x, "b 0 5 5");
        Due.feed(x, "x");
        is("narrows(0, 2) with a CLASH", x.narrows(0, 2), -1);
        words.say("STATE: there is a CLASH now");
        is("with a CLASH", x.narrows(0, 0), -3);
        is("told(4) stays", x.told(4), 1);
        x.clear();
        words.say("FULL: 60 STATEMENTS;");
        for (int i = 2; i < 60; i++) {
            is("with " + i, x.narrows(0, 0), -3);
            Due.state(x, "s 1 2");
        }
        Due.feed(x, "l 1 9");
        is("told(2)", x.told(2), 60);
        is("with 60 and a CLASH", x.narrows(0, 0), -4);
        is("narrows(0, 2) with 60", x.narrows(0, 2), -1);
        x.live(1, 0);
        is("with 60", x.narrows(0, 0), -4);
        words.say("(THE TAPE stays behind these).");
        is("told(4) behind FULL", x.told(4), 5);
        is("what stayed", x.state(1), -4);
        KinProver y = Due.told(1, "b 0 5 5", "b 0 6 6");
        Due.feed(y, "l 0 5");
        is("STATE", y.narrows(0, 0), -3);
        is("told(4) behind STATE", y.told(4), 5);
        is("what stayed is a STATEMENT", y.state(1), 2);
    }

    private static void rounds() {
        words.promise(24);
        words.say("How many ROUNDS there were (the last one, which changed nothing,");
        KinProver x = Due.told(2, "b 0 1900 1910", "m 0 1");
        is("rounds", x.rounds(), 3);
        x.live(0, 0);
        is("rounds without", x.rounds(), 3);
        x.live(1, 0);
        is("rounds without both", x.rounds(), 1);
        is("rounds of nobody", new KinProver().rounds(), 1);
        words.say("or stopped, too;");
        is("rounds of one that stopped", Due.told(2, "d 0 2500 2500", "d 0 2400 2400").rounds(), 1);
        is("rounds of a later one", Due.told(2, "b 0 1900 1910", "d 0 1800 1890").rounds(), 2);
        is("rounds of a ring", ring().rounds(), 751);
        words.say("0: a CLASH of 1 .. 3).");
        is("SEX", Due.told(3, "m 0 1", "f 0 1", "b 0 5 6").rounds(), 0);
        is("PARENTS", Due.told(3, "m 0 1", "m 0 2", "b 0 5 6").rounds(), 0);
        is("SELF", Due.told(3, "m 0 1", "m 1 0", "b 0 5 6").rounds(), 0);
    }
}
