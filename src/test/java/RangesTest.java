/** Promises 14 to 24: people, ranges, proofs, clashes. */
public final class RangesTest {
    private static final Due due = new Due("RangesTest");

    public static void main(String[] args) {
        people();
        generations();
        ends();
        rules();
        rest();
        year();
        proofAndProve();
        clashOfSex();
        clashOfParents();
        clashOfSelf();
        clashOfEmpty();
        hundredLinks();
        olderThanItself();
        culprit();
        same();
        narrows();
        rounds();
        due.end();
    }

    private static void people() {
        KinProver x = Due.told(6, "s 3 1", "s 5 3", "m 2 5", "f 4 0", "m 0 3", "m 4 1", "w 0 2 5 9", "w 1 2 5 9", "w 3 5 0 3");
        int[][] want = {
            {0, 1, 2, 1, -5, 1, 1, 1}, {1, 3, 1, -5, -5, 3, 2, 0}, {2, 1, 0, 1, -5, 0, 2, 1}, {1, 3, 1, -5, -5, 3, 2, 0},
            {4, 1, 0, 1, 0, 0, 0, 2}, {1, 3, 1, -5, -5, 3, 2, 0}};
        for (int p = 0; p < want.length; p++) {
            for (int what = 0; what < 8; what++) {
                due.is("people(" + p + ", " + what + ")", x.people(p, what), want[p][what]);
            }
        }
        due.is("people(6, 0)", x.people(6, 0), -1);
        due.is("people(-1, 0)", x.people(-1, 0), -1);
        due.is("people(0, 8)", x.people(0, 8), -1);
        due.is("people(0, -1)", x.people(0, -1), -1);
        due.is("told(1)", x.told(1), 4);
        x.live(0, 0);
        due.is("parted: number of 3", x.people(3, 0), 3);
        due.is("parted: number of 5", x.people(5, 0), 3);
        due.is("parted: how many of 1", x.people(1, 1), 1);
        due.is("parted: children of 3", x.people(3, 5), 2);
        due.is("parted: children of 1", x.people(1, 5), 1);
        due.is("parted: mother of 2", x.people(2, 3), 3);
        x.live(2, 0);
        due.is("no mother told of 2", x.people(2, 3), -5);
        Due.state(x, "m 4 5");
        due.is("of two mothers the least", x.people(4, 3), 1);
        x.sex(1, 2);
        due.is("SHE and HE", x.people(1, 2), 3);
        KinProver y = Due.told(3, "m 2 0", "m 2 0", "f 2 0");
        due.is("children, each once", y.people(0, 5), 1);
        due.is("mother and father of 2", y.people(2, 3) + y.people(2, 4), 0);
    }

    private static void generations() {
        KinProver x = Due.told(5, "m 1 0", "m 2 1", "f 2 3", "f 4 2");
        int[] want = {0, 1, 2, 0, 3};
        for (int p = 0; p < want.length; p++) {
            due.is("generation of " + p, x.people(p, 7), want[p]);
        }
        due.is("told(7)", x.told(7), 3);
        Due.state(x, "m 0 4");
        for (int p = 0; p < want.length; p++) {
            due.is("generation in a ring of " + p, x.people(p, 7), -5);
        }
        due.is("told(7) in a ring", x.told(7), -5);
        due.is("told(8)", x.told(8), -1);
        due.is("told(-1)", x.told(-1), -1);
    }

    private static void isRange(String call, KinProver x, int person, int what, int low, int high) {
        due.is(call + ", lower", x.end(person, what, 0), low);
        due.is(call + ", upper", x.end(person, what, 1), high);
    }

    private static void ends() {
        KinProver x = Due.told(2, "b 0 1900 1910");
        isRange("born 0", x, 0, 0, 1900, 1910);
        isRange("died 0", x, 0, 1, 1900, 2020);
        isRange("born 1", x, 1, 0, 0, 3000);
        Due.state(x, "s 1 0");
        isRange("born 1, who is 0", x, 1, 0, 1900, 1910);
        due.is("end(2, 0, 0)", x.end(2, 0, 0), -1);
        due.is("end(-1, 0, 0)", x.end(-1, 0, 0), -1);
        due.is("end(0, 2, 0)", x.end(0, 2, 0), -1);
        due.is("end(0, -1, 0)", x.end(0, -1, 0), -1);
        due.is("end(0, 0, 2)", x.end(0, 0, 2), -1);
        due.is("end(0, 0, -1)", x.end(0, 0, -1), -1);
        x.live(0, 0);
        isRange("born 0 without", x, 0, 0, 0, 3000);
    }

    private static void rules() {
        KinProver x = Due.told(1, "d 0 1900 1950");
        isRange("LIFE, born", x, 0, 0, 1790, 1950);
        x = Due.told(2, "b 0 1900 1910", "m 0 1");
        isRange("MOTHER, born", x, 1, 0, 1845, 1898);
        isRange("MOTHER, died", x, 1, 1, 1900, 2008);
        x = Due.told(2, "b 0 1900 1910", "f 0 1");
        isRange("FATHER, born", x, 1, 0, 1820, 1896);
        isRange("FATHER, died", x, 1, 1, 1899, 2006);
        x = Due.told(2, "b 1 1900 1910", "m 0 1");
        isRange("MOTHER, born of the child", x, 0, 0, 1912, 1965);
        x = Due.told(2, "b 1 1900 1910", "f 0 1");
        isRange("FATHER, born of the child", x, 0, 0, 1914, 1990);
        x = Due.told(2, "d 1 1900 1910", "m 0 1");
        isRange("MOTHER, died ahead of the child", x, 0, 0, 1802, 1910);
        x = Due.told(2, "d 1 1900 1910", "f 0 1");
        isRange("FATHER, died ahead of the child", x, 0, 0, 1804, 1911);
        x = Due.told(1, "l 0 1900");
        isRange("ALIVE, born", x, 0, 0, 1790, 1900);
        isRange("ALIVE, died", x, 0, 1, 1900, 2010);
        x = Due.told(2, "b 0 1900 1910", "o 0 1 7");
        isRange("OLDER, born of b", x, 1, 0, 1907, 3000);
        x = Due.told(2, "b 1 1900 1910", "o 0 1 7");
        isRange("OLDER, born of a", x, 0, 0, 0, 1903);
        x = Due.told(2, "w 0 1 1900 1950");
        for (int p = 0; p < 2; p++) {
            isRange("MARRIED, born", x, p, 0, 1790, 1936);
            isRange("MARRIED, died", x, p, 1, 1900, 2046);
        }
        x = Due.told(3, "b 0 1900 1910", "b 1 1905 1920", "s 1 2", "s 2 0");
        for (int p = 0; p < 3; p++) {
            isRange("SAME, born", x, p, 0, 1905, 1910);
        }
    }

    /** An END RESTS on what changed it last, not on what says the same again. */
    private static void rest() {
        KinProver x = Due.told(1, "b 0 1900 1910", "b 0 1900 1905", "b 0 1890 1905", "b 0 1901 1905");
        due.is("lower END rests", x.proof(0, 0, 0, 0, 0), 3);
        due.is("upper END rests", x.proof(0, 0, 1, 0, 0), 1);
        x.live(3, 0);
        due.is("lower END rests then", x.proof(0, 0, 0, 0, 0), 0);
        x.live(1, 0);
        due.is("upper END rests then", x.proof(0, 0, 1, 0, 0), 2);
    }

    private static void year() {
        KinProver x = Due.told(2, "b 0 1900 1910", "w 0 1 1800 1950", "w 0 1 1920 1930");
        due.is("year(1, 0)", x.year(1, 0), 1914);
        due.is("year(1, 1)", x.year(1, 1), 1950);
        due.is("year(2, 0)", x.year(2, 0), 1920);
        due.is("year(2, 1)", x.year(2, 1), 1930);
        due.is("year(0, 0)", x.year(0, 0), -3);
        due.is("year(3, 0)", x.year(3, 0), -1);
        due.is("year(-1, 0)", x.year(-1, 0), -1);
        due.is("year(1, 2)", x.year(1, 2), -1);
        due.is("year(0, -1)", x.year(0, -1), -1);
        x.live(2, 0);
        due.is("year(2, 0) not live", x.year(2, 0), -3);
        Due.state(x, "d 0 0 1913");
        due.is("year of an EMPTY", x.clash(0), 4);
        Due.state(x, "m 0 0001");
        Due.state(x, "f 0 1");
        due.is("year with a clash of SEX", x.year(1, 0), 0);
        due.is("year with a clash of SEX, upper", x.year(1, 1), 3000);
    }

    private static void isProof(KinProver x, int[] end, int link, int rule, int range, int side) {
        int[] want = {rule, range, side};
        for (int part = 0; part < 3; part++) {
            due.is("proof(" + end[0] + ", " + end[1] + ", " + end[2] + ", " + link + ", " + part + ")",
                x.proof(end[0], end[1], end[2], link, part), want[part]);
        }
    }

    private static void proofAndProve() {
        KinProver x = Due.told(3, "w 0 1 1900 1950", "b 0 1880 1890", "m 0 2");
        int[] diedOfB = {1, 1, 1};
        isProof(x, diedOfB, 0, 101, 2, 1);
        isProof(x, diedOfB, 1, 0, 200, 1);
        isProof(x, diedOfB, 2, 0, -5, -5);
        isProof(x, diedOfB, 3, -3, -3, -3);
        isProof(x, diedOfB, 99, -3, -3, -3);
        isProof(x, diedOfB, 100, -1, -1, -1);
        isProof(x, diedOfB, -1, -1, -1, -1);
        isProof(x, new int[] {2, 1, 0}, 0, 2, 0, 0);
        isProof(x, new int[] {0, 1, 1}, 0, 100, 0, 1);
        due.is("proof, part 3", x.proof(0, 0, 0, 0, 3), -1);
        due.is("proof, part -1", x.proof(0, 0, 0, 0, -1), -1);
        due.is("proof, what 2", x.proof(0, 2, 0, 0, 0), -1);
        due.is("proof, side 2", x.proof(0, 0, 2, 0, 0), -1);
        due.is("proof, person 3", x.proof(3, 0, 0, 0, 0), -1);
        due.isText("prove(1, 1, 1)", Due.proved(x, 1, 1, 1), "L1<0<0");
        due.isText("prove(0, 1, 1)", Due.proved(x, 0, 1, 1), "L0<1");
        due.isText("prove(1, 0, 0)", Due.proved(x, 1, 0, 0), "0<0");
        due.isText("prove(2, 1, 1)", Due.proved(x, 2, 1, 1), "L2<2<1");
        due.is("prove(3, 0, 0)", x.prove(3, 0, 0), -1);
        due.is("prove(0, 2, 0)", x.prove(0, 2, 0), -1);
        due.is("prove(0, 0, -1)", x.prove(0, 0, -1), -1);
        due.isText("paper behind these", Due.paper(x), "L2<2<1");
        KinProver y = Due.people(1);
        due.is("prove, nothing", y.prove(0, 0, 0), 0);
        due.is("proof, nothing", y.proof(0, 0, 0, 0, 0), -3);
    }

    private static void clashOfSex() {
        KinProver x = Due.told(4, "b 1 1900 1910", "m 0 3", "f 1 2", "f 0 3");
        due.is("sort", x.clash(0), 1);
        due.is("PEOPLE", x.clash(1), 3);
        isRange("born 1, not narrowed", x, 1, 0, 0, 3000);
        due.is("proof, not narrowed", x.proof(1, 0, 0, 0, 0), -3);
        due.is("rounds", x.rounds(), 0);
        due.is("why", x.why(0, 0, 0), -3);
        x.sex(2, 1);
        due.is("PEOPLE, the least", x.clash(1), 2);
        due.is("clash(2)", x.clash(2), -1);
        due.is("clash(-1)", x.clash(-1), -1);
        x.sex(2, 0);
        x.live(3, 0);
        due.is("sort without", x.clash(0), 0);
        due.is("PEOPLE without", x.clash(1), -5);
        x.sex(1, 1);
        x.sex(0, 2);
        due.is("same(1, 0)", x.same(1, 0), 1);
        Due.state(x, "s 1 0");
        due.is("PEOPLE of both", x.clash(1), 0);
    }

    private static void clashOfParents() {
        KinProver x = Due.told(5, "m 4 0", "m 4 1", "f 3 2", "f 3 4");
        due.is("sort", x.clash(0), 2);
        due.is("PEOPLE", x.clash(1), 3);
        x.live(3, 0);
        due.is("PEOPLE then", x.clash(1), 4);
        due.is("rounds", x.rounds(), 0);
        Due.state(x, "s 0 1");
        due.is("sort, two that are one", x.clash(0), 0);
        due.is("rounds then", x.rounds() > 0 ? 1 : 0, 1);
        KinProver y = Due.told(5, "m 0 1", "m 1 0", "m 4 2", "m 4 3");
        due.is("sort, ahead of SELF", y.clash(0), 2);
        due.is("PEOPLE, ahead of SELF", y.clash(1), 4);
    }

    private static void clashOfSelf() {
        KinProver x = Due.told(5, "b 4 0 0", "m 1 2", "f 2 3", "m 3 1", "m 0 3");
        due.is("sort, SEX ahead of it", x.clash(0), 1);
        x.live(4, 0);
        due.is("sort", x.clash(0), 3);
        due.is("PEOPLE", x.clash(1), 1);
        isRange("born 4, not narrowed", x, 4, 0, 0, 3000);
        due.is("culprits", x.culprit(-1), 3);
        KinProver y = Due.told(2, "m 1 0", "s 0 1");
        due.is("its own mother", y.clash(0), 3);
        due.is("its own mother, who", y.clash(1), 0);
        due.is("child of itself", y.relatives(0, 0), 1);
    }

    private static void clashOfEmpty() {
        KinProver x = Due.told(2, "b 0 1900 1910", "d 0 1800 1890", "l 1 5");
        due.is("sort", x.clash(0), 4);
        due.is("RANGE", x.clash(1), 1);
        isRange("born 0", x, 0, 0, 1900, 1910);
        isRange("died 0", x, 0, 1, 1900, 1890);
        due.is("rounds", x.rounds(), 2);
        int[][] want = {{100, 0, 0}, {0, -5, -5}, {-3, -3, -3}};
        for (int link = 0; link < 3; link++) {
            for (int part = 0; part < 3; part++) {
                due.is("why(0, " + link + ", " + part + ")", x.why(0, link, part), want[link][part]);
            }
        }
        due.is("why(1, 0, 0)", x.why(1, 0, 0), 1);
        due.is("why(1, 0, 1)", x.why(1, 0, 1), -5);
        due.is("why(1, 1, 0)", x.why(1, 1, 0), -3);
        due.is("why(2, 0, 0)", x.why(2, 0, 0), -1);
        due.is("why(-1, 0, 0)", x.why(-1, 0, 0), -1);
        due.is("why(0, 100, 0)", x.why(0, 100, 0), -1);
        due.is("why(0, 99, 0)", x.why(0, 99, 0), -3);
        due.is("why(0, -1, 0)", x.why(0, -1, 0), -1);
        due.is("why(0, 0, 3)", x.why(0, 0, 3), -1);
        KinProver y = Due.told(2, "b 0 1900 1910", "w 1 0 1800 1913");
        due.is("RANGE of a MARRIED", y.clash(1), 201);
        due.is("its year, lower", y.year(1, 0), 1914);
        due.is("its year, upper", y.year(1, 1), 1913);
        due.is("why of it", y.why(0, 0, 0), 1);
        due.is("why of it, RANGE", y.why(0, 0, 1), 0);
        KinProver z = Due.told(1, "d 0 2000 2000", "b 0 3000 3000", "b 0 5 6");
        due.is("all stops at once", z.rounds(), 1);
        due.is("RANGE stopped at", z.clash(1), 0);
        isRange("born, stopped at", z, 0, 0, 3000, 6);
    }

    /** Each is older than the other: the ENDS come nearer by two years a ROUND. */
    private static void hundredLinks() {
        KinProver x = Due.told(2, "o 0 1 1", "o 1 0 1");
        due.is("rounds", x.rounds(), 751);
        due.is("RANGE", x.clash(1), 2);
        isRange("born 1", x, 1, 0, 1501, 1500);
        isRange("born 0", x, 0, 0, 1500, 1501);
        StringBuilder text = new StringBuilder("0");
        for (int link = 1; link < 100; link++) {
            text.append(link % 2 == 0 ? "<0" : "<1");
        }
        due.isText("prove(1, 0, 0)", Due.proved(x, 1, 0, 0), text.toString());
        due.is("proof, link 99", x.proof(1, 0, 0, 99, 0), 1);
        due.is("proof, link 100", x.proof(1, 0, 0, 100, 0), -1);
        due.is("why, link 98", x.why(0, 98, 1), 0);
        due.is("why, link 99", x.why(0, 99, 1), 2);
        due.is("culprits", x.culprit(-1), 2);
    }

    private static void olderThanItself() {
        KinProver x = Due.told(2, "o 0 1 99", "s 0 1");
        due.is("sort", x.clash(0), 4);
        due.is("rounds", x.rounds(), 16);
        isRange("born", x, 0, 0, 1584, 1515);
        due.is("proof, RULE", x.proof(1, 0, 0, 50, 0), 0);
        due.is("proof, RANGE", x.proof(1, 0, 0, 50, 1), 0);
        KinProver y = Due.told(2, "o 0 1 0", "s 0 1");
        due.is("sort by 0", y.clash(0), 0);
        due.is("rounds by 0", y.rounds(), 1);
    }

    private static void culprit() {
        KinProver x = Due.told(3, "b 0 1900 1910", "l 1 3", "d 0 1800 1890", "d 0 1800 1880");
        due.is("how many", x.culprit(-1), 1);
        due.is("culprit(0)", x.culprit(0), 0);
        due.is("culprit(1)", x.culprit(1), -1);
        due.is("culprit(-2)", x.culprit(-2), -1);
        x.live(3, 0);
        due.is("how many then", x.culprit(-1), 2);
        due.is("culprit(1) then", x.culprit(1), 2);
        x.live(0, 0);
        due.is("culprit(0), no clash", x.culprit(0), -3);
        due.is("culprit(-1), no clash", x.culprit(-1), -3);
        due.is("culprit(-2), no clash", x.culprit(-2), -1);
        due.is("culprit(9), no clash", x.culprit(9), -3);
        KinProver y = Due.told(3, "b 0 5 5", "b 1 9 9", "s 0 2", "s 2 1");
        due.is("how many by SAME", y.culprit(-1), 4);
        KinProver z = Due.told(2, "b 0 5 5", "b 0 6 6", "b 1 5 5", "b 1 6 6");
        due.is("none alone", z.culprit(-1), 0);
        due.is("none alone, the first", z.culprit(0), -1);
        Due.state(x, "m 2 0");
        Due.state(x, "f 2 0");
        due.is("of SEX", x.culprit(-1), 2);
        x.sex(0, 1);
        due.is("of SEX, by the PERSON too", x.culprit(-1), 1);
        due.is("of SEX, who", x.culprit(0), 5);
    }

    private static void same() {
        KinProver x = Due.told(4, "b 0 1900 1900", "b 1 1950 1950", "m 3 2");
        due.is("same(0, 1)", x.same(0, 1), 4);
        due.is("same(1, 0)", x.same(1, 0), 4);
        due.is("same(0, 2)", x.same(0, 2), 0);
        due.is("same(2, 3)", x.same(2, 3), 3);
        due.is("same(0, 0)", x.same(0, 0), -1);
        due.is("same(0, 4)", x.same(0, 4), -1);
        due.is("same(-1, 0)", x.same(-1, 0), -1);
        due.is("nothing has changed", x.told(2), 3);
        due.is("nothing has changed, PEOPLE", x.told(1), 4);
        for (int i = 3; i < 60; i++) {
            Due.state(x, "l 3 1950");
        }
        due.is("same(0, 1) with 60", x.same(0, 1), 4);
        due.is("same(0, 2) with 60", x.same(0, 2), 0);
        due.is("told(2)", x.told(2), 60);
        due.is("of(60, 0)", x.of(60, 0), -1);
        Due.person(x, "q", 2);
        due.is("same(4, 2)", x.same(4, 2), 1);
    }

    private static int narrowing(KinProver x, String text, int person, int what) {
        Due.feed(x, text);
        int answer = x.narrows(person, what);
        due.is("told(4) behind narrows by " + text, x.told(4), 0);
        return answer;
    }

    private static void narrows() {
        KinProver x = Due.told(3, "b 0 1900 1910");
        due.is("by MOTHER, born", narrowing(x, "m 0 1", 1, 0), 1845 + 3000 - 1898);
        due.is("by MOTHER, died", narrowing(x, "m 0 1", 1, 1), 1900 + 3000 - 2008);
        due.is("by MOTHER, of another", narrowing(x, "m 0 1", 2, 0), 0);
        due.is("by the same again", narrowing(x, "b 0 1900 1910", 0, 0), 0);
        due.is("by an earlier END", narrowing(x, "b 0 1900 1907", 0, 0), 3);
        due.is("by SAME", narrowing(x, "s 2 0", 2, 0), 2990);
        due.is("by SAME, of the least", narrowing(x, "s 2 0", 0, 0), 0);
        due.is("by a CLASH", narrowing(x, "d 0 0 1000", 1, 0), -1004);
        due.is("by a fault", narrowing(x, "d 0 0 3001", 1, 0), -106);
        due.is("by nothing", narrowing(x, "", 1, 0), -100);
        due.is("nothing has changed", x.told(2), 1);
        Due.feed(x, "l 0 1950");
        due.is("narrows(3, 0)", x.narrows(3, 0), -1);
        due.is("narrows(-1, 0)", x.narrows(-1, 0), -1);
        due.is("narrows(0, 2)", x.narrows(0, 2), -1);
        due.is("narrows(0, -1)", x.narrows(0, -1), -1);
        due.is("told(4) stays", x.told(4), 8);
        due.is("narrows(0, 1)", x.narrows(0, 1), 50);
        Due.state(x, "m 1 2");
        due.is("by a CLASH of SEX", narrowing(x, "f 0 2", 1, 0), -1001);
        due.is("by a CLASH of PARENTS", narrowing(x, "m 1 0", 1, 0), -1002);
        due.is("by a CLASH of SELF", narrowing(x, "m 2 1", 1, 0), -1003);
        Due.state(x, "b 0 5 5");
        Due.feed(x, "x");
        due.is("with a CLASH", x.narrows(0, 0), -3);
        due.is("with a CLASH, no such", x.narrows(0, 2), -1);
        due.is("told(4) behind STATE", x.told(4), 1);
        x.clear();
        for (int i = 3; i < 60; i++) {
            Due.state(x, "l 1 1950");
        }
        Due.feed(x, "x");
        due.is("with 60 and a CLASH", x.narrows(0, 0), -4);
        x.live(2, 0);
        due.is("with 60", x.narrows(0, 0), -4);
        due.is("told(4) behind FULL", x.told(4), 1);
    }

    private static void rounds() {
        KinProver x = Due.told(2, "b 0 1900 1910", "m 0 1");
        due.is("rounds", x.rounds(), 3);
        x.live(1, 0);
        due.is("rounds without", x.rounds(), 3);
        x.live(0, 0);
        due.is("rounds without both", x.rounds(), 1);
        KinProver y = Due.told(2, "d 0 2500 2500", "d 0 2400 2400");
        due.is("rounds of one that stopped", y.rounds(), 1);
    }
}
