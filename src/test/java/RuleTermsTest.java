/** The document's Terms, part 1, word by word: persons, statements, people, rules, rounds, clashes. */
public final class RuleTermsTest {
    private static final Due due = new Due("RuleTermsTest");
    private static final Words words = new Words(due);

    public static void main(String[] args) {
        words.part("==== 1 ", "==== 2 ");
        persons();
        statements();
        people();
        ranges();
        rulesOfOne();
        rulesOfParents();
        rulesOfMarried();
        rulesOfAliveAndOlder();
        narrowing();
        inTurn();
        rests();
        clashes();
        noneNarrowed();
        words.endPart();
        due.end();
    }

    private static void is(String call, long got, long want) {
        due.is(call, got, want);
    }

    private static void isRange(String call, KinProver x, int person, int what, int low, int high) {
        is(call + ", lower", x.end(person, what, 0), low);
        is(call + ", upper", x.end(person, what, 1), high);
    }

    private static void isClash(int want, int persons, String... texts) {
        is("clash(0) of " + String.join(", ", texts), Due.told(persons, texts).clash(0), want);
    }

    private static void isRest(KinProver x, int person, int what, int side, int... want) {
        for (int part = 0; part < 3; part++) {
            int due = want.length == 1 ? want[0] : want[part];
            is("proof(" + person + ", " + what + ", " + side + ", 0, " + part + ")", x.proof(person, what, side, 0, part), due);
        }
    }

    private static void persons() {
        words.say("PERSONS 0 .. 29, as they come:");
        KinProver x = new KinProver();
        for (int i = 0; i <= 29; i++) {
            is("person", Due.person(x, "p", 0), i);
        }
        is("person behind 29", Due.person(x, "p", 0), -4);
        is("told(0)", x.told(0), 30);
        is("people(29, 0)", x.people(29, 0), 29);
        is("people(30, 0)", x.people(30, 0), -1);
        words.say("a NAME (1 to 7 letters a .. z),");
        KinProver y = new KinProver();
        is("no letter", Due.person(y, "", 0), -100);
        is("1 letter", Due.person(y, "a", 0), 0);
        is("7 letters", Due.person(y, "zzzzzzz", 0), 1);
        is("8 letters", Due.person(y, "zzzzzzzz", 0), -107);
        is("ahead of a", Due.person(y, "`", 0), -100);
        is("behind z", Due.person(y, "{", 0), -100);
        is("a capital", Due.person(y, "A", 0), -100);
        is("name(1, -1)", y.name(1, -1), 7);
        words.say("a SEX (0 none told, 1 she, 2 he).");
        KinProver z = new KinProver();
        for (int sex = -1; sex <= 3; sex++) {
            z.clear();
            is("person(" + sex + ")", Due.person(z, "a", sex), sex < 0 || sex > 2 ? -1 : sex);
        }
        for (int p = 0; p < 3; p++) {
            is("people(" + p + ", 2)", z.people(p, 2), p);
        }
    }

    private static void statements() {
        words.say("STATEMENTS 0 .. 59, as they come,");
        KinProver x = Due.people(1);
        for (int i = 0; i <= 59; i++) {
            is("state", Due.state(x, "l 0 7"), i);
        }
        is("state behind 59", Due.state(x, "l 0 7"), -4);
        is("told(2)", x.told(2), 60);
        is("of(59, 3)", x.of(59, 3), 7);
        is("of(60, 3)", x.of(60, 3), -1);
        is("live(59, 0)", x.live(59, 0), 1);
        is("live(60, 0)", x.live(60, 0), -1);
        words.say("each LIVE or not:");
        KinProver y = Due.people(1);
        Due.feed(y, "b 0 1 2");
        is("state(0)", y.state(0), 0);
        is("of(0, 5)", y.of(0, 5), 0);
        is("end(0, 0, 0)", y.end(0, 0, 0), 0);
        is("live(0, 1)", y.live(0, 1), 0);
        is("of(0, 5), LIVE", y.of(0, 5), 1);
        is("end(0, 0, 0), LIVE", y.end(0, 0, 0), 1);
        words.say("its SORT and what it says of PERSONS:");
        is("of(0, 0)", y.of(0, 0), 0);
        is("of(0, 1)", y.of(0, 1), 0);
        says("0 BORN a in lo .. hi;", "b 1 2 3", 0, 1, -5, 2, 3);
        says("1 DIED a in lo .. hi;", "d 2 0 3000", 1, 2, -5, 0, 3000);
        says("2 MOTHER of a is b;", "m 1 0", 2, 1, 0, -5, -5);
        says("3 FATHER of a is b;", "f 0 2", 3, 0, 2, -5, -5);
        says("4 MARRIED a and b in lo .. hi;", "w 2 1 5 5", 4, 2, 1, 5, 5);
        says("5 SAME a and b;", "s 0 1", 5, 0, 1, -5, -5);
        says("6 ALIVE a in lo;", "l 0 9", 6, 0, -5, 9, -5);
        says("7 OLDER a than b by lo (0 .. 99) or more.", "o 2 0 99", 7, 2, 0, 99, -5);
        is("OLDER by 0", Due.state(Due.people(2), "o 0 1 0"), 0);
        is("OLDER by 100", Due.state(Due.people(2), "o 0 1 100"), -106);
        words.say("YEARS: 0 .. 3000.");
        KinProver z = Due.told(1, "b 0 0 0", "d 0 0 3000", "l 0 0");
        is("3000 .. 3000", Due.state(z, "d 0 3000 3000"), 3);
        is("3001 .. 3001", Due.state(z, "d 0 3001 3001"), -104);
        is("0 .. 3001", Due.state(z, "d 0 0 3001"), -106);
        is("ALIVE in 3000", Due.state(z, "l 0 3000"), 4);
        is("ALIVE in 3001", Due.state(z, "l 0 3001"), -104);
    }

    private static void says(String sentence, String text, int... want) {
        words.say(sentence);
        KinProver x = Due.told(3, text);
        for (int what = 0; what < want.length; what++) {
            is("of(0, " + what + ") of " + text, x.of(0, what), want[what]);
        }
    }

    private static void people() {
        words.say("PEOPLE: PERSONS that LIVE SAMEs make one (also by others between);");
        KinProver x = Due.told(6, "s 4 3", "s 2 3", "s 0 2");
        int[] one = {0, 1, 0, 0, 0, 5};
        for (int p = 0; p < one.length; p++) {
            is("people(" + p + ", 0)", x.people(p, 0), one[p]);
        }
        is("told(1)", x.told(1), 3);
        is("people(4, 1)", x.people(4, 1), 4);
        x.live(1, 0);
        int[] parted = {0, 1, 0, 3, 3, 5};
        for (int p = 0; p < parted.length; p++) {
            is("parted, people(" + p + ", 0)", x.people(p, 0), parted[p]);
        }
        is("parted, told(1)", x.told(1), 4);
        words.say("the number of one is the least of its PERSONS.");
        KinProver y = Due.told(4, "s 3 2", "s 1 3");
        for (int p = 1; p < 4; p++) {
            is("people(" + p + ", 0)", y.people(p, 0), 1);
        }
        y.live(1, 0);
        is("people(3, 0) without", y.people(3, 0), 2);
        words.say("SHE, HE: one with a PERSON of that SEX,");
        KinProver z = Due.told(4, "s 0 1", "s 2 1");
        z.sex(2, 1);
        is("SHE", z.people(0, 2), 1);
        z.sex(1, 2);
        is("SHE and HE", z.people(0, 2), 3);
        z.sex(2, 0);
        is("HE", z.people(2, 2), 2);
        is("another", z.people(3, 2), 0);
        words.say("or that a LIVE MOTHER, FATHER tells for b.");
        KinProver w = Due.told(3, "m 0 1", "f 0 2", "f 1 2");
        is("of a MOTHER b", w.people(1, 2), 1);
        is("of a FATHER b", w.people(2, 2), 2);
        is("of a", w.people(0, 2), 0);
        w.live(0, 0);
        is("of a MOTHER b, not LIVE", w.people(1, 2), 0);
        w.sex(2, 1);
        is("told otherwise", w.people(2, 2), 3);
        words.say("What STATEMENTS say of PERSONS they say of their PEOPLE.");
        KinProver v = Due.told(5, "s 0 2", "b 2 1900 1910", "m 2 3", "w 4 2 1930 1930", "m 4 2", "s 4 1");
        is("BORN", v.end(0, 0, 0), 1900);
        is("BORN of the child", v.end(1, 0, 0), 1912);
        is("MOTHER", v.people(0, 3), 3);
        is("MARRIEDs", v.people(0, 6), 1);
        is("children", v.relatives(0, 0), 1L << 1);
        is("MARRIED with", v.relatives(1, 2), 1L);
    }

    private static void ranges() {
        words.say("ENDS are of RANGES of YEARS: of each of PEOPLE BORN and DIED, of each LIVE MARRIED its YEAR;");
        KinProver x = Due.told(4, "b 0 5 6", "d 0 7 8", "w 2 3 100 200", "s 1 0");
        isRange("BORN", x, 1, 0, 5, 6);
        isRange("DIED", x, 1, 1, 7, 8);
        is("YEAR, lower", x.year(2, 0), 100);
        is("YEAR, upper", x.year(2, 1), 200);
        x.live(2, 0);
        is("YEAR of one not LIVE", x.year(2, 0), -3);
        KinProver w = Due.people(30);
        Due.state(w, "b 15 5 6");
        Due.state(w, "w 0 1 100 200");
        Due.state(w, "d 29 70 80");
        Due.state(w, "w 28 29 50 50");
        Due.state(w, "d 14 9 9");
        isRange("BORN 15", w, 15, 0, 5, 6);
        isRange("DIED 29", w, 29, 1, 70, 80);
        isRange("DIED 28", w, 28, 1, 50, 146);
        isRange("DIED 14", w, 14, 1, 9, 9);
        is("YEAR of 1, upper", w.year(1, 1), 200);
        is("YEAR of 3, lower", w.year(3, 0), 50);
        for (int i = 5; i < 59; i++) {
            Due.state(w, "s 2 3");
        }
        is("the last STATEMENT", Due.state(w, "w 4 5 20 30"), 59);
        is("YEAR of the last, lower", w.year(59, 0), 20);
        is("YEAR of the last, upper", w.year(59, 1), 30);
        words.say("at first 0 .. 3000.");
        KinProver y = Due.told(3, "w 0 1 0 3000");
        isRange("BORN", y, 2, 0, 0, 3000);
        isRange("DIED", y, 2, 1, 0, 3000);
        is("YEAR, upper", y.year(0, 1), 3000);
        is("BORN of the married, upper", y.end(0, 0, 1), 2986);
    }

    private static void rulesOfOne() {
        words.say("RULES, in this order: for each of PEOPLE, by numbers, LIFE:");
        KinProver x = Due.told(3, "b 2 1900 1900", "d 2 2100 2100", "b 1 1900 1900", "d 1 2100 2100");
        is("RANGE that is EMPTY", x.clash(1), 3);
        is("LIFE comes first, rounds", x.rounds(), 2);
        is("RULE of it", x.why(1, 0, 0), 101);
        Due.state(x, "s 0 2");
        is("by numbers of PEOPLE", x.clash(1), 1);
        is("RULE of PEOPLE 0", x.why(1, 0, 0), 100);
        words.say("DIED less BORN is 0 .. 110;");
        isClash(0, 1, "b 0 1900 1900", "d 0 1900 1900");
        isClash(4, 1, "b 0 1900 1900", "d 0 1899 1899");
        isClash(0, 1, "b 0 1900 1900", "d 0 2010 2010");
        isClash(4, 1, "b 0 1900 1900", "d 0 2011 2011");
        KinProver y = Due.told(1, "b 0 1900 1910");
        isRange("DIED", y, 0, 1, 1900, 2020);
        isRest(y, 0, 1, 0, 100, 0, 0);
        isRest(y, 0, 1, 1, 100, 0, 1);
        KinProver z = Due.told(1, "d 0 1900 1910");
        isRange("BORN", z, 0, 0, 1790, 1910);
        isRest(z, 0, 0, 0, 100, 1, 0);
        isRest(z, 0, 0, 1, 100, 1, 1);
        words.say("then for each LIVE STATEMENT, by numbers:");
        KinProver w = Due.told(3, "b 2 5 5", "b 0 5 5", "b 1 5 5", "b 0 6 6", "b 2 6 6", "b 1 6 6");
        is("RANGE", w.clash(1), 0);
        is("its lower END's RULE", w.why(0, 0, 0), 3);
        w.live(1, 0);
        is("RANGE without 1", w.clash(1), 4);
        is("rounds", w.rounds(), 1);
        words.say("BORN, DIED: that is in lo .. hi.");
        KinProver v = Due.told(2, "b 0 1900 1910", "d 1 2000 2001");
        isRange("BORN", v, 0, 0, 1900, 1910);
        isRest(v, 0, 0, 0, 0, -5, -5);
        isRest(v, 0, 0, 1, 0, -5, -5);
        isRange("DIED", v, 1, 1, 2000, 2001);
        isRest(v, 1, 1, 0, 1, -5, -5);
        isRest(v, 1, 1, 1, 1, -5, -5);
    }

    private static void rulesOfParents() {
        words.say("MOTHER: BORN a less BORN b is 12 .. 55;");
        isClash(4, 2, "b 1 1900 1900", "b 0 1911 1911", "m 0 1");
        isClash(0, 2, "b 1 1900 1900", "b 0 1912 1912", "m 0 1");
        isClash(0, 2, "b 1 1900 1900", "b 0 1955 1955", "m 0 1");
        isClash(4, 2, "b 1 1900 1900", "b 0 1956 1956", "m 0 1");
        words.say("DIED b less BORN a is 0 or more.");
        isClash(0, 2, "b 0 1950 1950", "d 1 1950 1950", "m 0 1");
        isClash(4, 2, "b 0 1950 1950", "d 1 1949 1949", "m 0 1");
        isClash(0, 2, "b 0 1950 1950", "d 1 2048 2048", "m 0 1");
        isClash(0, 2, "b 0 1950 1950", "d 0 1950 1950", "m 0 1");
        words.say("FATHER: BORN a less BORN b is 14 .. 80;");
        isClash(4, 2, "b 1 1900 1900", "b 0 1913 1913", "f 0 1");
        isClash(0, 2, "b 1 1900 1900", "b 0 1914 1914", "f 0 1");
        isClash(0, 2, "b 1 1900 1900", "b 0 1980 1980", "f 0 1");
        isClash(4, 2, "b 1 1900 1900", "b 0 1981 1981", "f 0 1");
        words.say("DIED b less BORN a is -1 or more.");
        isClash(0, 2, "b 0 1950 1950", "d 1 1949 1949", "f 0 1");
        isClash(4, 2, "b 0 1950 1950", "d 1 1948 1948", "f 0 1");
        isClash(0, 2, "b 0 1950 1950", "d 1 2046 2046", "f 0 1");
    }

    private static void rulesOfMarried() {
        words.say("MARRIED: YEAR is in lo .. hi;");
        KinProver x = Due.told(2, "w 0 1 1900 1950");
        is("YEAR, lower", x.year(0, 0), 1900);
        is("YEAR, upper", x.year(0, 1), 1950);
        words.say("YEAR less BORN a is 14 .. 110;");
        isClash(4, 2, "b 0 1900 1900", "w 0 1 1913 1913");
        isClash(0, 2, "b 0 1900 1900", "w 0 1 1914 1914");
        isClash(0, 2, "b 0 1900 1900", "w 0 1 2010 2010");
        isClash(4, 2, "b 0 1900 1900", "w 0 1 2011 2011");
        isRange("BORN a", x, 0, 0, 1790, 1936);
        isRest(x, 0, 0, 0, 0, 200, 0);
        isRest(x, 0, 0, 1, 0, 200, 1);
        words.say("DIED a less YEAR is 0 or more;");
        isClash(0, 2, "d 0 1900 1900", "w 0 1 1900 1900");
        isClash(4, 2, "d 0 1900 1900", "w 0 1 1901 1901");
        isClash(0, 2, "d 0 1990 1990", "w 0 1 1901 1901");
        isRest(x, 0, 1, 0, 0, 200, 0);
        words.say("likewise of b.");
        isClash(4, 2, "b 1 1900 1900", "w 0 1 1913 1913");
        isClash(0, 2, "b 1 1900 1900", "w 0 1 1914 1914");
        isClash(0, 2, "b 1 1900 1900", "w 0 1 2010 2010");
        isClash(4, 2, "b 1 1900 1900", "w 0 1 2011 2011");
        isRest(x, 1, 0, 0, 0, 200, 0);
        isRest(x, 1, 0, 1, 0, 200, 1);
        isClash(0, 2, "d 1 1900 1900", "w 0 1 1900 1900");
        isClash(4, 2, "d 1 1900 1900", "w 0 1 1901 1901");
        isRest(x, 1, 1, 0, 0, 200, 0);
    }

    private static void rulesOfAliveAndOlder() {
        words.say("ALIVE: BORN is lo at most;");
        isClash(0, 1, "b 0 1900 1900", "l 0 1900");
        isClash(4, 1, "b 0 1900 1900", "l 0 1899");
        KinProver x = Due.told(1, "l 0 1900");
        is("BORN, upper", x.end(0, 0, 1), 1900);
        isRest(x, 0, 0, 1, 0, -5, -5);
        isRest(x, 0, 0, 0, 100, 1, 0);
        words.say("DIED is lo at least.");
        isClash(0, 1, "d 0 1900 1900", "l 0 1900");
        isClash(4, 1, "d 0 1900 1900", "l 0 1901");
        is("DIED, lower", x.end(0, 1, 0), 1900);
        isRest(x, 0, 1, 0, 0, -5, -5);
        isRest(x, 0, 1, 1, 100, 0, 1);
        words.say("OLDER: BORN b less BORN a is lo or more.");
        isClash(4, 2, "b 0 1900 1900", "b 1 1906 1906", "o 0 1 7");
        isClash(0, 2, "b 0 1900 1900", "b 1 1907 1907", "o 0 1 7");
        isClash(0, 2, "b 0 0 0", "b 1 3000 3000", "o 0 1 7");
        isClash(4, 2, "b 0 1900 1900", "b 1 1899 1899", "o 0 1 0");
        isClash(0, 2, "b 0 1900 1900", "b 1 1900 1900", "o 0 1 0");
        isClash(4, 2, "b 0 1900 1900", "b 1 1998 1998", "o 0 1 99");
        isClash(0, 2, "b 0 1900 1900", "b 1 1999 1999", "o 0 1 99");
        words.say("(SAME has none.)");
        KinProver y = Due.told(2, "s 0 1");
        is("rounds", y.rounds(), 1);
        isRest(y, 0, 0, 0, -3);
        Due.state(y, "b 1 1900 1910");
        isRest(y, 0, 0, 0, 1, -5, -5);
    }

    private static void narrowing() {
        words.say("NARROWED: ROUNDS, in each all RULES in order.");
        KinProver x = Due.told(2, "o 0 1 5", "b 0 1900 1910");
        is("rounds, OLDER first", x.rounds(), 4);
        is("BORN 1", x.end(1, 0, 0), 1905);
        is("DIED 1", x.end(1, 1, 0), 1905);
        KinProver y = Due.told(2, "b 0 1900 1910", "o 0 1 5");
        is("rounds, BORN first", y.rounds(), 3);
        words.say("Of \"x is in c .. d\": the lower END of x becomes c, if it is less;");
        KinProver z = Due.told(1, "b 0 1900 2000", "b 0 1900 2000", "b 0 1899 2001", "b 0 1901 1999");
        is("BORN, lower", z.end(0, 0, 0), 1901);
        isRest(z, 0, 0, 0, 3, -5, -5);
        z.live(3, 0);
        is("BORN, lower, without the last", z.end(0, 0, 0), 1900);
        isRest(z, 0, 0, 0, 0, -5, -5);
        words.say("then the upper one d, if it is more.");
        is("BORN, upper, without the last", z.end(0, 0, 1), 2000);
        isRest(z, 0, 0, 1, 0, -5, -5);
        z.live(3, 1);
        is("BORN, upper", z.end(0, 0, 1), 1999);
        isRest(z, 0, 0, 1, 3, -5, -5);
    }

    private static void inTurn() {
        words.say("Of \"x less y is c .. d\" (d perhaps none), in turn:");
        KinProver x = Due.told(2, "b 0 1900 1900", "b 1 1800 1800", "o 0 1 0");
        is("x ahead of y, RANGE", x.clash(1), 2);
        is("its lower END", x.end(1, 0, 0), 1900);
        is("END of y stays", x.end(0, 0, 1), 1900);
        KinProver y = Due.told(2, "b 0 100 100", "o 0 1 5");
        is("no d: upper END of x", y.end(1, 0, 1), 3000);
        isRest(y, 1, 0, 1, -3);
        KinProver z = Due.told(2, "b 1 2900 2900", "o 0 1 5");
        is("no d: lower END of y", z.end(0, 0, 0), 0);
        isRest(z, 0, 0, 0, -3);
        words.say("the lower END of x becomes that of y and c, if it is less;");
        KinProver w = Due.told(2, "b 1 1900 1910", "m 0 1", "b 0 1912 1965", "m 0 1");
        isRange("x", w, 0, 0, 1912, 1965);
        isRest(w, 0, 0, 0, 1, 2, 0);
        words.say("the upper one that of y and d, if it is more;");
        isRest(w, 0, 0, 1, 1, 2, 1);
        KinProver v = Due.told(2, "b 0 1900 1900", "b 1 1800 1800", "m 0 1");
        is("upper END of x ahead of y, RANGE", v.clash(1), 0);
        is("why(1, 0, 0)", v.why(1, 0, 0), 2);
        is("END of y stays", v.end(1, 0, 0), 1800);
        words.say("the lower END of y that of x less d, if it is less;");
        KinProver u = Due.told(2, "b 0 1900 1910", "m 0 1", "b 1 1845 1898", "m 0 1");
        isRange("y", u, 1, 0, 1845, 1898);
        isRest(u, 1, 0, 0, 1, 0, 0);
        words.say("the upper one that of x less c, if it is more.");
        isRest(u, 1, 0, 1, 1, 0, 1);
        KinProver t = Due.told(2, "s 0 1", "b 0 0 10", "o 0 1 6");
        isRange("x that is y", t, 0, 0, 6, 4);
        is("rounds", t.rounds(), 1);
        is("why(1, 0, 0)", t.why(1, 0, 0), 2);
        is("why(1, 1, 0)", t.why(1, 1, 0), 2);
    }

    private static void rests() {
        words.say("Each time that an END is changed it RESTS on that RULE and on the END from which it came"
            + " (none of \"is in\");");
        KinProver x = Due.told(3, "b 0 1900 1910", "m 0 1", "b 1 1880 1885", "o 2 0 3");
        isRest(x, 1, 0, 0, 2, -5, -5);
        isRest(x, 0, 0, 0, 0, -5, -5);
        isRest(x, 2, 0, 1, 3, 0, 1);
        isRest(x, 2, 0, 0, -3);
        isRest(x, 1, 1, 0, 1, 0, 0);
        isRest(x, 1, 1, 1, 101, 2, 1);
        words.say("is then the lower END of that RANGE above the upper one: a CLASH, all stops at once.");
        isClash(0, 1, "b 0 5 6", "b 0 6 7");
        isClash(4, 1, "b 0 5 6", "b 0 7 7");
        KinProver y = Due.told(3, "b 2 7 7", "b 0 5 6", "b 0 7 7", "b 1 7 7");
        isRange("EMPTY", y, 0, 0, 7, 6);
        isRange("ahead of it", y, 2, 0, 7, 7);
        isRange("behind it", y, 1, 0, 0, 3000);
        is("rounds", y.rounds(), 1);
        KinProver z = Due.told(1, "b 0 7 7", "b 0 5 6");
        isRange("EMPTY by the upper END", z, 0, 0, 7, 6);
        words.say("ROUNDS go on until one changes nothing.");
        is("rounds of nothing", Due.people(2).rounds(), 1);
        is("rounds of one", Due.told(2, "b 0 0 3000").rounds(), 1);
        is("rounds of a MOTHER", Due.told(2, "b 0 1900 1910", "m 0 1").rounds(), 3);
        KinProver w = Due.people(6);
        for (int p = 4; p >= 0; p--) {
            Due.state(w, "o " + p + " " + (p + 1) + " 9");
        }
        Due.state(w, "b 0 100 3000");
        is("BORN at the end of a row", w.end(5, 0, 0), 145);
        is("DIED at the end of a row", w.end(5, 1, 0), 145);
        is("rounds of a row", w.rounds(), 8);
    }

    private static void clashes() {
        words.say("CLASHES, the first of these that is found (all else is not looked at):");
        KinProver x = Due.told(6, "m 5 4", "f 5 4", "m 3 1", "m 3 2", "m 0 1", "m 1 0", "b 5 1909 1909", "b 5 1908 1908");
        int[][] found = {{1, 4}, {2, 3}, {3, 0}, {4, 10}, {0, -5}};
        int[] off = {1, 3, 5, 7, 0};
        for (int i = 0; i < found.length; i++) {
            is("sort " + i, x.clash(0), found[i][0]);
            is("whose " + i, x.clash(1), found[i][1]);
            is("rounds " + i, Math.min(1, x.rounds()), i < 3 ? 0 : 1);
            x.live(off[i], 0);
        }
        words.say("1 SEX: the least of PEOPLE that is SHE and HE.");
        KinProver y = Due.told(4, "m 0 3", "f 0 3", "m 0 2");
        is("sort", y.clash(0), 1);
        is("PEOPLE", y.clash(1), 3);
        y.sex(2, 2);
        is("PEOPLE, the least", y.clash(1), 2);
        Due.state(y, "s 1 3");
        is("PEOPLE, the least by their numbers", y.clash(1), 1);
        words.say("2 PARENTS: the least of PEOPLE of whom LIVE STATEMENTS tell two unlike MOTHERS, or two unlike FATHERS.");
        KinProver z = Due.told(5, "m 4 0", "m 4 1", "m 4 0", "f 3 2");
        is("two unlike MOTHERS", 10 * z.clash(0) + z.clash(1), 24);
        Due.state(z, "f 3 4");
        is("two unlike FATHERS", 10 * z.clash(0) + z.clash(1), 23);
        z.live(1, 0);
        z.live(4, 0);
        is("the same MOTHER twice", z.clash(0), 0);
        is("a MOTHER and a FATHER", Due.told(3, "m 0 1", "f 0 2").clash(0), 0);
        is("two who are one", Due.told(3, "m 0 1", "m 0 2", "s 1 2").clash(0), 0);
        words.say("3 SELF: the least of PEOPLE that is its own ANCESTOR (MOTHERS, FATHERS, theirs, and so on).");
        KinProver w = Due.told(5, "m 4 3", "f 3 2", "m 2 1", "f 1 4", "m 0 1");
        is("a ring of four", 10 * w.clash(0) + w.clash(1), 31);
        w.live(3, 0);
        is("no ring", w.clash(0), 0);
        KinProver v = Due.told(2, "f 1 0", "s 1 0");
        is("its own FATHER", 10 * v.clash(0) + v.clash(1), 30);
        words.say("4 EMPTY: a RANGE.");
        is("of BORN", Due.told(2, "b 1 5 5", "b 1 6 6").clash(1), 2);
        is("of DIED", Due.told(2, "d 1 5 5", "d 1 6 6").clash(1), 3);
        is("of a MARRIED", Due.told(2, "l 0 0", "l 1 2000", "w 0 1 500 500").clash(1), 202);
        KinProver u = Due.people(30);
        Due.state(u, "d 29 5 5");
        Due.state(u, "d 29 4 4");
        is("of the last DIED", u.clash(1), 59);
        Due.state(u, "s 28 29");
        is("of the last but one", u.clash(1), 57);
        KinProver t = Due.told(2, "b 0 1900 1900");
        for (int i = 1; i < 59; i++) {
            Due.feed(t, "s 0 1");
            t.state(0);
        }
        Due.state(t, "w 0 1 5 9");
        is("of the last STATEMENT", t.clash(1), 259);
        is("its lower END rests on", t.why(0, 0, 0), 59);
    }

    private static void noneNarrowed() {
        words.say("With a CLASH of 1 .. 3 nothing is NARROWED (all RANGES are 0 .. 3000, nothing RESTS on anything).");
        KinProver x = Due.told(4, "b 0 1900 1910", "d 0 1950 1960", "w 0 1 1930 1930", "m 0 2", "f 3 2");
        for (int sort = 1; sort <= 3; sort++) {
            is("sort", x.clash(0), sort);
            isRange("BORN", x, 0, 0, 0, 3000);
            isRange("DIED", x, 0, 1, 0, 3000);
            is("YEAR, lower", x.year(2, 0), 0);
            is("YEAR, upper", x.year(2, 1), 3000);
            isRest(x, 0, 0, 0, -3);
            isRest(x, 0, 1, 1, -3);
            is("prove", x.prove(0, 0, 0), 0);
            is("why", x.why(0, 0, 0), -3);
            is("rounds", x.rounds(), 0);
            x.live(4, 0);
            x.live(5, 0);
            if (sort < 3) {
                Due.state(x, sort == 1 ? "m 0 3" : "m 2 0");
            }
        }
        x.live(6, 0);
        is("without it", x.clash(0), 0);
        isRange("BORN without it", x, 0, 0, 1900, 1910);
    }
}
