/**
 * Kin with proofs: persons, and statements about them; what live statements say is worked out as
 * people, narrowed ranges of years, clashes and kin. The document ../shared/DOC.md tells every answer.
 */
public final class KinProver {
    public static final int NONE = -1, BAD = -2, STATE = -3, FULL = -4;
    public static final long NO = Long.MIN_VALUE;

    private static final int NOT_TOLD = -5, NOTHING = -11, BEYOND = -13, BELOW = -14;
    private static final int FAULT_BASE = -100, CLASH_BASE = -1000, JUDGE_BASE = 100;
    private static final int PERSONS = 30, STATEMENTS = 60, NAME_LETTERS = 7;
    private static final int TAPE_BYTES = 60, LAST_BYTE = 127, LAST_YEAR = 3000, MOST_APART = 99;
    private static final int BORN = 0, DIED = 1, MOTHER = 2, FATHER = 3, MARRIED = 4, SAME = 5, ALIVE = 6, OLDER = 7;
    private static final int SEX_CLASH = 1, PARENTS_CLASH = 2, SELF_CLASH = 3, EMPTY_CLASH = 4;
    private static final int SHE = 1, HE = 2;
    private static final int LINKS = 100;
    /** The longest text told: a hundred links such as L29, with a sign between each two. */
    private static final int PAPER_BYTES = 4 * LINKS;
    /** The RANGES of PEOPLE come first, two each; those of MARRIEDs, one more in thought, behind them. */
    private static final int PEOPLE_RANGES = 2 * PERSONS, RANGES = PEOPLE_RANGES + STATEMENTS + 1;
    /** Each ROUND that changes something moves one of the ENDS by a year at least, so a million is never reached. */
    private static final int ALL_ROUNDS = 1000000;
    /**
     * Where just the outcome counts: ENDS that can stand together do so once the longest chain of RULES
     * without a ring has been gone along, which is no longer than there are RANGES.
     */
    private static final int ENOUGH_ROUNDS = RANGES + 4;

    private final Book book = new Book();
    private final Book kept = new Book();
    private boolean keeping;
    private final Text tape = new Text(TAPE_BYTES);
    private final Text paper = new Text(PAPER_BYTES);
    private final Reader reader = new Reader();
    private final World now = new World();
    private final World thought = new World();
    private boolean settled;
    private final int[] culprits = new int[STATEMENTS];
    private int culpritCount;
    private boolean culpritsSettled;
    private final Ways ways = new Ways();
    private final Lists lists = new Lists();

    public KinProver() {
    }

    // ---- texts, persons, statements

    public int feed(int letter) {
        if (letter < 1 || letter > LAST_BYTE) {
            return BAD;
        }
        if (tape.length >= TAPE_BYTES) {
            return FULL;
        }
        tape.put(letter);
        return tape.length;
    }

    public int clear() {
        int had = tape.length;
        tape.wipe();
        return had;
    }

    public int paper(int i) {
        return paper.at(i);
    }

    public int person(int sex) {
        if (!isSex(sex)) {
            return NONE;
        }
        if (book.persons >= PERSONS) {
            return FULL;
        }
        int fault = tape.nameFault();
        int number = book.persons;
        if (fault < 0) {
            book.addPerson(tape, sex);
            unsettle();
        }
        tape.wipe();
        return fault < 0 ? number : FAULT_BASE - fault;
    }

    public int sex(int person, int sex) {
        if (!book.isPerson(person) || !isSex(sex)) {
            return NONE;
        }
        int had = book.sexes[person];
        book.sexes[person] = sex;
        unsettle();
        return had;
    }

    public int state(int live) {
        if (!isFlag(live)) {
            return NONE;
        }
        if (book.statements >= STATEMENTS) {
            return FULL;
        }
        int number = book.statements;
        boolean good = reader.reads(tape, book.persons);
        tape.wipe();
        if (!good) {
            return FAULT_BASE - reader.fault;
        }
        book.write(number, reader, live);
        book.statements = number + 1;
        unsettle();
        return number;
    }

    public int live(int statement, int live) {
        if (!book.isStatement(statement) || !isFlag(live)) {
            return NONE;
        }
        int had = book.lives[statement];
        book.lives[statement] = live;
        unsettle();
        return had;
    }

    public int of(int statement, int what) {
        if (!book.isStatement(statement)) {
            return NONE;
        }
        switch (what) {
            case 0:
                return book.sorts[statement];
            case 1:
                return book.firsts[statement];
            case 2:
                return book.seconds[statement];
            case 3:
                return book.lows[statement];
            case 4:
                return book.highs[statement];
            case 5:
                return book.lives[statement];
            default:
                return NONE;
        }
    }

    public int spell(int statement) {
        if (!book.isStatement(statement)) {
            return NONE;
        }
        paper.wipe();
        book.spellInto(paper, statement);
        return paper.length;
    }

    public int name(int person, int i) {
        if (!book.isPerson(person)) {
            return NONE;
        }
        int letters = book.nameLengths[person];
        if (i == -1) {
            return letters;
        }
        return i >= 0 && i < letters ? book.names[person][i] : NONE;
    }

    public int find(int i) {
        int found = book.findNamed(tape, i);
        tape.wipe();
        return found;
    }

    public int byName(int i) {
        for (int person = 0; person < book.persons; person++) {
            if (book.placeByName(person) == i) {
                return person;
            }
        }
        return NONE;
    }

    // ---- people, ranges, proofs

    public int people(int person, int what) {
        if (!book.isPerson(person)) {
            return NONE;
        }
        settle();
        return now.folk.tell(now.folk.group[person], what);
    }

    public int end(int person, int what, int side) {
        if (!isEnd(person, what, side)) {
            return NONE;
        }
        settle();
        return now.ranges.years[personEnd(now, person, what, side)];
    }

    public int year(int statement, int side) {
        if (!book.isStatement(statement) || !isFlag(side)) {
            return NONE;
        }
        if (book.sorts[statement] != MARRIED || book.lives[statement] == 0) {
            return STATE;
        }
        settle();
        return now.ranges.years[2 * (PEOPLE_RANGES + statement) + side];
    }

    public int proof(int person, int what, int side, int link, int part) {
        if (!isEnd(person, what, side) || !isLinkPart(link, part)) {
            return NONE;
        }
        settle();
        return now.ranges.tellRest(personEnd(now, person, what, side), link, part);
    }

    public int prove(int person, int what, int side) {
        if (!isEnd(person, what, side)) {
            return NONE;
        }
        settle();
        paper.wipe();
        now.ranges.proveInto(paper, personEnd(now, person, what, side));
        return paper.length;
    }

    public int clash(int what) {
        if (!isFlag(what)) {
            return NONE;
        }
        settle();
        return what == 0 ? now.clash : now.tellClashing();
    }

    public int why(int side, int link, int part) {
        if (!isFlag(side) || !isLinkPart(link, part)) {
            return NONE;
        }
        settle();
        if (now.ranges.empty < 0) {
            return STATE;
        }
        return now.ranges.tellRest(2 * now.ranges.empty + side, link, part);
    }

    public int culprit(int i) {
        if (i < -1) {
            return NONE;
        }
        settle();
        if (now.clash == 0) {
            return STATE;
        }
        settleCulprits();
        if (i == -1) {
            return culpritCount;
        }
        return i < culpritCount ? culprits[i] : NONE;
    }

    public int same(int person, int other) {
        if (!arePersons(person, other) || person == other) {
            return NONE;
        }
        reader.makeSame(person, other);
        workOneMore();
        return thought.clash;
    }

    public int narrows(int person, int what) {
        if (!book.isPerson(person) || !isFlag(what)) {
            return NONE;
        }
        if (book.statements >= STATEMENTS) {
            return FULL;
        }
        settle();
        if (now.clash != 0) {
            return STATE;
        }
        boolean good = reader.reads(tape, book.persons);
        tape.wipe();
        if (!good) {
            return FAULT_BASE - reader.fault;
        }
        workOneMore();
        if (thought.clash != 0) {
            return CLASH_BASE - thought.clash;
        }
        return yearsBetween(now, person, what) - yearsBetween(thought, person, what);
    }

    public int rounds() {
        settle();
        return now.ranges.rounds;
    }

    // ---- kin

    public int kin(int a, int b) {
        if (!arePersons(a, b)) {
            return NONE;
        }
        settle();
        seekWays(a, b);
        return ways.common < 0 ? NOT_TOLD : 100 * ways.up + ways.down;
    }

    public int common(int a, int b) {
        if (!arePersons(a, b)) {
            return NONE;
        }
        settle();
        seekWays(a, b);
        return ways.common < 0 ? NOT_TOLD : ways.common;
    }

    public int half(int a, int b) {
        if (!arePersons(a, b)) {
            return NONE;
        }
        settle();
        seekWays(a, b);
        if (ways.common < 0) {
            return NOT_TOLD;
        }
        return ways.isHalf(now.folk) ? 1 : 0;
    }

    public int title(int a, int b) {
        if (!arePersons(a, b)) {
            return NONE;
        }
        settle();
        seekWays(a, b);
        paper.wipe();
        int sex = now.folk.sexes[now.folk.group[b]];
        if (ways.common >= 0) {
            Titles.putKin(paper, ways, ways.isHalf(now.folk), sex);
        } else if (now.folk.areMarried(now.folk.group[a], now.folk.group[b])) {
            Titles.putBySex(paper, sex, "wife", "husband", "spouse");
        } else {
            paper.putAll("none");
        }
        return paper.length;
    }

    public int path(int a, int b, int i) {
        if (!arePersons(a, b) || i < -1) {
            return NONE;
        }
        settle();
        seekWays(a, b);
        if (ways.common < 0) {
            return NOT_TOLD;
        }
        int length = ways.up + ways.down + 1;
        if (i == -1) {
            return length;
        }
        return i < length ? ways.stop(now.folk, i) : NONE;
    }

    public long relatives(int person, int what) {
        if (!book.isPerson(person) || what < 0 || what > 2) {
            return NO;
        }
        settle();
        int group = now.folk.group[person];
        if (what == 0) {
            return now.folk.children(group);
        }
        return what == 1 ? now.folk.siblings(group) : now.folk.spouses[group];
    }

    public long ancestors(int person) {
        if (!book.isPerson(person)) {
            return NO;
        }
        settle();
        return now.folk.above[now.folk.group[person]];
    }

    public long descendants(int person) {
        if (!book.isPerson(person)) {
            return NO;
        }
        settle();
        return now.folk.below(now.folk.group[person]);
    }

    public int order(int i) {
        settle();
        return i >= 0 && i < now.folk.count ? now.order[i] : NONE;
    }

    public int ahead(int a, int b) {
        if (!arePersons(a, b)) {
            return NONE;
        }
        settle();
        if (now.folk.group[a] == now.folk.group[b]) {
            return 0;
        }
        int[] years = now.ranges.years;
        if (years[personEnd(now, a, BORN, 1)] < years[personEnd(now, b, BORN, 0)]) {
            return 1;
        }
        return years[personEnd(now, a, BORN, 0)] > years[personEnd(now, b, BORN, 1)] ? 2 : 0;
    }

    public int told(int what) {
        settle();
        switch (what) {
            case 0:
                return book.persons;
            case 1:
                return now.folk.count;
            case 2:
                return book.statements;
            case 3:
                return now.saidCount;
            case 4:
                return tape.length;
            case 5:
                return paper.length;
            case 6:
                return book.unlikeNames();
            case 7:
                return now.folk.greatestGeneration();
            default:
                return NONE;
        }
    }

    // ---- lists, the image

    public int list(int list, int n) {
        if (!lists.isList(list)) {
            return NONE;
        }
        if (n > Lists.PLACES) {
            return BAD;
        }
        if (n < 0) {
            return BELOW;
        }
        lists.begin(list, n);
        return 1;
    }

    public int set(int list, int i, int v) {
        if (!lists.isList(list)) {
            return NONE;
        }
        if (lists.sizes[list] < 0) {
            return NOTHING;
        }
        if (!lists.hasPlace(list, i, 0)) {
            return BEYOND;
        }
        lists.rows[list][i] = v;
        return 1;
    }

    public long get(int list, int i) {
        return lists.isList(list) && lists.hasPlace(list, i, 0) ? lists.rows[list][i] : NO;
    }

    public int lay(int list, int i) {
        if (!lists.isList(list)) {
            return NONE;
        }
        if (lists.sizes[list] < 0) {
            return NOTHING;
        }
        settle();
        for (int k = 0; k < now.folk.count; k++) {
            if (!lists.hasPlace(list, i, k)) {
                return BEYOND;
            }
            lists.rows[list][i + k] = now.order[k];
        }
        return now.folk.count;
    }

    public int judge(int list, int i) {
        if (!lists.isList(list)) {
            return NONE;
        }
        if (lists.sizes[list] < 0) {
            return NOTHING;
        }
        settle();
        for (int k = 0; k < now.folk.count; k++) {
            if (!lists.hasPlace(list, i, k)) {
                return JUDGE_BASE + k;
            }
            if (lists.rows[list][i + k] != now.order[k]) {
                return k;
            }
        }
        return NOT_TOLD;
    }

    public int image() {
        kept.copyFrom(book);
        keeping = true;
        return book.statements;
    }

    public int undo() {
        if (!keeping) {
            return STATE;
        }
        book.copyFrom(kept);
        unsettle();
        return book.statements;
    }

    // ---- what the calls share

    private static boolean isFlag(int value) {
        return value == 0 || value == 1;
    }

    private static boolean isSex(int sex) {
        return sex >= 0 && sex <= HE;
    }

    private static boolean isLinkPart(int link, int part) {
        return link >= 0 && link < LINKS && part >= 0 && part <= 2;
    }

    private boolean arePersons(int a, int b) {
        return book.isPerson(a) && book.isPerson(b);
    }

    private boolean isEnd(int person, int what, int side) {
        return book.isPerson(person) && isFlag(what) && isFlag(side);
    }

    private static int personEnd(World world, int person, int what, int side) {
        return 2 * (2 * world.folk.group[person] + what) + side;
    }

    private static int yearsBetween(World world, int person, int what) {
        int low = personEnd(world, person, what, 0);
        return world.ranges.years[low + 1] - world.ranges.years[low];
    }

    private void unsettle() {
        settled = false;
        culpritsSettled = false;
    }

    private void settle() {
        if (!settled) {
            now.work(book, book.statements, NONE, ALL_ROUNDS);
            now.sortPeople();
            settled = true;
        }
    }

    private void settleCulprits() {
        if (culpritsSettled) {
            return;
        }
        culpritCount = 0;
        for (int i = 0; i < now.saidCount; i++) {
            thought.work(book, book.statements, now.said[i], ENOUGH_ROUNDS);
            if (thought.clash == 0 && culpritCount < STATEMENTS) {
                culprits[culpritCount] = now.said[i];
                culpritCount++;
            }
        }
        culpritsSettled = true;
    }

    /** Works out, in thought, what would be were the reader's STATEMENT one more, with the next number. */
    private void workOneMore() {
        book.write(book.statements, reader, 1);
        thought.work(book, book.statements + 1, NONE, ENOUGH_ROUNDS);
    }

    private void seekWays(int a, int b) {
        ways.seek(now.folk, now.folk.group[a], now.folk.group[b]);
    }

    /** A row of bytes with room for so many: THE TAPE, THE PAPER. */
    private static final class Text {
        final byte[] bytes;
        int length;

        Text(int room) {
            bytes = new byte[room];
        }

        void wipe() {
            length = 0;
        }

        void put(int letter) {
            if (length < bytes.length) {
                bytes[length] = (byte) letter;
                length++;
            }
        }

        void putAll(String text) {
            for (int i = 0; i < text.length(); i++) {
                put(text.charAt(i));
            }
        }

        /** A number of 0 .. 9999, as short as can be. */
        void putNumber(int number) {
            if (number >= 1000) {
                put('0' + number / 1000 % 10);
            }
            if (number >= 100) {
                put('0' + number / 100 % 10);
            }
            if (number >= 10) {
                put('0' + number / 10 % 10);
            }
            put('0' + number % 10);
        }

        /** The byte at a place, NONE beyond them. */
        int at(int i) {
            return i >= 0 && i < length ? bytes[i] : NONE;
        }

        boolean isFigure(int i) {
            int letter = at(i);
            return letter >= '0' && letter <= '9';
        }

        /** The FAULT of these bytes as a NAME, -1 if they are one. */
        int nameFault() {
            for (int i = 0; i < length; i++) {
                if (i >= NAME_LETTERS || bytes[i] < 'a' || bytes[i] > 'z') {
                    return i;
                }
            }
            return length == 0 ? 0 : -1;
        }
    }

    /** Reads a STATEMENT from a text: what it says, or its FAULT. */
    private static final class Reader {
        private static final char[] LETTERS = {'b', 'd', 'm', 'f', 'w', 's', 'l', 'o'};
        int sort;
        int first;
        int second;
        int low;
        int high;
        /** -1 while none has been met. */
        int fault;
        private int place;
        private int begin;

        static boolean tellsTwo(int sort) {
            return sort == MOTHER || sort == FATHER || sort == MARRIED || sort == SAME || sort == OLDER;
        }

        static boolean tellsLow(int sort) {
            return sort == ALIVE || sort == OLDER || tellsHigh(sort);
        }

        static boolean tellsHigh(int sort) {
            return sort == BORN || sort == DIED || sort == MARRIED;
        }

        static int letterOf(int sort) {
            return sort >= 0 && sort < LETTERS.length ? LETTERS[sort] : ' ';
        }

        void makeSame(int person, int other) {
            sort = SAME;
            first = person;
            second = other;
            low = NOT_TOLD;
            high = NOT_TOLD;
        }

        boolean reads(Text text, int persons) {
            second = NOT_TOLD;
            low = NOT_TOLD;
            high = NOT_TOLD;
            fault = -1;
            sort = sortOf(text.at(0));
            if (sort < 0) {
                fault = 0;
                return false;
            }
            place = 1;
            first = takeNumber(text, 0, persons - 1);
            if (tellsTwo(sort)) {
                second = takeNumber(text, 0, persons - 1);
                if (fault < 0 && second == first) {
                    fault = begin;
                }
            }
            if (tellsLow(sort)) {
                low = takeNumber(text, 0, sort == OLDER ? MOST_APART : LAST_YEAR);
            }
            if (tellsHigh(sort)) {
                high = takeNumber(text, low, LAST_YEAR);
            }
            if (fault < 0 && place < text.length) {
                fault = place;
            }
            return fault < 0;
        }

        private static int sortOf(int letter) {
            for (int i = 0; i < LETTERS.length; i++) {
                if (LETTERS[i] == letter) {
                    return i;
                }
            }
            return -1;
        }

        /** Behind a blank a number from least to most; with a FAULT, now or ahead of it, nothing is told. */
        private int takeNumber(Text text, int least, int most) {
            if (fault >= 0) {
                return NOT_TOLD;
            }
            if (text.at(place) != ' ') {
                fault = place;
                return NOT_TOLD;
            }
            begin = place + 1;
            place = begin;
            int number = 0;
            for (int i = 0; i < 4 && text.isFigure(place); i++) {
                number = 10 * number + text.at(place) - '0';
                place++;
            }
            if (place == begin || number < least || number > most) {
                fault = begin;
                return NOT_TOLD;
            }
            return number;
        }
    }

    /** PERSONS and STATEMENTS as they came; one place more for a STATEMENT in thought. */
    private static final class Book {
        int persons;
        int statements;
        final byte[][] names = new byte[PERSONS][NAME_LETTERS];
        final int[] nameLengths = new int[PERSONS];
        final int[] sexes = new int[PERSONS];
        final int[] sorts = new int[STATEMENTS + 1];
        final int[] firsts = new int[STATEMENTS + 1];
        final int[] seconds = new int[STATEMENTS + 1];
        final int[] lows = new int[STATEMENTS + 1];
        final int[] highs = new int[STATEMENTS + 1];
        final int[] lives = new int[STATEMENTS + 1];

        boolean isPerson(int person) {
            return person >= 0 && person < persons;
        }

        boolean isStatement(int statement) {
            return statement >= 0 && statement < statements;
        }

        /** The bytes are a NAME, and there is room. */
        void addPerson(Text name, int sex) {
            for (int i = 0; i < name.length && i < NAME_LETTERS; i++) {
                names[persons][i] = name.bytes[i];
            }
            nameLengths[persons] = name.length;
            sexes[persons] = sex;
            persons++;
        }

        void write(int statement, Reader from, int live) {
            sorts[statement] = from.sort;
            firsts[statement] = from.first;
            seconds[statement] = from.second;
            lows[statement] = from.low;
            highs[statement] = from.high;
            lives[statement] = live;
        }

        void copyFrom(Book other) {
            persons = other.persons;
            statements = other.statements;
            for (int i = 0; i < PERSONS; i++) {
                System.arraycopy(other.names[i], 0, names[i], 0, NAME_LETTERS);
            }
            System.arraycopy(other.nameLengths, 0, nameLengths, 0, PERSONS);
            System.arraycopy(other.sexes, 0, sexes, 0, PERSONS);
            System.arraycopy(other.sorts, 0, sorts, 0, STATEMENTS);
            System.arraycopy(other.firsts, 0, firsts, 0, STATEMENTS);
            System.arraycopy(other.seconds, 0, seconds, 0, STATEMENTS);
            System.arraycopy(other.lows, 0, lows, 0, STATEMENTS);
            System.arraycopy(other.highs, 0, highs, 0, STATEMENTS);
            System.arraycopy(other.lives, 0, lives, 0, STATEMENTS);
        }

        void spellInto(Text text, int statement) {
            text.put(Reader.letterOf(sorts[statement]));
            spellNumber(text, firsts[statement]);
            spellNumber(text, seconds[statement]);
            spellNumber(text, lows[statement]);
            spellNumber(text, highs[statement]);
        }

        private static void spellNumber(Text text, int number) {
            if (number != NOT_TOLD) {
                text.put(' ');
                text.putNumber(number);
            }
        }

        /** The i-th whose NAME these bytes are; bytes that are no NAME are nobody's. */
        int findNamed(Text name, int i) {
            int seen = 0;
            for (int person = 0; person < persons; person++) {
                if (isNamed(person, name)) {
                    if (seen == i) {
                        return person;
                    }
                    seen++;
                }
            }
            return NOT_TOLD;
        }

        private boolean isNamed(int person, Text name) {
            if (nameLengths[person] != name.length) {
                return false;
            }
            for (int i = 0; i < nameLengths[person]; i++) {
                if (names[person][i] != name.at(i)) {
                    return false;
                }
            }
            return true;
        }

        /** Below 0 if the NAME of p stands ahead of that of q, 0 if they are alike. */
        private int compareNames(int p, int q) {
            for (int i = 0; i < nameLengths[p] && i < nameLengths[q]; i++) {
                if (names[p][i] != names[q][i]) {
                    return names[p][i] - names[q][i];
                }
            }
            return nameLengths[p] - nameLengths[q];
        }

        int placeByName(int person) {
            int ahead = 0;
            for (int other = 0; other < persons; other++) {
                int compared = compareNames(other, person);
                if (compared < 0 || compared == 0 && other < person) {
                    ahead++;
                }
            }
            return ahead;
        }

        int unlikeNames() {
            int unlike = 0;
            for (int person = 0; person < persons; person++) {
                boolean first = true;
                for (int other = 0; other < person; other++) {
                    first = first && compareNames(other, person) != 0;
                }
                unlike += first ? 1 : 0;
            }
            return unlike;
        }
    }

    /** PEOPLE, by their numbers, and who is whose parent; sets of them are bits of an int. */
    private static final class Folk {
        /** How many there are, and which numbers are theirs. */
        int count;
        int all;
        /** Of each PERSON the number of its PEOPLE. */
        final int[] group = new int[PERSONS];
        private final int[] sizes = new int[PERSONS];
        /** SHE and HE as bits. */
        final int[] sexes = new int[PERSONS];
        final int[] mothers = new int[PERSONS];
        final int[] fathers = new int[PERSONS];
        final int[] parents = new int[PERSONS];
        final int[] above = new int[PERSONS];
        final int[] spouses = new int[PERSONS];
        private final int[] marriages = new int[PERSONS];
        private final int[] generations = new int[PERSONS];
        /** Somebody is its own ANCESTOR. */
        private boolean ring;

        static boolean has(int set, int number) {
            return (set >>> number & 1) != 0;
        }

        /** The least of a set, -5 of an empty one. */
        static int least(int set) {
            for (int p = 0; p < PERSONS; p++) {
                if (has(set, p)) {
                    return p;
                }
            }
            return NOT_TOLD;
        }

        void gather(Book book, int[] said, int saidCount) {
            wipe();
            joinSames(book, said, saidCount);
            for (int person = 0; person < book.persons; person++) {
                int number = group[person];
                all |= 1 << number;
                sizes[number]++;
                sexes[number] |= book.sexes[person];
            }
            count = Integer.bitCount(all);
            for (int i = 0; i < saidCount; i++) {
                hear(book, said[i]);
            }
            climb();
        }

        private void wipe() {
            all = 0;
            for (int i = 0; i < PERSONS; i++) {
                group[i] = i;
                sizes[i] = 0;
                sexes[i] = 0;
                mothers[i] = 0;
                fathers[i] = 0;
                parents[i] = 0;
                spouses[i] = 0;
                marriages[i] = 0;
                generations[i] = 0;
            }
        }

        private void joinSames(Book book, int[] said, int saidCount) {
            for (int i = 0; i < saidCount; i++) {
                int statement = said[i];
                if (book.sorts[statement] == SAME) {
                    int p = group[book.firsts[statement]];
                    int q = group[book.seconds[statement]];
                    rename(Math.max(p, q), Math.min(p, q), book.persons);
                }
            }
        }

        private void rename(int number, int another, int persons) {
            for (int person = 0; person < persons; person++) {
                if (group[person] == number) {
                    group[person] = another;
                }
            }
        }

        /** Takes in who is whose parent and who is married, of one LIVE STATEMENT. */
        private void hear(Book book, int statement) {
            int sort = book.sorts[statement];
            if (sort != MOTHER && sort != FATHER && sort != MARRIED) {
                return;
            }
            int a = group[book.firsts[statement]];
            int b = group[book.seconds[statement]];
            if (sort == MARRIED) {
                spouses[a] |= 1 << b;
                spouses[b] |= 1 << a;
                marriages[a]++;
                marriages[b] += a == b ? 0 : 1;
                return;
            }
            parents[a] |= 1 << b;
            if (sort == MOTHER) {
                mothers[a] |= 1 << b;
                sexes[b] |= SHE;
            } else {
                fathers[a] |= 1 << b;
                sexes[b] |= HE;
            }
        }

        /** ANCESTORS by ways over more and more of PEOPLE, then GENERATIONS, if nobody is above itself. */
        private void climb() {
            System.arraycopy(parents, 0, above, 0, PERSONS);
            for (int over = 0; over < PERSONS; over++) {
                for (int p = 0; p < PERSONS; p++) {
                    if (has(above[p], over)) {
                        above[p] |= above[over];
                    }
                }
            }
            ring = leastRing() >= 0;
            boolean changed = !ring;
            for (int pass = 0; pass < PERSONS && changed; pass++) {
                changed = false;
                for (int p = 0; p < PERSONS; p++) {
                    int had = generations[p];
                    generations[p] = generationOver(parents[p]);
                    changed = changed || generations[p] != had;
                }
            }
        }

        private int generationOver(int set) {
            int over = 0;
            for (int p = 0; p < PERSONS; p++) {
                if (has(set, p)) {
                    over = Math.max(over, generations[p] + 1);
                }
            }
            return over;
        }

        /** The least that is its own ANCESTOR, -5 if none is. */
        int leastRing() {
            for (int p = 0; p < PERSONS; p++) {
                if (has(above[p], p)) {
                    return p;
                }
            }
            return NOT_TOLD;
        }

        int leastOfBothSexes() {
            for (int p = 0; p < PERSONS; p++) {
                if (sexes[p] == (SHE | HE)) {
                    return p;
                }
            }
            return NOT_TOLD;
        }

        int leastOfUnlikeParents() {
            for (int p = 0; p < PERSONS; p++) {
                if (Integer.bitCount(mothers[p]) > 1 || Integer.bitCount(fathers[p]) > 1) {
                    return p;
                }
            }
            return NOT_TOLD;
        }

        int tell(int number, int what) {
            switch (what) {
                case 0:
                    return number;
                case 1:
                    return sizes[number];
                case 2:
                    return sexes[number];
                case 3:
                    return least(mothers[number]);
                case 4:
                    return least(fathers[number]);
                case 5:
                    return Integer.bitCount(children(number));
                case 6:
                    return marriages[number];
                case 7:
                    return ring ? NOT_TOLD : generations[number];
                default:
                    return NONE;
            }
        }

        int children(int number) {
            return holders(parents, number);
        }

        int below(int number) {
            return holders(above, number);
        }

        /** All those in whose set one is. */
        private static int holders(int[] sets, int number) {
            int holding = 0;
            for (int p = 0; p < PERSONS; p++) {
                if (has(sets[p], number)) {
                    holding |= 1 << p;
                }
            }
            return holding;
        }

        int siblings(int number) {
            int set = 0;
            for (int p = 0; p < PERSONS; p++) {
                if (p != number && (parents[p] & parents[number]) != 0) {
                    set |= 1 << p;
                }
            }
            return set;
        }

        boolean areMarried(int a, int b) {
            return has(spouses[a], b);
        }

        boolean haveAlikeParents(int a, int b) {
            return mothers[a] != 0 && least(mothers[a]) == least(mothers[b])
                && fathers[a] != 0 && least(fathers[a]) == least(fathers[b]);
        }

        int greatestGeneration() {
            if (ring || count == 0) {
                return NOT_TOLD;
            }
            int greatest = 0;
            for (int p = 0; p < PERSONS; p++) {
                greatest = Math.max(greatest, generations[p]);
            }
            return greatest;
        }
    }

    /** RANGES of YEARS, the RULES on them, and on what each END RESTS. END 2r is the lower one of RANGE r. */
    private static final class Ranges {
        private static final int MOST_RULES = PERSONS + 5 * (STATEMENTS + 1);
        /** No bound: farther off than any two YEARS are. */
        private static final int FREE = 100000;
        private static final int LIFE_RULE = 100, LONGEST_LIFE = 110, MARRIED_RANGE = 200;

        final int[] years = new int[2 * RANGES];
        /** On which RULE and on which END each END RESTS, -1 on none. */
        private final int[] restRules = new int[2 * RANGES];
        private final int[] restEnds = new int[2 * RANGES];
        /** Of each RULE, or part of one, "x less y is from .. to", with y -1 "x is in from .. to". */
        private final int[] xs = new int[MOST_RULES];
        private final int[] ys = new int[MOST_RULES];
        private final int[] froms = new int[MOST_RULES];
        private final int[] tos = new int[MOST_RULES];
        private final int[] rules = new int[MOST_RULES];
        private int count;
        int rounds;
        /** The RANGE that is EMPTY, -1 if none is. */
        int empty;
        private boolean changed;

        void wipe() {
            for (int range = 0; range < RANGES; range++) {
                years[2 * range] = 0;
                years[2 * range + 1] = LAST_YEAR;
            }
            for (int end = 0; end < 2 * RANGES; end++) {
                restRules[end] = -1;
                restEnds[end] = -1;
            }
            count = 0;
            rounds = 0;
            empty = -1;
        }

        void takeLife(int number) {
            addLess(died(number), born(number), 0, LONGEST_LIFE, LIFE_RULE + number);
        }

        void takeStatement(Book book, Folk folk, int statement) {
            int a = folk.group[book.firsts[statement]];
            int b = book.seconds[statement] < 0 ? a : folk.group[book.seconds[statement]];
            int low = book.lows[statement];
            switch (book.sorts[statement]) {
                case BORN:
                    addIn(born(a), low, book.highs[statement], statement);
                    break;
                case DIED:
                    addIn(died(a), low, book.highs[statement], statement);
                    break;
                case MOTHER:
                    addLess(born(a), born(b), 12, 55, statement);
                    addLess(died(b), born(a), 0, FREE, statement);
                    break;
                case FATHER:
                    addLess(born(a), born(b), 14, 80, statement);
                    addLess(died(b), born(a), -1, FREE, statement);
                    break;
                case MARRIED:
                    addIn(PEOPLE_RANGES + statement, low, book.highs[statement], statement);
                    addMarriedOne(a, statement);
                    addMarriedOne(b, statement);
                    break;
                case ALIVE:
                    addIn(born(a), -FREE, low, statement);
                    addIn(died(a), low, FREE, statement);
                    break;
                case OLDER:
                    addLess(born(b), born(a), low, FREE, statement);
                    break;
                default:
                    break;
            }
        }

        private void addMarriedOne(int number, int statement) {
            int year = PEOPLE_RANGES + statement;
            addLess(year, born(number), 14, 110, statement);
            addLess(died(number), year, 0, FREE, statement);
        }

        private static int born(int number) {
            return 2 * number;
        }

        private static int died(int number) {
            return 2 * number + 1;
        }

        private void addIn(int x, int from, int to, int rule) {
            addLess(x, -1, from, to, rule);
        }

        private void addLess(int x, int y, int from, int to, int rule) {
            if (count < MOST_RULES) {
                xs[count] = x;
                ys[count] = y;
                froms[count] = from;
                tos[count] = to;
                rules[count] = rule;
                count++;
            }
        }

        /** True if a ROUND of the first so many changed nothing; false if a RANGE is EMPTY, or will be. */
        boolean narrow(int mostRounds) {
            for (int round = 0; round < mostRounds; round++) {
                rounds++;
                changed = false;
                for (int k = 0; k < count && empty < 0; k++) {
                    apply(k);
                }
                if (empty >= 0) {
                    return false;
                }
                if (!changed) {
                    return true;
                }
            }
            return false;
        }

        private void apply(int k) {
            int x = xs[k];
            int y = ys[k];
            if (y < 0) {
                raise(x, froms[k], k, -1);
                lower(x, tos[k], k, -1);
                return;
            }
            raise(x, years[2 * y] + froms[k], k, y);
            lower(x, years[2 * y + 1] + tos[k], k, y);
            raise(y, years[2 * x] - tos[k], k, x);
            lower(y, years[2 * x + 1] - froms[k], k, x);
        }

        private void raise(int range, int year, int k, int from) {
            if (empty < 0 && years[2 * range] < year) {
                change(2 * range, year, k, from < 0 ? -1 : 2 * from);
            }
        }

        private void lower(int range, int year, int k, int from) {
            if (empty < 0 && years[2 * range + 1] > year) {
                change(2 * range + 1, year, k, from < 0 ? -1 : 2 * from + 1);
            }
        }

        private void change(int end, int year, int k, int from) {
            years[end] = year;
            restRules[end] = rules[k];
            restEnds[end] = from;
            changed = true;
            int range = end / 2;
            if (years[2 * range] > years[2 * range + 1]) {
                empty = range;
            }
        }

        /** The END that is so many links on, -1 if none is or that one RESTS on nothing. */
        private int follow(int end, int links) {
            int at = end;
            for (int i = 0; i < links && at >= 0; i++) {
                at = restEnds[at];
            }
            return at >= 0 && restRules[at] >= 0 ? at : -1;
        }

        int tellRest(int end, int link, int part) {
            int at = follow(end, link);
            if (at < 0) {
                return STATE;
            }
            if (part == 0) {
                return restRules[at];
            }
            if (restEnds[at] < 0) {
                return NOT_TOLD;
            }
            return part == 1 ? tellRange(restEnds[at] / 2) : restEnds[at] % 2;
        }

        static int tellRange(int range) {
            return range < PEOPLE_RANGES ? range : MARRIED_RANGE + range - PEOPLE_RANGES;
        }

        void proveInto(Text text, int end) {
            int at = follow(end, 0);
            for (int link = 0; link < LINKS && at >= 0; link++) {
                if (link > 0) {
                    text.put('<');
                }
                if (restRules[at] >= LIFE_RULE) {
                    text.put('L');
                    text.putNumber(restRules[at] - LIFE_RULE);
                } else {
                    text.putNumber(restRules[at]);
                }
                at = follow(at, 1);
            }
        }
    }

    /** All that some of the STATEMENTS say, worked out. */
    private static final class World {
        /** The STATEMENTS that are LIVE here, by numbers. */
        final int[] said = new int[STATEMENTS + 1];
        int saidCount;
        final Folk folk = new Folk();
        final Ranges ranges = new Ranges();
        /** The sort of the CLASH, 0 of none. */
        int clash;
        private int clashing;
        /** PEOPLE in ORDER, once they have been sorted. */
        final int[] order = new int[PERSONS];

        /** By the LIVE ones of so many STATEMENTS, all but one (-1: all of them). */
        void work(Book book, int statements, int without, int mostRounds) {
            saidCount = 0;
            for (int i = 0; i < statements && i <= STATEMENTS; i++) {
                if (i != without && book.lives[i] == 1) {
                    said[saidCount] = i;
                    saidCount++;
                }
            }
            folk.gather(book, said, saidCount);
            ranges.wipe();
            clash = 0;
            clashing = NOT_TOLD;
            note(SEX_CLASH, folk.leastOfBothSexes());
            note(PARENTS_CLASH, folk.leastOfUnlikeParents());
            note(SELF_CLASH, folk.leastRing());
            if (clash == 0) {
                takeRules(book);
                clash = ranges.narrow(mostRounds) ? 0 : EMPTY_CLASH;
            }
        }

        private void note(int sort, int who) {
            if (clash == 0 && who >= 0) {
                clash = sort;
                clashing = who;
            }
        }

        private void takeRules(Book book) {
            for (int p = 0; p < PERSONS; p++) {
                if (Folk.has(folk.all, p)) {
                    ranges.takeLife(p);
                }
            }
            for (int i = 0; i < saidCount; i++) {
                ranges.takeStatement(book, folk, said[i]);
            }
        }

        /** The PEOPLE, or of EMPTY the RANGE, of the CLASH; -5 without one. */
        int tellClashing() {
            return clash == EMPTY_CLASH ? Ranges.tellRange(ranges.empty) : clashing;
        }

        void sortPeople() {
            int sorted = 0;
            for (int p = 0; p < PERSONS; p++) {
                if (Folk.has(folk.all, p)) {
                    int at = sorted;
                    for (int i = sorted; i > 0 && isBornAhead(p, order[i - 1]); i--) {
                        order[i] = order[i - 1];
                        at = i - 1;
                    }
                    order[at] = p;
                    sorted++;
                }
            }
        }

        /** Whether p, the greater number, is ahead of q in ORDER. */
        private boolean isBornAhead(int p, int q) {
            int[] years = ranges.years;
            if (years[4 * p] != years[4 * q]) {
                return years[4 * p] < years[4 * q];
            }
            return years[4 * p + 1] < years[4 * q + 1];
        }
    }

    /** The shortest ways from two of PEOPLE up to the ancestor that they have in common. */
    private static final class Ways {
        private final int[] stepsA = new int[PERSONS];
        private final int[] stepsB = new int[PERSONS];
        /** That ancestor, -1 if there is none; how many steps up from a, and down to b. */
        int common;
        int up;
        int down;

        void seek(Folk folk, int a, int b) {
            count(folk, a, stepsA);
            count(folk, b, stepsB);
            common = -1;
            for (int p = 0; p < PERSONS; p++) {
                if (stepsA[p] >= 0 && stepsB[p] >= 0 && (common < 0 || isNearer(p))) {
                    common = p;
                    up = stepsA[p];
                    down = stepsB[p];
                }
            }
        }

        private boolean isNearer(int p) {
            int steps = stepsA[p] + stepsB[p];
            return steps < up + down || steps == up + down && stepsA[p] < up;
        }

        /** The fewest steps up from one to each, -1 where no way leads. */
        private static void count(Folk folk, int from, int[] steps) {
            for (int p = 0; p < PERSONS; p++) {
                steps[p] = -1;
            }
            int reached = 1 << from;
            for (int step = 0; step < PERSONS && reached != 0; step++) {
                int next = 0;
                for (int p = 0; p < PERSONS; p++) {
                    if (Folk.has(reached, p) && steps[p] < 0) {
                        steps[p] = step;
                        next |= folk.parents[p];
                    }
                }
                reached = next;
            }
        }

        /** From the common ancestor so many steps down, each to the least number on a shortest way. */
        private int descend(Folk folk, int[] steps, int far) {
            int at = common;
            for (int i = 0; i < far && i < PERSONS; i++) {
                at = stepDown(folk, steps, at);
            }
            return at;
        }

        private static int stepDown(Folk folk, int[] steps, int at) {
            for (int p = 0; p < PERSONS; p++) {
                if (steps[p] >= 0 && steps[p] == steps[at] - 1 && Folk.has(folk.parents[p], at)) {
                    return p;
                }
            }
            return at;
        }

        /** The i-th of the way from a up, then down to b. */
        int stop(Folk folk, int i) {
            return i <= up ? descend(folk, stepsA, up - i) : descend(folk, stepsB, i - up);
        }

        boolean isHalf(Folk folk) {
            return up >= 1 && down >= 1
                && !folk.haveAlikeParents(descend(folk, stepsA, 1), descend(folk, stepsB, 1));
        }
    }

    /** What the one is to the other, as a text. */
    private static final class Titles {
        private Titles() {
        }

        static void putKin(Text text, Ways ways, boolean half, int sex) {
            int up = ways.up;
            int down = ways.down;
            if (half) {
                text.putAll("half");
            }
            if (up == 0 && down == 0) {
                text.putAll("self");
            } else if (up == 0) {
                putGrand(text, down - 1);
                putBySex(text, sex, "daughter", "son", "child");
            } else if (down == 0) {
                putGrand(text, up - 1);
                putBySex(text, sex, "mother", "father", "parent");
            } else if (up == 1 && down == 1) {
                putBySex(text, sex, "sister", "brother", "sibling");
            } else if (up == 1) {
                putGrand(text, down - 2);
                putBySex(text, sex, "niece", "nephew", "nibling");
            } else if (down == 1) {
                putGrand(text, up - 2);
                putBySex(text, sex, "aunt", "uncle", "auncle");
            } else {
                putCousin(text, up, down);
            }
        }

        static void putBySex(Text text, int sex, String she, String he, String other) {
            text.putAll(sex == SHE ? she : sex == HE ? he : other);
        }

        private static void putGrand(Text text, int times) {
            for (int i = 0; i < times && i < PERSONS; i++) {
                text.putAll("grand");
            }
        }

        private static void putCousin(Text text, int up, int down) {
            text.putAll("cousin");
            text.putNumber(Math.min(up, down) - 1);
            if (up != down) {
                text.put('/');
                text.putNumber(Math.abs(up - down));
            }
        }
    }

    /** LISTS 0 .. 3: rows made once, each with a size of its own, -1 while there is nothing. */
    private static final class Lists {
        static final int PLACES = 40;
        private static final int COUNT = 4;
        final int[][] rows = new int[COUNT][PLACES];
        final int[] sizes = {-1, -1, -1, -1};

        boolean isList(int list) {
            return list >= 0 && list < COUNT;
        }

        void begin(int list, int n) {
            sizes[list] = n;
            for (int i = 0; i < PLACES; i++) {
                rows[list][i] = 0;
            }
        }

        /** Whether place i and k is there; k is never below 0. Told so, no sum of the two can wrap. */
        boolean hasPlace(int list, int i, int k) {
            return i >= 0 && i < sizes[list] - k;
        }
    }
}
