import java.util.ArrayList;
import java.util.HashMap;
import java.util.List;
import java.util.Map;
import java.util.TreeMap;
import java.util.TreeSet;

/** The document in its plainest form, slow and with the Java library: ModelTest holds KinProver against it. */
final class KinModel {
    private static final int FAR = 1000;

    private record Person(String name, int sex) {
    }

    private record Said(int sort, int a, int b, int lo, int hi, boolean live) {
        Said withLive(boolean lives) {
            return new Said(sort, a, b, lo, hi, lives);
        }
    }

    private record Rest(int rule, String range, int side) {
    }

    private record Rule(int number, String x, String y, Integer from, Integer to) {
    }

    private static final class Range {
        final int[] years = {0, 3000};
        final Rest[] rests = {null, null};
    }

    /** All that a list of statements says. */
    private final class Facts {
        final List<Person> who;
        final List<Said> said;
        final int[] group;
        final TreeSet<Integer> people = new TreeSet<>();
        final Map<Integer, TreeSet<Integer>> mothers = new TreeMap<>();
        final Map<Integer, TreeSet<Integer>> fathers = new TreeMap<>();
        final Map<Integer, Integer> sexes = new TreeMap<>();
        final Map<String, Range> ranges = new HashMap<>();
        final int[][] steps;
        int clash;
        int clashing = -5;
        String empty;
        int rounds;

        Facts(List<Person> who, List<Said> said) {
            this.who = who;
            this.said = said;
            group = groups();
            for (int p = 0; p < who.size(); p++) {
                people.add(group[p]);
            }
            for (int p : people) {
                mothers.put(p, new TreeSet<>());
                fathers.put(p, new TreeSet<>());
                int sex = 0;
                for (int q = 0; q < who.size(); q++) {
                    sex |= group[q] == p ? who.get(q).sex() : 0;
                }
                sexes.put(p, sex);
            }
            for (Said s : said) {
                if (s.live() && (s.sort() == 2 || s.sort() == 3)) {
                    (s.sort() == 2 ? mothers : fathers).get(group[s.a()]).add(group[s.b()]);
                    sexes.merge(group[s.b()], s.sort() - 1, (v, w) -> v | w);
                }
            }
            steps = allSteps();
            for (int p : people) {
                ranges.put("B" + p, new Range());
                ranges.put("D" + p, new Range());
            }
            for (int s = 0; s < said.size(); s++) {
                if (said.get(s).live() && said.get(s).sort() == 4) {
                    ranges.put("M" + s, new Range());
                }
            }
            seekClash();
        }

        private int[] groups() {
            int[] least = new int[who.size()];
            for (int p = 0; p < least.length; p++) {
                least[p] = p;
            }
            for (boolean moved = true; moved;) {
                moved = false;
                for (Said s : said) {
                    if (s.live() && s.sort() == 5 && least[s.a()] != least[s.b()]) {
                        int l = Math.min(least[s.a()], least[s.b()]);
                        least[s.a()] = l;
                        least[s.b()] = l;
                        moved = true;
                    }
                }
            }
            return least;
        }

        TreeSet<Integer> parents(int p) {
            TreeSet<Integer> all = new TreeSet<>(mothers.get(p));
            all.addAll(fathers.get(p));
            return all;
        }

        private int[][] allSteps() {
            int n = who.size();
            int[][] d = new int[n][n];
            for (int p = 0; p < n; p++) {
                for (int q = 0; q < n; q++) {
                    d[p][q] = p == q ? 0 : FAR;
                }
            }
            for (int p : people) {
                for (int q : parents(p)) {
                    d[p][q] = Math.min(d[p][q], 1);
                }
            }
            for (int k : people) {
                for (int p : people) {
                    for (int q : people) {
                        d[p][q] = Math.min(d[p][q], d[p][k] + d[k][q]);
                    }
                }
            }
            return d;
        }

        boolean isAncestor(int old, int young) {
            for (int parent : parents(young)) {
                if (steps[parent][old] < FAR) {
                    return true;
                }
            }
            return false;
        }

        private void seekClash() {
            for (int p : people) {
                if (sexes.get(p) == 3 && clash == 0) {
                    clash = 1;
                    clashing = p;
                }
            }
            for (int p : people) {
                if ((mothers.get(p).size() > 1 || fathers.get(p).size() > 1) && clash == 0) {
                    clash = 2;
                    clashing = p;
                }
            }
            for (int p : people) {
                if (isAncestor(p, p) && clash == 0) {
                    clash = 3;
                    clashing = p;
                }
            }
            if (clash == 0) {
                narrowAll(rules());
            }
        }

        private List<Rule> rules() {
            List<Rule> all = new ArrayList<>();
            for (int p : people) {
                all.add(new Rule(100 + p, "D" + p, "B" + p, 0, 110));
            }
            for (int s = 0; s < said.size(); s++) {
                Said one = said.get(s);
                if (one.live()) {
                    addRules(all, s, one, "B" + group[one.a()], "D" + group[one.a()],
                        one.b() < 0 ? "" : "B" + group[one.b()], one.b() < 0 ? "" : "D" + group[one.b()]);
                }
            }
            return all;
        }

        private void addRules(List<Rule> all, int s, Said one, String bornA, String diedA, String bornB, String diedB) {
            switch (one.sort()) {
                case 0 -> all.add(new Rule(s, bornA, null, one.lo(), one.hi()));
                case 1 -> all.add(new Rule(s, diedA, null, one.lo(), one.hi()));
                case 2 -> {
                    all.add(new Rule(s, bornA, bornB, 12, 55));
                    all.add(new Rule(s, diedB, bornA, 0, null));
                }
                case 3 -> {
                    all.add(new Rule(s, bornA, bornB, 14, 80));
                    all.add(new Rule(s, diedB, bornA, -1, null));
                }
                case 4 -> {
                    all.add(new Rule(s, "M" + s, null, one.lo(), one.hi()));
                    all.add(new Rule(s, "M" + s, bornA, 14, 110));
                    all.add(new Rule(s, diedA, "M" + s, 0, null));
                    all.add(new Rule(s, "M" + s, bornB, 14, 110));
                    all.add(new Rule(s, diedB, "M" + s, 0, null));
                }
                case 6 -> {
                    all.add(new Rule(s, bornA, null, null, one.lo()));
                    all.add(new Rule(s, diedA, null, one.lo(), null));
                }
                case 7 -> all.add(new Rule(s, bornB, bornA, one.lo(), null));
                default -> {
                }
            }
        }

        private void narrowAll(List<Rule> rules) {
            boolean changed = true;
            while (changed) {
                changed = false;
                rounds++;
                for (Rule rule : rules) {
                    changed |= apply(rule);
                    if (empty != null) {
                        clash = 4;
                        clashing = tellRange(empty);
                        return;
                    }
                }
            }
        }

        private boolean apply(Rule rule) {
            boolean changed = false;
            Range x = ranges.get(rule.x());
            if (rule.y() == null) {
                if (rule.from() != null) {
                    changed |= move(rule.x(), 0, rule.from(), new Rest(rule.number(), null, -5));
                }
                if (rule.to() != null) {
                    changed |= move(rule.x(), 1, rule.to(), new Rest(rule.number(), null, -5));
                }
                return changed;
            }
            Range y = ranges.get(rule.y());
            changed |= move(rule.x(), 0, y.years[0] + rule.from(), new Rest(rule.number(), rule.y(), 0));
            if (rule.to() != null) {
                changed |= move(rule.x(), 1, y.years[1] + rule.to(), new Rest(rule.number(), rule.y(), 1));
                changed |= move(rule.y(), 0, x.years[0] - rule.to(), new Rest(rule.number(), rule.x(), 0));
            }
            changed |= move(rule.y(), 1, x.years[1] - rule.from(), new Rest(rule.number(), rule.x(), 1));
            return changed;
        }

        private boolean move(String name, int side, int year, Rest rest) {
            Range range = ranges.get(name);
            if (empty != null || (side == 0 ? range.years[0] >= year : range.years[1] <= year)) {
                return false;
            }
            range.years[side] = year;
            range.rests[side] = rest;
            if (range.years[0] > range.years[1]) {
                empty = name;
            }
            return true;
        }

        int generation(int p) {
            int over = -1;
            for (int parent : parents(p)) {
                over = Math.max(over, generation(parent));
            }
            return over + 1;
        }

        boolean hasRing() {
            for (int p : people) {
                if (isAncestor(p, p)) {
                    return true;
                }
            }
            return false;
        }

        List<Integer> order() {
            List<Integer> order = new ArrayList<>(people);
            order.sort((p, q) -> {
                int[] a = ranges.get("B" + p).years;
                int[] b = ranges.get("B" + q).years;
                return a[0] != b[0] ? Integer.compare(a[0], b[0]) : Integer.compare(a[1], b[1]);
            });
            return order;
        }

        int common(int a, int b) {
            int best = -1;
            for (int p : people) {
                if (steps[a][p] < FAR && steps[b][p] < FAR && (best < 0
                    || steps[a][p] + steps[b][p] < steps[a][best] + steps[b][best]
                    || steps[a][p] + steps[b][p] == steps[a][best] + steps[b][best] && steps[a][p] < steps[a][best])) {
                    best = p;
                }
            }
            return best;
        }

        /** From the top down to the one, both included. */
        List<Integer> wayDown(int top, int to) {
            List<Integer> way = new ArrayList<>();
            way.add(top);
            int at = top;
            while (at != to) {
                for (int p : people) {
                    if (parents(p).contains(at) && steps[to][p] + 1 + steps[at][top] == steps[to][top]
                        && steps[to][p] + 1 == steps[to][at]) {
                        at = p;
                        break;
                    }
                }
                way.add(at);
            }
            return way;
        }

        boolean half(int a, int b) {
            int top = common(a, b);
            if (steps[a][top] == 0 || steps[b][top] == 0) {
                return false;
            }
            int x = wayDown(top, a).get(1);
            int y = wayDown(top, b).get(1);
            return !(alike(mothers.get(x), mothers.get(y)) && alike(fathers.get(x), fathers.get(y)));
        }

        private boolean alike(TreeSet<Integer> p, TreeSet<Integer> q) {
            return !p.isEmpty() && !q.isEmpty() && p.first().equals(q.first());
        }
    }

    private List<Person> who = new ArrayList<>();
    private List<Said> said = new ArrayList<>();
    private List<Person> keptWho;
    private List<Said> keptSaid;
    private String tape = "";
    private String paper = "";
    private final int[][] lists = new int[4][];
    private int fault;
    private Facts cache;
    private List<Integer> culprits;

    private Facts facts() {
        if (cache == null) {
            cache = new Facts(who, said);
        }
        return cache;
    }

    private void change() {
        cache = null;
        culprits = null;
    }

    private static int tellRange(String name) {
        int number = Integer.parseInt(name.substring(1));
        return name.charAt(0) == 'M' ? 200 + number : 2 * number + (name.charAt(0) == 'D' ? 1 : 0);
    }

    private boolean noPerson(int p) {
        return p < 0 || p >= who.size();
    }

    private boolean noStatement(int s) {
        return s < 0 || s >= said.size();
    }

    private static boolean out(int v, int least, int most) {
        return v < least || v > most;
    }

    int feed(int letter) {
        if (out(letter, 1, 127)) {
            return -2;
        }
        if (tape.length() == 60) {
            return -4;
        }
        tape += (char) letter;
        return tape.length();
    }

    int clear() {
        int had = tape.length();
        tape = "";
        return had;
    }

    int paper(int i) {
        return out(i, 0, paper.length() - 1) ? -1 : paper.charAt(i);
    }

    int person(int sex) {
        if (out(sex, 0, 2)) {
            return -1;
        }
        if (who.size() == 30) {
            return -4;
        }
        String name = tape;
        tape = "";
        for (int i = 0; i < name.length(); i++) {
            if (i == 7 || "abcdefghijklmnopqrstuvwxyz".indexOf(name.charAt(i)) < 0) {
                return -100 - i;
            }
        }
        if (name.isEmpty()) {
            return -100;
        }
        who.add(new Person(name, sex));
        change();
        return who.size() - 1;
    }

    int sex(int person, int sex) {
        if (noPerson(person) || out(sex, 0, 2)) {
            return -1;
        }
        Person had = who.set(person, new Person(who.get(person).name(), sex));
        change();
        return had.sex();
    }

    /** By a pattern: p a PERSON, q another one, y a YEAR, z one not below it, n OLDER's number. */
    private Said parse(String text) {
        String[] patterns = {"b p y z", "d p y z", "m p q", "f p q", "w p q y z", "s p q", "l p y", "o p q n"};
        for (int sort = 0; sort < 8; sort++) {
            if (!text.isEmpty() && text.charAt(0) == patterns[sort].charAt(0)) {
                return parseRest(text, patterns[sort], sort);
            }
        }
        fault = 0;
        return null;
    }

    private Said parseRest(String text, String pattern, int sort) {
        Map<Character, Integer> got = new HashMap<>();
        int at = 1;
        for (int i = 1; i < pattern.length(); i++) {
            char want = pattern.charAt(i);
            if (want == ' ') {
                if (at >= text.length() || text.charAt(at) != ' ') {
                    fault = at;
                    return null;
                }
                at++;
                continue;
            }
            int end = at;
            while (end < text.length() && end < at + 4 && Character.isDigit(text.charAt(end))) {
                end++;
            }
            if (end == at) {
                fault = at;
                return null;
            }
            int value = Integer.parseInt(text.substring(at, end));
            boolean may = switch (want) {
                case 'p' -> value < who.size();
                case 'q' -> value < who.size() && value != got.get('p');
                case 'y' -> value <= 3000;
                case 'z' -> value <= 3000 && value >= got.get('y');
                default -> value <= 99;
            };
            if (!may) {
                fault = at;
                return null;
            }
            got.put(want, value);
            at = end;
        }
        if (at < text.length()) {
            fault = at;
            return null;
        }
        int lo = got.getOrDefault('y', got.getOrDefault('n', -5));
        return new Said(sort, got.get('p'), got.getOrDefault('q', -5), lo, got.getOrDefault('z', -5), true);
    }

    int state(int live) {
        if (out(live, 0, 1)) {
            return -1;
        }
        if (said.size() == 60) {
            return -4;
        }
        Said one = parse(tape);
        tape = "";
        if (one == null) {
            return -100 - fault;
        }
        said.add(one.withLive(live == 1));
        change();
        return said.size() - 1;
    }

    int live(int statement, int live) {
        if (noStatement(statement) || out(live, 0, 1)) {
            return -1;
        }
        Said had = said.set(statement, said.get(statement).withLive(live == 1));
        change();
        return had.live() ? 1 : 0;
    }

    int of(int statement, int what) {
        if (noStatement(statement) || out(what, 0, 5)) {
            return -1;
        }
        Said s = said.get(statement);
        return new int[] {s.sort(), s.a(), s.b(), s.lo(), s.hi(), s.live() ? 1 : 0}[what];
    }

    int spell(int statement) {
        if (noStatement(statement)) {
            return -1;
        }
        Said s = said.get(statement);
        paper = "bdmfwslo".charAt(s.sort()) + " " + s.a() + (s.b() < 0 ? "" : " " + s.b())
            + (s.lo() < 0 ? "" : " " + s.lo()) + (s.hi() < 0 ? "" : " " + s.hi());
        return paper.length();
    }

    int name(int person, int i) {
        if (noPerson(person) || out(i, -1, who.get(person).name().length() - 1)) {
            return -1;
        }
        return i == -1 ? who.get(person).name().length() : who.get(person).name().charAt(i);
    }

    int find(int i) {
        List<Integer> found = new ArrayList<>();
        for (int p = 0; p < who.size(); p++) {
            if (who.get(p).name().equals(tape)) {
                found.add(p);
            }
        }
        tape = "";
        return out(i, 0, found.size() - 1) ? -5 : found.get(i);
    }

    int byName(int i) {
        List<Integer> all = new ArrayList<>();
        for (int p = 0; p < who.size(); p++) {
            all.add(p);
        }
        all.sort((p, q) -> who.get(p).name().compareTo(who.get(q).name()));
        return out(i, 0, all.size() - 1) ? -1 : all.get(i);
    }

    int people(int person, int what) {
        if (noPerson(person) || out(what, 0, 7)) {
            return -1;
        }
        Facts f = facts();
        int p = f.group[person];
        int size = 0;
        for (int q = 0; q < who.size(); q++) {
            size += f.group[q] == p ? 1 : 0;
        }
        int married = 0;
        for (Said s : said) {
            married += s.live() && s.sort() == 4 && (f.group[s.a()] == p || f.group[s.b()] == p) ? 1 : 0;
        }
        return switch (what) {
            case 0 -> p;
            case 1 -> size;
            case 2 -> f.sexes.get(p);
            case 3 -> f.mothers.get(p).isEmpty() ? -5 : f.mothers.get(p).first();
            case 4 -> f.fathers.get(p).isEmpty() ? -5 : f.fathers.get(p).first();
            case 5 -> Long.bitCount(relatives(person, 0));
            case 6 -> married;
            default -> f.hasRing() ? -5 : f.generation(p);
        };
    }

    private String range(Facts f, int person, int what) {
        return (what == 0 ? "B" : "D") + f.group[person];
    }

    int end(int person, int what, int side) {
        if (noPerson(person) || out(what, 0, 1) || out(side, 0, 1)) {
            return -1;
        }
        return facts().ranges.get(range(facts(), person, what)).years[side];
    }

    int year(int statement, int side) {
        if (noStatement(statement) || out(side, 0, 1)) {
            return -1;
        }
        Range range = facts().ranges.get("M" + statement);
        return range == null ? -3 : range.years[side];
    }

    private List<Rest> chain(String range, int side) {
        List<Rest> chain = new ArrayList<>();
        while (range != null && chain.size() < 100) {
            Rest rest = facts().ranges.get(range).rests[side];
            if (rest == null) {
                break;
            }
            chain.add(rest);
            range = rest.range();
            side = rest.side();
        }
        return chain;
    }

    private int tellLink(List<Rest> chain, int link, int part) {
        if (link >= chain.size()) {
            return -3;
        }
        Rest rest = chain.get(link);
        return part == 0 ? rest.rule() : part == 2 ? rest.side() : rest.range() == null ? -5 : tellRange(rest.range());
    }

    int proof(int person, int what, int side, int link, int part) {
        if (noPerson(person) || out(what, 0, 1) || out(side, 0, 1) || out(link, 0, 99) || out(part, 0, 2)) {
            return -1;
        }
        return tellLink(chain(range(facts(), person, what), side), link, part);
    }

    int prove(int person, int what, int side) {
        if (noPerson(person) || out(what, 0, 1) || out(side, 0, 1)) {
            return -1;
        }
        List<String> links = new ArrayList<>();
        for (Rest rest : chain(range(facts(), person, what), side)) {
            links.add(rest.rule() < 100 ? "" + rest.rule() : "L" + (rest.rule() - 100));
        }
        paper = String.join("<", links);
        return paper.length();
    }

    int clash(int what) {
        return out(what, 0, 1) ? -1 : what == 0 ? facts().clash : facts().clashing;
    }

    int why(int side, int link, int part) {
        if (out(side, 0, 1) || out(link, 0, 99) || out(part, 0, 2)) {
            return -1;
        }
        return facts().empty == null ? -3 : tellLink(chain(facts().empty, side), link, part);
    }

    int culprit(int i) {
        if (i < -1) {
            return -1;
        }
        if (facts().clash == 0) {
            return -3;
        }
        if (culprits == null) {
            culprits = new ArrayList<>();
            for (int s = 0; s < said.size(); s++) {
                List<Said> less = new ArrayList<>(said);
                less.set(s, said.get(s).withLive(false));
                if (said.get(s).live() && new Facts(who, less).clash == 0) {
                    culprits.add(s);
                }
            }
        }
        return i == -1 ? culprits.size() : i < culprits.size() ? culprits.get(i) : -1;
    }

    private Facts withOneMore(Said one) {
        List<Said> more = new ArrayList<>(said);
        more.add(one);
        return new Facts(who, more);
    }

    int same(int person, int other) {
        if (noPerson(person) || noPerson(other) || person == other) {
            return -1;
        }
        return withOneMore(new Said(5, person, other, -5, -5, true)).clash;
    }

    int narrows(int person, int what) {
        if (noPerson(person) || out(what, 0, 1)) {
            return -1;
        }
        if (said.size() == 60) {
            return -4;
        }
        if (facts().clash != 0) {
            return -3;
        }
        Said one = parse(tape);
        tape = "";
        if (one == null) {
            return -100 - fault;
        }
        Facts more = withOneMore(one);
        if (more.clash != 0) {
            return -1000 - more.clash;
        }
        int[] before = facts().ranges.get(range(facts(), person, what)).years;
        int[] then = more.ranges.get(range(more, person, what)).years;
        return then[0] - before[0] + before[1] - then[1];
    }

    int rounds() {
        return facts().rounds;
    }

    private int[] pair(int a, int b) {
        Facts f = facts();
        int top = f.common(f.group[a], f.group[b]);
        return top < 0 ? null : new int[] {top, f.steps[f.group[a]][top], f.steps[f.group[b]][top]};
    }

    int kin(int a, int b) {
        if (noPerson(a) || noPerson(b)) {
            return -1;
        }
        int[] pair = pair(a, b);
        return pair == null ? -5 : 100 * pair[1] + pair[2];
    }

    int common(int a, int b) {
        if (noPerson(a) || noPerson(b)) {
            return -1;
        }
        int[] pair = pair(a, b);
        return pair == null ? -5 : pair[0];
    }

    int half(int a, int b) {
        if (noPerson(a) || noPerson(b)) {
            return -1;
        }
        Facts f = facts();
        return pair(a, b) == null ? -5 : f.half(f.group[a], f.group[b]) ? 1 : 0;
    }

    int title(int a, int b) {
        if (noPerson(a) || noPerson(b)) {
            return -1;
        }
        int sex = facts().sexes.get(facts().group[b]) % 3;
        int[] pair = pair(a, b);
        if (pair == null) {
            boolean married = (relatives(a, 2) >> facts().group[b] & 1) == 1;
            paper = married ? new String[] {"spouse", "wife", "husband"}[sex] : "none";
        } else {
            paper = (half(a, b) == 1 ? "half" : "") + kinTitle(pair[1], pair[2], sex);
        }
        return paper.length();
    }

    private static String kinTitle(int up, int down, int sex) {
        if (up == 0) {
            return down == 0 ? "self" : "grand".repeat(down - 1) + new String[] {"child", "daughter", "son"}[sex];
        }
        if (down == 0) {
            return "grand".repeat(up - 1) + new String[] {"parent", "mother", "father"}[sex];
        }
        if (up == 1) {
            return down == 1 ? new String[] {"sibling", "sister", "brother"}[sex]
                : "grand".repeat(down - 2) + new String[] {"nibling", "niece", "nephew"}[sex];
        }
        if (down == 1) {
            return "grand".repeat(up - 2) + new String[] {"auncle", "aunt", "uncle"}[sex];
        }
        return "cousin" + (Math.min(up, down) - 1) + (up == down ? "" : "/" + Math.abs(up - down));
    }

    int path(int a, int b, int i) {
        if (noPerson(a) || noPerson(b) || i < -1) {
            return -1;
        }
        int[] pair = pair(a, b);
        if (pair == null) {
            return -5;
        }
        Facts f = facts();
        List<Integer> way = f.wayDown(pair[0], f.group[a]);
        java.util.Collections.reverse(way);
        List<Integer> down = f.wayDown(pair[0], f.group[b]);
        way.addAll(down.subList(1, down.size()));
        return i == -1 ? way.size() : i < way.size() ? way.get(i) : -1;
    }

    long relatives(int person, int what) {
        if (noPerson(person) || out(what, 0, 2)) {
            return Long.MIN_VALUE;
        }
        Facts f = facts();
        int p = f.group[person];
        long bits = 0;
        for (int q : f.people) {
            TreeSet<Integer> both = f.parents(p);
            both.retainAll(f.parents(q));
            if (what == 0 ? f.parents(q).contains(p) : what == 1 && q != p && !both.isEmpty()) {
                bits |= 1L << q;
            }
        }
        for (Said s : said) {
            if (what == 2 && s.live() && s.sort() == 4) {
                bits |= f.group[s.a()] == p ? 1L << f.group[s.b()] : 0;
                bits |= f.group[s.b()] == p ? 1L << f.group[s.a()] : 0;
            }
        }
        return bits;
    }

    long ancestors(int person) {
        if (noPerson(person)) {
            return Long.MIN_VALUE;
        }
        long bits = 0;
        for (int q : facts().people) {
            bits |= facts().isAncestor(q, facts().group[person]) ? 1L << q : 0;
        }
        return bits;
    }

    long descendants(int person) {
        if (noPerson(person)) {
            return Long.MIN_VALUE;
        }
        long bits = 0;
        for (int q : facts().people) {
            bits |= facts().isAncestor(facts().group[person], q) ? 1L << q : 0;
        }
        return bits;
    }

    int order(int i) {
        return out(i, 0, facts().people.size() - 1) ? -1 : facts().order().get(i);
    }

    int ahead(int a, int b) {
        if (noPerson(a) || noPerson(b)) {
            return -1;
        }
        if (facts().group[a] == facts().group[b]) {
            return 0;
        }
        return end(a, 0, 1) < end(b, 0, 0) ? 1 : end(b, 0, 1) < end(a, 0, 0) ? 2 : 0;
    }

    int told(int what) {
        TreeSet<String> names = new TreeSet<>();
        int greatest = -5;
        for (int p = 0; p < who.size(); p++) {
            names.add(who.get(p).name());
            greatest = Math.max(greatest, people(p, 7));
        }
        int live = 0;
        for (Said s : said) {
            live += s.live() ? 1 : 0;
        }
        return switch (what) {
            case 0 -> who.size();
            case 1 -> facts().people.size();
            case 2 -> said.size();
            case 3 -> live;
            case 4 -> tape.length();
            case 5 -> paper.length();
            case 6 -> names.size();
            case 7 -> greatest;
            default -> -1;
        };
    }

    int list(int list, int n) {
        if (out(list, 0, 3)) {
            return -1;
        }
        if (n > 40) {
            return -2;
        }
        if (n < 0) {
            return -14;
        }
        lists[list] = new int[n];
        return 1;
    }

    int set(int list, int i, int v) {
        if (out(list, 0, 3)) {
            return -1;
        }
        if (lists[list] == null) {
            return -11;
        }
        if (out(i, 0, lists[list].length - 1)) {
            return -13;
        }
        lists[list][i] = v;
        return 1;
    }

    long get(int list, int i) {
        if (out(list, 0, 3) || lists[list] == null || out(i, 0, lists[list].length - 1)) {
            return Long.MIN_VALUE;
        }
        return lists[list][i];
    }

    int lay(int list, int i) {
        if (out(list, 0, 3)) {
            return -1;
        }
        if (lists[list] == null) {
            return -11;
        }
        long place = i;
        for (int p : facts().order()) {
            if (place < 0 || place >= lists[list].length) {
                return -13;
            }
            lists[list][(int) place++] = p;
        }
        return facts().people.size();
    }

    int judge(int list, int i) {
        if (out(list, 0, 3)) {
            return -1;
        }
        if (lists[list] == null) {
            return -11;
        }
        int looked = 0;
        for (int p : facts().order()) {
            long place = (long) i + looked;
            if (i < 0 || place >= lists[list].length) {
                return 100 + looked;
            }
            if (lists[list][(int) place] != p) {
                return looked;
            }
            looked++;
        }
        return -5;
    }

    int image() {
        keptWho = new ArrayList<>(who);
        keptSaid = new ArrayList<>(said);
        return said.size();
    }

    int undo() {
        if (keptWho == null) {
            return -3;
        }
        who = new ArrayList<>(keptWho);
        said = new ArrayList<>(keptSaid);
        change();
        return said.size();
    }
}
