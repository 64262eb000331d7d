import java.util.ArrayDeque;
import java.util.ArrayList;
import java.util.Deque;
import java.util.HashMap;
import java.util.List;
import java.util.Map;
import java.util.TreeMap;
import java.util.TreeSet;

/** Long runs of calls, each answer held against a slow model that only follows the document's words. */
public final class ModelRuns {
    private static final int RUNS = 260;
    private static final int CALLS = 500;
    private static int wrong = 0;
    private static long answers = 0;

    public static void main(String[] args) {
        int runs = args.length > 0 ? Integer.parseInt(args[0]) : RUNS;
        int first = args.length > 1 ? Integer.parseInt(args[1]) : 0;
        for (int run = first; run < first + runs && wrong == 0; run++) {
            new Run(run).play();
        }
        System.out.println(answers + " answers held against the model, " + wrong + " wrong");
        if (wrong != 0) {
            System.exit(1);
        }
    }

    /** Numbers that look drawn but are always the same. */
    static final class Dice {
        private long x;

        Dice(long seed) {
            x = seed * 7919 + 17;
            roll(2);
            roll(2);
        }

        int roll(int k) {
            x = x * 6364136223846793005L + 1442695040888963407L;
            return (int) ((x >>> 33) % k);
        }

        int between(int a, int b) {
            return a + roll(b - a + 1);
        }

        boolean oneIn(int k) {
            return roll(k) == 0;
        }
    }

    /** What a law's clause is made of. */
    interface Part {
        long worth(long[] letters);
    }

    static long within(long v) {
        return Math.max(-1000000, Math.min(1000000, v));
    }

    static final class LawMaker {
        private final Dice dice;
        final StringBuilder text = new StringBuilder();

        LawMaker(Dice dice) {
            this.dice = dice;
        }

        private void put(String sign) {
            if (dice.oneIn(9)) {
                text.append(' ');
            }
            text.append(sign);
        }

        Part law() {
            int clauses = dice.between(1, 3);
            List<Part> conditions = new ArrayList<>();
            List<Part> sums = new ArrayList<>();
            for (int i = 0; i < clauses; i++) {
                if (i > 0) {
                    put(";");
                }
                put("y");
                put(":");
                if (dice.oneIn(3)) {
                    conditions.add(null);
                } else {
                    conditions.add(condition(0));
                    put("?");
                }
                sums.add(sum(0));
            }
            if (dice.oneIn(9)) {
                text.append(' ');
            }
            return l -> {
                for (int i = 0; i < sums.size(); i++) {
                    if (conditions.get(i) == null || conditions.get(i).worth(l) == 1) {
                        return sums.get(i).worth(l);
                    }
                }
                return 0;
            };
        }

        private Part condition(int depth) {
            List<Part> parts = new ArrayList<>();
            int n = dice.oneIn(4) ? 2 : 1;
            for (int i = 0; i < n; i++) {
                if (i > 0) {
                    put("|");
                }
                parts.add(truth(depth));
            }
            return l -> parts.stream().anyMatch(p -> p.worth(l) == 1) ? 1 : 0;
        }

        private Part truth(int depth) {
            List<Part> parts = new ArrayList<>();
            int n = dice.oneIn(4) ? 2 : 1;
            for (int i = 0; i < n; i++) {
                if (i > 0) {
                    put("&");
                }
                parts.add(unit(depth));
            }
            return l -> parts.stream().allMatch(p -> p.worth(l) == 1) ? 1 : 0;
        }

        private Part unit(int depth) {
            if (depth < 6 && dice.oneIn(5)) {
                put("!");
                Part part = unit(depth + 1);
                return l -> 1 - part.worth(l);
            }
            if (depth < 6 && dice.oneIn(5)) {
                put("(");
                Part part = condition(depth + 1);
                put(")");
                return part;
            }
            Part left = sum(depth);
            int sign = dice.roll(3);
            put("=<>".substring(sign, sign + 1));
            Part right = sum(depth);
            return l -> {
                long a = left.worth(l);
                long b = right.worth(l);
                return (sign == 0 ? a == b : sign == 1 ? a < b : a > b) ? 1 : 0;
            };
        }

        private Part sum(int depth) {
            Part so = term(depth);
            for (int i = dice.roll(3) * dice.roll(2); i > 0; i--) {
                boolean plus = dice.oneIn(2);
                put(plus ? "+" : "-");
                Part left = so;
                Part right = term(depth);
                so = l -> within(plus ? left.worth(l) + right.worth(l) : left.worth(l) - right.worth(l));
            }
            return so;
        }

        private Part term(int depth) {
            Part so = atom(depth);
            for (int i = dice.roll(3) * dice.roll(2); i > 0; i--) {
                boolean times = dice.oneIn(2);
                put(times ? "*" : "/");
                Part left = so;
                Part right = atom(depth);
                so = l -> {
                    long a = left.worth(l);
                    long b = right.worth(l);
                    return within(times ? a * b : b == 0 ? 0 : a / b);
                };
            }
            return so;
        }

        private Part atom(int depth) {
            if (depth < 6 && dice.oneIn(6)) {
                put("[");
                Part part = sum(depth + 1);
                put("]");
                return part;
            }
            if (dice.oneIn(4)) {
                int number = dice.oneIn(4) ? dice.roll(10000) : dice.roll(13);
                String digits = Integer.toString(number);
                put(dice.oneIn(9) && digits.length() < 4 ? "0" + digits : digits);
                return l -> number;
            }
            int letter = dice.oneIn(3) ? 7 : dice.roll(8);
            put("wepktbuh".substring(letter, letter + 1));
            return l -> l[letter];
        }
    }

    /** A village told in the plainest way. */
    static final class Place {
        int n;
        int[] want = new int[12];
        int[] envy = new int[12];
        int[] peace = new int[12];
        int[] kids = new int[12];
        int[] tune = new int[12];
        boolean[] back = new boolean[12];
        int[] laughs = new int[12];
        List<int[]> windows = new ArrayList<>();
        boolean music;
        boolean fog;
        int at;
        int before = -1;
        int hour;
        List<Integer> log = new ArrayList<>();
        Part law;

        Place copy() {
            Place p = new Place();
            p.n = n;
            p.want = want.clone();
            p.envy = envy.clone();
            p.peace = peace.clone();
            p.kids = kids.clone();
            p.tune = tune.clone();
            p.back = back.clone();
            p.laughs = laughs.clone();
            for (int[] w : windows) {
                p.windows.add(w.clone());
            }
            p.music = music;
            p.fog = fog;
            p.at = at;
            p.before = before;
            p.hour = hour;
            p.log = new ArrayList<>(log);
            p.law = law;
            return p;
        }

        Place apart() {
            Place p = copy();
            p.fog = false;
            p.log.clear();
            return p;
        }

        TreeSet<Integer> watchers(int house) {
            TreeSet<Integer> set = new TreeSet<>();
            for (int[] w : windows) {
                if (w[3] == 1) {
                    continue;
                }
                if (w[0] == house) {
                    set.add(w[1]);
                }
                if (w[1] == house && w[2] == 0) {
                    set.add(w[0]);
                }
            }
            return set;
        }

        long wish(int h) {
            if (law == null) {
                return (back[h] ? 0 : want[h]) - (music ? tune[h] : 0);
            }
            return law.worth(new long[] {want[h], envy[h], peace[h], kids[h], tune[h],
                back[h] ? 1 : 0, music ? 1 : 0, hour % 24});
        }

        void hour(int envious, boolean fogNow) {
            if (!fogNow) {
                TreeSet<Integer> those = watchers(at);
                int together = 0;
                for (int h : those) {
                    together += (envious >> h & 1) * envy[h];
                }
                if (together >= peace[at]) {
                    those.remove(before);
                    int to = -1;
                    for (int h : those) {
                        if (to < 0 || wish(h) < wish(to)) {
                            to = h;
                        }
                    }
                    if (to >= 0) {
                        before = at;
                        at = to;
                    }
                }
            }
            laughs[at]++;
            if (hour % 24 == 6) {
                for (int h = 0; h < n; h++) {
                    laughs[h] += kids[h];
                }
            }
            hour++;
            log.add(at);
        }

        void hour() {
            hour(4095, fog);
        }

        int atBehind(int hours) {
            Place p = apart();
            for (int i = 0; i < hours; i++) {
                p.hour();
            }
            return p.at;
        }

        String state() {
            return at + "," + before + "," + hour % 24;
        }
    }

    /** Which prefixes of a law can go on: all ways to read it at once (Earley), bracket depth in the names. */
    static final class LawOracle {
        private final Map<String, List<String[]>> rules = new HashMap<>();

        LawOracle() {
            rule("LAW", "CLAUSE");
            rule("LAW", "LAW", ";", "CLAUSE");
            rule("CLAUSE", "y", ":", "SUM0");
            rule("CLAUSE", "y", ":", "COND0", "?", "SUM0");
            for (int d = 0; d <= 6; d++) {
                rule("COND" + d, "TRUTH" + d);
                rule("COND" + d, "COND" + d, "|", "TRUTH" + d);
                rule("TRUTH" + d, "UNIT" + d);
                rule("TRUTH" + d, "TRUTH" + d, "&", "UNIT" + d);
                for (String s : new String[] {"=", "<", ">"}) {
                    rule("UNIT" + d, "SUM" + d, s, "SUM" + d);
                }
                rule("SUM" + d, "TERM" + d);
                rule("SUM" + d, "SUM" + d, "+", "TERM" + d);
                rule("SUM" + d, "SUM" + d, "-", "TERM" + d);
                rule("TERM" + d, "ATOM" + d);
                rule("TERM" + d, "TERM" + d, "*", "ATOM" + d);
                rule("TERM" + d, "TERM" + d, "/", "ATOM" + d);
                rule("ATOM" + d, "first");
                rule("ATOM" + d, "first", "more");
                rule("ATOM" + d, "first", "more", "more");
                rule("ATOM" + d, "first", "more", "more", "more");
                for (String s : "w e p k t b u h".split(" ")) {
                    rule("ATOM" + d, s);
                }
                if (d < 6) {
                    rule("UNIT" + d, "!", "UNIT" + (d + 1));
                    rule("UNIT" + d, "(", "COND" + (d + 1), ")");
                    rule("ATOM" + d, "[", "SUM" + (d + 1), "]");
                }
            }
        }

        private void rule(String name, String... parts) {
            rules.computeIfAbsent(name, k -> new ArrayList<>()).add(parts);
        }

        private record Item(String name, String[] parts, int dot, int from) {
            String key() {
                return name + "@" + System.identityHashCode(parts) + "@" + dot + "@" + from;
            }
        }

        int fault(String text) {
            List<String> signs = new ArrayList<>();
            List<Integer> places = new ArrayList<>();
            for (int i = 0; i < text.length(); i++) {
                char c = text.charAt(i);
                if (c == ' ') {
                    continue;
                }
                boolean digit = c >= '0' && c <= '9';
                boolean behind = i > 0 && text.charAt(i - 1) >= '0' && text.charAt(i - 1) <= '9';
                signs.add(digit ? behind ? "more" : "first" : String.valueOf(c));
                places.add(i);
            }
            List<Map<String, Item>> sets = new ArrayList<>();
            for (int i = 0; i <= signs.size(); i++) {
                sets.add(new java.util.LinkedHashMap<>());
            }
            for (String[] parts : rules.get("LAW")) {
                Item item = new Item("LAW", parts, 0, 0);
                sets.get(0).put(item.key(), item);
            }
            for (int i = 0; i <= signs.size(); i++) {
                if (sets.get(i).isEmpty()) {
                    return places.get(i - 1);
                }
                close(sets, i, i < signs.size() ? signs.get(i) : null);
            }
            for (Item item : sets.get(signs.size()).values()) {
                if (item.name.equals("LAW") && item.from == 0 && item.dot == item.parts.length) {
                    return -1;
                }
            }
            return text.length();
        }

        private void close(List<Map<String, Item>> sets, int i, String sign) {
            Deque<Item> todo = new ArrayDeque<>(sets.get(i).values());
            while (!todo.isEmpty()) {
                Item item = todo.poll();
                List<Item> more = new ArrayList<>();
                if (item.dot == item.parts.length) {
                    for (Item other : new ArrayList<>(sets.get(item.from).values())) {
                        if (other.dot < other.parts.length && other.parts[other.dot].equals(item.name)) {
                            more.add(new Item(other.name, other.parts, other.dot + 1, other.from));
                        }
                    }
                } else if (rules.containsKey(item.parts[item.dot])) {
                    for (String[] parts : rules.get(item.parts[item.dot])) {
                        more.add(new Item(item.parts[item.dot], parts, 0, i));
                    }
                } else if (item.parts[item.dot].equals(sign)) {
                    Item on = new Item(item.name, item.parts, item.dot + 1, item.from);
                    sets.get(i + 1).put(on.key(), on);
                }
                for (Item next : more) {
                    if (sets.get(i).putIfAbsent(next.key(), next) == null) {
                        todo.add(next);
                    }
                }
            }
        }
    }

    /** The fault of a village, sign by sign, with what may come next kept as a word. */
    static final class VillageOracle {
        private int houses;
        private int windows;
        private boolean told;
        private int at;
        private boolean broken;
        private final List<int[]> ends = new ArrayList<>();
        private char clause;
        private final Map<Character, Integer> items = new HashMap<>();
        private char letter;
        private String digits = "";

        private static int bound(char clause, char letter) {
            switch ("" + clause + letter) {
                case "va": case "wa": case "wb": return 11;
                case "vh": return 23;
                case "vm": case "db": case "wo": return 1;
                case "dw": case "de": case "dp": case "dk": case "dt": return 9;
                default: return -1;
            }
        }

        private void endClause() {
            if (clause == 'v') {
                at = items.getOrDefault('a', 0);
            } else if (clause == 'w') {
                ends.add(new int[] {items.getOrDefault('a', 0), items.getOrDefault('b', 1)});
            }
            items.clear();
        }

        int fault(String text) {
            String next = "clause";
            int lastDigit = -1;
            for (int i = 0; i <= text.length(); i++) {
                char c = i < text.length() ? text.charAt(i) : ';';
                boolean digit = c >= '0' && c <= '9';
                if (next.equals("digits")) {
                    if (digit) {
                        if (digits.length() == 2) {
                            return i;
                        }
                        digits += c;
                        lastDigit = i;
                        continue;
                    }
                    int value = Integer.parseInt(digits);
                    if (value > bound(clause, letter)) {
                        return lastDigit;
                    }
                    items.put(letter, value);
                    next = "item";
                }
                if (c == ' ' || i == text.length()) {
                    continue;
                }
                if (next.equals("clause")) {
                    boolean may = c == 'v' && !told || c == 'd' && houses < 12 || c == 'w' && windows < 16;
                    if (!may) {
                        return i;
                    }
                    told |= c == 'v';
                    houses += c == 'd' ? 1 : 0;
                    windows += c == 'w' ? 1 : 0;
                    clause = c;
                    next = "item";
                } else if (next.equals("number")) {
                    if (!digit) {
                        return i;
                    }
                    digits = "" + c;
                    lastDigit = i;
                    next = "digits";
                } else if (c == ';') {
                    endClause();
                    next = "clause";
                } else if (bound(clause, c) < 0 || items.containsKey(c)) {
                    return i;
                } else {
                    letter = c;
                    next = "number";
                }
            }
            if (!next.equals("item")) {
                return text.length();
            }
            endClause();
            broken = houses == 0 || at >= houses;
            for (int[] e : ends) {
                broken |= e[0] == e[1] || e[0] >= houses || e[1] >= houses;
            }
            return broken ? text.length() : -1;
        }
    }

    /** One object's run beside its model. */
    static final class Run {
        private static final LawOracle LAW_ORACLE = new LawOracle();
        private final int number;
        private final Dice dice;
        private final OneJoy joy = new OneJoy();
        private final List<Part> laws = new ArrayList<>();
        private int held = -1;
        private Place place;
        private Place image;
        private final Deque<Place> acts = new ArrayDeque<>();
        private final List<int[]> seen = new ArrayList<>();
        private int mist;
        private String tape = "";
        private final int most;

        Run(int number) {
            this.number = number;
            dice = new Dice(number);
            most = number % 10 == 0 ? 12 : dice.between(1, 8);
        }

        private void due(String call, long got, long want) {
            answers++;
            if (got != want) {
                wrong++;
                System.out.println("run " + number + ": " + call + " answered " + got + ", the model says " + want
                    + (place == null ? "" : " (at " + place.state() + " of " + place.n + ")"));
            }
        }

        void play() {
            for (int i = 0; i < 12; i++) {
                oneCall();
            }
            newVillage();
            for (int i = 0; i < CALLS && wrong == 0; i++) {
                oneCall();
            }
        }

        private void feed(String text) {
            int[] n = new int[5];
            for (int i = 0; i < text.length(); i += 20) {
                for (int k = 0; k < 5; k++) {
                    n[k] = 0;
                    for (int b = 0; b < 4; b++) {
                        int at = i + 4 * k + b;
                        n[k] = n[k] << 8 | (at < text.length() ? text.charAt(at) : 0);
                    }
                }
                String part = text.substring(i, Math.min(text.length(), i + 20));
                boolean fits = tape.length() + part.length() <= 240;
                tape += fits ? part : "";
                due("feed", joy.feed(n[0], n[1], n[2], n[3], n[4]), fits ? tape.length() : -1);
            }
        }

        private void emptyTape() {
            due("end(0)", joy.end(0) ? 1 : 0, 1);
            tape = "";
        }

        private String item(String letter, int value, int first) {
            if (value == first && dice.oneIn(2)) {
                return "";
            }
            String digits = value < 10 && dice.oneIn(12) ? "0" + value : "" + value;
            return (dice.oneIn(12) ? " " : "") + letter + (dice.oneIn(12) ? " " : "") + digits;
        }

        private String villageText(Place p) {
            p.n = dice.between(Math.max(1, most / 2), most);
            p.at = dice.roll(p.n);
            p.hour = dice.roll(24);
            p.music = dice.oneIn(2);
            List<String> clauses = new ArrayList<>();
            for (int h = 0; h < p.n; h++) {
                p.want[h] = dice.roll(10);
                p.envy[h] = dice.roll(dice.oneIn(3) ? 10 : 3);
                p.peace[h] = dice.roll(dice.oneIn(6) ? 10 : 4);
                p.kids[h] = dice.oneIn(3) ? dice.roll(10) : 0;
                p.tune[h] = dice.oneIn(2) ? dice.roll(10) : 0;
                p.back[h] = dice.oneIn(4);
                clauses.add("d" + item("w", p.want[h], 5) + item("e", p.envy[h], 1) + item("p", p.peace[h], 1)
                    + item("k", p.kids[h], 0) + item("t", p.tune[h], 0) + item("b", p.back[h] ? 1 : 0, 0));
            }
            int windows = p.n < 2 ? 0 : dice.oneIn(6) ? dice.roll(4) : Math.min(16, dice.between(p.n - 1, 2 * p.n));
            for (int i = 0; i < windows; i++) {
                int a = dice.roll(p.n);
                int b = (a + 1 + dice.roll(p.n - 1)) % p.n;
                int o = dice.oneIn(3) ? 1 : 0;
                p.windows.add(new int[] {a, b, o, 0});
                clauses.add(clauses.size() == 0 ? "" : "w" + item("a", a, 0) + item("b", b, 1) + item("o", o, 0));
            }
            clauses.add(dice.roll(clauses.size() + 1),
                "v" + item("a", p.at, 0) + item("h", p.hour, 0) + item("m", p.music ? 1 : 0, 0));
            return String.join(dice.oneIn(6) ? " ; " : ";", clauses);
        }

        private void newVillage() {
            Place p = new Place();
            String text = villageText(p);
            for (int i = 0; i < 20 && text.length() > 240; i++) {
                p = new Place();
                text = villageText(p);
            }
            if (text.length() > 240) {
                return;
            }
            emptyTape();
            feed(text);
            due("fault(0) of " + text, joy.fault(0), new VillageOracle().fault(text));
            due("text(0)", joy.text(0), p.n);
            tape = "";
            p.law = held < 0 ? null : laws.get(held);
            place = p;
            image = null;
            acts.clear();
            seen.clear();
        }

        private void newLaw() {
            LawMaker maker = new LawMaker(dice);
            Part law = maker.law();
            String text = maker.text.toString();
            if (text.length() > 240) {
                return;
            }
            emptyTape();
            feed(text);
            due("fault(1) of " + text, joy.fault(1), text.length() > 70 ? -1 : LAW_ORACLE.fault(text));
            if (laws.size() == 4) {
                due("text(1)", joy.text(1), -1);
                due("count(3)", joy.count(3), text.length());
            } else {
                due("text(1)", joy.text(1), laws.size());
                tape = "";
                laws.add(law);
            }
        }

        private String marred(String text, String signs) {
            StringBuilder b = new StringBuilder(text);
            for (int i = dice.between(1, 3); i > 0; i--) {
                int at = dice.roll(b.length() + 1);
                char sign = signs.charAt(dice.roll(signs.length()));
                int how = dice.roll(4);
                if (how == 0 && at < b.length()) {
                    b.deleteCharAt(at);
                } else if (how == 1 && at < b.length()) {
                    b.setCharAt(at, sign);
                } else if (how == 2) {
                    b.setLength(at);
                } else {
                    b.insert(at, sign);
                }
            }
            return b.toString();
        }

        private void marredText() {
            emptyTape();
            boolean village = dice.oneIn(2);
            String text;
            if (village) {
                text = marred(villageText(new Place()), "vdw ;ahmwepktbo0123456789x" + (char) 200);
            } else {
                LawMaker maker = new LawMaker(dice);
                maker.law();
                text = maker.text.toString();
                text = marred(text.substring(0, Math.min(60, text.length())), "y:;!([])|&=<>+-*/0123456789wepktbuh ?x");
            }
            if (text.length() > 240) {
                return;
            }
            feed(text);
            int want = village ? new VillageOracle().fault(text) : LAW_ORACLE.fault(text);
            due("fault of '" + text + "'", joy.fault(village ? 0 : 1), want);
            if (want != -1) {
                due("text", joy.text(village ? 0 : 1), -1);
                due("count(3)", joy.count(3), text.length());
            }
            if (dice.oneIn(2)) {
                int n = dice.between(-1, text.length() + 1);
                boolean may = n >= 0 && n <= text.length();
                due("end", joy.end(n) ? 1 : 0, may ? 1 : 0);
                tape = may ? tape.substring(0, n) : tape;
                due("count(3)", joy.count(3), tape.length());
            }
        }

        private int someHouse() {
            return dice.between(dice.oneIn(12) ? -1 : 0, place == null || dice.oneIn(12) ? 12 : place.n - 1);
        }

        private boolean isHouse(int h) {
            return place != null && h >= 0 && h < place.n;
        }

        private void keep() {
            acts.push(place.copy());
            if (acts.size() > 40) {
                acts.removeLast();
            }
        }

        private void oneCall() {
            int kind = dice.roll(50);
            if (kind < 1 && dice.oneIn(3)) {
                newVillage();
            } else if (kind < 2) {
                newLaw();
            } else if (kind < 4) {
                marredText();
            } else if (kind < 6) {
                law();
            } else if (kind < 23) {
                change(dice.roll(14));
            } else if (kind < 26) {
                counts();
            } else {
                ask(dice.roll(23));
            }
        }

        private void law() {
            int law = dice.between(-2, laws.size());
            boolean may = law >= -1 && law < laws.size();
            due("law(" + law + ")", joy.law(law) ? 1 : 0, may ? 1 : 0);
            if (may) {
                held = law;
                if (place != null) {
                    place.law = law < 0 ? null : laws.get(law);
                }
            }
        }

        private void change(int what) {
            boolean is = dice.oneIn(2);
            int h = someHouse();
            if (what == 0) {
                boolean may = isHouse(h) && place.back[h] != is;
                if (may) {
                    keep();
                    place.back[h] = is;
                }
                due("turn(" + h + ")", joy.turn(h, is) ? 1 : 0, may ? 1 : 0);
            } else if (what == 1) {
                int w = dice.between(-1, place == null ? 1 : place.windows.size());
                is = dice.oneIn(3);
                boolean may = place != null && w >= 0 && w < place.windows.size()
                    && place.windows.get(w)[3] != (is ? 1 : 0);
                if (may) {
                    keep();
                    place.windows.get(w)[3] = is ? 1 : 0;
                }
                due("shut(" + w + ")", joy.shut(w, is) ? 1 : 0, may ? 1 : 0);
            } else if (what == 2) {
                boolean may = place != null && place.music != is;
                if (may) {
                    keep();
                    place.music = is;
                }
                due("music", joy.music(is) ? 1 : 0, may ? 1 : 0);
            } else if (what == 3) {
                is = dice.oneIn(3);
                boolean may = place != null && place.fog != is;
                if (may) {
                    keep();
                    place.fog = is;
                }
                due("fog", joy.fog(is) ? 1 : 0, may ? 1 : 0);
            } else if (what == 4) {
                boolean may = isHouse(h) && place.want[h] < 9;
                if (may) {
                    keep();
                    place.want[h]++;
                }
                due("prescribe(" + h + ")", joy.prescribe(h), may ? place.want[h] : -1);
            } else if (what == 5) {
                boolean may = place != null && (place.at + 3) % place.n != place.at;
                if (may) {
                    keep();
                    place.before = place.at;
                    place.at = (place.at + 3) % place.n;
                }
                due("lie", joy.lie(), may ? place.at : -1);
            } else if (what < 9) {
                go();
            } else if (what == 9) {
                int v = dice.between(-1, 100);
                boolean may = v >= 0 && v <= 99 && v != mist;
                mist = may ? v : mist;
                due("mist(" + v + ")", joy.mist(v) ? 1 : 0, may ? 1 : 0);
            } else if (what == 10) {
                mists();
            } else if (what < 13) {
                undo();
            } else {
                imageOrBack();
            }
        }

        private int someHours() {
            return dice.oneIn(8) ? dice.between(-1, 241) : dice.between(1, dice.oneIn(3) ? 70 : 6);
        }

        private boolean mayGo(int n) {
            return place != null && n >= 1 && n <= 240 && place.hour + n <= 9999;
        }

        private void go() {
            int n = someHours();
            boolean may = mayGo(n);
            for (int i = 0; may && i < n; i++) {
                keep();
                place.hour();
            }
            due("go(" + n + ")", joy.go(n), may ? place.hour : -1);
        }

        private void mists() {
            int n = someHours();
            boolean may = mayGo(n);
            long seed = (long) dice.roll(1 << 30) * dice.roll(1 << 30) * (dice.oneIn(2) ? 7 : -9);
            long x = seed;
            for (int i = 0; may && i < n; i++) {
                x = x * 6364136223846793005L + 1442695040888963407L;
                boolean foggy = Long.remainderUnsigned(x >>> 33, 100) < mist;
                keep();
                place.hour(4095, place.fog || foggy);
            }
            due("mists(" + n + ")", joy.mists(n, seed), may ? place.hour : -1);
        }

        private void undo() {
            for (int i = dice.oneIn(6) ? 45 : dice.between(1, 3); i > 0; i--) {
                boolean may = !acts.isEmpty();
                if (may) {
                    Part law = place.law;
                    place = acts.pop();
                    place.law = law;
                }
                due("undo", joy.undo(), may ? acts.size() : -1);
            }
        }

        private void imageOrBack() {
            if (dice.oneIn(2)) {
                image = place == null ? null : place.copy();
                due("image", joy.image(), place == null ? -1 : place.hour);
            } else {
                if (image != null) {
                    Part law = place.law;
                    place = image.copy();
                    place.law = law;
                    acts.clear();
                }
                due("back", joy.back(), image == null ? -1 : place.hour);
            }
        }

        private void counts() {
            Place p = place;
            int laughs = 0;
            for (int h = 0; p != null && h < p.n; h++) {
                laughs += p.laughs[h];
            }
            long[] want = {p == null ? 0 : p.n, p == null ? 0 : p.windows.size(), laws.size(), tape.length(), held,
                p == null ? 0 : p.hour, p == null ? -1 : p.at, p == null ? -1 : p.before,
                p != null && p.music ? 1 : 0, p != null && p.fog ? 1 : 0, laughs, mist, seen.size(),
                p == null ? 0 : Math.min(60, p.log.size()), acts.size(), -1000000};
            for (int i = 0; i < want.length; i++) {
                due("count(" + i + ")", joy.count(i), want[i]);
            }
            due("count(-1)", joy.count(-1), -1000000);
            int h = someHouse();
            for (int what = -1; what <= 7; what++) {
                boolean may = isHouse(h) && what >= 0 && what <= 6;
                boolean threw = false;
                int got = 0;
                try {
                    got = joy.house(h, what);
                } catch (java.util.NoSuchElementException e) {
                    threw = true;
                }
                due("house(" + h + ", " + what + ") throws", threw ? 1 : 0, may ? 0 : 1);
                if (may && !threw) {
                    int[] all = {p.want[h], p.envy[h], p.peace[h], p.kids[h], p.tune[h], p.back[h] ? 1 : 0, p.laughs[h]};
                    due("house(" + h + ", " + what + ")", got, all[what]);
                }
            }
            int w = dice.between(-1, p == null ? 1 : p.windows.size());
            for (int what = -1; what <= 4; what++) {
                boolean may = p != null && w >= 0 && w < p.windows.size() && what >= 0 && what <= 3;
                due("window(" + w + ", " + what + ")", joy.window(w, what), may ? p.windows.get(w)[what] : -1);
            }
            int i = dice.between(-1, 61);
            boolean may = p != null && i >= 0 && i < Math.min(60, p.log.size());
            due("log(" + i + ")", joy.log(i), may ? p.log.get(p.log.size() - 1 - i) : -1);
        }

        private void ask(int what) {
            int h = someHouse();
            int n = dice.oneIn(10) ? dice.between(-1, 31) : dice.between(0, 9);
            switch (what) {
                case 0:
                    due("wish(" + h + ")", joy.wish(h), isHouse(h) ? place.wish(h) : -1000000);
                    break;
                case 1:
                    n = dice.between(-1, 100);
                    due("ahead(" + n + ")", joy.ahead(n), place != null && n >= 0 && n < 100 ? place.atBehind(n) : -1);
                    break;
                case 2:
                    due("when(" + h + ")", joy.when(h), isHouse(h) ? when(place, h) : -1);
                    break;
                case 3:
                case 4:
                    round();
                    break;
                case 5:
                case 6:
                    due("stand(" + h + ", " + n + ")", joy.stand(h, n), isHouse(h) && n > 0 && n < 31 ? stand(h, n) : -1);
                    break;
                case 7:
                case 8:
                    due("lies(" + h + ", " + n + ")", joy.lies(h, n),
                        isHouse(h) && n >= 0 && n < 31 ? lies(place.apart(), h, n, new HashMap<>()) : -1);
                    break;
                case 9:
                    if (dice.oneIn(2)) {
                        due("shutters(" + h + ")", joy.shutters(h), isHouse(h) ? shutters(h) : -1);
                    }
                    break;
                case 10:
                case 11:
                    feast(h, n, dice.between(dice.oneIn(9) ? -1 : 0, dice.oneIn(9) ? 2 : 1));
                    break;
                case 12:
                case 13:
                    odds(h, n, dice.oneIn(4) ? dice.between(-1, 1) * 100 : dice.between(-1, 101));
                    break;
                case 14:
                    pretend(h, someHouse(), dice.between(dice.oneIn(9) ? -1 : 0, 1), dice.between(0, dice.oneIn(9) ? 2 : 1));
                    break;
                case 15:
                    rests(h, someHouse());
                    break;
                case 16:
                case 17:
                    see();
                    break;
                case 18:
                case 19:
                    envied();
                    break;
                case 20:
                    sills();
                    break;
                case 21:
                    due("sees(" + h + ")", joy.sees(h), isHouse(h) ? bits(place.watchers(h)) : -1);
                    break;
                default:
                    mostAndWidows();
                    break;
            }
        }

        private static long bits(Iterable<Integer> set) {
            long bits = 0;
            for (int h : set) {
                bits |= 1L << h;
            }
            return bits;
        }

        private static int when(Place place, int h) {
            Place p = place.apart();
            for (int i = 0; i < 3800; i++) {
                if (p.at == h) {
                    return i;
                }
                p.hour();
            }
            return -1;
        }

        private void round() {
            due("round(2)", joy.round(2), -1);
            due("round(-1)", joy.round(-1), -1);
            if (place == null) {
                due("round(0)", joy.round(0), -1);
                due("never", joy.never(), -1);
                due("feud", joy.feud(), -1);
                return;
            }
            List<String> states = new ArrayList<>();
            Map<String, Integer> first = new HashMap<>();
            Place p = place.apart();
            long met = 0;
            for (int i = 0; i < 3800 && !first.containsKey(p.state()); i++) {
                first.put(p.state(), i);
                states.add(p.state());
                met |= 1L << p.at;
                p.hour();
            }
            int lead = first.get(p.state());
            due("round(0)", joy.round(0), lead);
            due("round(1)", joy.round(1), states.size() - lead);
            due("never", joy.never(), (1L << place.n) - 1 - met);
            TreeSet<Integer> again = new TreeSet<>();
            for (int i = 0; i < 3800; i++) {
                again.add(p.at);
                p.hour();
            }
            due("feud", joy.feud(), bits(again));
        }

        private int stand(int h, int n) {
            int best = -1;
            for (int set = 0; set < 1 << place.n; set++) {
                if (best >= 0 && Integer.bitCount(set) >= Integer.bitCount(best)) {
                    continue;
                }
                Place p = place.apart();
                boolean may = true;
                for (int i = 0; i < p.n; i++) {
                    if ((set >> i & 1) == 1) {
                        may &= !p.back[i];
                        p.back[i] = true;
                    }
                }
                if (may && p.atBehind(n) == h) {
                    best = set;
                }
            }
            return best;
        }

        /** The fewest lies from here, left hours to go, or NONE. */
        private static int lies(Place p, int h, int left, Map<String, Integer> known) {
            if (left == 0) {
                return p.at == h ? 0 : -1;
            }
            String key = p.state() + "," + left;
            if (known.containsKey(key)) {
                return known.get(key);
            }
            Place on = p.copy();
            on.hour();
            int fewest = lies(on, h, left - 1, known);
            if ((p.at + 3) % p.n != p.at) {
                Place lied = p.copy();
                lied.before = p.at;
                lied.at = (p.at + 3) % p.n;
                lied.hour();
                int so = lies(lied, h, left - 1, known);
                if (so >= 0 && (fewest < 0 || so + 1 < fewest)) {
                    fewest = so + 1;
                }
            }
            known.put(key, fewest);
            return fewest;
        }

        private int shutters(int h) {
            for (int size = 0; size <= 3; size++) {
                for (int set = 0; set < 1 << place.windows.size(); set++) {
                    if (Integer.bitCount(set) != size) {
                        continue;
                    }
                    Place p = place.apart();
                    boolean may = true;
                    for (int w = 0; w < p.windows.size(); w++) {
                        if ((set >> w & 1) == 1) {
                            may &= p.windows.get(w)[3] == 0;
                            p.windows.get(w)[3] = 1;
                        }
                    }
                    if (may && !reaches(p, h)) {
                        return set;
                    }
                }
            }
            return -1;
        }

        private static boolean reaches(Place place, int h) {
            Place p = place.apart();
            TreeSet<String> been = new TreeSet<>();
            while (been.add(p.state())) {
                if (p.at == h) {
                    return true;
                }
                p.hour();
            }
            return false;
        }

        private void feast(int h, int n, int what) {
            int more = -1;
            int who = -1;
            if (isHouse(h) && n >= 1 && n <= 30) {
                more = place.atBehind(n) == h ? 0 : -1;
                for (int m = 1; m <= 9 && more < 0; m++) {
                    for (int i = 0; i < place.n && more < 0; i++) {
                        Place p = place.apart();
                        p.want[i] = Math.min(9, p.want[i] + m);
                        if (p.atBehind(n) == h) {
                            more = m;
                            who = i;
                        }
                    }
                }
            }
            due("feast(" + h + ", " + n + ", " + what + ")", joy.feast(h, n, what), what == 0 ? more : what == 1 ? who : -1);
        }

        private void odds(int h, int n, int chance) {
            boolean may = isHouse(h) && n >= 0 && n <= 30 && chance >= 0 && chance <= 100;
            if (!may) {
                due("odds(" + h + ", " + n + ", " + chance + ")", joy.odds(h, n, chance), -1);
                due("mean(" + h + ", " + n + ", " + chance + ")", joy.mean(h, n, chance), -1);
                return;
            }
            Map<String, Long> parts = new TreeMap<>();
            Map<String, Place> places = new HashMap<>();
            Place first = place.apart();
            parts.put(first.state(), 1000000000L);
            places.put(first.state(), first);
            long together = 0;
            for (int i = 0; i < n; i++) {
                Map<String, Long> then = new TreeMap<>();
                for (Map.Entry<String, Long> e : parts.entrySet()) {
                    Place stays = places.get(e.getKey()).copy();
                    Place goes = stays.copy();
                    long held = e.getValue() * chance / 100;
                    stays.hour(4095, true);
                    goes.hour(4095, false);
                    then.merge(stays.state(), held, Long::sum);
                    then.merge(goes.state(), e.getValue() - held, Long::sum);
                    places.put(stays.state(), stays);
                    places.put(goes.state(), goes);
                }
                parts = then;
                together += partsAt(parts, h);
            }
            due("odds(" + h + ", " + n + ", " + chance + ")", joy.odds(h, n, chance), partsAt(parts, h));
            due("mean(" + h + ", " + n + ", " + chance + ")", joy.mean(h, n, chance), n == 0 ? -1 : together / 1000);
        }

        private static long partsAt(Map<String, Long> parts, int h) {
            long sum = 0;
            for (Map.Entry<String, Long> e : parts.entrySet()) {
                sum += e.getKey().startsWith(h + ",") ? e.getValue() : 0;
            }
            return sum;
        }

        private boolean areTwo(int one, int other) {
            return isHouse(one) && isHouse(other) && one != other;
        }

        private int gain(int one, int other, int x, int y) {
            Place p = place.apart();
            p.back[one] = x == 1;
            p.back[other] = y == 1;
            p.kids = new int[12];
            p.laughs = new int[12];
            for (int i = 0; i < 24; i++) {
                // Without kids the letter k would be another one: only the laughs go without.
                p.kids = place.kids.clone();
                int[] laughs = p.laughs.clone();
                p.hour();
                p.laughs = laughs;
                p.laughs[p.at]++;
            }
            return p.laughs[one] - p.laughs[other];
        }

        private void pretend(int one, int other, int x, int y) {
            boolean may = areTwo(one, other) && x >= 0 && x <= 1 && y >= 0 && y <= 1;
            due("pretend(" + one + ", " + other + ", " + x + ", " + y + ")", joy.pretend(one, other, x, y),
                may ? gain(one, other, x, y) : -1000000);
        }

        private void rests(int one, int other) {
            List<Integer> rests = new ArrayList<>();
            boolean may = areTwo(one, other);
            for (int x = 0; may && x < 2; x++) {
                for (int y = 0; y < 2; y++) {
                    int so = gain(one, other, x, y);
                    if (gain(one, other, 1 - x, y) <= so && gain(one, other, x, 1 - y) >= so) {
                        rests.add(10 * x + y);
                    }
                }
            }
            due("rests(" + one + ", " + other + ", -1)", joy.rests(one, other, -1), may ? rests.size() : -1);
            due("rests(.., -2)", joy.rests(one, other, -2), -1);
            for (int i = 0; i < 5; i++) {
                due("rests(" + one + ", " + other + ", " + i + ")", joy.rests(one, other, i), i < rests.size() ? rests.get(i) : -1);
            }
        }

        private void see() {
            int j = dice.oneIn(6) ? dice.between(0, 21) : dice.between(1, 4);
            int h = place != null && j > 0 && !dice.oneIn(4) ? place.atBehind(j) : someHouse();
            boolean may = isHouse(h) && j >= 1 && j <= 20 && seen.size() < 12;
            if (may) {
                seen.add(new int[] {j, h});
            }
            due("see(" + j + ", " + h + ")", joy.see(j, h), may ? seen.size() : -1);
        }

        private void envied() {
            if (place == null) {
                due("envied", joy.envied(-1), -1);
                due("sure", joy.sure(), -1);
                return;
            }
            List<Integer> sets = new ArrayList<>();
            int common = (1 << place.n) - 1;
            for (int set = 0; set < 1 << place.n; set++) {
                Place p = place.apart();
                boolean so = true;
                for (int j = 1; j <= 20 && so; j++) {
                    p.hour(set, false);
                    for (int[] s : seen) {
                        so &= s[0] != j || s[1] == p.at;
                    }
                }
                if (so) {
                    sets.add(set);
                    common &= set;
                }
            }
            due("envied(-1)", joy.envied(-1), sets.size());
            due("envied(-2)", joy.envied(-2), -1);
            due("envied(" + sets.size() + ")", joy.envied(sets.size()), -1);
            if (!sets.isEmpty()) {
                int i = dice.roll(sets.size());
                due("envied(" + i + ")", joy.envied(i), sets.get(i));
            }
            due("sure", joy.sure(), sets.isEmpty() ? -1 : common);
        }

        private void sills() {
            if (place == null) {
                due("sills", joy.sills(), -1);
                return;
            }
            long sills = 0;
            Place p = place.apart();
            for (int i = 0; i < 48; i++) {
                int from = p.at;
                p.hour();
                for (int w = 0; w < p.windows.size() && p.at != from; w++) {
                    int[] window = p.windows.get(w);
                    boolean there = window[0] == from && window[1] == p.at;
                    boolean round = window[2] == 0 && window[1] == from && window[0] == p.at;
                    if (window[3] == 0 && (there || round)) {
                        sills |= 1L << w;
                        break;
                    }
                }
            }
            due("sills", joy.sills(), sills);
        }

        private void mostAndWidows() {
            if (place == null) {
                due("most", joy.most(), -1);
                due("widows", joy.widows(), -1);
                return;
            }
            int most = 0;
            long widows = 0;
            for (int h = 0; h < place.n; h++) {
                most = place.laughs[h] > place.laughs[most] ? h : most;
                widows |= place.laughs[h] == 0 ? 1L << h : 0;
            }
            due("most", joy.most(), most);
            due("widows", joy.widows(), widows);
        }
    }
}
