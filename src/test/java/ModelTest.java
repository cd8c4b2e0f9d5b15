import java.math.BigInteger;
import java.util.ArrayList;
import java.util.Arrays;
import java.util.List;
import java.util.Random;

/** Random runs of calls, each answer beside that of a plain model which counts everything anew. */
public final class ModelTest {
    private static final int RUNS = 4000;
    /** What later calls answer is free. */
    private static final int MOST_CALLS = 512;
    private static final String[] NAMES = {
        "feed", "end", "text", "fault", "rule", "cell", "thread", "law", "stitch", "amend", "spool", "plan", "cut",
        "enact", "work", "unpick", "moth", "mend", "runs", "ahead", "best", "need", "loose", "dye", "turn", "leave",
        "luck", "mean", "see", "forget", "fills", "shades", "span", "ask", "drift", "keep", "back", "sheet", "lay",
        "read", "torn", "count"
    };
    private static final int[] WILD = {Integer.MIN_VALUE, -100, -2, -1, 7, 14, 41, 61, 100, 128, 161, Integer.MAX_VALUE};

    public static void main(String[] args) {
        int wrong = 0;
        for (int run = 0; run < RUNS && wrong == 0; run++) {
            if (!runAgrees(run)) wrong++;
        }
        System.out.println(wrong == 0 ? RUNS + " runs agree with the model" : "the model answers otherwise");
        if (wrong != 0) System.exit(1);
    }

    private static boolean runAgrees(int run) {
        Random random = new Random(run);
        SamplerLaw real = new SamplerLaw();
        Plain model = new Plain();
        List<String> log = new ArrayList<>();
        int calls = 0;
        while (calls < MOST_CALLS) {
            if (random.nextInt(40) == 0) {
                String text = randomText(random);
                if (calls + text.length() + 2 > MOST_CALLS) break;
                calls += text.length() + 2;
                for (int j = 0; j < text.length(); j++) {
                    real.feed(text.charAt(j));
                    model.call("feed", new int[] {text.charAt(j), 0, 0, 0});
                }
                log.add("fed: " + text);
                if (!sameAnswer(real, model, "text", new int[4], log)) return false;
                if (!sameAnswer(real, model, "fault", new int[4], log)) return false;
                continue;
            }
            String name = NAMES[random.nextInt(NAMES.length)];
            if (name.equals("text") && random.nextInt(4) != 0) continue;
            calls++;
            if (!sameAnswer(real, model, name, argumentsOf(name, random), log)) return false;
        }
        return true;
    }

    private static boolean sameAnswer(SamplerLaw real, Plain model, String name, int[] a, List<String> log) {
        long due = model.call(name, a);
        long got = callReal(real, name, a);
        log.add(name + Arrays.toString(a) + " = " + got);
        if (got == due) return true;
        for (String line : log) System.out.println(line);
        System.out.println("the model's answer is " + due);
        return false;
    }

    private static int upTo(Random r, int below) {
        if (r.nextInt(40) == 0) return WILD[r.nextInt(WILD.length)];
        return r.nextInt(below);
    }

    private static int[] argumentsOf(String name, Random r) {
        switch (name) {
            case "feed": return new int[] {r.nextInt(3) == 0 ? upTo(r, 128) : 32, 0, 0, 0};
            case "end": return new int[] {upTo(r, 4), 0, 0, 0};
            case "rule": case "count": return new int[] {upTo(r, 7), 0, 0, 0};
            case "thread": return new int[] {upTo(r, 5), 0, 0, 0};
            case "law": return new int[] {upTo(r, 4), upTo(r, 7), 0, 0};
            case "stitch": return new int[] {upTo(r, 6), upTo(r, 4), 0, 0};
            case "amend": return new int[] {upTo(r, 4), upTo(r, 4), 1 + upTo(r, 3), 0};
            case "spool": return new int[] {upTo(r, 4), r.nextInt(3) == 0 ? upTo(r, 3) : upTo(r, 99), 0, 0};
            case "plan": return new int[] {upTo(r, 6), upTo(r, 4), 1 + upTo(r, 3), 0};
            case "work": return new int[] {upTo(r, 6), upTo(r, 6), 1 + upTo(r, 3), 0};
            case "cut": return new int[] {upTo(r, 12), 0, 0, 0};
            case "enact": return new int[] {upTo(r, 4), 1 + upTo(r, 3), 1 + upTo(r, 3), 1 + upTo(r, 9)};
            case "runs": return new int[] {upTo(r, 4), 0, 0, 0};
            case "need": return new int[] {upTo(r, 4), r.nextInt(3) == 0 ? upTo(r, 2) : 10 + upTo(r, 2), 0, 0};
            case "luck": return new int[] {upTo(r, 11), upTo(r, 4), upTo(r, 2), 0};
            case "mean": return new int[] {upTo(r, 11), upTo(r, 2), 0, 0};
            case "see": return new int[] {upTo(r, 4), upTo(r, 3), 0, 0};
            case "forget": return new int[] {upTo(r, 3), 0, 0, 0};
            case "drift": return new int[] {r.nextInt(), 1 + upTo(r, 60), upTo(r, 2), 0};
            case "sheet": return new int[] {upTo(r, 4), upTo(r, 3), upTo(r, 41), 0};
            case "lay": return new int[] {upTo(r, 4), upTo(r, 12), upTo(r, 4) + (r.nextInt(6) == 0 ? 256 : 0), 0};
            case "read": return new int[] {upTo(r, 4), upTo(r, 3), upTo(r, 6), upTo(r, 5)};
            case "loose": return new int[] {upTo(r, 4), upTo(r, 2), 0, 0};
            case "cell": case "unpick": case "moth": case "mend": case "ahead": case "shades":
                return new int[] {upTo(r, 6), upTo(r, 6), 0, 0};
            default: return new int[] {upTo(r, 2), 0, 0, 0};
        }
    }

    private static String randomText(Random r) {
        String[] parts = {"row", "beside", "mirror", "above", "cross", "thread", ";", "rows", "!", "7", "100", "01"};
        StringBuilder text = new StringBuilder();
        int lines = r.nextInt(10);
        for (int i = 0; i < lines; i++) {
            int kind = r.nextInt(4);
            if (kind == 0) {
                text.append("thread ").append(1 + r.nextInt(3)).append(' ').append(r.nextInt(100)).append(';');
            } else if (kind == 1) {
                text.append(parts[1 + r.nextInt(4)]).append(' ').append(1 + r.nextInt(3)).append(' ');
                text.append(1 + r.nextInt(3)).append("  ").append(1 + r.nextInt(9)).append(" ; ");
            } else {
                text.append("row").append(i % 6);
                int cells = r.nextInt(20) == 0 ? 7 : r.nextInt(7);
                for (int j = 0; j < cells; j++) text.append(' ').append(r.nextInt(9) == 0 ? 4 : r.nextInt(4));
                text.append(';');
            }
            if (r.nextInt(30) == 0) text.append(parts[r.nextInt(parts.length)]).append(' ');
        }
        if (r.nextInt(4) == 0 && text.length() > 0) text.deleteCharAt(r.nextInt(text.length()));
        if (r.nextInt(6) == 0) text.insert(r.nextInt(text.length() + 1), (char) r.nextInt(128));
        return text.toString();
    }

    private static long callReal(SamplerLaw s, String name, int[] a) {
        switch (name) {
            case "feed": return s.feed(a[0]);
            case "end": return s.end(a[0]);
            case "text": return s.text();
            case "fault": return s.fault();
            case "rule": return s.rule(a[0]);
            case "cell": return s.cell(a[0], a[1]);
            case "thread": return s.thread(a[0]);
            case "law": return s.law(a[0], a[1]);
            case "stitch": return s.stitch(a[0], a[1]);
            case "amend": return s.amend(a[0], a[1], a[2]);
            case "spool": return s.spool(a[0], a[1]);
            case "plan": return s.plan(a[0], a[1], a[2]);
            case "cut": return s.cut(a[0]);
            case "enact": return s.enact(a[0], a[1], a[2], a[3]);
            case "work": return s.work(a[0], a[1], a[2]);
            case "unpick": return s.unpick(a[0], a[1]);
            case "moth": return s.moth(a[0], a[1]);
            case "mend": return s.mend(a[0], a[1]);
            case "runs": return s.runs(a[0]);
            case "ahead": return s.ahead(a[0], a[1]);
            case "best": return s.best(a[0]);
            case "need": return s.need(a[0], a[1]);
            case "loose": return s.loose(a[0], a[1]);
            case "dye": return s.dye(a[0]);
            case "turn": return s.turn(a[0]);
            case "leave": return s.leave(a[0]);
            case "luck": return s.luck(a[0], a[1], a[2]);
            case "mean": return s.mean(a[0], a[1]);
            case "see": return s.see(a[0], a[1]);
            case "forget": return s.forget(a[0]);
            case "fills": return s.fills();
            case "shades": return s.shades(a[0], a[1]);
            case "span": return s.span(a[0]);
            case "ask": return s.ask(a[0]);
            case "drift": return s.drift(a[0], a[1], a[2]);
            case "keep": return s.keep(a[0]);
            case "back": return s.back(a[0]);
            case "sheet": return s.sheet(a[0], a[1], a[2]);
            case "lay": return s.lay(a[0], a[1], a[2]);
            case "read": return s.read(a[0], a[1], a[2], a[3]);
            case "torn": return s.torn();
            default: return s.count(a[0]);
        }
    }

    /** All that an image has, copied whole whenever something is tried. */
    private static final class State {
        int[][] cell = new int[6][6];
        int[] thread = {0, 20, 20, 20};
        List<int[]> laws = new ArrayList<>();
        List<int[]> plan = new ArrayList<>();

        State copy() {
            State other = new State();
            for (int x = 0; x < 6; x++) other.cell[x] = cell[x].clone();
            other.thread = thread.clone();
            for (int[] law : laws) other.laws.add(law.clone());
            for (int[] stitch : plan) other.plan.add(stitch.clone());
            return other;
        }

        int pairs(int dx, int dy, int first, int second) {
            int many = 0;
            for (int x = 0; x + dx < 6; x++) {
                for (int y = 0; y + dy < 6; y++) {
                    if (cell[x][y] == first && cell[x + dx][y + dy] == second) many++;
                }
            }
            return many;
        }

        int reads(int l) {
            int[] law = laws.get(l);
            if (law[0] == 0) return pairs(1, 0, law[1], law[2]);
            if (law[0] == 1) return pairs(1, 0, law[2], law[1]);
            if (law[0] == 2) return pairs(0, 1, law[1], law[2]);
            return pairs(1, 0, law[1], law[2]) + pairs(0, 1, law[1], law[2]);
        }

        int worth() {
            int sum = 0;
            for (int l = 0; l < laws.size(); l++) sum += laws.get(l)[3] * reads(l);
            return sum;
        }

        int held() {
            int bits = 0;
            for (int l = 0; l < laws.size(); l++) if (reads(l) >= 1) bits += 1 << l;
            return bits;
        }

        int shade(int low, int high) {
            int many = 0;
            for (int[] column : cell) for (int c : column) if (c >= low && c <= high) many++;
            return many;
        }

        State turned(int y) {
            State other = copy();
            for (int x = 0; x < 6; x++) other.cell[x][y] = cell[5 - x][y];
            return other;
        }

        /** Null, if the stitch can not be. */
        State with(int x, int y, int c) {
            if (x < 0 || x > 5 || y < 0 || y > 5 || c < 1 || c > 3) return null;
            if (cell[x][y] != 0 || thread[c] == 0) return null;
            State other = copy();
            other.cell[x][y] = c;
            other.thread[c]--;
            return other;
        }

        List<int[]> runners() {
            List<int[]> list = new ArrayList<>();
            for (int x = 0; x < 5; x++) {
                for (int y = 0; y < 6; y++) if (cell[x][y] == 1 && cell[x + 1][y] == 0) list.add(new int[] {x, y});
            }
            return list;
        }

        List<int[]> holeList() {
            List<int[]> list = new ArrayList<>();
            for (int x = 0; x < 6; x++) for (int y = 0; y < 6; y++) if (cell[x][y] == 4) list.add(new int[] {x, y});
            return list;
        }
    }

    /** What a text is refused for. */
    private static final class Refused extends Exception {
        private static final long serialVersionUID = 1L;
        final int fault;
        final int place;

        Refused(int fault, int place) {
            this.fault = fault;
            this.place = place;
        }
    }

    private static final class Parser {
        final String text;
        int at = 0;
        int start = 0;
        int lines = 0;
        State state = new State();

        Parser(String text) {
            this.text = text;
        }

        String token() throws Refused {
            while (at < text.length() && text.charAt(at) == ' ') at++;
            start = at;
            if (at == text.length()) return "";
            String rest = text.substring(at);
            String token = rest.replaceFirst("(?s)^([a-z]+|[0-9]+|;|).*$", "$1");
            if (token.isEmpty() || token.matches("[0-9]{3,}")) throw new Refused(1, start);
            at += token.length();
            return token;
        }

        int number(int low, int high) throws Refused {
            String token = token();
            if (!token.matches("[0-9]+")) throw new Refused(2, start);
            int n = Integer.parseInt(token);
            if (n < low || n > high) throw new Refused(3, start);
            return n;
        }

        void parse() throws Refused {
            List<Integer> rows = new ArrayList<>();
            List<Integer> threads = new ArrayList<>();
            List<String> kinds = List.of("beside", "mirror", "above", "cross");
            for (String name = token(); !name.isEmpty(); name = token()) {
                if (name.equals("row")) {
                    row(rows);
                } else if (name.equals("thread")) {
                    int c = number(1, 3);
                    if (threads.contains(c)) throw new Refused(4, start);
                    threads.add(c);
                    state.thread[c] = number(0, 99);
                    if (!token().equals(";")) throw new Refused(2, start);
                } else if (kinds.contains(name)) {
                    if (state.laws.size() == 5) throw new Refused(5, start);
                    state.laws.add(new int[] {kinds.indexOf(name), number(1, 3), number(1, 3), number(1, 9)});
                    if (!token().equals(";")) throw new Refused(2, start);
                } else {
                    throw new Refused(2, start);
                }
                lines++;
            }
        }

        void row(List<Integer> rows) throws Refused {
            int y = number(0, 5);
            if (rows.contains(y)) throw new Refused(4, start);
            rows.add(y);
            int x = 0;
            for (String token = token(); !token.equals(";"); token = token()) {
                if (!token.matches("[0-9]+")) throw new Refused(2, start);
                if (x == 6) throw new Refused(5, start);
                if (Integer.parseInt(token) > 4) throw new Refused(3, start);
                state.cell[x][y] = Integer.parseInt(token);
                x++;
            }
        }
    }

    private static final class Plain {
        private static final int BAD = -1;
        private static final int STATE = -2;
        private static final int FULL = -3;
        private static final int NONE = -4;
        State s = new State();
        String tape = "";
        int fault = 0;
        int torn = 0;
        List<int[]> seen = new ArrayList<>();
        State[] images = new State[2];
        long[][] sheets = new long[4][];
        int[] lanes = new int[4];

        long call(String name, int[] a) {
            switch (name) {
                case "feed": return feed(a[0]);
                case "end": {
                    if (a[0] < 0 || a[0] > tape.length()) return BAD;
                    int had = tape.length();
                    tape = tape.substring(0, a[0]);
                    return had;
                }
                case "text": return text();
                case "fault": return fault;
                case "rule": return rule(a[0]);
                case "cell": return cellBad(a) ? BAD : s.cell[a[0]][a[1]];
                case "thread": return a[0] < 1 || a[0] > 3 ? BAD : s.thread[a[0]];
                case "law": return law(a[0], a[1]);
                case "stitch": {
                    if (a[0] < 0 || a[0] >= s.plan.size() || a[1] < 0 || a[1] > 2) return BAD;
                    return s.plan.get(a[0])[a[1]];
                }
                case "amend": return amend(a[0], a[1], a[2]);
                case "spool": {
                    if (a[0] < 1 || a[0] > 3 || a[1] < 0 || a[1] > 99) return BAD;
                    int was = s.thread[a[0]];
                    s.thread[a[0]] = a[1];
                    return was;
                }
                case "plan": {
                    if (cellBad(a) || a[2] < 1 || a[2] > 3) return BAD;
                    if (s.plan.size() == 8) return FULL;
                    s.plan.add(a.clone());
                    return s.plan.size();
                }
                case "cut": return shorten(s.plan, a[0]);
                case "enact": return enact(a);
                case "work": {
                    if (cellBad(a) || a[2] < 1 || a[2] > 3) return BAD;
                    State then = s.with(a[0], a[1], a[2]);
                    if (then == null) return STATE;
                    s = then;
                    return s.worth();
                }
                case "unpick": return change(a, 1, 3, 0, false);
                case "moth": return change(a, 0, 3, 4, false);
                case "mend": return change(a, 4, 4, 0, true);
                default: return callMore(name, a);
            }
        }

        long callMore(String name, int[] a) {
            switch (name) {
                case "runs": return runs(a[0]);
                case "ahead": return cellBad(a) ? BAD : planned(s, -1).cell[a[0]][a[1]];
                case "best": return best(a[0]);
                case "need": return need(a[0], a[1]);
                case "loose": return loose(a[0], a[1]);
                case "dye": return dye(a[0]);
                case "turn": return turn(a[0]);
                case "leave": return leave(a[0]);
                case "luck": return odds(a[0], a[1], a[2]);
                case "mean": return odds(a[0], -1, a[1], true);
                case "see": {
                    if (a[0] < 0 || a[0] >= s.laws.size() || a[1] < 0 || a[1] > 60) return BAD;
                    if (seen.size() == 6) return FULL;
                    seen.add(a.clone());
                    return seen.size();
                }
                case "forget": return shorten(seen, a[0]);
                case "fills": return s.holeList().size() > 4 ? STATE : fitting().size();
                case "shades": return shades(a);
                case "span": return span(a[0]);
                case "ask": return ask(a[0]);
                case "drift": return drift(a[0], a[1], a[2]);
                case "keep": {
                    if (a[0] < 0 || a[0] > 1) return BAD;
                    int was = images[a[0]] == null ? 0 : 1;
                    images[a[0]] = s.copy();
                    return was;
                }
                case "back": {
                    if (a[0] < 0 || a[0] > 1) return BAD;
                    if (images[a[0]] == null) return STATE;
                    s = images[a[0]].copy();
                    return s.worth();
                }
                case "sheet": {
                    if (a[0] < 0 || a[0] > 3 || a[1] < 0 || a[1] > 2 || a[2] > 40) return BAD;
                    if (a[2] < 0) return -14;
                    sheets[a[0]] = new long[a[2]];
                    lanes[a[0]] = a[1];
                    return 1;
                }
                case "lay": return lay(a[0], a[1], a[2]);
                case "read": return read(a);
                case "torn": return torn;
                default: return count(a[0]);
            }
        }

        boolean cellBad(int[] a) {
            return a[0] < 0 || a[0] > 5 || a[1] < 0 || a[1] > 5;
        }

        boolean lawBad(int l) {
            return l < 0 || l >= s.laws.size();
        }

        int shorten(List<int[]> list, int n) {
            if (n < 0 || n > list.size()) return BAD;
            int had = list.size();
            list.subList(n, had).clear();
            return had;
        }

        int feed(int c) {
            if (c < 0 || c > 127) return BAD;
            if (tape.length() == 160) return FULL;
            tape += (char) c;
            return tape.length();
        }

        int text() {
            Parser parser = new Parser(tape);
            tape = "";
            fault = 0;
            try {
                parser.parse();
            } catch (Refused refused) {
                fault = refused.fault;
                return -10 - refused.place;
            }
            s = parser.state;
            seen.clear();
            images = new State[2];
            return parser.lines;
        }

        int rule(int what) {
            if (what == 0) return s.laws.size();
            if (what == 1) return s.shade(1, 3);
            if (what == 2) return s.shade(4, 4);
            if (what == 3) return s.plan.size();
            if (what == 4) return s.held();
            return what == 5 ? s.worth() : BAD;
        }

        int law(int l, int what) {
            if (lawBad(l) || what < 0 || what > 5) return BAD;
            if (what < 4) return s.laws.get(l)[what];
            if (what == 4) return s.reads(l);
            State behind = s;
            for (int y = 0; y < 6; y++) behind = behind.turned(y);
            return behind.reads(l);
        }

        boolean partBad(int what, int v) {
            int[] low = {0, 1, 1, 1};
            int[] high = {3, 3, 3, 9};
            return what < 0 || what > 3 || v < low[what] || v > high[what];
        }

        int amend(int l, int what, int v) {
            if (lawBad(l) || partBad(what, v)) return BAD;
            int was = s.laws.get(l)[what];
            s.laws.get(l)[what] = v;
            return was;
        }

        int enact(int[] a) {
            for (int i = 0; i < 4; i++) if (partBad(i, a[i])) return BAD;
            if (s.laws.size() == 5) return FULL;
            s.laws.add(a.clone());
            return s.laws.size();
        }

        int change(int[] a, int low, int high, int to, boolean tellHoles) {
            if (cellBad(a)) return BAD;
            int was = s.cell[a[0]][a[1]];
            if (was < low || was > high) return STATE;
            s.cell[a[0]][a[1]] = to;
            return tellHoles ? s.shade(4, 4) : was;
        }

        State planned(State from, int without) {
            State then = from;
            for (int i = 0; i < from.plan.size(); i++) {
                int[] p = from.plan.get(i);
                State next = i == without ? null : then.with(p[0], p[1], p[2]);
                if (next != null) then = next;
            }
            return then;
        }

        int runs(int what) {
            if (what < 0 || what > 3) return BAD;
            State then = planned(s, -1);
            if (what == 0) return then.worth();
            if (what == 1) return then.held();
            if (what == 2) return then.shade(1, 3) - s.shade(1, 3);
            State step = s;
            for (int i = 0; i < s.plan.size(); i++) {
                int[] p = s.plan.get(i);
                step = step.with(p[0], p[1], p[2]);
                if (step == null) return i;
            }
            return NONE;
        }

        /** Of rows {number, worth} the greatest worth above that which is, then the least number. */
        int most(List<int[]> offers, int asItIs, int what) {
            if (what != 0 && what != 1) return BAD;
            int[] found = null;
            for (int[] o : offers) {
                if (o[1] <= asItIs) continue;
                if (found == null || o[1] > found[1] || (o[1] == found[1] && o[0] < found[0])) found = o;
            }
            return found == null ? NONE : found[what];
        }

        int best(int what) {
            List<int[]> offers = new ArrayList<>();
            for (int y = 5; y >= 0; y--) {
                for (int x = 5; x >= 0; x--) {
                    for (int c = 3; c >= 1; c--) {
                        State then = s.with(x, y, c);
                        if (then != null) offers.add(new int[] {100 * x + 10 * y + c, then.worth()});
                    }
                }
            }
            return most(offers, s.worth(), what);
        }

        int need(int l, int what) {
            if (lawBad(l) || (what != 0 && what != 10 && what != 11)) return BAD;
            int[] row = needed(l);
            if (row == null) return NONE;
            if (what == 0) return row.length;
            return what - 10 < row.length ? row[what - 10] : NONE;
        }

        int[] needed(int l) {
            if (s.reads(l) > 0) return new int[0];
            for (int i = 0; i < 108; i++) {
                State then = s.with(i / 3 % 6, i / 18, 1 + i % 3);
                if (then != null && then.reads(l) > 0) return new int[] {code(i)};
            }
            for (int i = 0; i < 108; i++) {
                State one = s.with(i / 3 % 6, i / 18, 1 + i % 3);
                if (one == null) continue;
                for (int j = i + 1; j < 108; j++) {
                    int x = j / 3 % 6;
                    int y = j / 18;
                    int c = 1 + j % 3;
                    if (one.cell[x][y] != 0 || one.thread[c] == 0) continue;
                    one.cell[x][y] = c;
                    int reads = one.reads(l);
                    one.cell[x][y] = 0;
                    if (reads > 0) return new int[] {code(i), code(j)};
                }
            }
            return null;
        }

        int code(int i) {
            return 100 * (i / 3 % 6) + 10 * (i / 18) + 1 + i % 3;
        }

        int loose(int l, int what) {
            if (lawBad(l) || (what != 0 && what != 1)) return BAD;
            List<int[]> offers = new ArrayList<>();
            for (int x = 0; x < 6; x++) {
                for (int y = 0; y < 6; y++) {
                    if (s.cell[x][y] < 1 || s.cell[x][y] > 3) continue;
                    State then = s.copy();
                    then.cell[x][y] = 0;
                    offers.add(new int[] {10 * x + y, 100 - then.reads(l)});
                }
            }
            int got = most(offers, 100 - s.reads(l), what);
            return got == NONE || what == 0 ? got : 100 - got;
        }

        int dye(int what) {
            List<int[]> offers = new ArrayList<>();
            for (int[] pair : new int[][] {{1, 2}, {1, 3}, {2, 3}}) {
                State then = s.copy();
                for (int i = 0; i < 36; i++) {
                    int c = s.cell[i / 6][i % 6];
                    if (c == pair[0] || c == pair[1]) then.cell[i / 6][i % 6] = pair[0] + pair[1] - c;
                }
                offers.add(new int[] {10 * pair[0] + pair[1], then.worth()});
            }
            return most(offers, s.worth(), what);
        }

        int turn(int what) {
            List<int[]> offers = new ArrayList<>();
            for (int y = 0; y < 6; y++) offers.add(new int[] {y, s.turned(y).worth()});
            return most(offers, s.worth(), what);
        }

        int leave(int what) {
            List<int[]> offers = new ArrayList<>();
            for (int i = 0; i < s.plan.size(); i++) {
                State less = s.copy();
                less.plan.remove(i);
                offers.add(new int[] {i, planned(less, -1).worth()});
            }
            return most(offers, planned(s, -1).worth(), what);
        }

        long odds(int v, int l, int what) {
            return lawBad(l) ? BAD : odds(v, l, what, false);
        }

        long odds(int v, int l, int what, boolean worth) {
            if (v < 0 || v > 10 || (what != 0 && what != 1)) return BAD;
            List<int[]> runners = s.runners();
            if (runners.size() > 8) return STATE;
            BigInteger above = summed(s.copy(), runners, 0, v, l);
            BigInteger below = BigInteger.TEN.pow(runners.size());
            BigInteger divisor = above.gcd(below);
            return (what == 0 ? above : below).divide(divisor).longValueExact();
        }

        BigInteger summed(State then, List<int[]> runners, int i, int v, int l) {
            if (i == runners.size()) {
                return BigInteger.valueOf(l < 0 ? then.worth() : then.reads(l) > 0 ? 1 : 0);
            }
            int[] from = runners.get(i);
            BigInteger stays = summed(then, runners, i + 1, v, l).multiply(BigInteger.valueOf(10 - v));
            then.cell[from[0] + 1][from[1]] = 1;
            BigInteger ran = summed(then, runners, i + 1, v, l).multiply(BigInteger.valueOf(v));
            then.cell[from[0] + 1][from[1]] = 0;
            return stays.add(ran);
        }

        List<State> fitting() {
            List<State> all = List.of(s.copy());
            for (int[] hole : s.holeList()) {
                List<State> more = new ArrayList<>();
                for (State one : all) {
                    for (int c = 0; c < 4; c++) {
                        State then = one.copy();
                        then.cell[hole[0]][hole[1]] = c;
                        more.add(then);
                    }
                }
                all = more;
            }
            List<State> fit = new ArrayList<>();
            for (State one : all) {
                boolean fits = true;
                for (int[] what : seen) fits = fits && what[0] < s.laws.size() && one.reads(what[0]) == what[1];
                if (fits) fit.add(one);
            }
            return fit;
        }

        int shades(int[] a) {
            if (cellBad(a)) return BAD;
            if (s.cell[a[0]][a[1]] != 4 || s.holeList().size() > 4) return STATE;
            int bits = 0;
            for (State one : fitting()) bits |= 1 << one.cell[a[0]][a[1]];
            return bits;
        }

        int span(int what) {
            if (what != 0 && what != 1) return BAD;
            if (s.holeList().size() > 4) return STATE;
            List<Integer> worths = new ArrayList<>();
            for (State one : fitting()) worths.add(one.worth());
            worths.sort(null);
            return worths.isEmpty() ? NONE : worths.get(what == 0 ? 0 : worths.size() - 1);
        }

        int ask(int what) {
            if (what != 0 && what != 1) return BAD;
            if (s.holeList().size() > 4) return STATE;
            List<State> fit = fitting();
            List<int[]> offers = new ArrayList<>();
            for (int l = 0; l < s.laws.size(); l++) {
                int worst = 0;
                for (int n = 0; n <= 60; n++) {
                    int left = 0;
                    for (State one : fit) if (one.reads(l) == n) left++;
                    worst = Math.max(worst, left);
                }
                offers.add(new int[] {l, 1000 - worst});
            }
            int got = most(offers, 1000 - fit.size(), what);
            return got == NONE || what == 0 ? got : 1000 - got;
        }

        int drift(int seed, int n, int what) {
            if (n < 1 || n > 60 || (what != 0 && what != 1)) return BAD;
            State then = s.copy();
            BigInteger value = BigInteger.valueOf(seed);
            for (int i = 0; i < n; i++) {
                value = value.multiply(BigInteger.valueOf(1103515245)).add(BigInteger.valueOf(12345));
                value = value.mod(BigInteger.ONE.shiftLeft(32));
                int got = value.shiftRight(16).mod(BigInteger.valueOf(32768)).intValue();
                int x = got % 36 / 6;
                int y = got % 36 % 6;
                if (then.cell[x][y] == 4) {
                    then.cell[x][y] = 0;
                } else if (then.cell[x][y] > 0) {
                    then.cell[x][y] = 4;
                } else {
                    State stitched = then.with(x, y, 1 + got / 64 % 3);
                    if (stitched != null) then = stitched;
                }
            }
            return what == 0 ? then.worth() : then.shade(4, 4);
        }

        int lay(int k, int i, int v) {
            if (k < 0 || k > 3) return BAD;
            if (sheets[k] == null) return -11;
            if (i < 0 || i >= sheets[k].length) return -12;
            sheets[k][i] = lanes[k] == 0 ? (byte) v : lanes[k] == 1 ? (short) v : v;
            return 1;
        }

        int read(int[] a) {
            if (a[0] < 0 || a[0] > 3 || a[1] < 0 || a[1] > 2 || a[3] < 0 || a[3] > 13) return BAD;
            long[] row = sheets[a[0]];
            State then = s;
            int came = 0;
            int found = a[3] > 0 && row != null && lanes[a[0]] != a[1] ? 3 : 0;
            while (came < a[3] && found == 0) {
                int[] three = new int[3];
                for (int j = 0; j < 3 && found == 0; j++) {
                    long i = (long) a[2] + 3 * came + j;
                    if (row == null) {
                        found = 1;
                    } else if (i < 0 || i >= row.length) {
                        found = 2;
                    } else {
                        three[j] = (int) row[(int) i];
                    }
                }
                if (found != 0) break;
                then = then.with(three[0], three[1], three[2]);
                if (then == null) return -20 - came;
                came++;
            }
            s = then;
            torn = found;
            return came;
        }

        int count(int what) {
            if (what == 0) return seen.size();
            if (what == 1) return (images[0] == null ? 0 : 1) + (images[1] == null ? 0 : 1);
            if (what == 2) return tape.length();
            if (what == 3) return sheets[0] == null ? NONE : sheets[0].length;
            if (what == 4) return s.thread[1] + s.thread[2] + s.thread[3];
            return what == 5 ? s.runners().size() : BAD;
        }
    }
}
