import java.io.IOException;
import java.nio.file.Files;
import java.nio.file.Path;
import java.util.ArrayList;
import java.util.List;

/**
 * Each sentence of the document's Terms and promises, quoted, with a test of its own at the bounds that it names.
 * A quotation that the document does not have, a sentence that no test quotes, and one of which nothing is asked,
 * are faults too.
 * Every object is used for fewer than 512 calls, as what later calls answer is free.
 */
public final class BoundaryTest {
    private static final int BAD = SamplerLaw.BAD;
    private static final int STATE = SamplerLaw.STATE;
    private static final int FULL = SamplerLaw.FULL;
    private static final int NONE = SamplerLaw.NONE;
    private static final int LEAST = Integer.MIN_VALUE;
    private static final int MOST = Integer.MAX_VALUE;
    private static final int TERMS = 0;
    private static final int PROMISES = 43;
    private static final String[] SECTIONS = new String[PROMISES + 1];
    private static final boolean[][] QUOTED = new boolean[PROMISES + 1][];
    private static int wrong = 0;
    private static int said = 0;
    private static int asked = 1;
    private static String sentence = "";
    private static SamplerLaw s;

    private interface Steps {
        void on(SamplerLaw one);
    }

    private interface Call {
        long on(SamplerLaw one);
    }

    public static void main(String[] args) throws IOException {
        readDocument();
        termsOfAnswers();
        termsOfTheCanvas();
        termsOfReads();
        termsOfTheTape();
        termsOfFaults();
        termsOfStitches();
        termsOfHolesAndSheets();
        textAndWhatThereIs();
        whatIsChanged();
        stitches();
        whatIsBest();
        redThatRuns();
        whatWasInTheHoles();
        bySeed();
        imagesAndSheets();
        nothingLeftOut();
        System.out.println(wrong == 0 ? said + " sentences hold" : wrong + " answers are not as due");
        if (wrong != 0) System.exit(1);
    }

    // ---- the document

    private static void readDocument() throws IOException {
        String document = Files.readString(Path.of("../shared/DOC.md"));
        SECTIONS[TERMS] = between(document, "## Terms", "Ahead of the calls")
                .replace("```text", " ").replace("```", " ").replaceAll("=+ [12] ", " ");
        for (int n = 1; n <= PROMISES; n++) {
            String next = n < PROMISES ? "## Promise " + (n + 1) + ":" : "## Not promised";
            String body = between(document, "## Promise " + n + ":", next);
            SECTIONS[n] = body.substring(body.indexOf("`: ") + 3);
        }
        for (int n = 0; n <= PROMISES; n++) {
            SECTIONS[n] = SECTIONS[n].replaceAll("\\s+", " ").trim();
            QUOTED[n] = new boolean[SECTIONS[n].length()];
        }
    }

    private static String between(String text, String from, String to) {
        int start = text.indexOf(from) + from.length();
        return text.substring(start, text.indexOf(to, start));
    }

    private static void says(int section, String words) {
        if (asked == 0) fail("nothing is asked of it");
        asked = 0;
        said++;
        sentence = (section == TERMS ? "Terms" : "promise " + section) + ", \"" + words + "\"";
        s = new SamplerLaw();
        int at = SECTIONS[section].indexOf(words);
        if (at < 0) {
            fail("the document does not say so");
            return;
        }
        for (int i = 0; i < words.length(); i++) QUOTED[section][at + i] = true;
    }

    private static void nothingLeftOut() {
        for (int n = 0; n <= PROMISES; n++) {
            sentence = "section " + n;
            StringBuilder left = new StringBuilder();
            for (int i = 0; i < QUOTED[n].length; i++) {
                if (!QUOTED[n][i] && Character.isLetterOrDigit(SECTIONS[n].charAt(i))) left.append(SECTIONS[n].charAt(i));
            }
            if (left.length() > 0) fail("no test quotes: " + left);
        }
    }

    // ---- what is due

    private static void fail(String what) {
        wrong++;
        System.out.println(sentence + ": " + what);
    }

    private static void due(String call, long got, long want) {
        asked++;
        if (got != want) fail(call + " answered " + got + ", due is " + want);
    }

    private static int told(String text) {
        for (int i = 0; i < text.length(); i++) s.feed(text.charAt(i));
        return s.text();
    }

    /** A new object with this text. */
    private static void given(String text, int lines) {
        s = new SamplerLaw();
        due("text " + text, told(text), lines);
        due("fault of " + text, s.fault(), 0);
    }

    private static void faulty(String text, int place, int fault) {
        s = new SamplerLaw();
        due("text " + text, told(text), -10 - place);
        due("fault of " + text, s.fault(), fault);
    }

    private static String times(int n, String part) {
        return part.repeat(n);
    }

    // ---- what is refused changes nothing

    /** A state in which laws, plan and seen are full, one thread is out, and nothing is as at first. */
    private static void workedCharter(SamplerLaw one) {
        one.feed('!');
        one.text();
        one.enact(0, 1, 2, 5);
        one.enact(2, 1, 1, 2);
        one.enact(1, 3, 2, 1);
        one.work(0, 0, 1);
        one.work(1, 0, 2);
        one.work(0, 1, 1);
        one.plan(4, 4, 1);
        one.keep(0);
        one.enact(3, 2, 2, 9);
        one.enact(3, 1, 1, 3);
        one.work(3, 3, 3);
        one.unpick(0, 1);
        one.moth(2, 0);
        one.moth(5, 5);
        one.spool(3, 0);
        one.spool(2, 7);
        for (int i = 0; i < 7; i++) one.plan(i % 3, 5, 1 + i % 3);
        for (int i = 0; i < 6; i++) one.see(0, 1);
        layOut(one);
    }

    private static void layOut(SamplerLaw one) {
        one.sheet(0, 0, 7);
        int[] first = {4, 1, 2, 4, 1, 1, 9};
        for (int i = 0; i < 7; i++) one.lay(0, i, first[i]);
        one.sheet(1, 1, 3);
        one.lay(1, 2, 1);
        one.sheet(2, 2, 40);
        one.read(3, 0, 0, 1);
        one.feed('r');
        one.feed('o');
        one.feed('w');
        one.feed('0');
    }

    /** All that can be told of an object; what is asked last changes it. */
    private static List<String> look(SamplerLaw one) {
        List<String> seen = new ArrayList<>();
        seen.add("fault " + one.fault());
        seen.add("torn " + one.torn());
        for (int what = 0; what < 6; what++) seen.add("count " + what + " " + one.count(what));
        lookAtCharter(one, "now", seen);
        seen.add("fills " + one.fills());
        seen.add("span " + one.span(0) + " " + one.span(1));
        for (int k = 0; k < 2; k++) {
            seen.add("back " + k + " " + one.back(k));
            lookAtCharter(one, "image " + k, seen);
        }
        for (int k = 0; k < 4; k++) {
            for (int lane = 0; lane < 3; lane++) {
                seen.add("read " + k + " " + lane + " " + one.read(k, lane, 0, 1) + " " + one.torn());
            }
            seen.add("lay " + k + " " + one.lay(k, 6, 0) + one.lay(k, 7, 0));
        }
        seen.add("text " + one.text() + " " + one.fault());
        return seen;
    }

    private static void lookAtCharter(SamplerLaw one, String name, List<String> seen) {
        StringBuilder cells = new StringBuilder();
        for (int y = 0; y < 6; y++) for (int x = 0; x < 6; x++) cells.append(one.cell(x, y));
        seen.add(name + " cells " + cells);
        for (int c = 1; c <= 3; c++) seen.add(name + " thread " + c + " " + one.thread(c));
        for (int what = 0; what < 6; what++) seen.add(name + " rule " + what + " " + one.rule(what));
        for (int l = 0; l < one.rule(0); l++) {
            for (int what = 0; what < 4; what++) seen.add(name + " law " + l + " " + what + " " + one.law(l, what));
        }
        int planned = one.rule(3);
        for (int i = 0; i < planned; i++) {
            for (int what = 0; what < 3; what++) seen.add(name + " stitch " + i + " " + what + " " + one.stitch(i, what));
        }
    }

    private static void changesNothing(String call, Call refused, long want) {
        changesNothing(call, BoundaryTest::workedCharter, refused, want);
    }

    private static void changesNothing(String call, Steps before, Call refused, long want) {
        SamplerLaw without = new SamplerLaw();
        before.on(without);
        SamplerLaw with = new SamplerLaw();
        before.on(with);
        due(call, refused.on(with), want);
        List<String> was = look(without);
        List<String> is = look(with);
        for (int i = 0; i < Math.max(was.size(), is.size()); i++) {
            String old = i < was.size() ? was.get(i) : "nothing";
            String then = i < is.size() ? is.get(i) : "nothing";
            if (!old.equals(then)) {
                fail(call + " changed '" + old + "' to '" + then + "'");
                return;
            }
        }
    }

    // ---- Terms: answers

    private static void termsOfAnswers() {
        says(TERMS, "Answers: BAD -1 (a number is not as told, there is no such CELL, LAW, STITCH, IMAGE, SHEET)");
        due("BAD", BAD, -1);
        due("a number", s.rule(6), -1);
        due("no such cell", s.cell(6, 0), -1);
        due("no such law", s.law(0, 0), -1);
        due("no such stitch", s.stitch(0, 0), -1);
        due("no such image to keep", s.keep(2), -1);
        due("no such image to go back to", s.back(2), -1);
        due("no such sheet", s.sheet(4, 0, 0), -1);
        due("no such sheet to lay on", s.lay(4, 0, 0), -1);
        due("no such sheet to read", s.read(4, 0, 0, 0), -1);
        says(TERMS, "STATE -2 (as told)");
        due("STATE", STATE, -2);
        due("mend", s.mend(0, 0), -2);
        due("back", s.back(0), -2);
        says(TERMS, "FULL -3");
        due("FULL", FULL, -3);
        for (int i = 0; i < 8; i++) s.plan(0, 0, 1);
        due("plan", s.plan(0, 0, 1), -3);
        says(TERMS, "NONE -4 (there is none)");
        due("NONE", NONE, -4);
        due("runs", s.runs(3), -4);
        due("count", s.count(3), -4);
        theFirstThatFits();
        refusals();
        questions();
        says(TERMS, "Fractions are in lowest terms, the denominator above 0 (0 is 0 by 1).");
        given("row 0 1;beside 1 1 4;beside 2 2 1;", 3);
        due("luck of 4 out of ten", s.luck(4, 0, 0), 2);
        due("by", s.luck(4, 0, 1), 5);
        due("luck of 0 out of ten", s.luck(0, 0, 0), 0);
        due("by", s.luck(0, 0, 1), 1);
        due("luck of what can not be", s.luck(7, 1, 0), 0);
        due("by", s.luck(7, 1, 1), 1);
        due("luck of ten out of ten", s.luck(10, 0, 0), 1);
        due("by", s.luck(10, 0, 1), 1);
        due("mean 4 times 5 out of ten", s.mean(5, 0), 2);
        due("by", s.mean(5, 1), 1);
        due("mean 4 times 3 out of ten", s.mean(3, 0), 6);
        due("by", s.mean(3, 1), 5);
        due("mean 0", s.mean(0, 0), 0);
        due("by", s.mean(0, 1), 1);
    }

    private static void theFirstThatFits() {
        says(TERMS, "the first that fits");
        for (int i = 0; i < 8; i++) s.plan(0, 0, 1);
        due("plan: BAD ahead of FULL", s.plan(0, 6, 1), BAD);
        for (int i = 0; i < 5; i++) s.enact(0, 1, 2, 1);
        due("enact: BAD ahead of FULL", s.enact(0, 1, 2, 10), BAD);
        for (int i = 0; i < 6; i++) s.see(0, 1);
        due("see: BAD ahead of FULL", s.see(0, 61), BAD);
        s.work(0, 0, 1);
        due("work: BAD ahead of STATE", s.work(0, 0, 4), BAD);
        for (int y = 0; y < 6; y++) s.moth(5, y);
        due("shades: BAD ahead of STATE", s.shades(6, 0), BAD);
        due("span: BAD ahead of STATE", s.span(2), BAD);
        due("ask: BAD ahead of STATE", s.ask(2), BAD);
        due("span: STATE ahead of NONE", s.span(0), STATE);
        due("ask: STATE ahead of NONE", s.ask(0), STATE);
        due("span: BAD ahead of NONE", s.span(-1), BAD);
        for (int y = 0; y < 6; y++) s.work(2, y, 1);
        for (int y = 1; y < 6; y++) s.work(0, y, 1);
        due("can run", s.count(5), 12);
        due("luck: BAD ahead of STATE", s.luck(11, 0, 0), BAD);
        due("mean: BAD ahead of STATE", s.mean(0, 2), BAD);
        due("sheet: BAD ahead of SIZE", s.sheet(4, 0, -1), BAD);
        due("lay: BAD ahead of NULL", s.lay(4, 0, 0), BAD);
        due("read: BAD ahead of NULL", s.read(0, 3, 0, 1), BAD);
        due("back: BAD ahead of STATE", s.back(-1), BAD);
        for (int i = 0; i < 160; i++) s.feed(' ');
        due("feed: BAD ahead of FULL", s.feed(128), BAD);
        s = new SamplerLaw();
        due("best: BAD ahead of NONE", s.best(2), BAD);
        due("dye: BAD ahead of NONE", s.dye(2), BAD);
        due("turn: BAD ahead of NONE", s.turn(2), BAD);
        due("leave: BAD ahead of NONE", s.leave(2), BAD);
        s.enact(0, 1, 1, 1);
        s.spool(1, 0);
        due("need: BAD ahead of NONE", s.need(0, 1), BAD);
        due("loose: BAD ahead of NONE", s.loose(0, 2), BAD);
    }

    private static void refusals() {
        says(TERMS, "what is refused changes nothing (but THE TAPE, as told)");
        changesNothing("feed(-1)", one -> one.feed(-1), BAD);
        changesNothing("feed(128)", one -> one.feed(128), BAD);
        changesNothing("feed of a full tape", BoundaryTest::fullTape, one -> one.feed(' '), FULL);
        changesNothing("end(-1)", one -> one.end(-1), BAD);
        changesNothing("end(5)", one -> one.end(5), BAD);
        changesNothing("amend of no law", one -> one.amend(5, 0, 1), BAD);
        changesNothing("amend of what is none", one -> one.amend(0, 4, 1), BAD);
        changesNothing("amend to no kind", one -> one.amend(0, 0, 4), BAD);
        changesNothing("amend to no colour", one -> one.amend(0, 1, 0), BAD);
        changesNothing("amend to no worth", one -> one.amend(0, 3, 10), BAD);
        changesNothing("spool of bare", one -> one.spool(0, 1), BAD);
        changesNothing("spool to 100", one -> one.spool(1, 100), BAD);
        changesNothing("spool to -1", one -> one.spool(1, -1), BAD);
        changesNothing("a bad plan", one -> one.plan(0, 0, 4), BAD);
        changesNothing("plan of a 9th", one -> one.plan(0, 0, 1), FULL);
        changesNothing("cut(-1)", one -> one.cut(-1), BAD);
        changesNothing("cut(9)", one -> one.cut(9), BAD);
        changesNothing("a bad enact", one -> one.enact(4, 1, 1, 1), BAD);
        changesNothing("enact of a 6th", one -> one.enact(1, 1, 1, 1), FULL);
        changesNothing("work in no cell", one -> one.work(6, 0, 1), BAD);
        changesNothing("work of no colour", one -> one.work(4, 0, 0), BAD);
        changesNothing("work where it is not bare", one -> one.work(0, 0, 1), STATE);
        changesNothing("work in a hole", one -> one.work(2, 0, 1), STATE);
        changesNothing("work without thread", one -> one.work(4, 0, 3), STATE);
        changesNothing("unpick of no cell", one -> one.unpick(0, 6), BAD);
        changesNothing("unpick of a bare one", one -> one.unpick(4, 0), STATE);
        changesNothing("unpick of a hole", one -> one.unpick(2, 0), STATE);
        changesNothing("moth in no cell", one -> one.moth(-1, 0), BAD);
        changesNothing("moth in a hole", one -> one.moth(2, 0), STATE);
        changesNothing("mend of no cell", one -> one.mend(0, -1), BAD);
        changesNothing("mend of no hole", one -> one.mend(0, 0), STATE);
        changesNothing("see of no law", one -> one.see(5, 0), BAD);
        changesNothing("see of a 7th", one -> one.see(0, 0), FULL);
        changesNothing("forget(-1)", one -> one.forget(-1), BAD);
        changesNothing("forget(7)", one -> one.forget(7), BAD);
        changesNothing("keep(2)", one -> one.keep(2), BAD);
        changesNothing("back(1)", one -> one.back(1), STATE);
        changesNothing("back(2)", one -> one.back(2), BAD);
        changesNothing("sheet of no lane", one -> one.sheet(0, 3, 1), BAD);
        changesNothing("sheet of 41", one -> one.sheet(0, 0, 41), BAD);
        changesNothing("sheet of -1", one -> one.sheet(0, 0, -1), -14);
        changesNothing("lay on no sheet", one -> one.lay(-1, 0, 0), BAD);
        changesNothing("lay on nothing", one -> one.lay(3, 0, 5), -11);
        changesNothing("lay beyond", one -> one.lay(0, 7, 5), -12);
        changesNothing("lay ahead of the first", one -> one.lay(0, -1, 5), -12);
        changesNothing("read of 14", one -> one.read(0, 0, 0, 14), BAD);
        changesNothing("read of no lane", one -> one.read(0, 3, 0, 1), BAD);
        changesNothing("read whose second is refused", one -> one.read(0, 0, 0, 2), -21);
        faultyTextChangesTheTapeAlone();
    }

    private static void fullTape(SamplerLaw one) {
        for (int i = 0; i < 160; i++) one.feed('7');
        one.work(0, 0, 1);
    }

    private static void faultyTextChangesTheTapeAlone() {
        changesNothing("a text with a fault", one -> {
            int answer = one.text();
            due("the tape is empty", one.count(2), 0);
            due("its fault", one.fault(), 2);
            one.feed('!');
            one.text();
            for (char c : "row0".toCharArray()) one.feed(c);
            return answer;
        }, -14);
    }

    private static void questions() {
        changesNothing("runs", one -> one.runs(2), 3);
        changesNothing("ahead", one -> one.ahead(4, 4), 1);
        changesNothing("best", one -> one.best(1) > 0 ? 1 : 0, 1);
        changesNothing("need", one -> one.need(1, 0), 1);
        changesNothing("loose", one -> one.loose(0, 1), 0);
        changesNothing("dye", one -> one.dye(2), BAD);
        changesNothing("dye", one -> one.dye(0), NONE);
        changesNothing("turn", one -> one.turn(0), NONE);
        changesNothing("leave", one -> one.leave(2), BAD);
        changesNothing("luck", one -> one.luck(5, 0, 0), 1);
        changesNothing("mean", one -> one.mean(5, 1), 1);
        changesNothing("fills", one -> one.fills(), 16);
        changesNothing("shades", one -> one.shades(2, 0), 15);
        changesNothing("span", one -> one.span(0), 5);
        changesNothing("ask", one -> one.ask(2), BAD);
        changesNothing("drift", one -> one.drift(1, 60, 1) >= 0 ? 1 : 0, 1);
    }

    // ---- Terms: the canvas

    private static void termsOfTheCanvas() {
        says(TERMS, "THE CANVAS: CELLS x, y, 0 to 5 each");
        for (int out : new int[] {LEAST, -1, 6, MOST}) {
            noCell(out, 0);
            noCell(0, out);
            noCell(5, out);
            noCell(out, 5);
        }
        for (int corner = 0; corner < 4; corner++) {
            int x = 5 * (corner & 1);
            int y = 5 * (corner >> 1);
            due("plan in a corner", s.plan(x, y, 1), 1 + corner);
            due("work in a corner", s.work(x, y, 1), 0);
            due("cell in a corner", s.cell(x, y), 1);
            due("ahead in a corner", s.ahead(x, y), 1);
            due("unpick in a corner", s.unpick(x, y), 1);
            due("moth in a corner", s.moth(x, y), 0);
            due("shades in a corner", s.shades(x, y), 15);
            due("mend in a corner", s.mend(x, y), 0);
        }
        says(TERMS, "(x from the left, y from the top)");
        given("row 0 1 0 0 0 0 2;row 5 3;", 2);
        due("the left of the top", s.cell(0, 0), 1);
        due("the right of the top", s.cell(5, 0), 2);
        due("the left of the last", s.cell(0, 5), 3);
        due("the right of the last", s.cell(5, 5), 0);
        says(TERMS, "each of a COLOUR (0 bare, at first; 1 red, 2 blue, 3 black) or a HOLE (4)");
        for (int i = 0; i < 36; i++) due("at first", s.cell(i / 6, i % 6), 0);
        due("no stitch is bare", s.work(0, 0, 0), BAD);
        due("no stitch is a hole", s.work(0, 0, 4), BAD);
        for (int c = 1; c <= 3; c++) {
            due("work", s.work(c, 0, c), 0);
            due("cell", s.cell(c, 0), c);
        }
        s.moth(4, 0);
        due("a hole", s.cell(4, 0), 4);
        says(TERMS, "THREAD of COLOURS 1 to 3: 0 to 99 STITCHES (20 at first)");
        for (int c = 1; c <= 3; c++) due("at first", s.thread(c), 20);
        for (int out : new int[] {LEAST, -1, 0, 4, MOST}) {
            due("thread of " + out, s.thread(out), BAD);
            due("spool of " + out, s.spool(out, 1), BAD);
        }
        for (int out : new int[] {LEAST, -1, 100, MOST}) due("spool to " + out, s.spool(3, out), BAD);
        due("spool to 99", s.spool(3, 99), 20);
        due("spool to 0", s.spool(3, 0), 99);
        lawsAndPlan();
    }

    private static void noCell(int x, int y) {
        String at = "(" + x + ", " + y + ")";
        s = new SamplerLaw();
        due("cell " + at, s.cell(x, y), BAD);
        due("plan " + at, s.plan(x, y, 1), BAD);
        due("work " + at, s.work(x, y, 1), BAD);
        due("unpick " + at, s.unpick(x, y), BAD);
        due("moth " + at, s.moth(x, y), BAD);
        due("mend " + at, s.mend(x, y), BAD);
        due("ahead " + at, s.ahead(x, y), BAD);
        due("shades " + at, s.shades(x, y), BAD);
        due("holes", s.rule(2), 0);
        due("colours", s.rule(1), 0);
    }

    private static void lawsAndPlan() {
        says(TERMS, "LAWS (5 at most), by order");
        for (int l = 0; l < 5; l++) due("enact", s.enact(0, 1, 1, 1 + l), 1 + l);
        due("enact of a 6th", s.enact(0, 1, 1, 1), FULL);
        for (int l = 0; l < 5; l++) due("by order", s.law(l, 3), 1 + l);
        due("law 5", s.law(5, 3), BAD);
        due("law -1", s.law(-1, 3), BAD);
        says(TERMS, "each of a KIND (0 beside, 1 mirror, 2 above, 3 cross)");
        due("kind -1", s.enact(-1, 1, 1, 1), BAD);
        due("kind 4", s.enact(4, 1, 1, 1), BAD);
        for (int kind = 0; kind < 4; kind++) {
            s.enact(kind, 1, 1, 1);
            due("kind", s.law(kind, 0), kind);
        }
        given("beside 1 1 1;mirror 1 1 1;above 1 1 1;cross 1 1 1;", 4);
        for (int kind = 0; kind < 4; kind++) due("kind by its name", s.law(kind, 0), kind);
        says(TERMS, "with a FIRST, a SECOND COLOUR (1 to 3 each), of a WORTH (1 to 9)");
        for (int out : new int[] {LEAST, -1, 0, 4, MOST}) {
            due("first " + out, s.enact(0, out, 1, 1), BAD);
            due("second " + out, s.enact(0, 1, out, 1), BAD);
        }
        for (int out : new int[] {LEAST, -1, 0, 10, MOST}) due("worth " + out, s.enact(0, 1, 1, out), BAD);
        due("the least", s.enact(0, 1, 1, 1), 1);
        due("the most", s.enact(0, 3, 3, 9), 2);
        due("first", s.law(1, 1), 3);
        due("second", s.law(1, 2), 3);
        due("worth", s.law(1, 3), 9);
        says(TERMS, "THE PLAN: STITCHES, one behind another (8 at most), each in a CELL, of a COLOUR (1 to 3)");
        for (int out : new int[] {LEAST, -1, 0, 4, MOST}) due("colour " + out, s.plan(0, 0, out), BAD);
        for (int i = 0; i < 8; i++) due("plan", s.plan(i % 6, 5, 1 + i % 3), 1 + i);
        due("plan of a 9th", s.plan(0, 0, 1), FULL);
        for (int i = 0; i < 8; i++) {
            due("x", s.stitch(i, 0), i % 6);
            due("y", s.stitch(i, 1), 5);
            due("colour", s.stitch(i, 2), 1 + i % 3);
        }
    }

    // ---- Terms: reads

    private static void termsOfReads() {
        says(TERMS, "READS of a LAW by KIND: in how many places beside: FIRST in a CELL, SECOND in the one to the "
                + "right of it");
        given("row 0 1 2;row 5 0 0 0 0 1 2;beside 1 2 1;", 3);
        due("at both edges", s.law(0, 4), 2);
        given("row 0 0 0 0 0 0 1;row 1 2;row 5 0 0 0 0 0 1;beside 1 2 1;", 4);
        due("no way round an edge", s.law(0, 4), 0);
        given("row 0 2 1;row 1 1 0 2;row 2 1 4 2;beside 1 2 1;", 4);
        due("the other way, bare or a hole between", s.law(0, 4), 0);
        given("row 0 3 3 3 3 3 3;beside 3 3 1;", 2);
        due("one colour overlaps", s.law(0, 4), 5);
        says(TERMS, "mirror: as beside, FIRST and SECOND changed with each other");
        given("row 0 2 1;row 5 0 0 0 0 2 1;row 3 1 2 1 2;mirror 1 2 1;", 4);
        due("mirror", s.law(0, 4), 3);
        given("row 0 0 0 0 0 0 2;row 1 1;mirror 1 2 1;", 3);
        due("no way round an edge", s.law(0, 4), 0);
        says(TERMS, "above: FIRST in a CELL, SECOND in the one below it");
        given("row 0 1 0 0 0 0 1;row 1 2 0 0 0 0 2;row 4 0 0 0 0 0 1;row 5 0 0 0 0 0 2;above 1 2 1;", 5);
        due("at the edges", s.law(0, 4), 3);
        given("row 5 1;row 0 2 2;row 1 0 1;above 1 2 1;", 4);
        due("no way round an edge, nor the other way", s.law(0, 4), 0);
        says(TERMS, "cross: as many as beside and above together");
        given("row 0 1 2;row 1 2;row 2 1;cross 1 2 1;", 4);
        due("cross", s.law(0, 4), 2);
        given(canvasOf(1) + "cross 1 1 1;", 7);
        due("the most there can be", s.law(0, 4), 60);
        says(TERMS, "It is HELD, if it READS 1 or more.");
        given("row 0 1 2;beside 1 2 1;beside 2 1 1;", 3);
        due("1 and 0", s.rule(4), 1);
        s.work(2, 0, 1);
        due("1 and 1", s.rule(4), 3);
        s.unpick(0, 0);
        due("0 and 1", s.rule(4), 2);
        says(TERMS, "WORTH of THE CANVAS: of all LAWS WORTH times READS, summed.");
        due("no laws", s.rule(5), 0);
        given(canvasOf(1) + times(5, "cross1 1 9;"), 11);
        due("the most there can be", s.rule(5), 2700);
    }

    private static String canvasOf(int c) {
        StringBuilder text = new StringBuilder();
        for (int y = 0; y < 6; y++) text.append("row").append(y).append(times(6, " " + c)).append(';');
        return text.toString();
    }

    // ---- Terms: the tape

    private static void termsOfTheTape() {
        says(TERMS, "THE TAPE has 160 bytes, places from 0.");
        faulty("!", 0, 1);
        faulty(times(159, " ") + "!", 159, 1);
        faulty(times(157, " ") + "row", 160, 2);
        s = new SamplerLaw();
        for (int i = 1; i <= 160; i++) due("feed", s.feed(' '), i);
        due("feed of a 161st", s.feed(' '), FULL);
        given(times(154, " ") + "row 5;", 1);
        given("row 5;" + times(154, " "), 1);
        says(TERMS, "TOKENS, each as long as may be, blanks (32) between");
        given("row0 1 2;beside1 2 3;", 2);
        due("blanks are not needed", s.rule(5), 3);
        given("  row   0  1  2  ;  ", 1);
        due("cell", s.cell(1, 0), 2);
        faulty("rowbeside 1;", 0, 2);
        faulty("row 0 12;", 6, 3);
        faulty("ro w 0;", 0, 2);
        faulty("row\t0;", 3, 1);
        faulty("row\n0;", 3, 1);
        says(TERMS, "NAMES (a .. z), NUMBERS (1 or 2 figures), one ; .");
        for (int c = 0; c < 128; c++) {
            boolean name = c >= 'a' && c <= 'z';
            boolean figure = c >= '0' && c <= '9';
            if (c != ' ') faulty(String.valueOf((char) c), 0, name || figure || c == ';' ? 2 : 1);
            if (c != ' ' && !figure && c != ';') faulty("row 0 " + (char) c, 6, name ? 2 : 1);
        }
        given("row 05 04 00;", 1);
        due("two figures", s.cell(0, 5), 4);
        faulty("row 005;", 4, 1);
        faulty("row 0;;", 6, 2);
        says(TERMS, "text: { line }");
        given("", 0);
        given("      ", 0);
        given("row0;row1;row2;row3;row4;row5;thread1 0;thread2 0;thread3 0;" + times(5, "cross1 1 1;"), 14);
        lines();
    }

    private static void lines() {
        says(TERMS, "line: row N { N } ; | K N N N ; | thread N N ;");
        for (String line : new String[] {"row 1 2 3 ;", "cross 1 2 3 ;", "thread 1 2 ;"}) {
            given(line, 1);
            for (int end = 1; end < line.length(); end++) {
                faulty(line.substring(0, end), end < line.indexOf(' ') ? 0 : end, 2);
            }
            faulty(line + ";", line.length(), 2);
            faulty(line + "1", line.length(), 2);
        }
        faulty("row ;", 4, 2);
        faulty("row a 1;", 4, 2);
        faulty("row 1 a;", 6, 2);
        faulty("cross ;", 6, 2);
        faulty("cross 1 1 ;", 10, 2);
        faulty("cross 1 a 1;", 8, 2);
        faulty("cross 1 1 1 1;", 12, 2);
        faulty("cross 1 1 1 cross", 12, 2);
        faulty("thread ;", 7, 2);
        faulty("thread 1 ;", 9, 2);
        faulty("thread a 1;", 7, 2);
        faulty("thread 1 1 1;", 11, 2);
        says(TERMS, "K: beside | mirror | above | cross");
        given("beside 1 1 1;mirror 1 1 1;above 1 1 1;cross 1 1 1;", 4);
        for (String other : new String[] {"besides", "besid", "mirrors", "mirro", "aboves", "abov", "crosses", "cros",
                "rows", "ro", "threads", "threa", "r", "k", "seside", "nirror", "bbove", "dross", "tow", "shread"}) {
            faulty(other + " 1 1 1;", 0, 2);
        }
        says(TERMS, "row: a y (0 to 5), COLOURS (0 to 4: a HOLE) of its CELLS from the left (six at most; all "
                + "others bare).");
        given("row 0 0;row 5 4;", 2);
        due("a hole", s.cell(0, 5), 4);
        faulty("row 6;", 4, 3);
        faulty("row 99;", 4, 3);
        faulty("row 0 5;", 6, 3);
        faulty("row 0 1 1 1 1 1 99;", 16, 3);
        given("row 2 1 2 3 4 0 1;", 1);
        int[] six = {1, 2, 3, 4, 0, 1};
        for (int x = 0; x < 6; x++) due("from the left", s.cell(x, 2), six[x]);
        due("all others", s.rule(1) + s.rule(2), 5);
        given("row 2;", 1);
        due("a row of none", s.rule(1) + s.rule(2), 0);
        given("row 2 0 3;", 1);
        for (int x = 0; x < 6; x++) due("all others", s.cell(x, 2), x == 1 ? 3 : 0);
        says(TERMS, "K: a LAW more of that KIND: FIRST, SECOND, WORTH.");
        given("above 3 1 9;mirror 1 3 1;", 2);
        int[] parts = {2, 3, 1, 9, 1, 1, 3, 1};
        for (int i = 0; i < 8; i++) due("law " + i / 4 + " " + i % 4, s.law(i / 4, i % 4), parts[i]);
        for (int out : new int[] {0, 4, 99}) {
            faulty("above " + out + " 1 1;", 6, 3);
            faulty("above 1 " + out + " 1;", 8, 3);
        }
        faulty("above 1 1 0;", 10, 3);
        faulty("above 1 1 10;", 10, 3);
        says(TERMS, "thread: a COLOUR (1 to 3), its THREAD.");
        given("thread 1 0;thread 3 99;", 2);
        due("none", s.thread(1), 0);
        due("not told", s.thread(2), 20);
        due("the most", s.thread(3), 99);
        faulty("thread 0 1;", 7, 3);
        faulty("thread 4 1;", 7, 3);
        faulty("thread 1 100;", 9, 1);
    }

    // ---- Terms: faults of a text

    private static void termsOfFaults() {
        says(TERMS, "FAULTS, the first met as it is read (a TOKEN is read when the one before has been taken)");
        faulty("aunt !", 0, 2);
        faulty("row 6 !", 4, 3);
        faulty("row 0 5 !", 6, 3);
        faulty("row 0;row 0 !", 10, 4);
        faulty("thread 0 !", 7, 3);
        faulty("thread 1 1;thread 1 !", 18, 4);
        faulty(times(5, "above1 1 1;") + "cross !", 55, 5);
        faulty("row 0 1 1 1 1 1 1 1 !", 18, 5);
        faulty("cross 4 4 10", 6, 3);
        faulty("cross 1 1 10 !", 10, 3);
        faulty("row 0 ! row 0;", 6, 1);
        says(TERMS, "1 no TOKEN, a NUMBER that is too long (its first byte).");
        faulty("#", 0, 1);
        faulty("row 0;Row 1;", 6, 1);
        faulty("row -1;", 4, 1);
        faulty("row 000;", 4, 1);
        faulty("100;", 0, 1);
        faulty("cross 1 1 0001;", 10, 1);
        faulty(times(160, "1"), 0, 1);
        says(TERMS, "2 a TOKEN that can not stand there (a NAME that begins no line; or the end: the length).");
        faulty("king 1;", 0, 2);
        faulty(times(160, "z"), 0, 2);
        faulty("row 1;king", 6, 2);
        faulty("row", 3, 2);
        faulty("row   ", 6, 2);
        faulty("row 0 1", 7, 2);
        faulty("cross 1 1 1", 11, 2);
        faulty(";", 0, 2);
        faulty("12", 0, 2);
        for (int cells = 0; cells <= 6; cells++) {
            String row = "row 0" + times(cells, " 1");
            faulty(row, 5 + 2 * cells, 2);
            faulty(row + "  ", 7 + 2 * cells, 2);
            faulty(row + "o", 5 + 2 * cells, 2);
            faulty(row + "  king", 7 + 2 * cells, 2);
            faulty(row + " row 1;", 6 + 2 * cells, 2);
        }
        says(TERMS, "3 a NUMBER out of its bounds.");
        faulty("row 6;", 4, 3);
        faulty("row 5 5;", 6, 3);
        faulty("beside 0 1 1;", 7, 3);
        faulty("mirror 1 4 1;", 9, 3);
        faulty("cross 1 1 0;", 10, 3);
        faulty("thread 4 9;", 7, 3);
        says(TERMS, "4 a y of which row, a COLOUR of which thread is told already (it).");
        faulty("row 0;row 1;row 0;", 16, 4);
        faulty("row 5 1;row 05;", 12, 4);
        faulty("thread 3 1;thread 2 1;thread 03 1;", 29, 4);
        given("row 1;row 2;thread 1 1;thread 2 1;", 4);
        says(TERMS, "5 the 6th LAW (its NAME)");
        given(times(5, "cross 1 1 1;"), 5);
        faulty(times(5, "cross 1 1 1;") + " mirror 9", 61, 5);
        says(TERMS, "a 7th CELL (its NUMBER, whether it is one or not).");
        given("row 0 1 1 1 1 1 1;", 1);
        faulty("row 0 1 1 1 1 1 1 4;", 18, 5);
        faulty("row 0 1 1 1 1 1 1 5;", 18, 5);
        faulty("row 0 1 1 1 1 1 1 99", 18, 5);
        faulty("row 0 1 1 1 1 1 1 0 king", 18, 5);
        faulty("row 0 1 1 1 1 1 1 999;", 18, 1);
        faulty("row 0 1 1 1 1 1 1 !", 18, 1);
        textThatIsTaken();
    }

    private static void textThatIsTaken() {
        says(TERMS, "A text that is taken tells all, in place of what there was");
        s.work(1, 1, 1);
        s.moth(2, 2);
        s.enact(0, 1, 1, 1);
        s.plan(0, 0, 1);
        s.spool(2, 5);
        due("a question ahead of it", s.runs(2), 1);
        due("of nothing", told(""), 0);
        for (int i = 0; i < 36; i++) due("cells", s.cell(i / 6, i % 6), 0);
        for (int c = 1; c <= 3; c++) due("threads", s.thread(c), 20);
        due("laws", s.rule(0), 0);
        due("the plan", s.rule(3), 0);
        s.work(1, 1, 1);
        s.enact(0, 1, 1, 1);
        due("of one row, one law", told("row 0 2;above 2 2 2;"), 2);
        due("cell", s.cell(0, 0), 2);
        due("the other rows", s.cell(1, 1), 0);
        due("laws", s.rule(0), 1);
        due("it is the text's", s.law(0, 0), 2);
        due("threads", s.count(4), 60);
        due("a row, a thread", told("row 0 1 1;row 1 1 1;thread 2 7;"), 3);
        due("the same row, the same thread", told("row 0 0 1;thread 2 8;cross 1 1 1;above 1 1 1;"), 4);
        due("thread", s.thread(2), 8);
        due("beside and above what was there", s.rule(5), 0);
        says(TERMS, "nothing is SEEN");
        s.enact(0, 1, 1, 1);
        s.see(0, 1);
        due("a fault", told("x"), -10);
        due("still seen", s.count(0), 1);
        told("beside 1 1 1;");
        due("seen", s.count(0), 0);
        due("fills", s.fills(), 1);
        says(TERMS, "IMAGES are gone.");
        s.keep(0);
        s.keep(1);
        due("a fault", told("x"), -10);
        due("still there", s.count(1), 2);
        told(" ");
        due("images", s.count(1), 0);
        due("back", s.back(0), STATE);
        due("back", s.back(1), STATE);
        due("keep as if it was the first", s.keep(1), 0);
    }

    // ---- Terms: stitches, moths, what runs

    private static void termsOfStitches() {
        says(TERMS, "A STITCH in a CELL that is bare, of a COLOUR of which there is THREAD: it is of that COLOUR "
                + "then, THREAD is 1 less.");
        s.spool(2, 1);
        due("the last of it", s.work(3, 3, 2), 0);
        due("cell", s.cell(3, 3), 2);
        due("thread", s.thread(2), 0);
        due("none is left", s.work(3, 4, 2), STATE);
        due("another colour's", s.work(3, 4, 1), 0);
        due("thread", s.thread(1), 19);
        says(TERMS, "TO UNPICK a CELL of a COLOUR: it is bare then (THREAD stays).");
        s.spool(2, 1);
        s.work(3, 3, 2);
        due("unpick", s.unpick(3, 3), 2);
        due("cell", s.cell(3, 3), 0);
        due("thread", s.thread(2), 0);
        due("none for it again", s.work(3, 3, 2), STATE);
        says(TERMS, "A MOTH in a CELL that is no HOLE: it is one then.");
        s.work(0, 0, 3);
        due("of a colour", s.moth(0, 0), 3);
        due("bare", s.moth(1, 0), 0);
        due("a hole", s.moth(0, 0), STATE);
        due("holes", s.rule(2), 2);
        due("thread stays", s.thread(3), 19);
        says(TERMS, "BY THE PLAN: its STITCHES from now on; those that can not be are passed over.");
        s.spool(1, 1);
        s.moth(5, 0);
        s.plan(5, 0, 2);
        s.plan(0, 0, 1);
        s.plan(0, 0, 2);
        s.plan(0, 1, 1);
        s.plan(0, 2, 3);
        due("came", s.runs(2), 2);
        due("a hole is passed over", s.ahead(5, 0), 4);
        due("what the plan has taken is not bare", s.ahead(0, 0), 1);
        due("nor is there thread", s.ahead(0, 1), 0);
        due("those behind come", s.ahead(0, 2), 3);
        s.spool(1, 2);
        due("from now on", s.ahead(0, 1), 1);
        says(TERMS, "THE BACK: as if each row was turned round (x for 5 less x).");
        given("row 0 1 2 3 1 2 0;row 1 2;beside 1 2 1;mirror 1 2 1;above 1 2 1;cross 1 2 1;", 6);
        int[] front = {2, 0, 1, 3};
        int[] behind = {0, 2, 1, 1};
        for (int l = 0; l < 4; l++) due("front", s.law(l, 4), front[l]);
        for (int l = 0; l < 4; l++) due("back", s.law(l, 5), behind[l]);
        says(TERMS, "RED RUNS: a CELL that is red can run, if the one to the right of it is there and bare");
        given("row 0 1 0 1 2 1 4;row 1 0 0 0 0 0 1;row 2 2 0 3 0;row 3 1 1;row 4 0 0 0 0 1;", 5);
        due("one of row 0, none at the edge, none of another colour, one each of rows 3, 4", s.count(5), 3);
        says(TERMS, "that one is red then, too (by THE CANVAS as it was; all at once)");
        given("row 0 1 0 0;row 1 1 0 1;cross 1 1 1;", 3);
        due("can run", s.count(5), 3);
        // both rows' second cells are red, row 1's fourth too, row 0's third is not: 1 and 3 beside, 2 above
        due("all run, once each", s.mean(10, 0), 6);
    }

    // ---- Terms: holes, sheets

    private static void termsOfHolesAndSheets() {
        says(TERMS, "A FILL: a COLOUR (0 to 3) for each HOLE.");
        int fills = 1;
        for (int i = 0; i < 5; i++) {
            due("fills of " + i + " holes", s.fills(), fills);
            fills *= 4;
            s.moth(i, i);
        }
        due("fills of 5 holes", s.fills(), STATE);
        says(TERMS, "SEEN (6): a LAW READ so many, ere there were HOLES");
        s.enact(0, 1, 1, 1);
        for (int i = 0; i < 6; i++) due("see", s.see(0, 0), 1 + i);
        due("see of a 7th", s.see(0, 0), FULL);
        due("seen", s.count(0), 6);
        says(TERMS, "a FILL FITS, if by it each LAW that is SEEN READS as many");
        given("row 0 1 4 1;beside 1 1 1;beside 1 2 1;", 3);
        due("nothing is seen", s.fills(), 4);
        s.see(0, 2);
        due("two by red", s.fills(), 1);
        s.see(1, 0);
        due("red both", s.fills(), 1);
        s.see(0, 0);
        due("one law, two numbers", s.fills(), 0);
        says(TERMS, "(none, if such a LAW is there no more)");
        s.keep(0);
        s.enact(0, 1, 1, 1);
        s.see(0, 0);
        due("it is there", s.fills(), 1);
        s.back(0);
        due("it is there no more", s.fills(), 0);
        due("nor any span", s.span(0), NONE);
        s = new SamplerLaw();
        for (int l = 0; l < 5; l++) s.enact(0, 1, 1, 1);
        s.best(0);
        told("");
        s.keep(0);
        for (int l = 4; l >= 0; l--) {
            for (int i = 0; i < 5; i++) s.enact(0, 1, 1, 1);
            due("seen of law " + l, s.see(l, 0), 1);
            due("it is there", s.fills(), 1);
            s.back(0);
            due("law " + l + " is there no more", s.fills(), 0);
            s.forget(0);
        }
        says(TERMS, "SHEETS 0 to 3 are rows of BYTES (lane 0), SHORTS (1), INTS (2) with 0 to 40 CELLS of their "
                + "own, or nothing (at first).");
        for (int k = 0; k < 4; k++) due("nothing at first", s.lay(k, 0, 0), -11);
        for (int k = 0; k < 4; k++) due("a sheet", s.sheet(k, k % 3, 40 * (k % 2)), 1);
        for (int k = 0; k < 4; k++) due("its last cell", s.lay(k, 39, 1), k % 2 == 1 ? 1 : -12);
        for (int k = 0; k < 4; k++) due("beyond it", s.lay(k, 40, 1), -12);
        for (int out : new int[] {LEAST, -1, 4, MOST}) due("sheet " + out, s.sheet(out, 0, 1), BAD);
        for (int out : new int[] {LEAST, -1, 3, MOST}) due("lane " + out, s.sheet(0, out, 1), BAD);
        for (int out : new int[] {41, 42, MOST}) due("cells " + out, s.sheet(0, 0, out), BAD);
        s.sheet(0, 2, 3);
        s.sheet(1, 2, 3);
        s.lay(0, 2, 1);
        due("of their own", s.read(1, 2, 0, 1), -20);
        due("of their own", s.read(0, 2, 0, 1), 1);
        says(TERMS, "A FAULT is what the machine finds: 1 NULL (nothing), 2 INDEX, 3 CAST (another lane), 4 SIZE "
                + "(below 0).");
        due("null", s.lay(0, 0, 0), -11);
        due("size", s.sheet(0, 0, -1), -14);
        due("size", s.sheet(0, 0, LEAST), -14);
        due("nothing still", s.lay(0, 0, 0), -11);
        s.sheet(0, 0, 2);
        due("index", s.lay(0, 2, 0), -12);
        due("index", s.lay(0, -1, 0), -12);
        due("cast", s.read(0, 1, 0, 1), 0);
        due("cast", s.torn(), 3);
        due("null", s.read(1, 1, 0, 1), 0);
        due("null", s.torn(), 1);
        due("index", s.read(0, 0, 0, 1), 0);
        due("index", s.torn(), 2);
    }

    // ---- promises 1 to 10: the text, what there is

    private static void textAndWhatThereIs() {
        says(1, "A bare canvas, no LAWS; SHEETS have nothing.");
        for (int i = 0; i < 36; i++) due("cell", s.cell(i / 6, i % 6), 0);
        for (int what = 0; what < 6; what++) due("rule " + what, s.rule(what), 0);
        due("law 0", s.law(0, 0), BAD);
        for (int k = 0; k < 4; k++) due("sheet " + k, s.lay(k, 0, 0), -11);
        due("cells of sheet 0", s.count(3), NONE);
        due("torn", s.torn(), 0);
        due("fault", s.fault(), 0);
        says(2, "A byte (0 to 127) comes behind THE TAPE: how many it has.");
        due("feed 0", s.feed(0), 1);
        due("feed 127", s.feed(127), 2);
        due("count", s.count(2), 2);
        given("row 1 2;", 1);
        due("behind", s.cell(0, 1), 2);
        says(2, "BAD");
        for (int out : new int[] {LEAST, -1, 128, 256 + 32, MOST}) due("feed " + out, s.feed(out), BAD);
        due("count", s.count(2), 0);
        says(2, "FULL: more than 160.");
        for (int i = 1; i <= 160; i++) due("feed", s.feed(' '), i);
        due("feed of a 161st", s.feed(' '), FULL);
        due("count", s.count(2), 160);
        due("end", s.end(159), 160);
        due("feed when there is room", s.feed(' '), 160);
        due("feed when there is none", s.feed(' '), FULL);
        says(3, "THE TAPE keeps its first n bytes: how many it had.");
        for (char c : "row 1;!!".toCharArray()) s.feed(c);
        due("all of it", s.end(8), 8);
        due("the first six", s.end(6), 8);
        due("text", s.text(), 1);
        due("of none", s.end(0), 0);
        s.feed('!');
        due("nothing is kept", s.end(0), 1);
        due("text", s.text(), 0);
        says(3, "BAD");
        s.feed(' ');
        for (int out : new int[] {LEAST, -1, 2, 160, MOST}) due("end " + out, s.end(out), BAD);
        due("count", s.count(2), 1);
        text();
        rulesAndLaws();
    }

    private static void text() {
        says(4, "THE TAPE (empty then) tells all: how many lines");
        due("of nothing", s.text(), 0);
        due("of a row", told("row 3 1;"), 1);
        due("empty", s.count(2), 0);
        due("of nothing again", s.text(), 0);
        due("in place of the row", s.cell(0, 3), 0);
        says(4, "-10 less the place of its FAULT: that which was told stays.");
        due("two lines", told("row 3 1;above 1 1 1;"), 2);
        due("a fault at 0", told("!"), -10);
        due("a fault behind a line", told("row 4 1;row 5 2;beside 2 2 2;thread 1 1;above"), -10 - 45);
        due("empty", s.count(2), 0);
        due("cell", s.cell(0, 3), 1);
        due("not of the faulty one", s.cell(0, 4), 0);
        due("nor its thread", s.thread(1), 20);
        due("laws", s.rule(0), 1);
        due("kind", s.law(0, 0), 2);
        says(5, "The FAULT of the latest text(); 0.");
        due("at first", s.fault(), 0);
        String[] texts = {"!", "row", "row 9", "row 0;row 0", "row 0 0 0 0 0 0 0 0"};
        for (int i = 0; i < 5; i++) {
            told(texts[i]);
            due("fault of " + texts[i], s.fault(), 1 + i);
        }
        s.feed('!');
        due("a byte more is no text", s.fault(), 5);
        s.end(0);
        told("row 0;");
        due("of one that is taken", s.fault(), 0);
    }

    private static void rulesAndLaws() {
        says(6, "0 LAWS, 1 CELLS of a COLOUR 1 to 3, 2 HOLES, 3 STITCHES of THE PLAN, 4 LAWS that are HELD (bits), "
                + "5 WORTH of THE CANVAS.");
        given(canvasOf(3) + times(5, "cross3 3 9;"), 11);
        for (int i = 0; i < 8; i++) s.plan(0, 0, 1);
        int[] most = {5, 36, 0, 8, 31, 2700};
        for (int what = 0; what < 6; what++) due("rule " + what, s.rule(what), most[what]);
        for (int i = 0; i < 36; i++) s.moth(i / 6, i % 6);
        int[] moths = {5, 0, 36, 8, 0, 0};
        for (int what = 0; what < 6; what++) due("rule " + what, s.rule(what), moths[what]);
        says(6, "BAD");
        for (int out : new int[] {LEAST, -1, 6, MOST}) due("rule " + out, s.rule(out), BAD);
        says(7, "COLOUR of a CELL (4: a HOLE).");
        given("row 2 0 1 2 3 4;", 1);
        for (int x = 0; x < 6; x++) due("cell", s.cell(x, 2), x % 5);
        says(7, "BAD");
        for (int out : new int[] {LEAST, -1, 6, MOST}) {
            due("x " + out, s.cell(out, 0), BAD);
            due("y " + out, s.cell(0, out), BAD);
        }
        says(8, "THREAD of a COLOUR (1 to 3).");
        given("thread 1 0;thread 2 99;", 2);
        due("red", s.thread(1), 0);
        due("blue", s.thread(2), 99);
        due("black", s.thread(3), 20);
        says(8, "BAD");
        for (int out : new int[] {LEAST, -1, 0, 4, MOST}) due("thread " + out, s.thread(out), BAD);
        says(9, "Of a LAW: 0 KIND, 1 FIRST, 2 SECOND, 3 WORTH, 4 READS, 5 READS by THE BACK.");
        given("row 0 1 2 1 2;row 1 3 2;cross 1 2 7;", 3);
        // beside at x 0 and 2, above at none; by the back beside once
        int[] law = {3, 1, 2, 7, 2, 1};
        for (int what = 0; what < 6; what++) due("law 0 " + what, s.law(0, what), law[what]);
        says(9, "BAD");
        s.enact(0, 1, 1, 1);
        for (int out : new int[] {LEAST, -1, 1, 5, MOST}) due("law " + out, s.law(out, 0), BAD);
        for (int out : new int[] {LEAST, -1, 6, MOST}) due("law 0 " + out, s.law(0, out), BAD);
        says(10, "Of a STITCH of THE PLAN: 0 x, 1 y, 2 COLOUR.");
        s.plan(0, 5, 3);
        s.plan(5, 0, 1);
        int[] stitches = {0, 5, 3, 5, 0, 1};
        for (int i = 0; i < 6; i++) due("stitch", s.stitch(i / 3, i % 3), stitches[i]);
        says(10, "BAD");
        due("of an empty plan", s.stitch(0, 0), BAD);
        s.plan(1, 1, 1);
        for (int out : new int[] {LEAST, -1, 1, 8, MOST}) due("stitch " + out, s.stitch(out, 0), BAD);
        for (int out : new int[] {LEAST, -1, 3, MOST}) due("stitch 0 " + out, s.stitch(0, out), BAD);
        s.cut(0);
        due("of one that is cut", s.stitch(0, 0), BAD);
    }

    // ---- promises 11 to 15: what is changed

    private static void whatIsChanged() {
        says(11, "KIND, FIRST, SECOND, WORTH (what 0 to 3) of a LAW becomes v: what it was.");
        s.enact(0, 1, 1, 1);
        s.enact(0, 1, 1, 1);
        int[] least = {0, 1, 1, 1};
        int[] most = {3, 3, 3, 9};
        for (int what = 0; what < 4; what++) {
            due("to the most", s.amend(1, what, most[what]), least[what]);
            due("law", s.law(1, what), most[what]);
            due("the other law", s.law(0, what), least[what]);
            due("to the least", s.amend(1, what, least[what]), most[what]);
        }
        says(11, "BAD");
        due("no law", s.amend(0, 0, 1), BAD);
        s.enact(0, 1, 1, 1);
        for (int out : new int[] {LEAST, -1, 1, MOST}) due("law " + out, s.amend(out, 0, 1), BAD);
        for (int out : new int[] {LEAST, -1, 4, MOST}) due("what " + out, s.amend(0, out, 1), BAD);
        for (int what = 0; what < 4; what++) {
            due("below", s.amend(0, what, least[what] - 1), BAD);
            due("above", s.amend(0, what, most[what] + 1), BAD);
            due("far below", s.amend(0, what, LEAST), BAD);
            due("far above", s.amend(0, what, MOST), BAD);
            due("as it was", s.law(0, what), least[what]);
        }
        says(12, "THREAD of a COLOUR becomes v: what it was.");
        for (int c = 1; c <= 3; c++) {
            due("to 99", s.spool(c, 99), 20);
            due("to 0", s.spool(c, 0), 99);
            due("thread", s.thread(c), 0);
        }
        says(12, "BAD");
        for (int out : new int[] {LEAST, -1, 0, 4, MOST}) due("spool of " + out, s.spool(out, 5), BAD);
        for (int out : new int[] {LEAST, -1, 100, MOST}) due("spool to " + out, s.spool(1, out), BAD);
        due("all", s.count(4), 60);
        planned();
        says(15, "A LAW more: how many there are.");
        due("the least", s.enact(0, 1, 1, 1), 1);
        due("the most", s.enact(3, 3, 3, 9), 2);
        int[] laws = {0, 1, 1, 1, 3, 3, 3, 9};
        for (int i = 0; i < 8; i++) due("law", s.law(i / 4, i % 4), laws[i]);
        says(15, "BAD");
        for (int out : new int[] {LEAST, -1, 4, MOST}) due("kind " + out, s.enact(out, 1, 1, 1), BAD);
        for (int out : new int[] {LEAST, 0, 4, MOST}) due("first " + out, s.enact(0, out, 1, 1), BAD);
        for (int out : new int[] {LEAST, 0, 4, MOST}) due("second " + out, s.enact(0, 1, out, 1), BAD);
        for (int out : new int[] {LEAST, 0, 10, MOST}) due("worth " + out, s.enact(0, 1, 1, out), BAD);
        due("laws", s.rule(0), 0);
        says(15, "FULL");
        for (int i = 1; i <= 5; i++) due("enact", s.enact(1, 1, 1, i), i);
        due("enact of a 6th", s.enact(1, 1, 1, 6), FULL);
        due("laws", s.rule(0), 5);
    }

    private static void planned() {
        says(13, "A STITCH more in THE PLAN: how many it has.");
        due("plan", s.plan(0, 0, 1), 1);
        due("the same again", s.plan(0, 0, 1), 2);
        s.moth(5, 5);
        s.spool(3, 0);
        due("one that can not be", s.plan(5, 5, 3), 3);
        says(13, "BAD");
        for (int out : new int[] {LEAST, -1, 6, MOST}) {
            due("x " + out, s.plan(out, 0, 1), BAD);
            due("y " + out, s.plan(0, out, 1), BAD);
        }
        for (int out : new int[] {LEAST, -1, 0, 4, MOST}) due("colour " + out, s.plan(0, 0, out), BAD);
        due("the plan", s.rule(3), 0);
        says(13, "FULL");
        for (int i = 1; i <= 8; i++) due("plan", s.plan(0, 0, 1), i);
        due("plan of a 9th", s.plan(0, 0, 1), FULL);
        s.cut(7);
        due("plan when there is room", s.plan(0, 0, 1), 8);
        due("plan when there is none", s.plan(0, 0, 1), FULL);
        says(14, "THE PLAN has its first n STITCHES alone: how many it had.");
        due("of none", s.cut(0), 0);
        for (int i = 0; i < 8; i++) s.plan(i % 6, 0, 1);
        due("all of it", s.cut(8), 8);
        due("the first two", s.cut(2), 8);
        due("the plan", s.rule(3), 2);
        due("its second", s.stitch(1, 0), 1);
        due("nothing is kept", s.cut(0), 2);
        says(14, "BAD");
        s.plan(0, 0, 1);
        for (int out : new int[] {LEAST, -1, 2, 8, MOST}) due("cut " + out, s.cut(out), BAD);
        due("the plan", s.rule(3), 1);
    }

    // ---- promises 16 to 21: stitches

    private static void stitches() {
        says(16, "A STITCH of a COLOUR in a CELL: WORTH of THE CANVAS then.");
        s.enact(3, 1, 1, 9);
        due("work", s.work(5, 4, 1), 0);
        due("work below it", s.work(5, 5, 1), 9);
        due("work beside it", s.work(4, 5, 1), 18);
        due("thread", s.thread(1), 17);
        says(16, "BAD");
        for (int out : new int[] {LEAST, -1, 6, MOST}) {
            due("x " + out, s.work(out, 0, 1), BAD);
            due("y " + out, s.work(0, out, 1), BAD);
        }
        for (int out : new int[] {LEAST, -1, 0, 4, MOST}) due("colour " + out, s.work(0, 0, out), BAD);
        due("colours", s.rule(1), 0);
        says(16, "STATE: it is not bare");
        for (int c = 1; c <= 3; c++) {
            s.work(c, 0, c);
            due("of a colour", s.work(c, 0, 1), STATE);
        }
        s.moth(4, 0);
        due("a hole", s.work(4, 0, 1), STATE);
        due("thread", s.thread(1), 19);
        says(16, "there is no THREAD");
        s.spool(3, 1);
        due("the last", s.work(0, 0, 3), 0);
        due("none", s.work(0, 1, 3), STATE);
        s.spool(3, 1);
        due("one more", s.work(0, 1, 3), 0);
        given("thread 1 20;", 1);
        for (int i = 0; i < 20; i++) due("work", s.work(i / 6, i % 6, 1), 0);
        due("the 21st", s.work(5, 5, 1), STATE);
        unpickedAndMended();
        says(20, "BY THE PLAN: WORTH of THE CANVAS then (what 0), LAWS that are HELD (1; bits), how many STITCHES "
                + "came (2), the first that is passed over (3: its place; NONE).");
        s.enact(0, 1, 1, 9);
        s.enact(2, 1, 1, 1);
        int[] none = {0, 0, 0, NONE};
        for (int what = 0; what < 4; what++) due("of no plan, " + what, s.runs(what), none[what]);
        for (int i = 0; i < 8; i++) s.plan(i % 6, i / 6, 1);
        int[] all = {9 * 6 + 2, 3, 8, NONE};
        for (int what = 0; what < 4; what++) due("all come, " + what, s.runs(what), all[what]);
        s.work(0, 0, 2);
        int[] butFirst = {9 * 5 + 1, 3, 7, 0};
        for (int what = 0; what < 4; what++) due("all but the first, " + what, s.runs(what), butFirst[what]);
        s.unpick(0, 0);
        s.spool(1, 7);
        int[] butLast = {9 * 5 + 1, 3, 7, 7};
        for (int what = 0; what < 4; what++) due("all but the last, " + what, s.runs(what), butLast[what]);
        s.spool(1, 0);
        int[] nothing = {0, 0, 0, 0};
        for (int what = 0; what < 4; what++) due("none comes, " + what, s.runs(what), nothing[what]);
        says(20, "BAD");
        for (int out : new int[] {LEAST, -1, 4, MOST}) due("runs " + out, s.runs(out), BAD);
        says(21, "BY THE PLAN: COLOUR of a CELL then.");
        s.moth(3, 3);
        s.work(2, 2, 2);
        s.plan(3, 3, 1);
        s.plan(2, 2, 1);
        s.plan(1, 1, 3);
        due("a hole", s.ahead(3, 3), 4);
        due("worked already", s.ahead(2, 2), 2);
        due("planned", s.ahead(1, 1), 3);
        due("bare", s.ahead(0, 0), 0);
        says(21, "BAD");
        for (int out : new int[] {LEAST, -1, 6, MOST}) {
            due("x " + out, s.ahead(out, 0), BAD);
            due("y " + out, s.ahead(0, out), BAD);
        }
    }

    private static void unpickedAndMended() {
        says(17, "TO UNPICK a CELL: its COLOUR.");
        for (int c = 1; c <= 3; c++) {
            s.work(5, 5, c);
            due("unpick", s.unpick(5, 5), c);
            due("cell", s.cell(5, 5), 0);
            due("thread", s.thread(c), 19);
        }
        says(17, "BAD");
        for (int out : new int[] {LEAST, -1, 6, MOST}) {
            due("x " + out, s.unpick(out, 0), BAD);
            due("y " + out, s.unpick(0, out), BAD);
        }
        says(17, "STATE: it has none.");
        due("bare", s.unpick(0, 0), STATE);
        s.moth(0, 0);
        due("a hole", s.unpick(0, 0), STATE);
        due("it stays one", s.cell(0, 0), 4);
        says(18, "A MOTH in a CELL: its COLOUR (0 bare).");
        for (int c = 0; c <= 3; c++) {
            s.work(c, 5, c);
            due("moth", s.moth(c, 5), c);
            due("cell", s.cell(c, 5), 4);
        }
        due("holes", s.rule(2), 4);
        says(18, "BAD");
        for (int out : new int[] {LEAST, -1, 6, MOST}) {
            due("x " + out, s.moth(out, 0), BAD);
            due("y " + out, s.moth(0, out), BAD);
        }
        says(18, "STATE: it is a HOLE.");
        s.moth(0, 0);
        due("moth again", s.moth(0, 0), STATE);
        due("holes", s.rule(2), 1);
        says(19, "A HOLE is bare then: how many HOLES are left.");
        for (int i = 0; i < 36; i++) s.moth(i / 6, i % 6);
        for (int i = 0; i < 36; i++) due("mend", s.mend(i / 6, i % 6), 35 - i);
        due("cell", s.cell(0, 0), 0);
        says(19, "BAD");
        for (int out : new int[] {LEAST, -1, 6, MOST}) {
            due("x " + out, s.mend(out, 0), BAD);
            due("y " + out, s.mend(0, out), BAD);
        }
        says(19, "STATE: it is none.");
        due("bare", s.mend(0, 0), STATE);
        s.work(0, 0, 1);
        due("of a colour", s.mend(0, 0), STATE);
        due("it stays so", s.cell(0, 0), 1);
    }

    // ---- promises 22 to 27: what is best

    private static void whatIsBest() {
        says(22, "The STITCH, that can be, by which WORTH of THE CANVAS is most, more than as it is");
        given("row 0 0 2;row 2 1;beside 1 2 3;beside 1 3 4;thread 3 1;", 5);
        due("the most", s.best(0), 123);
        due("worth", s.best(1), 4);
        s.spool(3, 0);
        due("without its thread", s.best(0), 1);
        due("worth", s.best(1), 3);
        s.moth(0, 0);
        due("with a hole there", s.best(0), 122);
        s.work(1, 2, 1);
        due("with a stitch there", s.best(0), 222);
        s.spool(2, 0);
        due("nothing can be", s.best(0), NONE);
        says(22, "100 times x, 10 times y and the COLOUR, of several the least (what 0), WORTH then (1).");
        given("row 0 0 2;beside 1 2 3;", 2);
        due("the least there can be", s.best(0), 1);
        given("row 5 0 0 0 0 1;beside 1 3 3;", 2);
        due("the greatest there can be", s.best(0), 553);
        given("row 0 0 0 0 0 0 2;row 5 0 2;beside 1 2 3;", 3);
        due("x comes ahead of y", s.best(0), 51);
        given("row 0 1;beside 1 2 3;beside 1 3 3;", 3);
        due("of two colours", s.best(0), 102);
        due("worth", s.best(1), 3);
        says(22, "BAD");
        for (int out : new int[] {LEAST, -1, 2, MOST}) due("best " + out, s.best(out), BAD);
        says(22, "NONE: by none.");
        due("no laws", s.best(0), NONE);
        due("no laws", s.best(1), NONE);
        s.enact(0, 1, 1, 1);
        due("no stitch is enough", s.best(1), NONE);
        given(canvasOf(1) + "cross 1 1 9;", 7);
        due("no cell is bare", s.best(0), NONE);
        fewest();
        loosest();
        exchangedAndTurned();
        leftOut();
    }

    private static void fewest() {
        says(23, "The fewest STITCHES (0 to 2), each of which can be, by which a LAW is HELD");
        given("row 5 0 0 0 0 1;beside 1 2 1;beside 3 3 1;", 3);
        due("one, however late", s.need(0, 0), 1);
        due("it", s.need(0, 10), 552);
        due("two", s.need(1, 0), 2);
        s.spool(3, 1);
        due("one thread is not enough for two", s.need(1, 0), NONE);
        s.spool(3, 2);
        due("two threads are", s.need(1, 0), 2);
        s.spool(2, 0);
        due("none for the one", s.need(0, 0), NONE);
        s.spool(2, 1);
        s.work(5, 5, 2);
        due("held", s.need(0, 0), 0);
        given("row 0 0 4;row 1 4;beside 3 3 1;thread 3 2;", 4);
        due("two, where the first cell has none beside", s.need(0, 0), 2);
        due("the first", s.need(0, 10), 203);
        due("the second", s.need(0, 11), 303);
        says(23, "of several the first by rows");
        given("row 0 0 2;row 1 0 2;beside 1 2 1;", 3);
        due("the first there can be", s.need(0, 10), 1);
        given("row 0 0 0 0 0 1;row 1 1;beside 1 2 1;", 3);
        due("the upper row's, though its x is greater", s.need(0, 10), 502);
        given("row 2 0 0 2 0 1;beside 2 1 1;", 2);
        due("of one cell the lesser colour", s.need(0, 10), 321);
        given("cross 1 2 1;above 1 2 1;mirror 1 2 1;", 3);
        int[] firsts = {1, 1, 2};
        int[] seconds = {102, 12, 101};
        for (int l = 0; l < 3; l++) {
            due("first of two", s.need(l, 10), firsts[l]);
            due("second of two", s.need(l, 11), seconds[l]);
        }
        for (int i = 0; i < 36; i++) if (i != 29 && i != 34 && i != 35) s.moth(i / 6, i % 6);
        // (4, 5), (5, 4) and (5, 5) are left
        int[] lastFirsts = {541, 541, 452};
        int[] lastSeconds = {552, 552, 551};
        for (int l = 0; l < 3; l++) {
            due("first of the last", s.need(l, 10), lastFirsts[l]);
            due("second of the last", s.need(l, 11), lastSeconds[l]);
        }
        says(23, "how many (what 0); 10 and i: the i-th (as by best(); NONE: not so many).");
        given("beside 1 2 1;", 1);
        due("two", s.need(0, 0), 2);
        due("the first", s.need(0, 10), 1);
        due("the second", s.need(0, 11), 102);
        s.work(0, 0, 1);
        due("one", s.need(0, 0), 1);
        due("the first", s.need(0, 10), 102);
        due("not so many", s.need(0, 11), NONE);
        s.work(1, 0, 2);
        due("none", s.need(0, 0), 0);
        due("not so many", s.need(0, 10), NONE);
        due("not so many", s.need(0, 11), NONE);
        says(23, "BAD");
        due("no law", s.need(0, 0), BAD);
        s.enact(0, 1, 2, 1);
        for (int out : new int[] {LEAST, -1, 1, 5, MOST}) due("law " + out, s.need(out, 0), BAD);
        for (int out : new int[] {LEAST, -1, 1, 2, 9, 12, MOST}) due("what " + out, s.need(0, out), BAD);
        says(23, "NONE: by no two.");
        s.enact(0, 1, 2, 1);
        s.spool(1, 0);
        for (int what : new int[] {0, 10, 11}) due("no thread", s.need(0, what), NONE);
        s.spool(1, 20);
        for (int i = 0; i < 36; i++) if ((i / 6 + i) % 2 == 0) s.moth(i / 6, i % 6);
        for (int what : new int[] {0, 10, 11}) due("no two side by side", s.need(0, what), NONE);
    }

    private static void loosest() {
        says(24, "The CELL to be UNPICKED by which a LAW READS fewest, fewer than now: 10 times x and y, of several "
                + "the least (what 0), READS then (1).");
        given("row 0 1 2;row 5 0 0 0 0 1 1;beside 1 2 1;beside 1 1 1;above 3 3 1;", 5);
        due("the least there can be", s.loose(0, 0), 0);
        due("reads", s.loose(0, 1), 0);
        due("of two the least", s.loose(1, 0), 45);
        s.unpick(4, 5);
        s.work(5, 4, 3);
        s.unpick(5, 5);
        s.work(5, 5, 3);
        due("of two the upper", s.loose(2, 0), 54);
        given("row 0 0 0 0 0 2 3;row 5 2 3;beside 2 3 1;", 3);
        due("x comes ahead of y", s.loose(0, 0), 5);
        given("row 4 0 0 0 1 0 3;row 5 0 0 0 0 2 3;row 0 1 1 1;beside 1 1 1;cross 2 3 9;", 5);
        due("the middle one, fewest", s.loose(0, 0), 10);
        due("reads", s.loose(0, 1), 0);
        s.work(5, 0, 2);
        s.work(5, 1, 3);
        // (4, 5) above nothing, beside (5, 5); (5, 0) above (5, 1): either leaves one
        due("of several the least", s.loose(1, 0), 45);
        due("reads", s.loose(1, 1), 1);
        given("row 5 0 0 0 0 2 3;row 4 0 0 0 0 0 2;cross 2 3 1;", 3);
        due("the greatest there can be", s.loose(0, 0), 55);
        due("reads", s.loose(0, 1), 0);
        says(24, "BAD");
        due("no law", s.loose(0, 0), BAD);
        s.enact(0, 1, 2, 1);
        for (int out : new int[] {LEAST, -1, 1, MOST}) due("law " + out, s.loose(out, 0), BAD);
        for (int out : new int[] {LEAST, -1, 2, MOST}) due("what " + out, s.loose(0, out), BAD);
        says(24, "NONE: none.");
        s.enact(0, 1, 2, 1);
        due("bare", s.loose(0, 0), NONE);
        s.work(0, 0, 1);
        due("it does not read", s.loose(0, 0), NONE);
        due("it does not read", s.loose(0, 1), NONE);
        s.moth(1, 0);
        due("a hole is not unpicked", s.loose(0, 0), NONE);
    }

    private static void exchangedAndTurned() {
        says(25, "The two COLOURS (1 to 3) to be exchanged on THE CANVAS by which its WORTH is most, more than as "
                + "it is");
        given("row 0 1 1;beside 2 2 1;beside 3 3 2;thread 1 0;thread 2 0;thread 3 0;", 6);
        due("the most, thread or none", s.dye(0), 13);
        due("worth", s.dye(1), 2);
        due("all of it stays", s.cell(0, 0), 1);
        says(25, "10 times the lesser and the greater, of several the least (what 0), WORTH then (1).");
        given("row 0 1 1;beside 2 2 1;beside 3 3 1;", 3);
        due("of several", s.dye(0), 12);
        due("worth", s.dye(1), 1);
        given("row 0 2 2;beside 3 3 1;", 2);
        due("the greatest there can be", s.dye(0), 23);
        s.work(0, 1, 2);
        s.unpick(0, 0);
        due("as THE CANVAS is now", s.dye(0), NONE);
        s.work(1, 1, 2);
        due("as THE CANVAS is now", s.dye(1), 1);
        says(25, "BAD");
        for (int out : new int[] {LEAST, -1, 2, MOST}) due("dye " + out, s.dye(out), BAD);
        says(25, "NONE: by none.");
        due("bare", s.dye(0), NONE);
        given("row 0 1 1 0 2 2 4;beside 1 1 1;", 2);
        due("as much is not more", s.dye(0), NONE);
        due("as much is not more", s.dye(1), NONE);
        says(26, "The row (y) that is to be turned round (x for 5 less x), by which WORTH of THE CANVAS is most, "
                + "more than as it is, of several the first (what 0), WORTH then (1).");
        given("row 0 2 1;row 5 0 2 1 2 1;beside 1 2 1;beside 3 3 1;row 2 3 4 3;", 5);
        // row 0 would bring one; row 5 has one and would have two
        due("of several the first", s.turn(0), 0);
        due("worth", s.turn(1), 2);
        given("row 0 2 1;row 5 2 1 0 0 2 1;beside 1 2 1;", 3);
        due("the last", s.turn(0), 5);
        due("worth", s.turn(1), 2);
        given("row 3 1;row 4 0 0 0 0 0 1;above 1 1 1;", 3);
        due("either one: the first", s.turn(0), 3);
        due("nothing is turned", s.cell(0, 3), 1);
        s.unpick(0, 3);
        s.work(0, 2, 1);
        due("as THE CANVAS is now", s.turn(0), NONE);
        given("row 4 0 0 2 1;beside 1 2 1;", 2);
        due("the two in the middle too", s.turn(0), 4);
        says(26, "BAD");
        for (int out : new int[] {LEAST, -1, 2, MOST}) due("turn " + out, s.turn(out), BAD);
        says(26, "NONE: none.");
        due("bare", s.turn(0), NONE);
        given("row 0 1 2 0 0 2 1;beside 1 2 1;beside 2 1 1;", 3);
        due("as much is not more", s.turn(0), NONE);
        due("as much is not more", s.turn(1), NONE);
    }

    private static void leftOut() {
        says(27, "The STITCH of THE PLAN that is to be left out so that WORTH by it is most, more than as it is, of "
                + "several the first (what 0), WORTH then (1).");
        s.enact(0, 1, 2, 3);
        int[] plan = {0, 0, 1, 1, 0, 3, 3, 3, 1, 4, 3, 3, 1, 0, 2, 4, 3, 2};
        for (int i = 0; i < plan.length; i += 3) s.plan(plan[i], plan[i + 1], plan[i + 2]);
        due("of several the first", s.leave(0), 1);
        due("worth", s.leave(1), 3);
        due("the plan stays", s.rule(3), 6);
        s.cut(0);
        s.plan(0, 0, 1);
        for (int i = 0; i < 5; i++) s.plan(5, i, 3);
        s.plan(1, 0, 3);
        s.plan(1, 0, 2);
        due("the last that can be", s.leave(0), 6);
        s.cut(0);
        s.spool(2, 1);
        s.work(0, 0, 1);
        s.plan(5, 5, 2);
        s.plan(1, 0, 2);
        due("its thread is left for another", s.leave(0), 0);
        due("worth", s.leave(1), 3);
        says(27, "BAD");
        for (int out : new int[] {LEAST, -1, 2, MOST}) due("leave " + out, s.leave(out), BAD);
        says(27, "NONE: none.");
        due("no plan", s.leave(0), NONE);
        s.enact(0, 1, 1, 1);
        s.plan(3, 3, 3);
        due("as much is not more", s.leave(0), NONE);
        due("as much is not more", s.leave(1), NONE);
        s.cut(0);
        s.plan(0, 0, 1);
        s.plan(1, 0, 1);
        due("less is not more", s.leave(0), NONE);
        s.plan(5, 5, 3);
        due("as much is not more", s.leave(0), NONE);
    }

    // ---- promises 28, 29: red that runs

    private static void redThatRuns() {
        String eight = "row 0 1 0 1 0 1;row 1 1 0 1 0 1;row 2 1 0 1;";
        says(28, "Each CELL that can run does by v out of ten (0 to 10), by itself: that a LAW is HELD then: 0, 1.");
        given("row 0 1 0 1;row 1 1;beside 1 1 1;above 1 1 1;", 4);
        due("v 0", s.luck(0, 0, 0), 0);
        due("by", s.luck(0, 0, 1), 1);
        due("v 10", s.luck(10, 0, 0), 1);
        due("by", s.luck(10, 0, 1), 1);
        due("v 1: 1 less 9 by 10, thrice", s.luck(1, 0, 0), 271);
        due("by", s.luck(1, 0, 1), 1000);
        due("held as it is", s.luck(0, 1, 0), 1);
        given("row 0 1;row 3 1;beside 1 1 1;", 3);
        due("two can run", s.luck(5, 0, 0), 3);
        due("by", s.luck(5, 0, 1), 4);
        s.unpick(0, 3);
        s.work(2, 3, 1);
        due("two can run, one of them another", s.luck(5, 0, 0), 3);
        due("by", s.luck(5, 0, 1), 4);
        s.unpick(2, 3);
        due("one can run then", s.luck(5, 0, 0), 1);
        due("by", s.luck(5, 0, 1), 2);
        s.unpick(0, 0);
        due("none can run then", s.luck(5, 0, 0), 0);
        due("by", s.luck(5, 0, 1), 1);
        says(28, "BAD");
        due("no law", s.luck(5, 0, 0), BAD);
        s.enact(0, 1, 1, 1);
        for (int out : new int[] {LEAST, -1, 11, MOST}) due("v " + out, s.luck(out, 0, 0), BAD);
        for (int out : new int[] {LEAST, -1, 1, MOST}) due("law " + out, s.luck(5, out, 0), BAD);
        for (int out : new int[] {LEAST, -1, 2, MOST}) due("what " + out, s.luck(5, 0, out), BAD);
        says(28, "STATE: more than 8 can run.");
        given(eight + "beside 1 1 1;", 4);
        due("eight", s.luck(1, 0, 0), 56953279L);
        due("by", s.luck(1, 0, 1), 100000000L);
        s.work(5, 5, 1);
        due("at the edge it can not", s.luck(1, 0, 0), 56953279L);
        s.work(4, 4, 1);
        due("nine", s.luck(1, 0, 0), STATE);
        due("nine, and v 0", s.luck(0, 0, 1), STATE);
        s.work(5, 4, 2);
        due("eight again", s.luck(1, 0, 0), 56953279L);
        says(29, "Likewise, the mean of WORTH of THE CANVAS then: 0, 1.");
        given(eight + "beside 1 1 1;", 4);
        due("v 0", s.mean(0, 0), 0);
        due("by", s.mean(0, 1), 1);
        due("v 1: 13 places", s.mean(1, 0), 13);
        due("by", s.mean(1, 1), 10);
        due("v 10", s.mean(10, 0), 13);
        due("by", s.mean(10, 1), 1);
        given(canvasOf(1) + times(5, "cross1 1 9;"), 11);
        due("none can run", s.mean(3, 0), 2700);
        due("by", s.mean(3, 1), 1);
        says(29, "BAD");
        for (int out : new int[] {LEAST, -1, 11, MOST}) due("v " + out, s.mean(out, 0), BAD);
        for (int out : new int[] {LEAST, -1, 2, MOST}) due("what " + out, s.mean(5, out), BAD);
        says(29, "STATE: more than 8 can run.");
        given(eight, 3);
        due("eight", s.mean(5, 0), 0);
        s.work(4, 4, 1);
        due("nine", s.mean(5, 0), STATE);
        due("nine", s.mean(0, 1), STATE);
        s.moth(5, 4);
        due("eight again", s.mean(5, 0), 0);
    }

    // ---- promises 30 to 35: what was in the holes

    private static void whatWasInTheHoles() {
        says(30, "SEEN: a LAW READ n (0 to 60): how many are.");
        s.enact(3, 1, 1, 1);
        due("n 0", s.see(0, 0), 1);
        due("n 60", s.see(0, 60), 2);
        due("seen", s.count(0), 2);
        given(canvasOf(1) + "cross 1 1 1;", 7);
        s.see(0, 60);
        due("60 can be", s.fills(), 1);
        says(30, "BAD");
        due("no law", s.see(0, 0), BAD);
        s.enact(3, 1, 1, 1);
        for (int out : new int[] {LEAST, -1, 1, 5, MOST}) due("law " + out, s.see(out, 0), BAD);
        for (int out : new int[] {LEAST, -1, 61, MOST}) due("n " + out, s.see(0, out), BAD);
        due("seen", s.count(0), 0);
        says(30, "FULL");
        s.enact(3, 1, 1, 1);
        for (int i = 1; i <= 6; i++) due("see", s.see(0, 0), i);
        due("see of a 7th", s.see(0, 0), FULL);
        s.forget(5);
        due("see when there is room", s.see(0, 0), 6);
        due("see when there is none", s.see(0, 0), FULL);
        says(31, "SEEN are the first n alone: how many there were.");
        due("of none", s.forget(0), 0);
        s.enact(0, 1, 1, 1);
        for (int i = 0; i < 6; i++) s.see(0, i / 3);
        due("all of them", s.forget(6), 6);
        due("none fits", s.fills(), 0);
        due("the first three", s.forget(3), 6);
        due("they fit", s.fills(), 1);
        due("none is kept", s.forget(0), 3);
        due("seen", s.count(0), 0);
        says(31, "BAD");
        s.enact(0, 1, 1, 1);
        s.see(0, 0);
        for (int out : new int[] {LEAST, -1, 2, 6, MOST}) due("forget " + out, s.forget(out), BAD);
        due("seen", s.count(0), 1);
        fillsAndShades();
        spans();
        asked();
    }

    private static void fillsAndShades() {
        String four = "row 0 1 4;row 1 1 4;row 2 1 4;row 3 1 4;beside 1 1 1;";
        says(32, "How many FILLS FIT.");
        due("no holes, nothing seen", s.fills(), 1);
        given(four, 5);
        int[] many = {81, 108, 54, 12, 1, 0};
        due("nothing is seen", s.fills(), 256);
        for (int n = 0; n < 6; n++) {
            s.forget(0);
            s.see(0, n);
            due("fills by " + n, s.fills(), many[n]);
        }
        says(32, "STATE: there are more than 4 HOLES.");
        given(four, 5);
        s.moth(5, 5);
        due("five", s.fills(), STATE);
        for (int i = 0; i < 36; i++) s.moth(i / 6, i % 6);
        due("all", s.fills(), STATE);
        for (int i = 0; i < 32; i++) s.mend(i / 6, i % 6);
        due("four again", s.fills(), 256);
        says(33, "COLOURS (0 to 3; bits) of a HOLE in FILLS that FIT.");
        given(four, 5);
        due("all", s.shades(1, 0), 15);
        s.see(0, 4);
        for (int y = 0; y < 4; y++) due("red alone", s.shades(1, y), 2);
        s.forget(0);
        s.see(0, 0);
        due("all but red", s.shades(1, 3), 13);
        s.see(0, 1);
        due("none", s.shades(1, 3), 0);
        says(33, "BAD");
        for (int out : new int[] {LEAST, -1, 6, MOST}) {
            due("x " + out, s.shades(out, 0), BAD);
            due("y " + out, s.shades(0, out), BAD);
        }
        says(33, "STATE: it is no HOLE, there are more than 4.");
        due("bare", s.shades(0, 0), STATE);
        s.work(0, 0, 1);
        due("red", s.shades(0, 0), STATE);
        for (int y = 0; y < 4; y++) s.moth(5, y);
        due("the fourth", s.shades(5, 3), 15);
        s.moth(5, 4);
        due("one of five", s.shades(5, 3), STATE);
    }

    private static void spans() {
        says(34, "WORTH of THE CANVAS by FILLS that FIT: the least (what 0), the greatest (1).");
        due("no laws", s.span(0), 0);
        due("no laws", s.span(1), 0);
        given("row 0 1 4 1 4;beside 1 1 9;", 2);
        due("the least", s.span(0), 0);
        due("the greatest", s.span(1), 27);
        s.see(0, 2);
        due("of those that fit", s.span(0), 18);
        due("of those that fit", s.span(1), 18);
        says(34, "BAD");
        for (int out : new int[] {LEAST, -1, 2, MOST}) due("span " + out, s.span(out), BAD);
        says(34, "STATE: there are more than 4 HOLES");
        for (int y = 0; y < 4; y++) s.moth(5, y);
        due("four", s.span(0), 0);
        s.moth(5, 4);
        due("five", s.span(0), STATE);
        due("five", s.span(1), STATE);
        says(34, "NONE: none FITS.");
        s.enact(0, 1, 1, 1);
        s.see(0, 1);
        due("none", s.span(0), NONE);
        due("none", s.span(1), NONE);
    }

    private static void asked() {
        says(35, "The LAW to be read next, so that of FILLS that FIT fewest are left at the worst, fewer than now, "
                + "the first (what 0), how many these are (1).");
        given("row 0 1 4;row 1 1 4;row 2 1 4;row 3 1 4;above 3 3 1;beside 1 1 1;beside 1 2 1;", 7);
        // one of black 3 in pairs down: 0 by far; by beside, 108 of one red, and of one blue
        due("the first of the best", s.ask(0), 1);
        due("left at the worst", s.ask(1), 108);
        s.see(1, 4);
        due("one fits: not fewer than now", s.ask(0), NONE);
        due("one fits: not fewer than now", s.ask(1), NONE);
        s.forget(0);
        s.see(1, 1);
        s.see(2, 3);
        // four places of the red, all others blue: no law tells them apart
        due("four fit, and read alike", s.fills(), 4);
        due("not fewer than now", s.ask(0), NONE);
        given("row 0 1 4;beside 1 1 1;", 2);
        due("the first law", s.ask(0), 0);
        due("three are left", s.ask(1), 3);
        given(canvasOf(1) + times(5, "cross1 1 9;"), 11);
        due("no holes, 60 places", s.ask(0), NONE);
        s.moth(5, 5);
        due("one hole, 60 places or 58", s.ask(0), 0);
        due("three are left", s.ask(1), 3);
        s.see(4, 60);
        due("red it was", s.shades(5, 5), 2);
        due("nothing more to be told", s.ask(0), NONE);
        given(canvasOf(1) + times(4, "above2 2 1;") + "cross1 1 9;", 11);
        due("the last law's 60 places", s.ask(0), NONE);
        says(35, "BAD");
        for (int out : new int[] {LEAST, -1, 2, MOST}) due("ask " + out, s.ask(out), BAD);
        says(35, "STATE: there are more than 4 HOLES");
        s.enact(0, 1, 1, 1);
        for (int y = 0; y < 4; y++) s.moth(5, y);
        s.work(4, 0, 1);
        due("four", s.ask(0), 0);
        due("four", s.ask(1), 192);
        s.moth(5, 4);
        due("five", s.ask(0), STATE);
        due("five", s.ask(1), STATE);
        says(35, "NONE: none.");
        due("no holes, no laws", s.ask(0), NONE);
        s.moth(0, 0);
        due("no laws", s.ask(0), NONE);
        s.enact(0, 1, 1, 1);
        due("it does not tell", s.ask(0), NONE);
        s.work(1, 0, 1);
        due("it tells", s.ask(0), 0);
        s.see(0, 5);
        due("none fits", s.ask(0), NONE);
        due("none fits", s.ask(1), NONE);
    }

    // ---- promise 36: by a seed

    private static void bySeed() {
        says(36, "By itself, n times (1 to 60) by a seed: the seed becomes seed times 1103515245 and 12345; bits 16 "
                + "to 30 of it are got");
        // seed 0 becomes 12345: got 0, that is red in (0, 0); then 21468: black in (2, 0); then 9988: red in (2, 4)
        s.enact(0, 1, 2, 5);
        s.work(1, 0, 2);
        due("once", s.drift(0, 1, 0), 5);
        due("by itself", s.cell(0, 0), 0);
        due("and again", s.drift(0, 1, 0), 5);
        due("the highest bit is not got", s.drift(LEAST, 1, 0), 5);
        s.amend(0, 1, 2);
        s.amend(0, 2, 3);
        due("once is not twice", s.drift(0, 1, 0), 0);
        due("twice", s.drift(0, 2, 0), 5);
        due("60 times", s.drift(0, 60, 1) >= 0 ? 1 : 0, 1);
        says(36, "got modulo 36 is a CELL (x by 6, down, y modulo 6 of it)");
        // seed -1 wraps round to got 15929, then 4409: (2, 5) black, then a moth there
        s.enact(2, 1, 3, 1);
        s.work(2, 4, 1);
        due("a stitch at (2, 5)", s.drift(-1, 1, 0), 1);
        due("from the greatest seed", s.drift(MOST, 1, 0), 1);
        due("a moth in it", s.drift(MOST, 2, 0), 0);
        due("a moth in it", s.drift(MOST, 2, 1), 1);
        says(36, "a HOLE is bare then, one of a COLOUR has a MOTH");
        s.moth(0, 0);
        due("a hole is bare", s.drift(0, 1, 1), 0);
        due("by itself", s.cell(0, 0), 4);
        s.mend(0, 0);
        for (int c = 1; c <= 3; c++) {
            s.work(0, 0, c);
            due("a moth in colour " + c, s.drift(0, 1, 1), 1);
            s.unpick(0, 0);
        }
        due("a bare one has none", s.drift(0, 1, 1), 0);
        says(36, "a bare one a STITCH of COLOUR 1 and got by 64 (down) modulo 3, if there is THREAD");
        s.enact(0, 1, 2, 5);
        s.work(1, 0, 2);
        s.spool(1, 1);
        due("the last of its thread", s.drift(0, 1, 0), 5);
        due("it stays", s.thread(1), 1);
        s.spool(1, 0);
        due("no thread", s.drift(0, 1, 0), 0);
        s.spool(1, 1);
        s.amend(0, 0, 2);
        s.amend(0, 2, 3);
        s.work(2, 5, 3);
        // the third of seed 0 is red in (2, 4), above black
        due("the thread is out by then", s.drift(0, 3, 0), 0);
        s.spool(1, 2);
        due("it is not", s.drift(0, 3, 0), 5);
        says(36, "WORTH of THE CANVAS in the end (what 0), HOLES then (1).");
        s.enact(0, 1, 2, 5);
        s.work(0, 3, 1);
        s.work(1, 3, 2);
        s.moth(5, 5);
        due("worth", s.drift(0, 1, 0), 5);
        due("holes", s.drift(0, 1, 1), 1);
        says(36, "BAD");
        for (int out : new int[] {LEAST, -1, 0, 61, MOST}) due("n " + out, s.drift(1, out, 0), BAD);
        for (int out : new int[] {LEAST, -1, 2, MOST}) due("what " + out, s.drift(1, 1, out), BAD);
    }

    // ---- promises 37 to 43: images, sheets

    private static void imagesAndSheets() {
        says(37, "IMAGE k (0, 1) is THE CANVAS, THREADS, LAWS (all of them), THE PLAN: whether there was one (1, 0).");
        for (int k = 0; k < 2; k++) {
            due("there was none", s.keep(k), 0);
            due("there was one", s.keep(k), 1);
        }
        given(canvasOf(2), 6);
        for (int l = 0; l < 5; l++) s.enact(3, 2, 2, 1 + l);
        for (int i = 0; i < 8; i++) s.plan(i % 6, 0, 1);
        s.spool(3, 99);
        s.keep(1);
        told("");
        due("gone with a text", s.back(1), STATE);
        wholeImage();
        says(37, "BAD");
        for (int out : new int[] {LEAST, -1, 2, MOST}) due("keep " + out, s.keep(out), BAD);
        due("images", s.count(1), 0);
        says(38, "All is as IMAGE k: WORTH of THE CANVAS.");
        s.enact(0, 1, 1, 7);
        s.work(0, 0, 1);
        s.work(1, 0, 1);
        s.keep(0);
        s.unpick(0, 0);
        s.keep(1);
        due("as the first", s.back(0), 7);
        due("cell", s.cell(0, 0), 1);
        due("as the second", s.back(1), 0);
        due("cell", s.cell(0, 0), 0);
        s.work(0, 0, 2);
        due("the image is apart from what there is", s.back(0), 7);
        due("cell", s.cell(0, 0), 1);
        due("both are there still", s.count(1), 2);
        says(38, "BAD");
        s.keep(0);
        s.keep(1);
        for (int out : new int[] {LEAST, -1, 2, MOST}) due("back " + out, s.back(out), BAD);
        says(38, "STATE: there is none.");
        due("back 0", s.back(0), STATE);
        s.keep(1);
        due("of the other", s.back(0), STATE);
        due("of this", s.back(1), 0);
        sheetsAndLay();
        reads();
        refusedReads();
        torn();
        counts();
    }

    private static void wholeImage() {
        s = new SamplerLaw();
        for (int i = 0; i < 18; i++) s.work(i / 6, i % 6, 1);
        s.moth(5, 5);
        for (int l = 0; l < 5; l++) s.enact(3, 1, 1, 1 + l);
        for (int i = 0; i < 8; i++) s.plan(i % 6, 0, 1);
        s.spool(3, 99);
        s.keep(1);
        s.keep(0);
        for (int i = 0; i < 18; i++) s.unpick(i / 6, i % 6);
        s.mend(5, 5);
        for (int l = 0; l < 5; l++) s.amend(l, 3, 9);
        s.cut(0);
        for (int c = 1; c <= 3; c++) s.spool(c, 0);
        // 12 beside and 15 above, 15 times
        due("back", s.back(1), 27 * 15);
        for (int i = 0; i < 36; i++) due("cell", s.cell(i / 6, i % 6), i < 18 ? 1 : i == 35 ? 4 : 0);
        for (int l = 0; l < 5; l++) due("law", s.law(l, 3), 1 + l);
        for (int i = 0; i < 8; i++) due("stitch", s.stitch(i, 0), i % 6);
        due("plan", s.rule(3), 8);
        due("thread 1", s.thread(1), 2);
        due("thread 2", s.thread(2), 20);
        due("thread 3", s.thread(3), 99);
    }

    private static void lay(int k, int... values) {
        for (int i = 0; i < values.length; i++) due("lay", s.lay(k, i, values[i]), 1);
    }

    private static void sheetsAndLay() {
        says(39, "A SHEET is a new row of CELLS 0: 1.");
        due("of none", s.sheet(0, 0, 0), 1);
        due("cells", s.count(3), 0);
        due("of 40", s.sheet(0, 0, 40), 1);
        due("cells", s.count(3), 40);
        due("of three ints", s.sheet(0, 2, 3), 1);
        lay(0, 1, 1, 1);
        due("of three anew", s.sheet(0, 2, 3), 1);
        due("lay", s.lay(0, 2, 2), 1);
        due("its first cells are 0", s.read(0, 2, 0, 1), 1);
        due("so it is (0, 0)", s.cell(0, 0), 2);
        says(39, "BAD: also n above 40");
        for (int out : new int[] {LEAST, -1, 4, MOST}) due("sheet " + out, s.sheet(out, 0, 1), BAD);
        for (int out : new int[] {LEAST, -1, 3, MOST}) due("lane " + out, s.sheet(0, out, 1), BAD);
        for (int out : new int[] {41, MOST}) due("n " + out, s.sheet(0, 0, out), BAD);
        due("still nothing", s.count(3), NONE);
        says(39, "-10 - 4.");
        due("below 0", s.sheet(0, 0, -1), -14);
        due("far below 0", s.sheet(3, 2, LEAST), -14);
        due("still nothing", s.count(3), NONE);
        s.sheet(0, 0, 5);
        due("below 0", s.sheet(0, 0, -1), -14);
        due("as it was", s.count(3), 5);
        says(40, "CELL i of a SHEET becomes v (its lowest bits): 1.");
        s.sheet(0, 0, 3);
        lay(0, 256 + 3, -256 + 4, 65536 + 1);
        due("bytes", s.read(0, 0, 0, 1), 1);
        due("cell", s.cell(3, 4), 1);
        lay(0, 128, 0, 1);
        due("a byte of 128 is below 0", s.read(0, 0, 0, 1), -20);
        lay(0, 255, 0, 1);
        due("a byte of 255 is below 0", s.read(0, 0, 0, 1), -20);
        s.sheet(1, 1, 3);
        lay(1, 65536 + 5, LEAST, -65536 + 2);
        due("shorts", s.read(1, 1, 0, 1), 1);
        due("cell", s.cell(5, 0), 2);
        lay(1, 256, 1, 1);
        due("shorts have more than bytes", s.read(1, 1, 0, 1), -20);
        s.sheet(2, 2, 3);
        lay(2, 65536, 1, 1);
        due("ints have more than shorts", s.read(2, 2, 0, 1), -20);
        lay(2, LEAST, 1, 1);
        due("ints have all", s.read(2, 2, 0, 1), -20);
        lay(2, 0, 1, 1);
        due("ints", s.read(2, 2, 0, 1), 1);
        says(40, "BAD: k");
        for (int out : new int[] {LEAST, -1, 4, MOST}) due("lay on " + out, s.lay(out, 0, 0), BAD);
        says(40, "-10 less the FAULT: NULL, INDEX.");
        due("nothing", s.lay(0, 0, 0), -11);
        due("nothing comes ahead of an index", s.lay(0, -1, 0), -11);
        s.sheet(0, 0, 0);
        due("of no cells", s.lay(0, 0, 0), -12);
        s.sheet(0, 0, 40);
        due("the first", s.lay(0, 0, 0), 1);
        due("the last", s.lay(0, 39, 0), 1);
        for (int out : new int[] {LEAST, -1, 40, MOST}) due("cell " + out, s.lay(0, out, 0), -12);
    }

    private static void reads() {
        says(41, "n (0 to 13) STITCHES (x, y, COLOUR) are read of a SHEET taken as of a lane, three CELLS each from "
                + "CELL f on, one behind another as by work(): how many came.");
        due("none, of nothing", s.read(0, 0, 0, 0), 0);
        layThirteen(1);
        due("none", s.read(0, 2, 1, 0), 0);
        due("none, as of another lane", s.read(0, 0, 1, 0), 0);
        due("none, from beyond", s.read(0, 2, 99, 0), 0);
        due("nothing came", s.rule(1), 0);
        due("thirteen, to the last cell", s.read(0, 2, 1, 13), 13);
        for (int i = 0; i < 13; i++) due("cell", s.cell(i % 6, i / 6), 1 + i % 3);
        due("thread 1", s.thread(1), 15);
        due("thread 2", s.thread(2), 16);
        due("no fault", s.torn(), 0);
        s = new SamplerLaw();
        layThirteen(0);
        due("the last one alone", s.read(0, 2, 36, 1), 1);
        due("colours", s.rule(1), 1);
        due("cell", s.cell(0, 2), 1);
        says(41, "What the machine refuses: those that were whole ahead came (its FAULT is asked by torn()).");
        layThirteen(0);
        due("from the last but one on", s.read(0, 2, 33, 4), 2);
        due("index", s.torn(), 2);
        due("they came", s.rule(1), 2);
        due("and their thread went", s.count(4), 58);
        due("two cells are not whole", s.read(0, 2, 38, 1), 0);
        due("index", s.torn(), 2);
        due("one cell is not whole", s.read(0, 2, 39, 1), 0);
        due("index", s.torn(), 2);
        for (int out : new int[] {LEAST, -3, -2, -1, 40, MOST - 2, MOST}) {
            due("from " + out, s.read(0, 2, out, 13), 0);
            due("index", s.torn(), 2);
        }
        due("of nothing", s.read(1, 2, 0, 13), 0);
        due("null", s.torn(), 1);
        due("of nothing, from anywhere, as of any lane", s.read(1, 0, -1, 1), 0);
        due("null", s.torn(), 1);
        due("as of another lane", s.read(0, 1, 0, 1), 0);
        due("cast", s.torn(), 3);
        due("as of another lane, from beyond", s.read(0, 0, -1, 13), 0);
        due("cast comes ahead of index", s.torn(), 3);
        s.sheet(2, 1, 0);
        due("of no cells, another lane", s.read(2, 0, 0, 1), 0);
        due("cast", s.torn(), 3);
        due("of no cells", s.read(2, 1, 0, 1), 0);
        due("index", s.torn(), 2);
        due("none of it came", s.rule(1), 2);
    }

    /** Ints with thirteen stitches from this cell on, by rows, of each colour in turn. */
    private static void layThirteen(int from) {
        s.sheet(0, 2, 40);
        for (int i = 0; i < 13; i++) {
            s.lay(0, from + 3 * i, i % 6);
            s.lay(0, from + 3 * i + 1, i / 6);
            s.lay(0, from + 3 * i + 2, 1 + i % 3);
        }
    }

    private static void refusedReads() {
        says(41, "BAD: k, lane, n");
        for (int out : new int[] {LEAST, -1, 4, MOST}) due("sheet " + out, s.read(out, 0, 0, 1), BAD);
        for (int out : new int[] {LEAST, -1, 3, MOST}) due("lane " + out, s.read(0, out, 0, 1), BAD);
        for (int out : new int[] {LEAST, -1, 14, MOST}) due("n " + out, s.read(0, 0, 0, out), BAD);
        says(41, "-20 less i: the i-th, whole, is refused by work() (in whichever way): then none came");
        layThirteen(0);
        s.lay(0, 0, 6);
        due("no such cell, the first", s.read(0, 2, 0, 13), -20);
        s.lay(0, 0, -1);
        due("no such cell", s.read(0, 2, 0, 13), -20);
        s.lay(0, 0, 0);
        s.lay(0, 37, 6);
        due("no such cell, the last", s.read(0, 2, 0, 13), -32);
        s.lay(0, 37, 2);
        s.lay(0, 38, 0);
        due("no colour", s.read(0, 2, 0, 13), -32);
        s.lay(0, 38, 4);
        due("no colour", s.read(0, 2, 0, 13), -32);
        s.lay(0, 38, 1);
        s.spool(1, 4);
        due("the thread gives out", s.read(0, 2, 0, 13), -32);
        s.spool(1, 5);
        s.moth(0, 2);
        due("a hole", s.read(0, 2, 0, 13), -32);
        s.mend(0, 2);
        s.lay(0, 36, 5);
        s.lay(0, 37, 1);
        due("one read just now is there", s.read(0, 2, 0, 13), -32);
        due("none came", s.rule(1), 0);
        due("nor went thread", s.count(4), 45);
        s.lay(0, 36, 0);
        s.lay(0, 37, 2);
        due("all of them", s.read(0, 2, 0, 13), 13);
        due("thread", s.thread(1), 0);
        says(41, "the first met.");
        s.sheet(0, 0, 5);
        lay(0, 0, 0, 0, 1, 1);
        due("refused ahead of what is torn", s.read(0, 0, 0, 2), -20);
        s.lay(0, 2, 1);
        s.lay(0, 3, 9);
        due("torn, whatever it has", s.read(0, 0, 0, 2), 1);
        due("index", s.torn(), 2);
        s.sheet(0, 0, 6);
        due("two that would be refused", s.read(0, 0, 0, 2), -20);
        lay(0, 1, 1, 1);
        due("the second", s.read(0, 0, 0, 2), -21);
        due("another lane ahead of both", s.read(0, 1, 0, 2), 0);
        due("cast", s.torn(), 3);
    }

    private static void torn() {
        says(42, "The FAULT of the latest read() that came to an end; 0.");
        due("at first", s.torn(), 0);
        s.read(0, 0, 0, 1);
        due("null", s.torn(), 1);
        s.lay(0, -1, 0);
        s.sheet(1, 0, -1);
        due("others' faults are not asked", s.torn(), 1);
        s.read(4, 0, 0, 1);
        due("one that is BAD came to no end", s.torn(), 1);
        s.sheet(0, 0, 3);
        due("refused", s.read(0, 0, 0, 1), -20);
        due("one that is refused came to no end", s.torn(), 1);
        s.read(0, 0, 1, 1);
        due("index", s.torn(), 2);
        s.read(0, 2, 0, 1);
        due("cast", s.torn(), 3);
        s.lay(0, 2, 1);
        due("one came", s.read(0, 0, 0, 1), 1);
        due("none", s.torn(), 0);
        s.read(0, 2, 0, 1);
        s.read(0, 2, 0, 0);
        due("of none read", s.torn(), 0);
        s.read(0, 2, 0, 1);
        told("");
        s.keep(0);
        s.back(0);
        due("a text and an image are no read", s.torn(), 3);
    }

    private static void counts() {
        says(43, "How many: 0 SEEN, 1 IMAGES, 2 bytes on THE TAPE, 3 CELLS of SHEET 0 (NONE: nothing), 4 all "
                + "THREAD, 5 CELLS that can run.");
        int[] first = {0, 0, 0, NONE, 60, 0};
        for (int what = 0; what < 6; what++) due("at first, " + what, s.count(what), first[what]);
        s.enact(0, 1, 1, 1);
        for (int i = 0; i < 6; i++) s.see(0, 0);
        s.keep(1);
        due("one image", s.count(1), 1);
        s.keep(0);
        s.sheet(1, 0, 9);
        due("sheet 1 is another", s.count(3), NONE);
        s.sheet(0, 0, 0);
        due("sheet of none", s.count(3), 0);
        s.sheet(0, 2, 40);
        for (int i = 0; i < 18; i++) s.work(i / 6 * 2, i % 6, 1);
        for (int c = 1; c <= 3; c++) s.spool(c, 99);
        for (int i = 0; i < 160; i++) s.feed(0);
        int[] most = {6, 2, 160, 40, 297, 18};
        for (int what = 0; what < 6; what++) due("at most, " + what, s.count(what), most[what]);
        for (int c = 1; c <= 3; c++) s.spool(c, 0);
        due("no thread", s.count(4), 0);
        says(43, "BAD");
        for (int out : new int[] {LEAST, -1, 6, MOST}) due("count " + out, s.count(out), BAD);
    }
}
