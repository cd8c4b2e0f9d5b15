/** Each promise by answers worked out by hand from the document. */
public final class PromisesTest {
    private static int wrong = 0;
    private static int promise = 0;
    private static SamplerLaw s;

    public static void main(String[] args) {
        newObject();
        tape();
        textTaken();
        textFaults();
        textReplaces();
        ruleAndLooks();
        lawReads();
        changes();
        stitches();
        byThePlan();
        bestStitch();
        need();
        loose();
        dyeAndTurn();
        leave();
        redRuns();
        holes();
        ask();
        drift();
        images();
        sheets();
        reads();
        counts();
        System.out.println(wrong == 0 ? "all promises hold" : wrong + " answers are not as due");
        if (wrong != 0) System.exit(1);
    }

    private static void of(int number) {
        promise = number;
        s = new SamplerLaw();
    }

    private static void due(String call, long got, long want) {
        if (got != want) {
            wrong++;
            System.out.println("promise " + promise + ": " + call + " answered " + got + ", due is " + want);
        }
    }

    private static int told(String text) {
        for (int i = 0; i < text.length(); i++) s.feed(text.charAt(i));
        return s.text();
    }

    private static void taken(String text, int lines) {
        due("text " + text, told(text), lines);
        due("fault() of " + text, s.fault(), 0);
    }

    private static void refused(String text, int place, int fault) {
        due("text " + text, told(text), -10 - place);
        due("fault() of " + text, s.fault(), fault);
    }

    private static void newObject() {
        of(1);
        for (int x = 0; x < 6; x++) for (int y = 0; y < 6; y++) due("cell", s.cell(x, y), 0);
        for (int c = 1; c <= 3; c++) due("thread", s.thread(c), 20);
        for (int what = 0; what <= 5; what++) due("rule " + what, s.rule(what), 0);
        due("fault", s.fault(), 0);
        due("torn", s.torn(), 0);
        due("count 0", s.count(0), 0);
        due("count 1", s.count(1), 0);
        due("count 2", s.count(2), 0);
        due("count 3", s.count(3), SamplerLaw.NONE);
        due("count 4", s.count(4), 60);
        due("count 5", s.count(5), 0);
        for (int k = 0; k < 4; k++) due("lay " + k, s.lay(k, 0, 0), -11);
        due("back 0", s.back(0), SamplerLaw.STATE);
        due("back 1", s.back(1), SamplerLaw.STATE);
    }

    private static void tape() {
        of(2);
        due("feed -1", s.feed(-1), SamplerLaw.BAD);
        due("feed 128", s.feed(128), SamplerLaw.BAD);
        due("feed 0", s.feed(0), 1);
        due("feed 127", s.feed(127), 2);
        for (int i = 3; i <= 160; i++) due("feed", s.feed(32), i);
        due("feed the 161st", s.feed(32), SamplerLaw.FULL);
        due("feed -1 when full", s.feed(-1), SamplerLaw.BAD);
        due("count 2", s.count(2), 160);
        of(3);
        s.feed(32);
        s.feed(32);
        s.feed(65);
        due("end -1", s.end(-1), SamplerLaw.BAD);
        due("end 4", s.end(4), SamplerLaw.BAD);
        due("end 3", s.end(3), 3);
        due("end 2", s.end(2), 3);
        due("count 2", s.count(2), 2);
        due("text of what is left", s.text(), 0);
        due("end 0", s.end(0), 0);
        due("end 1", s.end(1), SamplerLaw.BAD);
    }

    private static void textTaken() {
        of(4);
        taken("", 0);
        taken("   ", 0);
        taken("row 0;", 1);
        taken("row5 4 3 2 1 0;thread 1 99;mirror3 2 1;thread2 00;", 4);
        due("cell 0 5", s.cell(0, 5), 4);
        due("cell 3 5", s.cell(3, 5), 1);
        due("cell 4 5", s.cell(4, 5), 0);
        due("thread 1", s.thread(1), 99);
        due("thread 2", s.thread(2), 0);
        due("thread 3", s.thread(3), 20);
        due("law 0 0", s.law(0, 0), 1);
        due("law 0 1", s.law(0, 1), 3);
        due("law 0 2", s.law(0, 2), 2);
        due("law 0 3", s.law(0, 3), 1);
        due("tape is empty", s.count(2), 0);
        taken("beside 1 1 1;mirror 1 1 2;above 1 1 3;cross 1 1 04 ; cross 1 1 9 ;", 5);
        for (int l = 0; l < 4; l++) due("kind", s.law(l, 0), l);
    }

    private static void textFaults() {
        of(5);
        refused("A", 0, 1);
        refused("  row 0 1-;", 9, 1);
        refused("row 100;", 4, 1);
        refused("row 6 !", 4, 3);
        refused("row\t0;", 3, 1);
        refused("row 0 000;", 6, 1);
        refused(";", 0, 2);
        refused("7;", 0, 2);
        refused("rows 1;", 0, 2);
        refused("ro 1;", 0, 2);
        refused("row", 3, 2);
        refused("row  ", 5, 2);
        refused("row;", 3, 2);
        refused("row 0 1", 7, 2);
        refused("row 0 row", 6, 2);
        refused("beside 1 1 1 1;", 13, 2);
        refused("thread 1;", 8, 2);
        refused("row 6;", 4, 3);
        refused("row 0 1 5;", 8, 3);
        refused("cross 1 1 10;", 10, 3);
        refused("mirror 4 1 1;", 7, 3);
        refused("above 1 0 1;", 8, 3);
        refused("thread 4 1;", 7, 3);
        refused("row 1;row 01;", 10, 4);
        refused("thread 2 1;thread 2 3;", 18, 4);
        refused("row 0 1 1 1 1 1 1 0;", 18, 5);
        refused("row 0 1 1 1 1 1 1 9;", 18, 5);
        refused("row 0 1 1 1 1 1 1 100;", 18, 1);
        refused("row 0 1 1 1 1 1 1 a;", 18, 2);
        refused("row 0 1 1 1 1 1 1 row 1 1;", 18, 2);
        refused("row0 1 1 1 2 0 1o", 16, 2);
        refused("row 0 1 1 1 1 1 1", 17, 2);
        refused("cross 1 1 1;cross 1 1 1;cross 1 1 1;cross 1 1 1;cross 1 1 1; above", 61, 5);
        due("feed", s.feed(32), 1);
        due("fault stays until the next text", s.fault(), 5);
        taken("", 0);
    }

    private static void textReplaces() {
        of(4);
        s.work(0, 0, 1);
        s.enact(0, 1, 1, 1);
        s.plan(1, 1, 1);
        s.see(0, 0);
        s.keep(0);
        s.sheet(0, 0, 5);
        s.read(1, 0, 0, 1);
        refused("row 0 2; thread 1 5; x", 21, 2);
        due("cell", s.cell(0, 0), 1);
        due("thread", s.thread(1), 19);
        due("laws", s.rule(0), 1);
        due("plan", s.rule(3), 1);
        due("seen", s.count(0), 1);
        due("images", s.count(1), 1);
        taken("", 0);
        due("cell", s.cell(0, 0), 0);
        due("thread", s.thread(1), 20);
        due("laws", s.rule(0), 0);
        due("plan", s.rule(3), 0);
        due("seen", s.count(0), 0);
        due("images", s.count(1), 0);
        due("back", s.back(0), SamplerLaw.STATE);
        due("sheets stay", s.count(3), 5);
        due("torn stays", s.torn(), 1);
    }

    private static void ruleAndLooks() {
        of(6);
        taken("row 0 1 2 4 3;row 1 4;beside 1 2 5;above 3 3 2;mirror 2 1 1;", 5);
        s.plan(0, 0, 1);
        due("rule 0", s.rule(0), 3);
        due("rule 1", s.rule(1), 3);
        due("rule 2", s.rule(2), 2);
        due("rule 3", s.rule(3), 1);
        due("rule 4", s.rule(4), 5);
        due("rule 5", s.rule(5), 6);
        due("rule 6", s.rule(6), SamplerLaw.BAD);
        due("rule -1", s.rule(-1), SamplerLaw.BAD);
        promise = 7;
        due("cell 3 0", s.cell(3, 0), 3);
        due("cell 2 0", s.cell(2, 0), 4);
        due("cell 0 1", s.cell(0, 1), 4);
        due("cell 6 0", s.cell(6, 0), SamplerLaw.BAD);
        due("cell 0 6", s.cell(0, 6), SamplerLaw.BAD);
        due("cell -1 0", s.cell(-1, 0), SamplerLaw.BAD);
        due("cell 0 -1", s.cell(0, -1), SamplerLaw.BAD);
        promise = 8;
        due("thread 0", s.thread(0), SamplerLaw.BAD);
        due("thread 4", s.thread(4), SamplerLaw.BAD);
        due("thread 3", s.thread(3), 20);
        promise = 10;
        s.plan(5, 4, 3);
        due("stitch 1 0", s.stitch(1, 0), 5);
        due("stitch 1 1", s.stitch(1, 1), 4);
        due("stitch 1 2", s.stitch(1, 2), 3);
        due("stitch 1 3", s.stitch(1, 3), SamplerLaw.BAD);
        due("stitch 1 -1", s.stitch(1, -1), SamplerLaw.BAD);
        due("stitch 2 0", s.stitch(2, 0), SamplerLaw.BAD);
        due("stitch -1 0", s.stitch(-1, 0), SamplerLaw.BAD);
    }

    private static void lawReads() {
        of(9);
        taken("row 0 1 2 1 2 0 1;row 1 2 1 4 2;beside 1 2 1;mirror 1 2 1;above 1 2 1;cross 1 2 1;", 6);
        // row 0: 12 at 0 and 2, 21 at 1; row 1: 21 at 0; above 12 at x 0, 21 at x 1, 22 at x 3
        int[] front = {2, 2, 1, 3};
        int[] behind = {2, 2, 1, 3};
        for (int l = 0; l < 4; l++) {
            due("law " + l + " 4", s.law(l, 4), front[l]);
            due("law " + l + " 5", s.law(l, 5), behind[l]);
        }
        s.unpick(0, 1);
        due("beside", s.law(0, 4), 2);
        due("beside by the back", s.law(0, 5), 1);
        due("mirror", s.law(1, 4), 1);
        due("mirror by the back", s.law(1, 5), 2);
        due("above", s.law(2, 4), 0);
        due("above by the back", s.law(2, 5), 0);
        due("cross", s.law(3, 4), 2);
        due("cross by the back", s.law(3, 5), 1);
        due("law 4 0", s.law(4, 0), SamplerLaw.BAD);
        due("law -1 0", s.law(-1, 0), SamplerLaw.BAD);
        due("law 0 6", s.law(0, 6), SamplerLaw.BAD);
        due("law 0 -1", s.law(0, -1), SamplerLaw.BAD);
        taken("row 0 1 1 1;row 1 1 1 1;cross 1 1 9;mirror 1 1 1;above 2 2 1;", 5);
        due("cross of one colour", s.law(0, 4), 7);
        due("mirror of one colour", s.law(1, 4), 4);
        due("worth", s.rule(5), 67);
        taken("row 0 0 4;row 5 1 0 0 0 0 2;row 4 0 0 0 0 0 2;above 2 2 1;beside 2 1 1;cross 1 2 1;", 6);
        due("the last row", s.law(0, 4), 1);
        due("rows are not joined", s.law(1, 4), 0);
        due("edges", s.law(2, 4), 0);
    }

    private static void changes() {
        of(11);
        s.enact(0, 1, 2, 3);
        due("kind 4", s.amend(0, 0, 4), SamplerLaw.BAD);
        due("kind -1", s.amend(0, 0, -1), SamplerLaw.BAD);
        due("first 0", s.amend(0, 1, 0), SamplerLaw.BAD);
        due("first 4", s.amend(0, 1, 4), SamplerLaw.BAD);
        due("second 4", s.amend(0, 2, 4), SamplerLaw.BAD);
        due("worth 0", s.amend(0, 3, 0), SamplerLaw.BAD);
        due("worth 10", s.amend(0, 3, 10), SamplerLaw.BAD);
        due("what 4", s.amend(0, 4, 1), SamplerLaw.BAD);
        due("what -1", s.amend(0, -1, 1), SamplerLaw.BAD);
        due("law 1", s.amend(1, 0, 1), SamplerLaw.BAD);
        due("kind", s.amend(0, 0, 3), 0);
        due("first", s.amend(0, 1, 3), 1);
        due("second", s.amend(0, 2, 1), 2);
        due("worth", s.amend(0, 3, 9), 3);
        due("worth again", s.amend(0, 3, 9), 9);
        due("law kind", s.law(0, 0), 3);
        due("law first", s.law(0, 1), 3);
        due("law second", s.law(0, 2), 1);
        of(12);
        due("spool 0", s.spool(0, 1), SamplerLaw.BAD);
        due("spool 4", s.spool(4, 1), SamplerLaw.BAD);
        due("spool to -1", s.spool(1, -1), SamplerLaw.BAD);
        due("spool to 100", s.spool(1, 100), SamplerLaw.BAD);
        due("spool to 99", s.spool(1, 99), 20);
        due("spool to 0", s.spool(1, 0), 99);
        due("thread", s.thread(1), 0);
        of(13);
        due("plan x 6", s.plan(6, 0, 1), SamplerLaw.BAD);
        due("plan y -1", s.plan(0, -1, 1), SamplerLaw.BAD);
        due("plan colour 0", s.plan(0, 0, 0), SamplerLaw.BAD);
        due("plan colour 4", s.plan(0, 0, 4), SamplerLaw.BAD);
        for (int i = 1; i <= 8; i++) due("plan", s.plan(0, 0, 1), i);
        due("plan the 9th", s.plan(0, 0, 1), SamplerLaw.FULL);
        due("plan a bad 9th", s.plan(0, 0, 4), SamplerLaw.BAD);
        promise = 14;
        due("cut 9", s.cut(9), SamplerLaw.BAD);
        due("cut -1", s.cut(-1), SamplerLaw.BAD);
        due("cut 2", s.cut(2), 8);
        due("cut 3", s.cut(3), SamplerLaw.BAD);
        due("cut 0", s.cut(0), 2);
        due("plan", s.rule(3), 0);
        of(15);
        due("enact kind 4", s.enact(4, 1, 1, 1), SamplerLaw.BAD);
        due("enact first 0", s.enact(0, 0, 1, 1), SamplerLaw.BAD);
        due("enact second 4", s.enact(0, 1, 4, 1), SamplerLaw.BAD);
        due("enact worth 0", s.enact(0, 1, 1, 0), SamplerLaw.BAD);
        due("enact worth 10", s.enact(0, 1, 1, 10), SamplerLaw.BAD);
        for (int i = 1; i <= 5; i++) due("enact", s.enact(3, 3, 3, 9), i);
        due("enact the 6th", s.enact(3, 3, 3, 9), SamplerLaw.FULL);
        due("enact a bad 6th", s.enact(-1, 3, 3, 9), SamplerLaw.BAD);
    }

    private static void stitches() {
        of(16);
        s.enact(0, 1, 2, 4);
        s.spool(2, 1);
        due("work", s.work(0, 0, 1), 0);
        due("work beside", s.work(1, 0, 2), 4);
        due("thread 2", s.thread(2), 0);
        due("thread 1", s.thread(1), 19);
        due("no thread", s.work(3, 3, 2), SamplerLaw.STATE);
        due("not bare", s.work(0, 0, 3), SamplerLaw.STATE);
        due("bad ahead of state", s.work(0, 0, 4), SamplerLaw.BAD);
        due("x 6", s.work(6, 0, 1), SamplerLaw.BAD);
        due("colour 0", s.work(3, 3, 0), SamplerLaw.BAD);
        s.moth(5, 5);
        due("a hole", s.work(5, 5, 1), SamplerLaw.STATE);
        promise = 17;
        due("unpick", s.unpick(1, 0), 2);
        due("thread stays", s.thread(2), 0);
        due("worth", s.rule(5), 0);
        due("unpick bare", s.unpick(1, 0), SamplerLaw.STATE);
        due("unpick a hole", s.unpick(5, 5), SamplerLaw.STATE);
        due("unpick x 6", s.unpick(6, 0), SamplerLaw.BAD);
        promise = 18;
        due("moth", s.moth(0, 0), 1);
        due("moth bare", s.moth(1, 0), 0);
        due("moth a hole", s.moth(0, 0), SamplerLaw.STATE);
        due("moth y 6", s.moth(0, 6), SamplerLaw.BAD);
        promise = 19;
        due("mend", s.mend(0, 0), 2);
        due("mend bare", s.mend(0, 0), SamplerLaw.STATE);
        due("mend y -1", s.mend(0, -1), SamplerLaw.BAD);
        due("cell", s.cell(0, 0), 0);
    }

    private static void byThePlan() {
        of(20);
        s.enact(0, 1, 2, 4);
        s.enact(2, 1, 1, 2);
        s.spool(1, 2);
        due("no plan, passed", s.runs(3), SamplerLaw.NONE);
        due("no plan, came", s.runs(2), 0);
        s.plan(0, 0, 1);
        s.plan(0, 0, 2);
        s.plan(0, 1, 1);
        s.plan(0, 2, 1);
        s.plan(1, 1, 2);
        due("worth", s.runs(0), 6);
        due("held", s.runs(1), 3);
        due("came", s.runs(2), 3);
        due("passed", s.runs(3), 1);
        due("runs 4", s.runs(4), SamplerLaw.BAD);
        due("runs -1", s.runs(-1), SamplerLaw.BAD);
        due("nothing is changed", s.rule(1), 0);
        due("nor thread", s.thread(1), 2);
        due("nor the plan", s.rule(3), 5);
        promise = 21;
        due("ahead", s.ahead(0, 1), 1);
        due("ahead passed over", s.ahead(0, 2), 0);
        due("ahead", s.ahead(1, 1), 2);
        due("ahead 6 0", s.ahead(6, 0), SamplerLaw.BAD);
        due("cell", s.cell(0, 1), 0);
    }

    private static void bestStitch() {
        of(22);
        due("no laws", s.best(0), SamplerLaw.NONE);
        due("best 2", s.best(2), SamplerLaw.BAD);
        due("best -1", s.best(-1), SamplerLaw.BAD);
        taken("row 3 0 0 1;row 0 0 0 0 0 0 1;beside 1 2 3;above 1 3 3;", 4);
        // 3 below the red of row 3 (2, 4), below that of row 0 (5, 1); 2 to the right of (2, 3)
        due("best", s.best(0), 243);
        due("worth", s.best(1), 3);
        s.spool(3, 0);
        due("best without thread", s.best(0), 332);
        s.spool(2, 0);
        due("none", s.best(0), SamplerLaw.NONE);
        due("none", s.best(1), SamplerLaw.NONE);
        taken("row 0 1;row 1 1;row 2 1 2;beside 1 2 3;", 4);
        due("of several the least", s.best(0), 102);
        due("more than as it is", s.best(1), 6);
    }

    private static void need() {
        of(23);
        due("no law", s.need(0, 0), SamplerLaw.BAD);
        s.enact(0, 1, 2, 1);
        due("what 1", s.need(0, 1), SamplerLaw.BAD);
        due("what 9", s.need(0, 9), SamplerLaw.BAD);
        due("what 12", s.need(0, 12), SamplerLaw.BAD);
        due("two", s.need(0, 0), 2);
        due("the first", s.need(0, 10), 1);
        due("the second", s.need(0, 11), 102);
        s.spool(2, 0);
        due("no thread", s.need(0, 0), SamplerLaw.NONE);
        due("no thread", s.need(0, 10), SamplerLaw.NONE);
        s.spool(2, 1);
        s.work(1, 4, 2);
        due("one, though thread 2 is out", s.need(0, 0), 1);
        due("it", s.need(0, 10), 41);
        due("no second", s.need(0, 11), SamplerLaw.NONE);
        s.work(0, 4, 1);
        due("held", s.need(0, 0), 0);
        due("none needed", s.need(0, 10), SamplerLaw.NONE);
        of(23);
        s.enact(1, 1, 2, 1);
        due("mirror first", s.need(0, 10), 2);
        due("mirror second", s.need(0, 11), 101);
        s.amend(0, 0, 2);
        due("above first", s.need(0, 10), 1);
        due("above second", s.need(0, 11), 12);
        s.amend(0, 0, 3);
        due("cross first", s.need(0, 10), 1);
        due("cross second, in the same row", s.need(0, 11), 102);
        s.work(0, 5, 2);
        s.work(5, 0, 1);
        due("by rows, the upper one", s.need(0, 10), 512);
        s.amend(0, 1, 3);
        s.amend(0, 2, 3);
        s.spool(3, 1);
        due("two of one colour with one thread", s.need(0, 0), SamplerLaw.NONE);
        s.spool(3, 2);
        due("with two", s.need(0, 0), 2);
        of(23);
        taken("row 2 0 0 2 0 1;beside 2 1 1;", 2);
        due("either colour", s.need(0, 10), 321);
        for (int x = 0; x < 6; x++) for (int y = 0; y < 6; y++) s.moth(x, y);
        due("all holes", s.need(0, 0), SamplerLaw.NONE);
    }

    private static void loose() {
        of(24);
        taken("row 0 1 2 1 2;row 4 1 2;beside 1 2 1;above 1 1 1;", 4);
        due("loose", s.loose(0, 0), 0);
        due("reads", s.loose(0, 1), 2);
        due("not read", s.loose(1, 0), SamplerLaw.NONE);
        due("not read", s.loose(1, 1), SamplerLaw.NONE);
        due("what 2", s.loose(0, 2), SamplerLaw.BAD);
        due("law 2", s.loose(2, 0), SamplerLaw.BAD);
        due("nothing is changed", s.rule(1), 6);
        taken("row 1 0 1 1 1;beside 1 1 1;", 2);
        due("the middle one", s.loose(0, 0), 21);
        due("reads", s.loose(0, 1), 0);
    }

    private static void dyeAndTurn() {
        of(25);
        taken("row 0 1 3 0 1 3 4;beside 2 3 5;beside 1 2 5;", 3);
        due("dye", s.dye(0), 12);
        due("worth", s.dye(1), 10);
        due("nothing is changed", s.cell(0, 0), 1);
        due("dye 2", s.dye(2), SamplerLaw.BAD);
        s.amend(0, 3, 4);
        due("the better", s.dye(0), 23);
        due("worth", s.dye(1), 10);
        s.amend(0, 2, 1);
        s.amend(0, 1, 3);
        s.amend(0, 3, 9);
        due("exchanged", s.dye(0), 13);
        due("worth", s.dye(1), 18);
        s.amend(0, 1, 1);
        s.amend(0, 2, 3);
        due("none", s.dye(0), SamplerLaw.NONE);
        due("none", s.dye(1), SamplerLaw.NONE);
        of(26);
        taken("row 1 0 2 1;row 3 2 1 0 0 2 1;beside 1 2 3;above 3 1 9;row 2 1;", 5);
        due("turn", s.turn(0), 3);
        due("worth", s.turn(1), 6);
        due("nothing is changed", s.cell(1, 1), 2);
        due("turn -1", s.turn(-1), SamplerLaw.BAD);
        taken("row 1 0 2 1;row 3 2 1;beside 1 2 3;", 3);
        due("the first", s.turn(0), 1);
        taken("row 1 0 1 2 4;beside 1 2 3;", 2);
        due("none", s.turn(0), SamplerLaw.NONE);
        due("none", s.turn(1), SamplerLaw.NONE);
    }

    private static void leave() {
        of(27);
        due("no plan", s.leave(0), SamplerLaw.NONE);
        s.enact(0, 1, 2, 3);
        s.plan(0, 0, 1);
        s.plan(1, 0, 3);
        s.plan(1, 0, 2);
        due("leave", s.leave(0), 1);
        due("worth", s.leave(1), 3);
        due("leave 2", s.leave(2), SamplerLaw.BAD);
        due("the plan stays", s.rule(3), 3);
        s.cut(1);
        due("none", s.leave(0), SamplerLaw.NONE);
        due("none", s.leave(1), SamplerLaw.NONE);
        s.cut(0);
        s.spool(1, 1);
        s.work(1, 0, 2);
        s.work(1, 1, 2);
        s.plan(5, 5, 1);
        s.plan(0, 0, 1);
        due("for the thread", s.leave(0), 0);
        due("worth", s.leave(1), 3);
    }

    private static void redRuns() {
        of(28);
        taken("row 0 1;row 1 1 0 1;beside 1 1 2;above 1 1 1;above 2 2 1;", 5);
        // three run: (0, 0), (0, 1), (2, 1); beside: any but (2, 1)'s run or (0, 0), (0, 1), that is 1 less none
        due("none runs: 1 - (1/2)^3", s.luck(5, 0, 0), 7);
        due("below", s.luck(5, 0, 1), 8);
        due("v 0", s.luck(0, 0, 0), 0);
        due("v 0 below", s.luck(0, 0, 1), 1);
        due("v 10", s.luck(10, 0, 0), 1);
        due("v 10 below", s.luck(10, 0, 1), 1);
        due("v 1: 1 - (9/10)^3", s.luck(1, 0, 0), 271);
        due("below", s.luck(1, 0, 1), 1000);
        due("held already", s.luck(3, 1, 0), 1);
        due("never", s.luck(3, 2, 0), 0);
        due("never, below", s.luck(3, 2, 1), 1);
        due("v 11", s.luck(11, 0, 0), SamplerLaw.BAD);
        due("v -1", s.luck(-1, 0, 0), SamplerLaw.BAD);
        due("law 3", s.luck(1, 3, 0), SamplerLaw.BAD);
        due("what 2", s.luck(1, 0, 2), SamplerLaw.BAD);
        promise = 29;
        // beside: row 0 by p; row 1: (0, 1) brings 2 places, (2, 1) one: mean 4p; above: 1 + p * p
        due("mean at a half: 4 + 1 + 1/4", s.mean(5, 0), 21);
        due("below", s.mean(5, 1), 4);
        due("mean at 0", s.mean(0, 0), 1);
        due("mean at 10", s.mean(10, 0), 10);
        due("mean at 10, below", s.mean(10, 1), 1);
        due("v 11", s.mean(11, 0), SamplerLaw.BAD);
        due("what -1", s.mean(1, -1), SamplerLaw.BAD);
        due("nothing is changed", s.rule(1), 3);
        taken("row 0 1 0 1 0 1;row 1 1 0 1 0 1;row 2 1 0 1 1 1 1;row 3 1 2 1 4 0 1;row 4 1;beside 1 1 1;", 6);
        due("eight", s.count(5), 8);
        due("eight: luck", s.luck(0, 0, 0), 1);
        due("eight: mean below", s.mean(1, 1) > 0 ? 1 : 0, 1);
        s.work(0, 5, 1);
        due("nine", s.count(5), 9);
        due("nine: luck", s.luck(0, 0, 0), SamplerLaw.STATE);
        due("nine: mean", s.mean(0, 0), SamplerLaw.STATE);
        due("bad ahead of state", s.luck(0, 1, 0), SamplerLaw.BAD);
    }

    private static void holes() {
        of(30);
        due("no law", s.see(0, 0), SamplerLaw.BAD);
        s.enact(0, 1, 2, 3);
        due("n -1", s.see(0, -1), SamplerLaw.BAD);
        due("n 61", s.see(0, 61), SamplerLaw.BAD);
        due("n 60", s.see(0, 60), 1);
        for (int i = 2; i <= 6; i++) due("see", s.see(0, 0), i);
        due("the 7th", s.see(0, 0), SamplerLaw.FULL);
        due("a bad 7th", s.see(1, 0), SamplerLaw.BAD);
        promise = 31;
        due("forget 7", s.forget(7), SamplerLaw.BAD);
        due("forget -1", s.forget(-1), SamplerLaw.BAD);
        due("forget 1", s.forget(1), 6);
        due("seen", s.count(0), 1);
        of(32);
        taken("row 0 1 4;row 2 4 2;beside 1 2 3;above 3 3 2;", 4);
        due("all", s.fills(), 16);
        s.see(0, 2);
        due("both", s.fills(), 1);
        s.forget(0);
        s.see(0, 1);
        due("one of them", s.fills(), 6);
        promise = 33;
        due("shades", s.shades(1, 0), 15);
        s.forget(0);
        s.see(0, 2);
        due("shades", s.shades(1, 0), 4);
        due("shades", s.shades(0, 2), 2);
        due("no hole", s.shades(0, 0), SamplerLaw.STATE);
        due("x 6", s.shades(6, 0), SamplerLaw.BAD);
        s.see(1, 1);
        due("none fits", s.fills(), 0);
        due("no shade", s.shades(1, 0), 0);
        promise = 34;
        due("none fits", s.span(0), SamplerLaw.NONE);
        s.forget(0);
        due("least", s.span(0), 0);
        due("greatest", s.span(1), 6);
        due("span 2", s.span(2), SamplerLaw.BAD);
        s.see(0, 1);
        due("least", s.span(0), 3);
        due("greatest", s.span(1), 3);
        s.moth(5, 5);
        s.moth(5, 4);
        due("four holes", s.fills(), 96);
        s.moth(5, 3);
        due("five: fills", s.fills(), SamplerLaw.STATE);
        due("five: shades", s.shades(5, 5), SamplerLaw.STATE);
        due("five: span", s.span(0), SamplerLaw.STATE);
        due("five: ask", s.ask(0), SamplerLaw.STATE);
        due("five: a bad span", s.span(2), SamplerLaw.BAD);
        of(32);
        s.keep(0);
        s.enact(0, 1, 2, 3);
        s.see(0, 0);
        due("no holes", s.fills(), 1);
        s.back(0);
        due("the law is there no more", s.fills(), 0);
        s.enact(0, 1, 2, 3);
        due("there is one again", s.fills(), 1);
    }

    private static void ask() {
        of(35);
        taken("row 0 1 4;row 2 4 2;beside 1 2 3;above 3 3 2;", 4);
        // by beside 1 2: none 9, one 6, two 1
        due("ask", s.ask(0), 0);
        due("left", s.ask(1), 9);
        due("ask 2", s.ask(2), SamplerLaw.BAD);
        s.see(0, 1);
        due("none tells more", s.ask(0), SamplerLaw.NONE);
        due("none tells more", s.ask(1), SamplerLaw.NONE);
        s.see(0, 0);
        due("none fits", s.ask(0), SamplerLaw.NONE);
        taken("row 0 1 4 3;row 1 0 3;beside 1 2 3;beside 3 3 2;cross 3 3 1;", 5);
        due("the first of like ones", s.ask(0), 0);
        due("left", s.ask(1), 3);
        s.see(0, 0);
        due("then another", s.ask(0), 1);
        due("left", s.ask(1), 2);
        taken("beside 1 1 1;", 1);
        due("no holes", s.ask(0), SamplerLaw.NONE);
    }

    private static void drift() {
        of(36);
        due("n 0", s.drift(1, 0, 0), SamplerLaw.BAD);
        due("n 61", s.drift(1, 61, 0), SamplerLaw.BAD);
        due("what 2", s.drift(1, 1, 2), SamplerLaw.BAD);
        // seed 1 becomes 1103527590: got 16838, modulo 36 is 26: (4, 2); 263 modulo 3 is 2: black
        s.work(4, 3, 2);
        s.enact(2, 3, 2, 7);
        due("a stitch", s.drift(1, 1, 0), 7);
        due("no hole", s.drift(1, 1, 1), 0);
        due("nothing is changed", s.cell(4, 2), 0);
        s.spool(3, 0);
        due("no thread", s.drift(1, 1, 0), 0);
        s.work(4, 2, 1);
        due("a moth", s.drift(1, 1, 1), 1);
        s.moth(4, 2);
        due("a hole is bare", s.drift(1, 1, 1), 0);
        due("the hole stays", s.rule(2), 1);
        due("any seed", s.drift(Integer.MIN_VALUE, 60, 1) >= 0 ? 1 : 0, 1);
    }

    private static void images() {
        of(37);
        due("keep 2", s.keep(2), SamplerLaw.BAD);
        due("keep -1", s.keep(-1), SamplerLaw.BAD);
        s.enact(0, 1, 2, 3);
        s.work(0, 0, 1);
        s.work(1, 0, 2);
        s.plan(3, 3, 3);
        due("keep", s.keep(1), 0);
        due("keep again", s.keep(1), 1);
        s.see(0, 1);
        s.enact(0, 2, 2, 3);
        s.amend(0, 3, 9);
        s.unpick(0, 0);
        s.moth(2, 2);
        s.spool(1, 7);
        s.cut(0);
        promise = 38;
        due("back 2", s.back(2), SamplerLaw.BAD);
        due("back 0", s.back(0), SamplerLaw.STATE);
        due("back", s.back(1), 3);
        due("laws", s.rule(0), 1);
        due("law worth", s.law(0, 3), 3);
        due("cell", s.cell(0, 0), 1);
        due("hole", s.cell(2, 2), 0);
        due("thread", s.thread(1), 19);
        due("plan", s.stitch(0, 0), 3);
        due("seen stays", s.count(0), 1);
        due("the image stays", s.count(1), 1);
        s.unpick(0, 0);
        due("once more", s.back(1), 3);
    }

    private static void sheets() {
        of(39);
        due("sheet 4", s.sheet(4, 0, 1), SamplerLaw.BAD);
        due("sheet -1", s.sheet(-1, 0, -1), SamplerLaw.BAD);
        due("lane 3", s.sheet(0, 3, 1), SamplerLaw.BAD);
        due("lane -1", s.sheet(0, -1, -1), SamplerLaw.BAD);
        due("41 cells", s.sheet(0, 0, 41), SamplerLaw.BAD);
        due("below 0", s.sheet(0, 0, -1), -14);
        due("still nothing", s.count(3), SamplerLaw.NONE);
        due("no cells", s.sheet(0, 0, 0), 1);
        due("no cells", s.count(3), 0);
        due("40 cells", s.sheet(0, 2, 40), 1);
        due("below 0 again", s.sheet(0, 0, Integer.MIN_VALUE), -14);
        due("as it was", s.count(3), 40);
        promise = 40;
        due("lay 4", s.lay(4, 0, 0), SamplerLaw.BAD);
        due("nothing", s.lay(1, -1, 0), -11);
        due("index -1", s.lay(0, -1, 0), -12);
        due("index 40", s.lay(0, 40, 0), -12);
        due("index 39", s.lay(0, 39, 0), 1);
        s.sheet(1, 0, 3);
        s.lay(1, 0, 256 + 5);
        s.lay(1, 1, -254);
        s.lay(1, 2, 512 + 3);
        due("bytes", s.read(1, 0, 0, 1), 1);
        due("cell", s.cell(5, 2), 3);
        s.sheet(1, 1, 3);
        s.lay(1, 0, 65536 + 4);
        s.lay(1, 1, 0);
        s.lay(1, 2, 2);
        due("shorts", s.read(1, 1, 0, 1), 1);
        due("cell", s.cell(4, 0), 2);
        s.lay(1, 0, 256 + 3);
        due("shorts keep more", s.read(1, 1, 0, 1), -20);
        s.sheet(1, 2, 3);
        due("cells are 0 anew", s.read(1, 2, 0, 1), -20);
        s.lay(1, 2, 65536 + 1);
        due("ints keep all", s.read(1, 2, 0, 1), -20);
        s.lay(1, 2, 1);
        due("ints", s.read(1, 2, 0, 1), 1);
    }

    private static void reads() {
        of(41);
        due("sheet 4", s.read(4, 0, 0, 1), SamplerLaw.BAD);
        due("lane 3", s.read(0, 3, 0, 1), SamplerLaw.BAD);
        due("n 14", s.read(0, 0, 0, 14), SamplerLaw.BAD);
        due("n -1", s.read(0, 0, 0, -1), SamplerLaw.BAD);
        due("nothing, none read", s.read(0, 0, 0, 0), 0);
        due("no fault", s.torn(), 0);
        due("nothing", s.read(0, 2, 0, 1), 0);
        due("null", s.torn(), 1);
        s.sheet(0, 0, 8);
        int[] laid = {0, 0, 1, 1, 0, 2, 0, 0};
        for (int i = 0; i < 8; i++) s.lay(0, i, laid[i]);
        s.enact(0, 1, 2, 5);
        due("two whole, one torn", s.read(0, 0, 0, 3), 2);
        due("index", s.torn(), 2);
        due("they came", s.rule(5), 5);
        due("thread", s.thread(1), 19);
        due("refused", s.read(0, 0, 0, 2), -20);
        due("that is no end", s.torn(), 2);
        s.unpick(0, 0);
        due("the second is refused", s.read(0, 0, 0, 2), -21);
        due("then none came", s.cell(0, 0), 0);
        due("nor is thread less", s.thread(1), 19);
        due("another lane", s.read(0, 1, 0, 2), 0);
        due("cast", s.torn(), 3);
        due("bad", s.read(0, 0, 0, 14), SamplerLaw.BAD);
        due("that is no end", s.torn(), 3);
        due("one", s.read(0, 0, 0, 1), 1);
        due("no fault", s.torn(), 0);
        due("another lane, one read", s.read(0, 2, 0, 1), 0);
        due("cast", s.torn(), 3);
        due("another lane, none read", s.read(0, 2, 0, 0), 0);
        due("no cast where none is read", s.torn(), 0);
        due("far", s.read(0, 0, Integer.MAX_VALUE, 13), 0);
        due("index", s.torn(), 2);
        due("none read from far off", s.read(0, 0, 99, 0), 0);
        due("no fault", s.torn(), 0);
        due("another lane, far off", s.read(0, 1, 99, 1), 0);
        due("a cast comes ahead of an index", s.torn(), 3);
        due("of nothing, any lane, none read", s.read(3, 1, -1, 0), 0);
        due("no null where none is read", s.torn(), 0);
        due("far below", s.read(0, 0, Integer.MIN_VALUE, 13), 0);
        due("index", s.torn(), 2);
        s.sheet(2, 2, 40);
        for (int i = 0; i < 13; i++) {
            s.lay(2, 3 * i, i % 6);
            s.lay(2, 3 * i + 1, 3 + i / 6);
            s.lay(2, 3 * i + 2, 3);
        }
        s.keep(0);
        due("thirteen", s.read(2, 2, 0, 13), 13);
        due("thread", s.thread(3), 7);
        s.back(0);
        s.spool(3, 4);
        due("thread gives out", s.read(2, 2, 0, 13), -24);
        due("none came", s.thread(3), 4);
        s.lay(2, 2, 4);
        due("a colour that is none", s.read(2, 2, 0, 13), -20);
        promise = 42;
        due("torn", s.torn(), 0);
    }

    private static void counts() {
        of(43);
        taken("row 0 1 0 1 2 1;row 1 0 1 1 4 0 1;cross 1 1 1;thread 1 5;", 4);
        s.see(0, 1);
        s.keep(0);
        due("images", s.count(1), 1);
        s.keep(1);
        s.feed(32);
        s.sheet(0, 1, 7);
        s.sheet(1, 1, 9);
        due("seen", s.count(0), 1);
        due("images", s.count(1), 2);
        due("bytes", s.count(2), 1);
        due("cells of sheet 0", s.count(3), 7);
        due("thread", s.count(4), 45);
        due("can run", s.count(5), 2);
        due("count 6", s.count(6), SamplerLaw.BAD);
        due("count -1", s.count(-1), SamplerLaw.BAD);
    }
}
