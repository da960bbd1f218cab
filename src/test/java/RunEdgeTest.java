/** Terms III and promises 15 to 33: each sentence that names a boundary, at it and one step to each side of it. */
public final class RunEdgeTest {
    private static final int MIN = Integer.MIN_VALUE;
    private static final int MAX = Integer.MAX_VALUE;
    private static final int N = 'n' - 'a';
    private static final String ENDLESS = "x=a/b;!x;>0;";
    private static final String TREE = "?a2,1;?a3,4;?a5,6;?a0,7;?a0,8;?a0,14;?a0,10;?a0,11;?a0,12;?a0,13;?a0,9;>0;>0;>0;"
        + "?a0,15;.;";

    public static void main(String[] args) {
        letter();
        lettersOfARun();
        namesOfARun();
        nodesOfARun();
        faultAtTheLimit();
        runRefused();
        faultsByPlacement();
        computed();
        output();
        behind();
        alike();
        alikeAsIsAsked();
        live();
        dead();
        again();
        over();
        depth();
        heads();
        weight();
        others();
        othersCounted();
        othersBackwards();
        ways();
        waysCounted();
        keep();
        back();
        write();
        written();
        octet();
        Subject.finish("RunEdgeTest");
    }

    private static void due(String call, long got, long want) {
        Subject.due(call, got, want);
    }

    private static long one(boolean so) {
        return so ? 1 : 0;
    }

    /** "As what it did. 0, and nothing is done, for others". */
    private static void letter() {
        LateMover x = new LateMover();
        CallEdgeTest.outside("letter", v -> x.letter(v, 9), 0, 25, 0);
        for (int v = 0; v < 26; v++) {
            due("letter " + v + " begins", x.letter(v, MIN + v), 0);
        }
        CallEdgeTest.outside("letter", v -> x.letter(v, 9), 0, 25, 0);
        for (int v = 0; v < 26; v++) {
            due("letter " + v + " was told", x.letter(v, MAX - v), MIN + v);
        }
        Subject.tell(x, ".;");
        for (int v = 0; v < 26; v++) {
            due("letter " + v + " stays", x.letter(v, v), MAX - v);
        }
        due("the same again", x.letter(0, 0), 0);
    }

    /** "Letters begin as told (0 at first)"; a RUN does not tell them. */
    private static void lettersOfARun() {
        LateMover x = Subject.of("!a;a=a+1;!z;z=z+1;.;");
        x.run(-1, 0);
        due("0 at first: a", x.output(0), 0);
        due("0 at first: z", x.output(1), 0);
        due("a behind", x.behind(0), 1);
        due("a is told as it was", x.letter(0, MAX), 0);
        due("behind stays", x.behind(0), 1);
        x.run(-1, 0);
        due("as told: a", x.output(0), MAX);
        due("a wraps", x.behind(0), MIN);
        due("z begins anew", x.output(1), 0);
        due("z behind", x.behind(25), 1);
        due("the latest of two", x.letter(0, 3), MAX);
        x.letter(0, 4);
        x.run(-1, 0);
        due("the latest told", x.output(0), 4);
    }

    /** "The NAME of e becomes e's value, computed there"; "v becomes the NAME's value". */
    private static void namesOfARun() {
        LateMover x = Subject.of("x=a+b;y=c*d;!x;!y;z=a+b;w=c*d;!z;!w;x=0;z=a+b;!z;.;");
        int[] values = {3, 4, 5, 6};
        for (int v = 0; v < 4; v++) {
            x.letter(v, values[v]);
        }
        int[] want = {7, 30, 7, 30, 7};
        int[] work = {5, 2, 2};
        for (int how = -1; how < 2; how++) {
            due("WRITTEN by " + how, x.run(how, 3), 5);
            for (int k = 0; k < 5; k++) {
                due("output " + k + " by " + how, x.output(k), want[k]);
            }
            due("COMPUTED by " + how, x.run(how, 2), work[how + 1]);
            due("COMPUTED of 0 by " + how, x.computed(0), how == -1 ? 3 : 1);
            due("COMPUTED of 1 by " + how, x.computed(1), how == -1 ? 2 : 1);
        }
        // A NAME is worked where it is PUT IN, with the letters as they are there.
        x = Subject.of("a=1;x=a+b;y=a+b;!y;a=7;x=a+b;z=a+b;!z;.;");
        x.letter(1, 10);
        for (int how = -1; how < 2; how++) {
            x.run(how, 0);
            due("the first value by " + how, x.output(0), 11);
            due("the second value by " + how, x.output(1), 17);
        }
    }

    private static void runs(LateMover x, int how, int... want) {
        for (int what = 0; what < want.length; what++) {
            due("run(" + how + ", " + what + ")", x.run(how, what), want[what]);
        }
    }

    /** "0 at a LAST one; 1 when a 401st NODE would be": 399, 400 and 401 NODES. */
    private static void nodesOfARun() {
        runs(Subject.of(".;"), -1, 0, 2, 0, 0, 1);
        // FIRST and 132 rounds of three (of two in the last one) are 396, then come STATEMENTS and the END.
        String round = "n=n-1;?n0,1;";
        int[][] want = {{0, 397, 132, 0, 3}, {0, 398, 132, 1, 4}, {0, 399, 132, 2, 5}, {0, 400, 132, 3, 6},
            {1, 400, 132, 4, 7}, {1, 400, 132, 4, 7}};
        for (int more = 0; more < want.length; more++) {
            for (int how = -1; how < 2; how++) {
                LateMover x = Subject.of(round + "!7;".repeat(more) + ".;");
                x.letter(N, 132);
                runs(x, how, want[more]);
            }
        }
        // The 400th is a ? : the 401st, where it ends, is where that leads.
        LateMover x = Subject.of("?a1,2;!1;>0;.;");
        x.letter(0, 1);
        runs(x, -1, 1, 400, 0, 133, 1);
        x = Subject.of(">0;");
        runs(x, -1, 1, 400, 0, 0, 1);
        x = Subject.of(">1;>0;");
        runs(x, -1, 1, 400, 0, 0, 2);
        // SKIPS are NODES of a RUN, too.
        x = Subject.of("?n0,1;.;");
        runs(x, -1, 0, 3, 0, 0, 2);
        x = Subject.of("n=n+1;?n0,1;.;");
        x.letter(N, -3);
        runs(x, -1, 0, 1 + 3 + 3 + 2 + 1, 3, 0, 3);
    }

    /** "2 FAULT": at the 399th and 400th NODE; the 401st is not one. */
    private static void faultAtTheLimit() {
        int[][] want = {{2, 397, 133, 0, 3}, {2, 398, 133, 1, 4}, {2, 399, 133, 2, 5}, {2, 400, 133, 3, 6},
            {1, 400, 132, 4, 7}};
        for (int more = 0; more < want.length; more++) {
            LateMover x = Subject.of("n=n-1;?n0,1;" + "!7;".repeat(more) + "x=a/0;.;");
            x.letter(N, 132);
            runs(x, -1, want[more]);
        }
    }

    /** "NONE for others, without a program (by BUSY, LAZY: not SOUND)". */
    private static void runRefused() {
        LateMover x = Subject.of("x=a+b;!x;.;");
        CallEdgeTest.outside("run(how)", how -> x.run(how, 0), -1, 1, -1);
        CallEdgeTest.outside("run(what)", what -> x.run(-1, what), 0, 4, -1);
        CallEdgeTest.outside("run(0, what)", what -> x.run(0, what), 0, 4, -1);
        CallEdgeTest.outside("run(1, what)", what -> x.run(1, what), 0, 4, -1);
        due("no run() was one", x.computed(0), -1);
        due("nothing is behind", x.behind(23), 0);
        LateMover endless = Subject.of(ENDLESS);
        for (int what = 0; what < 5; what++) {
            due("not SOUND, BUSY " + what, endless.run(0, what), -1);
            due("not SOUND, LAZY " + what, endless.run(1, what), -1);
            due("without a program " + what, new LateMover().run(-1, what), -1);
        }
        due("still no run() was one", endless.computed(0), -1);
        due("not SOUND, source", endless.run(-1, 0), 2);
        due("that was one", endless.computed(0), 1);
    }

    /** By BUSY it may FAULT at another NODE than the source; nothing is COMPUTED behind. */
    private static void faultsByPlacement() {
        LateMover x = Subject.of("n=1;x=a/b;m=2;y=c*d;!x;z=a/b;.;");
        runs(x, -1, 2, 3, 1, 0, 2);
        runs(x, 0, 2, 1, 1, 0, 0);
        runs(x, 1, 2, 3, 1, 0, 2);
        x = Subject.of("x=a+c;y=a/b;z=d*d;.;");
        runs(x, 0, 2, 1, 2, 0, 0);
        due("by numbers: the first", x.computed(0), 1);
        due("by numbers: the one that FAULTS", x.computed(1), 1);
        due("by numbers: none behind it", x.computed(2), 0);
    }

    /** "How often EXPRESSION e was COMPUTED in the latest run() that was one. NONE for others, without one". */
    private static void computed() {
        LateMover x = Subject.of("?a1,2;x=b+c;.;x=b*c;x=b*c;.;");
        CallEdgeTest.outside("computed without a run", x::computed, 0, -1, -1);
        due("0 without a run", x.computed(0), -1);
        x.letter(0, 1);
        x.run(-1, 0);
        CallEdgeTest.outside("computed", x::computed, 0, 1, -1);
        due("once", x.computed(0), 1);
        due("not at all", x.computed(1), 0);
        x.letter(0, 0);
        due("told since", x.computed(0), 1);
        x.run(-1, 0);
        due("not at all now", x.computed(0), 0);
        due("twice now", x.computed(1), 2);
        x.run(1, 0);
        due("once by LAZY", x.computed(1), 1);
        x.run(2, 0);
        x.run(-1, 5);
        x.alike(0);
        due("the latest that was one", x.computed(1), 1);
        Subject.tell(x, ".;");
        due("without an EXPRESSION", x.computed(0), -1);
        due("133 rounds", rounds().computed(0), 133);
    }

    private static LateMover rounds() {
        LateMover x = Subject.of("x=a+b;>0;");
        x.run(-1, 0);
        due("133 rounds and a NODE", x.run(-1, 2), 200);
        x = Subject.of("x=a+b;y=c*d;>0;");
        x.run(-1, 0);
        return x;
    }

    /** "The first 40 that were WRITTEN, all are counted"; "0 for others". */
    private static void output() {
        for (int count : new int[] {0, 1, 2, 38, 39, 40, 41, 42, 60}) {
            StringBuilder text = new StringBuilder();
            for (int k = 0; k < count; k++) {
                text.append('!').append(100 + k).append(';');
            }
            LateMover x = Subject.of(text + ".;");
            due("ahead of a run", x.output(0), 0);
            due("WRITTEN of " + count, x.run(-1, 3), count);
            for (int k = 0; k < 62; k++) {
                due("output " + k + " of " + count, x.output(k), k < count && k < 40 ? 100 + k : 0);
            }
            CallEdgeTest.outside("output of " + count, x::output, 0, Math.min(count, 40) - 1, 0);
        }
        LateMover x = Subject.of("!7;>0;");
        due("200 WRITTEN", x.run(-1, 3), 200);
        due("output 39", x.output(39), 7);
        due("output 40", x.output(40), 0);
        x = Subject.of("?a1,2;!1;!2;!3;.;!4;.;");
        x.letter(0, 1);
        x.run(-1, 0);
        due("the third", x.output(2), 3);
        x.letter(0, 0);
        x.run(-1, 0);
        due("a shorter run's", x.output(0), 4);
        due("no second now", x.output(1), 0);
        due("no third now", x.output(2), 0);
        x.run(3, 0);
        due("a refused run's", x.output(0), 4);
    }

    /** "The letter v behind the latest run() that was one. 0 for others". */
    private static void behind() {
        LateMover x = Subject.of("a=5;z=6;.;");
        x.letter(1, 9);
        for (int v = -1; v < 27; v++) {
            due("ahead of a run " + v, x.behind(v), 0);
        }
        x.run(-1, 0);
        due("a", x.behind(0), 5);
        due("b", x.behind(1), 9);
        due("z", x.behind(25), 6);
        CallEdgeTest.outside("behind", x::behind, 0, 25, 0);
        x.letter(1, 3);
        due("b, told since", x.behind(1), 9);
        x.run(-1, 5);
        due("b, a refused run", x.behind(1), 9);
        x.run(-1, 0);
        due("b, run again", x.behind(1), 3);
    }

    /** "1, 0. NONE as run()". */
    private static void alike() {
        LateMover x = Subject.of("?n0,1;x=a/b;.;");
        CallEdgeTest.outside("alike", x::alike, -1, 1, -1);
        // Without n both FAULT: BUSY at FIRST already, and that is alike.
        due("both FAULT, source", x.alike(-1), 1);
        due("both FAULT, BUSY", x.alike(0), 1);
        due("both FAULT, LAZY", x.alike(1), 1);
        // With n the source goes round until a 401st NODE would be; BUSY FAULTS.
        x.letter(N, 1);
        due("source with itself", x.alike(-1), 1);
        due("one FAULTS", x.alike(0), 0);
        due("LAZY goes round, too", x.alike(1), 1);
        x.letter(1, 1);
        due("none FAULTS", x.alike(0), 1);
        LateMover endless = Subject.of(ENDLESS);
        due("not SOUND, source", endless.alike(-1), 1);
        due("not SOUND, BUSY", endless.alike(0), -1);
        due("not SOUND, LAZY", endless.alike(1), -1);
        for (int how = -2; how < 3; how++) {
            due("without a program " + how, new LateMover().alike(how), -1);
        }
    }

    /** "End alike, WRITTEN the same": where they end, what letters are behind and what is COMPUTED may differ. */
    private static void alikeAsIsAsked() {
        for (char v = 'c'; v <= 'z'; v++) {
            LateMover x = Subject.of(v + "=1;w=a/b;.;");
            for (int how = -1; how < 2; how++) {
                x.run(how, 0);
                due("behind " + v + " by " + how, x.behind(v - 'a'), how == 0 ? 0 : 1);
                due("alike in spite of " + v + " by " + how, x.alike(how), 1);
            }
        }
        LateMover x = Subject.of("x=a+b;y=a+b;!y;.;");
        for (int how = -1; how < 2; how++) {
            due("COMPUTED by " + how, x.run(how, 2), how == -1 ? 2 : 1);
            due("alike in spite of it by " + how, x.alike(how), 1);
        }
    }

    /** "a: 1"; "NONE: no such NODE". */
    private static void live() {
        LateMover x = Subject.of("!a;!b;!z;.;");
        int all = 1 | 2 | 1 << 25;
        int[] want = {all, all, 2 | 1 << 25, 1 << 25, 0};
        for (int n = 0; n < 5; n++) {
            due("live " + n, x.live(n), want[n]);
        }
        CallEdgeTest.outside("live", x::live, 0, 4, -1);
        StringBuilder text = new StringBuilder();
        for (char v = 'a'; v <= 'z'; v++) {
            text.append('!').append(v).append(';');
        }
        due("all letters", Subject.of(text + ".;").live(0), (1 << 26) - 1);
        due("not SOUND", Subject.of(ENDLESS).live(0), 3);
        due("without a program", new LateMover().live(0), -1);
    }

    /** "n NONE: how many are. -2 for others, without a program". */
    private static void dead() {
        LateMover x = Subject.of("x=1;y=2;!y;.;");
        CallEdgeTest.outside("dead", x::dead, -1, 4, -2);
        int[] want = {0, 1, 0, 0, 0};
        for (int n = 0; n < 5; n++) {
            due("dead " + n, x.dead(n), want[n]);
        }
        due("how many", x.dead(-1), 1);
        LateMover none = new LateMover();
        for (int n = -3; n < 3; n++) {
            due("without a program " + n, none.dead(n), -2);
        }
        due("not SOUND", Subject.of("x=1;>0;").dead(-1), 1);
    }

    /** "AGAIN (what 0), HALF (1). NONE for others, not SOUND". */
    private static void again() {
        LateMover x = Subject.of("x=a+b;y=c*d;?p0,1;z=a+b;a=1;z=a+b;.;");
        CallEdgeTest.outside("again(e)", e -> x.again(e, 0), 0, 1, -1);
        CallEdgeTest.outside("again(what)", what -> x.again(0, what), 0, 1, -1);
        due("AGAIN", x.again(0, 0), 1);
        due("HALF", x.again(0, 1), 1);
        due("AGAIN of 1", x.again(1, 0), 0);
        due("HALF of 1", x.again(1, 1), 1);
        due("not SOUND", Subject.of(ENDLESS).again(0, 0), -1);
        due("no EXPRESSION", Subject.of(".;").again(0, 0), -1);
        due("59 AGAIN", Subject.of("x=a+b;".repeat(60) + ".;").again(0, 0), 59);
    }

    private static void over() {
        LateMover x = Subject.of("!1;.;");
        CallEdgeTest.outside("over(n)", n -> x.over(n, 0), 0, 2, -1);
        CallEdgeTest.outside("over(, m)", m -> x.over(0, m), 0, 2, -1);
        CallEdgeTest.outside("over(n, n)", n -> x.over(n, n), 0, 2, -1);
        for (int n = 0; n < 3; n++) {
            for (int m = 0; m < 3; m++) {
                due("over " + n + " " + m, x.over(n, m), n <= m ? 1 : 0);
            }
        }
        due("not SOUND", Subject.of(">0;").over(0, 1), 1);
    }

    private static void depth() {
        LateMover x = Subject.of("!1;?a0,1;.;");
        int[] want = {0, 1, 1, 0, 1};
        for (int n = 0; n < 5; n++) {
            due("depth " + n, x.depth(n), want[n]);
        }
        CallEdgeTest.outside("depth", x::depth, 0, 4, -1);
        due("without a program", new LateMover().depth(0), -1);
        due("not SOUND", Subject.of(">0;").depth(1), 1);
    }

    private static void heads() {
        due("without a program", new LateMover().heads(), 0);
        due("none", Subject.of(".;").heads(), 0);
        due("one", Subject.of("?a0,1;.;").heads(), 1);
        StringBuilder all = new StringBuilder();
        for (int b = 0; b < 15; b++) {
            all.append("?a").append(b).append(',').append(b + 1).append(';');
        }
        due("15", Subject.of(all + ".;").heads(), 15);
        due("not SOUND, 16", Subject.of(all + ">15;").heads(), 16);
        LateMover x = Subject.of("?a0,1;.;");
        Subject.tell(x, "x");
        due("a FAULT leaves it", x.heads(), 1);
        Subject.tell(x, ".;");
        due("none now", x.heads(), 0);
    }

    /** "NONE as run()". */
    private static void weight() {
        LateMover x = Subject.of("x=a+b;y=a+b;?p0,1;.;");
        CallEdgeTest.outside("weight", x::weight, -1, 1, -1);
        due("source", x.weight(-1), 20);
        due("BUSY", x.weight(0), 1);
        due("LAZY", x.weight(1), 1);
        LateMover endless = Subject.of(ENDLESS);
        due("not SOUND, source", endless.weight(-1), 10);
        due("not SOUND, BUSY", endless.weight(0), -1);
        due("not SOUND, LAZY", endless.weight(1), -1);
        for (int how = -2; how < 3; how++) {
            due("without a program " + how, new LateMover().weight(how), -1);
        }
    }

    /** "12 NODES at most"; "-2 for others, not SOUND, more than 12 NODES". */
    private static void others() {
        LateMover x = Subject.of("x=a+b;y=c+d;.;");
        CallEdgeTest.outside("others(e)", e -> x.others(e, 0), 0, 1, -2);
        CallEdgeTest.outside("others(what)", what -> x.others(0, what), 0, 3, -2);
        for (int size = 3; size < 15; size++) {
            LateMover y = Subject.of("x=a+b;" + "!1;".repeat(size - 3) + ".;");
            due("NODES", y.is(1), size);
            due("RIGHT of " + size, y.others(0, 0), size <= 12 ? 3 : -2);
            due("FEW of " + size, y.others(0, 1), size <= 12 ? 2 : -2);
            due("LIFE of " + size, y.others(0, 2), size <= 12 ? 1 : -2);
            due("NODES of " + size, y.others(0, 3), size <= 12 ? 1 : -2);
            y = Subject.of("!1;".repeat(size - 3) + "x=a+b;.;");
            due("RIGHT of all sets of " + size, y.others(0, 0), size <= 12 ? (1 << size - 1) - 1 : -2);
            due("FEW of all sets of " + size, y.others(0, 1), size <= 12 ? size - 1 : -2);
        }
        LateMover endless = Subject.of(ENDLESS);
        for (int what = 0; what < 4; what++) {
            due("not SOUND " + what, endless.others(0, what), -2);
            due("no EXPRESSION " + what, Subject.of(".;").others(0, what), -2);
            due("without a program " + what, new LateMover().others(0, what), -2);
        }
        // FIRST alone: within the loop it would be PUT IN more often than by BUSY.
        due("twelve by a SKIP", Subject.of("x=a+b;!1;!1;!1;!1;!1;!1;!1;?p0,1;.;").others(0, 1), 1);
        due("thirteen by a SKIP", Subject.of("x=a+b;!1;!1;!1;!1;!1;!1;!1;!1;?p0,1;.;").others(0, 1), -2);
    }

    private static void counted(String text, int right, int few, int life, int nodes) {
        LateMover x = Subject.of(text);
        due("RIGHT of " + text, x.others(0, 0), right);
        due("FEW of " + text, x.others(0, 1), few);
        due("least LIFE of " + text, x.others(0, 2), life);
        due("fewest NODES of " + text, x.others(0, 3), nodes);
    }

    /** RIGHT, FEW, "the least LIFE", "the fewest NODES PUT IN". */
    private static void othersCounted() {
        counted("x=a+b;.;", 3, 2, 1, 1);
        counted("x=1;.;y=a+b;.;", 1, 1, 0, 0);
        counted("a=a+b;.;", 3, 2, 1, 1);
        // PUT IN only where NEEDED: not behind the USE, and not ahead of the change.
        counted("a=1;x=a+b;.;", 1, 1, 1, 1);
        counted("x=a+b;a=1;y=a+b;.;", 3, 2, 2, 2);
        // RISKY, not over what is WRITTEN.
        counted("!1;x=a/b;.;", 1, 1, 1, 1);
        counted("!1;x=a/2;.;", 7, 3, 1, 1);
        // In a loop: within it, it would be PUT IN more often than by BUSY.
        counted(">1;x=a+b;?n1,2;.;", 14, 2, 4, 1);
        // On one way only: it is not NEEDED ahead of the ?.
        counted("?p1,2;x=a+b;.;.;", 1, 1, 1, 1);
        // HALF: ahead of the ? or on both ways.
        counted("?p1,2;x=a+b;>3;>3;y=a+b;.;", 54, 3, 4, 1);
    }

    /** "HELD, the greatest", "however often round" and LIFE where each EDGE leads to a NODE of a lower number. */
    private static void othersBackwards() {
        // One of the three NODES that are met once; each of the others is met as often as the loop goes round.
        counted(">7;?p7,8;>1;>2;>3;>4;>5;>6;x=a+b;.;", 2046, 3, 1, 1);
        counted(">7;?p7,8;x=a+b;>1;>2;>3;>4;>5;>6;.;", 510, 2, 10, 1);
        counted(">9;x=a+b;.;>1;>2;>3;>4;>5;>6;>7;>8;", 2047, 11, 1, 1);
        // From the first USE to the second one it lives all the way.
        counted("x=a+b;>8;y=a+b;.;>1;>2;>3;>4;>5;>6;>7;", 1536, 2, 10, 1);
        counted("x=a+b;>8;a=1;.;>1;>2;>3;>4;>5;>6;>7;", 3, 2, 1, 1);
    }

    /** "Of at most so many NODES (1 to 60 ...)"; "NONE for others, as run()". */
    private static void ways() {
        LateMover x = Subject.of("x=a+b;y=a+b;.;");
        CallEdgeTest.outside("ways(how)", how -> x.ways(how, 60, 0), -1, 1, -1);
        CallEdgeTest.outside("ways(, length)", length -> x.ways(-1, length, 0), 1, 60, -1);
        CallEdgeTest.outside("ways(0, length)", length -> x.ways(0, length, 0), 1, 60, -1);
        CallEdgeTest.outside("ways(, , what)", what -> x.ways(-1, 60, what), 0, 2, -1);
        for (int length = 1; length <= 60; length++) {
            for (int how = -1; how < 2; how++) {
                int work = how == -1 ? 2 : 1;
                due("ways of " + length, x.ways(how, length, 0), length < 4 ? 0 : 1);
                due("least of " + length, x.ways(how, length, 1), length < 4 ? -1 : work);
                due("most of " + length, x.ways(how, length, 2), length < 4 ? -1 : work);
            }
        }
        due("length 1", x.ways(-1, 1, 0), 0);
        due("length 2 of two NODES", Subject.of(".;").ways(-1, 2, 0), 1);
        due("nothing COMPUTED, least", Subject.of(".;").ways(-1, 2, 1), 0);
        due("nothing COMPUTED, most", Subject.of(".;").ways(-1, 2, 2), 0);
        due("length 1 of two NODES", Subject.of(".;").ways(-1, 1, 0), 0);
        due("60 NODES by 59", Subject.of("a=a+b;".repeat(58) + ".;").ways(-1, 59, 0), 0);
        due("60 NODES by 60", Subject.of("a=a+b;".repeat(58) + ".;").ways(-1, 60, 0), 1);
        due("60 NODES, most", Subject.of("a=a+b;".repeat(58) + ".;").ways(-1, 60, 2), 58);
        due("61 NODES by 60", Subject.of("a=a+b;".repeat(59) + ".;").ways(-1, 60, 0), 0);
        due("61 NODES, most", Subject.of("a=a+b;".repeat(59) + ".;").ways(-1, 60, 2), -1);
        LateMover endless = Subject.of(ENDLESS);
        for (int what = 0; what < 3; what++) {
            due("not SOUND, source " + what, endless.ways(-1, 60, what), what == 0 ? 0 : -1);
            due("not SOUND, BUSY " + what, endless.ways(0, 60, what), -1);
            due("not SOUND, LAZY " + what, endless.ways(1, 60, what), -1);
            due("without a program " + what, new LateMover().ways(-1, 60, what), -1);
        }
        due("as if nothing FAULTED", Subject.of("x=a/0;y=1/0;.;").ways(-1, 60, 2), 2);
    }

    /** "However often round"; "1000000000000 for more". */
    private static void waysCounted() {
        LateMover x = Subject.of("?a0,1;.;");
        for (int length = 2; length <= 60; length++) {
            due("rounds by " + length, x.ways(-1, length, 0), (length - 1) / 2);
        }
        x = Subject.of("b=b+c;?a0,1;.;");
        due("round: least", x.ways(-1, 60, 1), 1);
        due("round: most", x.ways(-1, 60, 2), 19);
        due("round: most by one more", x.ways(-1, 58, 2), 19);
        due("round: most by one less", x.ways(-1, 57, 2), 18);
        x = Subject.of(TREE);
        due("59", x.ways(-1, 59, 0), 719201768029L);
        due("60, more than can be told", x.ways(-1, 60, 0), 1000000000000L);
        due("58", x.ways(-1, 58, 0), 426980801629L);
        for (int length = 30; length < 60; length++) {
            due("exactly by " + length, x.ways(-1, length, 0), new Oracle(TREE).ways(-1, length)[0].longValue());
        }
        // Three ways of 5 NODES, the first with the most COMPUTED, the last with the least; then of 6 NODES.
        x = Subject.of("?a1,2;y=b+c;y=b+b;.;?b3,4;y=c+c;.;!1;.;");
        due("5 NODES", x.ways(-1, 5, 0), 3);
        due("the least of 5", x.ways(-1, 5, 1), 0);
        due("the most of 5", x.ways(-1, 5, 2), 2);
        x = Subject.of("?a1,2;!1;.;y=b+c;y=b+b;y=c+c;?b3,3;.;");
        due("one of 4", x.ways(-1, 4, 0), 1);
        due("the most of 4", x.ways(-1, 4, 2), 0);
        due("both of 7", x.ways(-1, 7, 0), 2);
        due("the least of 7", x.ways(-1, 7, 1), 0);
        due("the most of 7", x.ways(-1, 7, 2), 3);
        x = Subject.of("?a1,2;y=b+c;.;!1;!1;!1;.;");
        due("the least, the shorter way's is more", x.ways(-1, 60, 1), 0);
        due("the most, the longer way's is less", x.ways(-1, 60, 2), 1);
        // Two ways that meet again ahead of the END, one with more COMPUTED, in both orders.
        for (String text : new String[] {"?a1,2;y=b+c;>3;!1;>3;.;", "?a1,2;!1;>3;y=b+c;>3;.;"}) {
            x = Subject.of(text);
            due("met again, least of " + text, x.ways(-1, 60, 1), 0);
            due("met again, most of " + text, x.ways(-1, 60, 2), 1);
        }
        due("both ways of an EDGE", Subject.of("?a1,2;.;.;").ways(-1, 60, 0), 2);
        due("alike ones are one", Subject.of("?a1,1;.;").ways(-1, 60, 0), 1);
    }

    /** "The program is KEPT as i (0 .. 2): true; false for others, without one". */
    private static void keep() {
        LateMover none = new LateMover();
        for (int i = -2; i < 5; i++) {
            due("without one " + i, one(none.keep(i)), 0);
            due("nothing KEPT " + i, one(none.back(i)), 0);
        }
        LateMover x = Subject.of("!1;.;");
        CallEdgeTest.outside("keep", i -> one(x.keep(i)), 0, 2, 0);
        for (int i = 0; i < 3; i++) {
            due("not yet " + i, one(x.back(i)), 0);
            due("keep " + i, one(x.keep(i)), 1);
            due("back " + i, one(x.back(i)), 1);
        }
        due("keep over", one(x.keep(1)), 1);
        Subject.tell(x, "!1;!1;.;");
        due("keep another", one(x.keep(1)), 1);
        int[] want = {3, 4, 3};
        for (int i = 2; i >= 0; i--) {
            due("back " + i, one(x.back(i)), 1);
            due("NODES of " + i, x.is(1), want[i]);
        }
        due("KEPT of what came back", one(x.keep(1)), 1);
        x.back(1);
        due("NODES of 1 now", x.is(1), 3);
        due("not SOUND is KEPT, too", one(Subject.of(">0;").keep(0)), 1);
    }

    /** "The program is that KEPT as i (no run() was then; letters stay)"; "false for others, nothing is KEPT there". */
    private static void back() {
        LateMover x = Subject.of("x=a+b;!x;y=a+b;.;");
        x.keep(1);
        CallEdgeTest.outside("back", i -> one(x.back(i)), 0, 2, 0);
        x.letter(0, 4);
        x.run(1, 0);
        due("written", x.write(1, 1), 12);
        long before = CallEdgeTest.digest(x);
        due("nothing at 0", one(x.back(0)), 0);
        due("nothing at 2", one(x.back(2)), 0);
        due("a refused back() changes nothing", CallEdgeTest.digest(x), before);
        due("the run stays", x.output(0), 4);
        due("back", one(x.back(1)), 1);
        due("no run() was then: computed", x.computed(0), -1);
        due("no run() was then: output", x.output(0), 0);
        due("no run() was then: behind", x.behind(0), 0);
        due("what was written stays", x.octet(0), '#');
        due("letters stay", x.letter(0, 4), 4);
        due("NODES", x.is(1), 5);
        Subject.tell(x, "a=1;.;.;>0;");
        x.feed(0, 0, 0, 0, 0);
        due("back again", one(x.back(1)), 1);
        due("BLOCKS", x.is(0), 1);
        due("EXPRESSIONS", x.is(2), 1);
        due("the tape stays", x.is(7), 20);
        due("a run of it", x.run(0, 2), 1);
        due("its OUTPUT", x.output(0), 4);
        String whole = "x=100+100;".repeat(60) + "?z00,00;".repeat(16);
        Subject.tell(x, whole);
        x.keep(2);
        x.back(1);
        due("back to 728 bytes", one(x.back(2)), 1);
        due("its BLOCKS", x.is(0), 16);
    }

    /** "How many bytes. NONE for others, by BUSY, LAZY: not SOUND". */
    private static void write() {
        LateMover x = Subject.of("x=a+b;y=a+b;.;");
        CallEdgeTest.outside("write(n)", n -> x.write(n, -1), 0, 3, -1);
        CallEdgeTest.outside("write(n, 0)", n -> x.write(n, 0), 0, 3, -1);
        CallEdgeTest.outside("write(, how)", how -> x.write(0, how), -1, 1, -1);
        due("refused, nothing was written", x.octet(0), -1);
        due("a byte count", x.write(1, -1), 6);
        x.write(4, -1);
        x.write(-1, -1);
        x.write(1, 2);
        due("refused, the latest stays", x.octet(0), 'x');
        due("refused, its length stays", x.octet(5), ';');
        due("and no more", x.octet(6), -1);
        due("a SKIP: nothing", x.write(0, -1), 0);
        due("nothing is the latest", x.octet(0), -1);
        due("a SKIP where it is PUT IN", x.write(0, 0), 7);
        LateMover endless = Subject.of(ENDLESS);
        due("not SOUND, source", endless.write(1, -1), 6);
        due("not SOUND, BUSY", endless.write(1, 0), -1);
        due("not SOUND, LAZY", endless.write(1, 1), -1);
        due("the source's stays", endless.octet(2), 'a');
        for (int how = -1; how < 2; how++) {
            due("without a program " + how, new LateMover().write(0, how), -1);
        }
    }

    private static void written(String text, int n, int how, String want) {
        Subject.due("write(" + n + ", " + how + ") of " + text, Subject.written(Subject.of(text), n, how), want);
    }

    /** "As it was read (numbers without 0 ahead; REPLACED: v=# e) ... e with its digits". */
    private static void written() {
        String[][] numbers = {{"0", "0"}, {"00", "0"}, {"000", "0"}, {"1", "1"}, {"01", "1"}, {"001", "1"}, {"9", "9"},
            {"009", "9"}, {"10", "10"}, {"010", "10"}, {"11", "11"}, {"99", "99"}, {"099", "99"}, {"100", "100"},
            {"101", "101"}, {"110", "110"}, {"999", "999"}};
        for (String[] pair : numbers) {
            written("x=" + pair[0] + ";.;", 1, -1, "x=" + pair[1] + ";");
            written("x=" + pair[0] + "%a;.;", 1, -1, "x=" + pair[1] + "%a;");
            written("x=z*" + pair[0] + ";.;", 1, -1, "x=z*" + pair[1] + ";");
            written("!" + pair[0] + ";.;", 1, -1, "!" + pair[1] + ";");
            written("a=a+" + pair[0] + ";.;", 0, 0, "#0=a+" + pair[1] + ";");
        }
        String blocks = ".;".repeat(14);
        written(">00;" + blocks + ".;", 1, -1, ">0;");
        written(">09;" + blocks + ".;", 1, -1, ">9;");
        written(">10;" + blocks + ".;", 1, -1, ">10;");
        written(">15;" + blocks + ".;", 1, -1, ">15;");
        written("?a09,10;" + blocks + ".;", 1, -1, "?a9,10;");
        written("?z01,00;" + blocks + ".;", 1, 1, "?z1,0;");
        written("?q1,1;.;", 1, -1, "?q1,1;");
        written("!a;.;", 2, -1, ".;");
        written("!a;.;", 1, 1, "!a;");
        written("a=z;.;", 1, -1, "a=z;");
        for (String sign : new String[] {"+", "-", "*", "/", "%", "&", "<"}) {
            written("x=a" + sign + "b;.;", 1, -1, "x=a" + sign + "b;");
        }
        StringBuilder all = new StringBuilder();
        for (int i = 0; i < 48; i++) {
            all.append("x=a+").append(i % 24).append(';');
        }
        for (int e : new int[] {0, 1, 8, 9, 10, 11, 22, 23}) {
            written(all + ".;", 1 + e, 1, "#" + e + "=a+" + e + ";x=#" + e + ";");
            written(all + ".;", 25 + e, 1, "x=#" + e + ";");
            written(all + ".;", 1 + e, 0, "x=#" + e + ";");
        }
        // Several at one NODE, by numbers; at a NODE that stays as it is, and in the SKIP of an EDGE.
        written("x=c+d;y=a+b;.;", 0, 0, "#0=c+d;#1=a+b;");
        written("x=c+d;y=a+b;.;", 1, 1, "x=c+d;");
        written("?p1,2;x=a+b;>2;y=a+b;.;", 6, 1, "#0=a+b;");
        written("?p1,2;x=a+b;>3;>3;y=a+b;.;", 4, 1, "#0=a+b;>3;");
    }

    /** "Byte k of what was written latest. NONE: there is none". */
    private static void octet() {
        LateMover x = new LateMover();
        CallEdgeTest.outside("octet of none", x::octet, 0, -1, -1);
        due("octet 0 of none", x.octet(0), -1);
        Subject.tell(x, "x=a<b;y=a<b;.;");
        due("nothing yet", x.octet(0), -1);
        due("twelve bytes", x.write(1, 1), 12);
        CallEdgeTest.outside("octet of twelve", x::octet, 0, 11, -1);
        String text = "#0=a<b;x=#0;";
        for (int k = 0; k < 12; k++) {
            due("octet " + k, x.octet(k), text.charAt(k));
        }
        due("two bytes", x.write(3, 1), 2);
        due("the latest", x.octet(0), '.');
        due("its last", x.octet(1), ';');
        due("none behind it", x.octet(2), -1);
        Subject.tell(x, ".;");
        due("a program() leaves it", x.octet(0), '.');
        Subject.tell(x, ".");
        due("a FAULT leaves it", x.octet(0), '.');
        StringBuilder most = new StringBuilder();
        for (int i = 0; i < 24; i++) {
            most.append("x=").append(900 + i).append("*999;");
        }
        Subject.tell(x, most + ".;");
        due("the most bytes", x.write(0, 0), 278);
        due("the last one", x.octet(277), ';');
        due("none behind", x.octet(278), -1);
    }
}
