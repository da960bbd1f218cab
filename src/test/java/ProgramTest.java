/** Promises 7 to 9, 15 to 22, 24 to 27, 29, 32 and 33: nodes, runs, letters, loops, ways, writing. */
public final class ProgramTest {
    private static final String DEEP = ">1;>2;>3;>4;>5;x=a+b;?a5,6;?a4,7;?a3,8;?a2,9;?a1,10;.;";

    public static void main(String[] args) {
        nodes();
        splits();
        expressions();
        letters();
        runs();
        longRuns();
        alike();
        liveAndDead();
        loops();
        weights();
        ways();
        writing();
        Subject.finish("ProgramTest");
    }

    private static void due(String call, long got, long want) {
        Subject.due(call, got, want);
    }

    private static void nodes(LateMover x, int n, int... want) {
        for (int what = 0; what < 8; what++) {
            due("node " + n + " " + what, x.node(n, what), want[what]);
        }
    }

    private static void nodes() {
        LateMover x = Subject.of("c=7;d=c*c;!d;?d2,3;!9;.;>3;>0;!c;.;");
        due("blocks", x.is(0), 5);
        due("nodes", x.is(1), 8);
        nodes(x, 0, 0, -1, -1, -1, 1, 0, 1, -1);
        nodes(x, 1, 1, 0, -1, 2, 1, 2, 2, -1);
        nodes(x, 2, 2, 0, 0, 3, 1, 1, 3, -1);
        nodes(x, 3, 3, 0, -1, -1, 1, 1, 4, -1);
        nodes(x, 4, 5, 0, -1, 3, 2, 1, 5, 7);
        nodes(x, 5, 4, 2, -1, -1, 1, 1, 6, -1);
        nodes(x, 6, 4, 3, -1, -1, 1, 2, 1, -1);
        nodes(x, 7, 0, -1, -1, -1, 1, 1, 6, -1);
        due("what below", x.node(0, -1), -2);
        due("what above", x.node(0, 8), -2);
        due("n below", x.node(-1, 0), -2);
        due("n above", x.node(8, 0), -2);
        due("no last one", x.is(6), 0);
        due("not sound", x.is(5), 0);
    }

    private static void splits() {
        // Both edges of the ask are split, the first one's skip is numbered ahead.
        LateMover x = Subject.of("?a1,0;?b0,1;");
        due("nodes", x.is(1), 7);
        due("edges", x.is(3), 9);
        due("skips", x.is(4), 5);
        nodes(x, 1, 5, 0, -1, 0, 2, 3, 3, 4);
        nodes(x, 2, 5, 1, -1, 1, 2, 2, 5, 6);
        nodes(x, 3, 0, -1, -1, -1, 1, 1, 2, -1);
        nodes(x, 6, 0, -1, -1, -1, 1, 1, 2, -1);
        // Alike targets are one edge, which is not split.
        x = Subject.of("?a1,01;?b1,2;.;");
        due("nodes", x.is(1), 5);
        nodes(x, 1, 5, 0, -1, 0, 1, 1, 2, -1);
        nodes(x, 2, 5, 1, -1, 1, 2, 2, 4, 3);
        // A > has one edge alone, so it is not split.
        x = Subject.of("!a;>0;");
        due("nodes", x.is(1), 3);
        due("coming", x.node(1, 5), 2);
    }

    private static void expressions() {
        LateMover x = Subject.of("a=b/c;a=b%0;a=b/1;a=1%b;a=b<c;a=c<b;a=a&999;a=3*3;a=003*03;.;!q;q=q-q;.;");
        due("expressions", x.is(2), 9);
        int[] risky = {1, 1, 0, 1, 0, 0, 0, 0, 0};
        String signs = "/%/%<<&*-";
        int[] left = {1, 1, 1, 27, 1, 2, 0, 29, 16};
        int[] right = {2, 26, 27, 1, 2, 1, 1025, 29, 16};
        int[] uses = {1, 1, 1, 1, 1, 1, 1, 2, 0};
        int[] breaks = {2, 2, 0, 2, 0, 0, 9, 0, 0};
        for (int e = 0; e < 9; e++) {
            due("sign " + e, x.expression(e, 0), signs.charAt(e));
            due("left " + e, x.expression(e, 1), left[e]);
            due("right " + e, x.expression(e, 2), right[e]);
            due("risky " + e, x.expression(e, 3), risky[e]);
            due("uses " + e, x.expression(e, 4), uses[e]);
            due("breaks " + e, x.expression(e, 5), breaks[e]);
        }
        due("risky", x.risky(), 3);
        due("e below", x.expression(-1, 0), -2);
        due("e above", x.expression(9, 0), -2);
        due("what below", x.expression(0, -1), -2);
        due("what above", x.expression(0, 6), -2);
    }

    private static void letters() {
        LateMover x = new LateMover();
        due("letter 25", x.letter(25, -9), 0);
        due("letter 25 again", x.letter(25, 4), -9);
        due("letter 26", x.letter(26, 4), 0);
        due("letter -1", x.letter(-1, 4), 0);
        Subject.tell(x, "!z;z=z+z;.;");
        due("run", x.run(-1, 3), 1);
        due("z", x.output(0), 4);
        due("z behind", x.behind(25), 8);
        due("z told", x.letter(25, 1), 4);
    }

    private static int work(String right, int a, int b) {
        LateMover x = Subject.of("x=" + right + ";!x;.;");
        x.letter(0, a);
        x.letter(1, b);
        due("end of " + right, x.run(-1, 0), 0);
        return x.output(0);
    }

    private static void runs() {
        int min = Integer.MIN_VALUE;
        due("+ wraps", work("a+b", Integer.MAX_VALUE, 1), min);
        due("- wraps", work("a-b", min, 1), Integer.MAX_VALUE);
        due("* wraps", work("a*b", 65536, 65537), 65536);
        due("/", work("a/b", -7, 2), -3);
        due("%", work("a%b", -7, 2), -1);
        due("/ wraps", work("a/b", min, -1), min);
        due("% of least", work("a%b", min, -1), 0);
        due("&", work("a&b", 12, 10), 8);
        due("<", work("a<b", -1, 0), 1);
        due("< alike", work("a<b", 3, 3), 0);
        due("copy", work("007", 3, 3), 7);
        LateMover x = Subject.of("!a;x=a%b;!x;.;");
        due("without a run", x.computed(0), -1);
        due("run how 2", x.run(2, 0), -1);
        due("run how -2", x.run(-2, 0), -1);
        due("run what 5", x.run(-1, 5), -1);
        due("run what -1", x.run(-1, -1), -1);
        due("still without a run", x.computed(0), -1);
        due("ends", x.run(-1, 0), 2);
        due("nodes", x.run(-1, 1), 3);
        due("computed", x.run(-1, 2), 1);
        due("written", x.run(-1, 3), 1);
        due("at", x.run(-1, 4), 2);
        x.letter(1, 1);
        due("run how 2 is none", x.run(2, 0), -1);
        due("the run before", x.computed(0), 1);
        due("e below", x.computed(-1), -1);
        due("e above", x.computed(1), -1);
        due("output 1 of one", x.output(1), 0);
        due("output -1", x.output(-1), 0);
        due("behind 26", x.behind(26), 0);
        due("behind -1", x.behind(-1), 0);
        due("lazy ends", x.run(1, 0), 0);
        due("lazy at", x.run(1, 4), 4);
        x = Subject.of("!7;?a1,2;!8;x=a+b;.;.;");
        x.letter(0, 1);
        due("two written", x.run(-1, 3), 2);
        due("the second", x.output(1), 8);
        due("one computed", x.computed(0), 1);
        x.letter(0, 0);
        due("one written", x.run(-1, 3), 1);
        due("no second", x.output(1), 0);
        due("none computed", x.computed(0), 0);
        due("x is as it began", x.behind(23), 0);
    }

    private static void longRuns() {
        LateMover x = Subject.of("!a;>0;");
        x.letter(0, 9);
        due("ends", x.run(-1, 0), 1);
        due("nodes", x.run(-1, 1), 400);
        due("written", x.run(-1, 3), 200);
        due("401st", x.run(-1, 4), 2);
        due("output 39", x.output(39), 9);
        due("output 40", x.output(40), 0);
        due("busy, not sound", x.run(0, 0), -1);
        // The 400th node is a last one: FIRST, 6 statements and asks, then 56 rounds of 7, and a stop.
        x = Subject.of("n=56;>1;!n;!n;!n;n=n-1;?n1,2;.;");
        due("ends in time", x.run(-1, 1), 1 + 2 + 56 * 5 + 55 + 1);
        due("ends well", x.run(-1, 0), 0);
        due("written", x.run(-1, 3), 168);
        due("last kept", x.output(39), 56 - 13);
        String tail = "!1;".repeat(59);
        x = Subject.of("n=n-1;?n0,1;" + tail + ".;");
        // FIRST, 3 nodes a round but 2 in the last one, 59 and the stop: 341 ahead of the tail is just in time.
        x.letter('n' - 'a', 113);
        due("340 ahead", x.run(-1, 1), 1 + 113 * 3 - 1 + 60);
        due("well", x.run(-1, 0), 0);
        x = Subject.of("n=n-1;?n0,1;" + tail.substring(3) + "x=1;.;");
        x.letter('n' - 'a', 114);
        due("402 would be", x.run(-1, 0), 1);
        due("stands at", x.run(-1, 4), x.is(1) - 3);
        x = Subject.of("?a0,1;!1;.;");
        x.letter(0, 0);
        due("4 nodes", x.run(-1, 1), 4);
        exactly400();
    }

    private static void exactly400() {
        // FIRST, n rounds of 3 (the last one of 2), then statements and the stop.
        LateMover x = Subject.of("n=n-1;?n0,1;!1;!2;.;");
        x.letter('n' - 'a', 132);
        due("399 nodes", x.run(-1, 1), 1 + 132 * 3 - 1 + 3);
        due("399 end", x.run(-1, 0), 0);
        x = Subject.of("n=n-1;?n0,1;!1;!2;!3;.;");
        x.letter('n' - 'a', 132);
        due("400 nodes", x.run(-1, 1), 400);
        due("400 end", x.run(-1, 0), 0);
        due("400 at", x.run(-1, 4), 6);
        x = Subject.of("n=n-1;?n0,1;!1;!2;!3;!4;.;");
        x.letter('n' - 'a', 132);
        due("401 nodes", x.run(-1, 1), 400);
        due("401 end", x.run(-1, 0), 1);
        due("401 at", x.run(-1, 4), 7);
    }

    private static void alike() {
        LateMover x = Subject.of("?p1,2;x=a/b;>3;>3;y=a/b;!y;.;");
        due("how 2", x.alike(2), -1);
        due("how -2", x.alike(-2), -1);
        due("itself", x.alike(-1), 1);
        due("busy", x.alike(0), 1);
        due("lazy", x.alike(1), 1);
        due("no run of one's own", x.computed(0), -1);
        due("run", x.run(-1, 3), 0);
        x.letter(1, 1);
        due("alike", x.alike(1), 1);
        due("latest stays", x.behind(1), 0);
        x = Subject.of("!a;>0;");
        due("not sound", x.alike(0), -1);
        due("source", x.alike(-1), 1);
        due("without", new LateMover().alike(-1), -1);
    }

    private static void liveAndDead() {
        LateMover x = Subject.of("x=a+b;y=x;y=3;z=a/b;w=a/2;v=c;!v;?w0,1;.;");
        int a = 1;
        int b = 2;
        int c = 4;
        int v = 1 << 21;
        int w = 1 << 22;
        int[] live = {a | b | c, a | b | c, a | b | c | 1 << 23, a | b | c, a | b | c, a | b | c, a | b | c | w,
            a | b | c | v | w, a | b | c | w, 0, a | b | c};
        due("nodes", x.is(1), 11);
        for (int n = 0; n < live.length; n++) {
            due("live " + n, x.live(n), live[n]);
        }
        int[] dead = {0, 0, 1, 1, 0, 0, 0, 0, 0, 0, 0};
        for (int n = 0; n < dead.length; n++) {
            due("dead " + n, x.dead(n), dead[n]);
        }
        due("dead all", x.dead(-1), 2);
        due("dead above", x.dead(11), -2);
        due("dead below", x.dead(-2), -2);
        due("live below", x.live(-1), -1);
        due("live above", x.live(11), -1);
        due("without", new LateMover().dead(-1), -2);
        x = Subject.of("x=5;>0;");
        due("dead, not sound", x.dead(1), 1);
        due("live, not sound", x.live(1), 0);
    }

    private static void loops() {
        LateMover x = Subject.of(DEEP);
        due("heads", x.heads(), 5);
        int[] deep = {0, 0, 1, 2, 3, 4, 5, 5, 4, 3, 2, 1, 0};
        for (int n = 0; n < deep.length; n++) {
            due("depth " + n, x.depth(n), deep[n]);
        }
        due("depth below", x.depth(-1), -1);
        due("depth above", x.depth(x.is(1)), -1);
        due("over itself", x.over(6, 6), 1);
        due("over ahead", x.over(2, 12), 1);
        due("over behind", x.over(12, 2), 0);
        due("over below", x.over(-1, 0), -1);
        due("over above", x.over(0, x.is(1)), -1);
        // Two ways into a round: no head.
        x = Subject.of("?a1,2;>2;?b1,3;.;");
        due("no head", x.heads(), 0);
        due("not deep", x.depth(2), 0);
        // One step back to itself.
        x = Subject.of(">0;");
        due("one head", x.heads(), 1);
        due("deep", x.depth(1), 1);
        due("FIRST is not", x.depth(0), 0);
        // Two edges back to one head are one loop.
        x = Subject.of("?a1,2;>0;?b0,3;.;");
        due("one head for two", x.heads(), 1);
        due("deep for two", x.depth(1), 1);
        due("branch is deep", x.depth(2), 1);
        due("without", new LateMover().heads(), 0);
        largest();
    }

    /** 109 nodes: 60 statements, 16 ends, 32 skips. */
    private static void largest() {
        StringBuilder text = new StringBuilder("!1;".repeat(30) + "a=a+1;".repeat(15));
        for (int b = 0; b < 15; b++) {
            text.append(b == 14 ? "x=a+1;".repeat(15) : "").append("?a").append(b).append(',').append(15).append(';');
        }
        text.append("?b15,0;");
        LateMover x = Subject.of(text.toString());
        due("nodes", x.is(1), 1 + 45 + 1 + 1 + 4);
        StringBuilder wide = new StringBuilder("!1;".repeat(60));
        for (int b = 0; b < 16; b++) {
            wide.append("?a").append((b + 1) % 16).append(',').append((b + 2) % 16).append(';');
        }
        x = Subject.of(wide.toString());
        due("all nodes", x.is(1), 109);
        due("all edges", x.is(3), 1 + 60 + 32 + 32);
        for (int n = 0; n < 109; n++) {
            due("over itself " + n, x.over(n, n), 1);
            due("FIRST over " + n, x.over(0, n), 1);
        }
        due("far over", x.over(60, 108), 1);
        due("far itself", x.over(108, 108), 1);
        due("far not", x.over(108, 107), 0);
        due("far deep", x.depth(108), 1);
        due("heads", x.heads(), 1);
    }

    private static void weights() {
        LateMover x = Subject.of(DEEP);
        due("source", x.weight(-1), 10000);
        due("busy", x.weight(0), 1);
        due("lazy", x.weight(1), 1);
        due("how 2", x.weight(2), -1);
        due("how -2", x.weight(-2), -1);
        due("without", new LateMover().weight(-1), -1);
        x = Subject.of("x=a+b;>0;");
        due("not sound", x.weight(0), -1);
        due("source, not sound", x.weight(-1), 10);
    }

    private static void ways() {
        LateMover x = Subject.of("?a1,2;x=a+b;>3;y=a+b;z=c*c;>3;u=a+b;?b0,4;.;");
        // FIRST, ?, x=, >, u=, ?, . are 7 nodes, the other branch has one more.
        due("none so short", x.ways(-1, 6, 0), 0);
        due("no least", x.ways(-1, 6, 1), -1);
        due("no most", x.ways(-1, 6, 2), -1);
        due("one", x.ways(-1, 7, 0), 1);
        due("two", x.ways(-1, 8, 0), 2);
        due("least", x.ways(-1, 8, 1), 2);
        due("most", x.ways(-1, 8, 2), 3);
        due("lazy least", x.ways(1, 8, 1), 1);
        due("lazy most", x.ways(1, 8, 2), 2);
        // Once round: six nodes and the skip more at least.
        due("round", x.ways(-1, 13, 0), 3);
        due("length 0", x.ways(-1, 0, 0), -1);
        due("length 61", x.ways(-1, 61, 0), -1);
        due("what 3", x.ways(-1, 60, 3), -1);
        due("what -1", x.ways(-1, 60, -1), -1);
        due("how 2", x.ways(2, 60, 0), -1);
        due("length 1", x.ways(0, 1, 0), 0);
        x = Subject.of("!a;>0;");
        due("not sound", x.ways(0, 60, 0), -1);
        due("no way", x.ways(-1, 60, 0), 0);
        due("no way's least", x.ways(-1, 60, 1), -1);
        // A tree whose leaves go back to its root: ways grow by 1.7 a node.
        String tree = "?a2,1;?a3,4;?a5,6;?a0,7;?a0,8;?a0,14;?a0,10;?a0,11;?a0,12;?a0,13;?a0,9;>0;>0;>0;?a0,15;.;";
        x = Subject.of(tree);
        due("many", x.ways(-1, 60, 0), 1000000000000L);
        due("not so many", x.ways(-1, 59, 0), new Oracle(tree).ways(-1, 59)[0].longValue());
        due("below the most", x.ways(-1, 59, 0) < 1000000000000L ? 1 : 0, 1);
    }

    private static void writing() {
        LateMover x = Subject.of("x=007+a;y=7+a;z=000;!09;q=b/010;r=c;?a01,2;>03;.;x=a&0;.;");
        String[] asItIs = {"", "x=7+a;", "y=7+a;", "z=0;", "!9;", "q=b/10;", "r=c;", "?a1,2;", ">3;", ".;", "x=a&0;", ".;"};
        String[] busy = {"#0=7+a;#1=b/10;", "x=#0;", "y=#0;", "z=0;", "!9;", "q=#1;", "r=c;", "?a1,2;",
            "#2=a&0;>3;", ".;", "x=#2;", ".;"};
        String[] lazy = {"", "#0=7+a;x=#0;", "y=#0;", "z=0;", "!9;", "q=b/10;", "r=c;", "?a1,2;", ">3;", ".;", "x=a&0;", ".;"};
        for (int n = 0; n < 12; n++) {
            Subject.due("source " + n, Subject.written(x, n, -1), asItIs[n]);
            Subject.due("busy " + n, Subject.written(x, n, 0), busy[n]);
            Subject.due("lazy " + n, Subject.written(x, n, 1), lazy[n]);
        }
        due("five", x.write(1, 0), 5);
        due("n below", x.write(-1, -1), -1);
        due("n above", x.write(12, -1), -1);
        due("how 2", x.write(1, 2), -1);
        due("how -2", x.write(1, -2), -1);
        due("latest stays", x.octet(0), 'x');
        due("octet -1", x.octet(-1), -1);
        due("octet 4", x.octet(4), ';');
        due("octet 5", x.octet(5), -1);
        due("a skip", x.write(0, -1), 0);
        due("octet of none", x.octet(0), -1);
        x = Subject.of("x=a+b;>0;");
        due("not sound", x.write(1, 0), -1);
        due("source", x.write(1, -1), 6);
        due("new octet", new LateMover().octet(0), -1);
        StringBuilder most = new StringBuilder();
        for (int i = 0; i < 24; i++) {
            most.append("x=").append(100 + i).append("*999;");
        }
        x = Subject.of(most + ".;");
        due("the most", x.write(0, 0), 10 * 11 + 14 * 12);
        due("the most's last", x.octet(277), ';');
        due("#23 is", x.octet(267), '2');
    }
}
