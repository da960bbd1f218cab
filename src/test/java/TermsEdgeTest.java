/**
 * Terms I (from VALUES on), II and III: each sentence that names a boundary, at the boundary and one step to each
 * side of it.
 */
public final class TermsEdgeTest {
    private static final int MIN = Integer.MIN_VALUE;
    private static final int MAX = Integer.MAX_VALUE;
    private static final String[] NEST = {">1;", ">2;", ">3;", ">4;", ">5;", "?a5,6;", "?a4,7;", "?a3,8;", "?a2,9;",
        "?a1,10;", ".;"};

    public static void main(String[] args) {
        sums();
        quotients();
        comparisons();
        bits();
        byZero();
        riskyOnes();
        comeTo();
        edges();
        splits();
        lastOnes();
        sound();
        keeps();
        needed();
        atHand();
        earlyAndDelayed();
        lateAndAlone();
        alive();
        clashes();
        maybe();
        liveAndDead();
        over();
        loops();
        weights();
        Subject.finish("TermsEdgeTest");
    }

    private static void due(String call, long got, long want) {
        Subject.due(call, got, want);
    }

    private static LateMover worked(String right, int a, int b) {
        LateMover x = Subject.of("x=" + right + ";!x;.;");
        x.letter(0, a);
        x.letter(1, b);
        return x;
    }

    private static void gives(String right, int a, int b, int want) {
        LateMover x = worked(right, a, b);
        String call = right + " of " + a + " and " + b;
        due(call + " ends", x.run(-1, 0), 0);
        due(call, x.output(0), want);
        due(call + " behind", x.behind(23), want);
    }

    /** "VALUES are INTS that wrap". */
    private static void sums() {
        gives("a+b", MAX, -1, MAX - 1);
        gives("a+b", MAX, 0, MAX);
        gives("a+b", MAX, 1, MIN);
        gives("a+b", MAX, MAX, -2);
        gives("a+b", MIN, 1, MIN + 1);
        gives("a+b", MIN, 0, MIN);
        gives("a+b", MIN, -1, MAX);
        gives("a+b", MIN, MIN, 0);
        gives("a+999", MAX - 998, 0, MIN);
        gives("a+999", MAX - 999, 0, MAX);
        gives("a-b", MIN, 1, MAX);
        gives("a-b", MIN, 0, MIN);
        gives("a-b", MIN + 1, 1, MIN);
        gives("a-b", MAX, -1, MIN);
        gives("a-b", 0, MIN, MIN);
        gives("a-b", -1, MIN, MAX);
        gives("a*b", 46340, 46341, 2147441940);
        gives("a*b", 46341, 46341, -2147479015);
        gives("a*b", MIN, -1, MIN);
        gives("a*b", MIN, 1, MIN);
        gives("a*b", 65536, 65536, 0);
        gives("a*b", MAX, MAX, 1);
        gives("a*b", MAX, 2, -2);
    }

    /** "/ and % towards 0". */
    private static void quotients() {
        int[][] rows = {{6, 2, 3, 0}, {7, 2, 3, 1}, {-6, 2, -3, 0}, {-7, 2, -3, -1}, {7, -2, -3, 1}, {-7, -2, 3, -1},
            {1, 2, 0, 1}, {-1, 2, 0, -1}, {1, -2, 0, 1}, {0, 5, 0, 0}, {0, -5, 0, 0}, {2, 2, 1, 0}, {-2, 2, -1, 0},
            {-3, 2, -1, -1}, {MIN, -1, MIN, 0}, {MIN + 1, -1, MAX, 0}, {MAX, -1, MIN + 1, 0}, {MIN, 1, MIN, 0},
            {MIN, 2, MIN / 2, 0}, {MIN, MIN, 1, 0}, {MAX, MIN, 0, MAX}, {MIN, MAX, -1, -1}, {5, 1, 5, 0}, {5, -1, -5, 0}};
        for (int[] row : rows) {
            gives("a/b", row[0], row[1], row[2]);
            gives("a%b", row[0], row[1], row[3]);
        }
        gives("a/2", -5, 0, -2);
        gives("a%2", -5, 0, -1);
        gives("7/b", 0, -2, -3);
        gives("7%b", 0, -2, 1);
    }

    /** "< (1 or 0)". */
    private static void comparisons() {
        gives("a<b", 4, 5, 1);
        gives("a<b", 5, 5, 0);
        gives("a<b", 6, 5, 0);
        gives("a<b", -1, 0, 1);
        gives("a<b", 0, -1, 0);
        gives("a<b", MIN, MAX, 1);
        gives("a<b", MAX, MIN, 0);
        gives("a<b", MIN, MIN, 0);
        gives("a<b", MIN, MIN + 1, 1);
        gives("a<7", 6, 0, 1);
        gives("a<7", 7, 0, 0);
        gives("7<b", 0, 8, 1);
    }

    private static void bits() {
        gives("a&b", 12, 10, 8);
        gives("a&b", -1, MIN, MIN);
        gives("a&b", MIN, MAX, 0);
        gives("a&b", -1, 7, 7);
        gives("a&b", 0, -1, 0);
    }

    /** "By 0 they FAULT", a RUN ends with 2 then; by the numbers next to 0 they don't. */
    private static void byZero() {
        for (String right : new String[] {"a/b", "a%b"}) {
            for (int a : new int[] {0, 7, MIN}) {
                LateMover x = worked(right, a, 0);
                due(right + " by 0 ends", x.run(-1, 0), 2);
                due(right + " by 0 NODES", x.run(-1, 1), 2);
                due(right + " by 0 COMPUTED", x.run(-1, 2), 1);
                due(right + " by 0 WRITTEN", x.run(-1, 3), 0);
                due(right + " by 0 at", x.run(-1, 4), 1);
                due(right + " by 0 COMPUTED of it", x.computed(0), 1);
                due(right + " by 0 leaves v", x.behind(23), 0);
                due(right + " by 1", worked(right, a, 1).run(-1, 0), 0);
                due(right + " by -1", worked(right, a, -1).run(-1, 0), 0);
            }
        }
        due("/0", Subject.of("x=a/0;.;").run(-1, 0), 2);
        due("%0", Subject.of("x=a%0;.;").run(-1, 0), 2);
        due("/000", Subject.of("x=a/000;.;").run(-1, 0), 2);
        due("/1", Subject.of("x=a/1;.;").run(-1, 0), 0);
        due("%1", Subject.of("x=a%1;.;").run(-1, 0), 0);
        for (String right : new String[] {"a+b", "a-b", "a*b", "a&b", "a<b"}) {
            gives(right, 0, 0, 0);
        }
    }

    private static void isRisky(String right, int want) {
        LateMover x = Subject.of("x=" + right + ";.;");
        due("RISKY " + right, x.expression(0, 3), want);
        due("how many RISKY of " + right, x.risky(), want);
    }

    /** "An EXPRESSION with / or % is RISKY, if its second A isn't a NUMBER above 0". */
    private static void riskyOnes() {
        for (String sign : new String[] {"/", "%"}) {
            isRisky("a" + sign + "0", 1);
            isRisky("a" + sign + "000", 1);
            isRisky("a" + sign + "1", 0);
            isRisky("a" + sign + "001", 0);
            isRisky("a" + sign + "2", 0);
            isRisky("a" + sign + "999", 0);
            isRisky("a" + sign + "a", 1);
            isRisky("a" + sign + "z", 1);
            isRisky("1" + sign + "b", 1);
            isRisky("0" + sign + "1", 0);
            isRisky("0" + sign + "0", 1);
        }
        for (String sign : new String[] {"+", "-", "*", "&", "<"}) {
            isRisky("a" + sign + "b", 0);
            isRisky("a" + sign + "0", 0);
        }
        due("no RISKY one", Subject.of("x=1;.;").risky(), 0);
        due("two RISKY ones", Subject.of("x=a/b;x=a%b;x=a/b;.;").risky(), 2);
        due("one that isn't come to", Subject.of(".;x=a/b;.;").risky(), 1);
    }

    /** "Of each BLOCK that can be come to from BLOCK 0". */
    private static void comeTo() {
        LateMover x = Subject.of(".;!1;>1;");
        due("not come to", x.is(1), 2);
        due("its BLOCK counts", x.is(0), 2);
        x = Subject.of(">2;!1;>2;.;");
        due("a BLOCK between", x.is(1), 3);
        due("numbered by BLOCKS", x.node(2, 1), 2);
        x = Subject.of(">2;.;>1;");
        due("come to backwards", x.is(1), 4);
        due("BLOCK 1 ahead of 2", x.node(2, 1), 1);
        due("BLOCK 2 behind 1", x.node(3, 1), 2);
        due("from 0 to the one behind", x.node(1, 6), 3);
        x = Subject.of(">1;?a2,3;.;.;.;");
        due("by both of ?", x.is(1), 5);
        StringBuilder far = new StringBuilder(">15;.;");
        for (int b = 2; b < 16; b++) {
            far.append('>').append(b - 1).append(';');
        }
        due("15 steps back", Subject.of(far.toString()).is(1), 17);
    }

    /** "From FIRST"; "from an END ... alike ones as one". */
    private static void edges() {
        LateMover x = Subject.of(".;");
        due("one EDGE", x.is(3), 1);
        due("from FIRST", x.node(0, 6), 1);
        due("from FIRST no second", x.node(0, 7), -1);
        due("to FIRST none", x.node(0, 5), 0);
        x = Subject.of("?a1,1;.;");
        due("alike: EDGES from", x.node(1, 4), 1);
        due("alike: EDGES to", x.node(2, 5), 1);
        due("alike: no second", x.node(1, 7), -1);
        due("alike: all", x.is(3), 2);
        x = Subject.of("?a1,2;.;.;");
        due("unlike: EDGES from", x.node(1, 4), 2);
        due("unlike: first", x.node(1, 6), 2);
        due("unlike: second", x.node(1, 7), 3);
        due("unlike: all", x.is(3), 3);
        x = Subject.of("?a2,1;.;.;");
        due("the other way: first", x.node(1, 6), 3);
        due("the other way: second", x.node(1, 7), 2);
        for (int value : new int[] {MIN, -1, 0, 1, MAX}) {
            x = Subject.of("?a1,2;!1;.;!2;.;");
            x.letter(0, value);
            x.run(-1, 0);
            due("? of " + value, x.output(0), value == 0 ? 2 : 1);
            x = Subject.of("?a1,1;!1;.;");
            x.letter(0, value);
            due("? of " + value + " with alike ones", x.run(-1, 1), 4);
        }
        due("FIRST and STATEMENTS lead on", Subject.of("x=1;!x;.;").is(3), 3);
    }

    /** "SPLIT is each EDGE from a NODE with two EDGES to one that two or more come to". */
    private static void splits() {
        due("two EDGES, one comes", Subject.of("?a1,2;.;.;").is(4), 1);
        due("two EDGES, two come to one", Subject.of("?a1,2;.;>1;").is(4), 2);
        due("two EDGES, two come to both", Subject.of("?a1,2;?b2,3;?b1,3;.;").is(4), 7);
        due("one EDGE, two come", Subject.of("?a1,2;>3;>3;.;").is(4), 1);
        due("one EDGE of ?, two come", Subject.of("!1;?a0,0;").is(4), 1);
        due("three come", Subject.of("?a1,2;?b3,4;?c3,4;>4;.;").is(4), 5);
        due("back to itself", Subject.of("?a0,1;.;").is(4), 2);
        LateMover x = Subject.of("?a0,1;.;");
        due("first leads to the SKIP", x.node(1, 6), 3);
        due("second is not split", x.node(1, 7), 2);
        due("the SKIP leads back", x.node(3, 6), 1);
        due("the SKIP's BLOCK", x.node(3, 1), -1);
        due("as many come as before", x.node(1, 5), 2);
        x = Subject.of("?a1,2;?b2,1;?c1,2;");
        due("by the NODE from which: 1, first", x.node(1, 6), 4);
        due("1, second", x.node(1, 7), 5);
        due("2, first", x.node(2, 6), 6);
        due("2, second", x.node(2, 7), 7);
        due("3, first", x.node(3, 6), 8);
        due("3, second", x.node(3, 7), 9);
        due("4 leads to 2", x.node(4, 6), 2);
        due("5 leads to 3", x.node(5, 6), 3);
        due("6 leads to 3", x.node(6, 6), 3);
        due("7 leads to 2", x.node(7, 6), 2);
        due("three come to 2", x.node(2, 5), 3);
    }

    /** "LAST ones: no EDGE from them". */
    private static void lastOnes() {
        due("none", Subject.of(">0;").is(6), 0);
        due("one", Subject.of(".;").is(6), 1);
        due("two", Subject.of("?a1,2;.;.;").is(6), 2);
        due("one of two come to", Subject.of(">1;.;.;").is(6), 1);
        due("none come to", Subject.of(">0;.;").is(6), 0);
        due("no EDGE from it", Subject.of(".;").node(1, 4), 0);
    }

    /** "SOUND is the program, if from each NODE a LAST one can be come to". */
    private static void sound() {
        due("from each", Subject.of(".;").is(5), 1);
        due("no LAST one", Subject.of(">0;").is(5), 0);
        due("from all but one", Subject.of("?a1,2;.;>2;").is(5), 0);
        due("round and out", Subject.of("?a0,1;.;").is(5), 1);
        due("round without an out", Subject.of("?a0,1;>0;").is(5), 0);
        due("two that go round", Subject.of("?a1,3;>2;>1;.;").is(5), 0);
        due("the same, one goes out", Subject.of("?a1,3;>2;?b1,3;.;").is(5), 1);
        due("one not come to goes round", Subject.of(".;>1;").is(5), 1);
        due("the LAST one not come to", Subject.of(">0;.;").is(5), 0);
    }

    private static void row(LateMover x, int e, int what, String want) {
        StringBuilder got = new StringBuilder();
        for (int n = 0; n < x.is(1); n++) {
            got.append(x.fact(e, n, what));
        }
        Subject.due("fact " + e + " " + what, got.toString(), want);
    }

    /** "KEEPS: n does not change a letter of e; if e is RISKY, n is neither WRITTEN, nor v=f of a RISKY f". */
    private static void keeps() {
        LateMover x = Subject.of("x=a+b;a=1;b=1;c=1;!a;a=a;b=a+c;x=a+b;?a1,1;.;");
        row(x, 0, 1, "11001100111");
        x = Subject.of("x=a/b;a=1;b=1;c=1;!c;d=a/b;d=b/a;d=a%2;d=a%0;d=a+b;?a1,1;.;");
        row(x, 0, 1, "1100101010111");
        x = Subject.of("x=a/1;!c;d=b/a;d=a%0;.;");
        row(x, 0, 1, "111111");
        // v=e where v is a letter of e USES, and does not KEEP.
        x = Subject.of("a=a+b;b=a+b;c=a+b;.;");
        row(x, 0, 0, "01110");
        row(x, 0, 1, "10011");
        x = Subject.of("a=a/b;b=a/b;c=a/b;.;");
        row(x, 0, 0, "01110");
        row(x, 0, 1, "10011");
        // Numbers are no letters: 0 is not a.
        x = Subject.of("x=0+25;a=1;z=1;.;");
        row(x, 0, 1, "11111");
        x = Subject.of("x=z+26;a=1;y=1;z=1;.;");
        row(x, 0, 1, "111101");
        x = Subject.of("x=a+1;b=1;a=1;z=1;.;");
        row(x, 0, 1, "111011");
    }

    /** "NEEDED: USES, or KEEPS and there are EDGES and NEEDED at all they lead to". */
    private static void needed() {
        row(Subject.of("x=a+b;.;"), 0, 2, "110");
        row(Subject.of("!1;x=a+b;.;"), 0, 2, "1110");
        row(Subject.of("a=1;x=a+b;.;"), 0, 2, "0010");
        row(Subject.of("?p1,2;x=a+b;.;.;"), 0, 2, "00100");
        row(Subject.of("?p1,2;x=a+b;.;y=a+b;.;"), 0, 2, "111010");
        // The greatest: round a loop that never has to end, it is still NEEDED at all that follow.
        row(Subject.of("?p0,1;x=a+b;.;"), 0, 2, "11101");
    }

    /** "AT HAND: not FIRST, and all from which EDGES come KEEP, and USE or are AT HAND". */
    private static void atHand() {
        row(Subject.of("x=a+b;.;"), 0, 3, "001");
        row(Subject.of("x=a+b;a=1;.;"), 0, 3, "0010");
        row(Subject.of("a=a+b;.;"), 0, 3, "000");
        row(Subject.of("?p1,2;x=a+b;>3;>3;.;"), 0, 3, "000100");
        row(Subject.of("?p1,2;x=a+b;>3;y=a+b;>3;.;"), 0, 3, "0001011");
        // The greatest: round a loop it stays at hand.
        row(Subject.of("x=a+b;>1;?p1,2;.;"), 0, 3, "001111");
        row(Subject.of("?p0,1;x=a+b;.;"), 0, 3, "00010");
    }

    /** "EARLY: NEEDED, and it is FIRST, or ..."; "DELAYED: EARLY, or not FIRST and all ... are DELAYED". */
    private static void earlyAndDelayed() {
        LateMover x = Subject.of("x=a+b;.;");
        row(x, 0, 4, "100");
        row(x, 0, 5, "110");
        x = Subject.of("a=1;x=a+b;.;");
        row(x, 0, 4, "0010");
        row(x, 0, 5, "0010");
        // Behind one that is neither NEEDED nor AT HAND.
        x = Subject.of("?p1,2;x=a+b;.;.;");
        row(x, 0, 4, "00100");
        // Behind one that is AT HAND and not NEEDED, it is not EARLY.
        x = Subject.of("x=a+b;?p1,2;y=a+b;.;.;");
        row(x, 0, 2, "110100");
        row(x, 0, 3, "001111");
        row(x, 0, 4, "100000");
        row(x, 0, 5, "110000");
        // NEEDED nowhere, DELAYED nowhere: all is empty.
        x = Subject.of(".;x=a+b;.;");
        row(x, 0, 4, "00");
        row(x, 0, 5, "00");
    }

    /** "LATE: DELAYED, and it USES or one to which EDGES lead is not DELAYED"; "ALONE: each to which EDGES lead". */
    private static void lateAndAlone() {
        LateMover x = Subject.of("!1;x=a+b;.;");
        row(x, 0, 6, "0010");
        // No EDGE leads from the last one: ALONE. Ahead of the one that USES, LATE is enough.
        row(x, 0, 7, "1111");
        x = Subject.of("x=a+b;!1;y=a+b;.;");
        row(x, 0, 6, "01000");
        row(x, 0, 7, "10011");
        x = Subject.of("?p1,2;x=a+b;>3;>3;y=a+b;.;");
        // An END is LATE, though it does not USE: ahead of it is ALONE what leads to LATE ones only.
        row(x, 0, 6, "0010100");
        row(x, 0, 7, "1100011");
        due("one USE alone", Subject.of("x=a+b;.;").placement(0, 1, 0), 0);
        due("two USES", Subject.of("x=a+b;y=a+b;.;").placement(0, 1, 0), 1);
        due("two USES, not alike behind a change", Subject.of("x=a+b;a=1;y=a+b;.;").placement(0, 1, 0), 0);
    }

    /** "ALIVE: n is REPLACED, or at one to which EDGES lead, where it is not PUT IN, it is ALIVE (the least)". */
    private static void alive() {
        LateMover x = Subject.of("!1;x=a+b;!1;y=a+b;!1;.;");
        StringBuilder busy = new StringBuilder();
        StringBuilder lazy = new StringBuilder();
        for (int n = 0; n < x.is(1); n++) {
            busy.append(x.placed(0, n, 0, 2));
            lazy.append(x.placed(0, n, 1, 2));
        }
        Subject.due("ALIVE by BUSY", busy.toString(), "1111100");
        Subject.due("ALIVE by LAZY", lazy.toString(), "0011100");
        due("LIFE by BUSY", x.placement(0, 0, 2), 5);
        due("LIFE by LAZY", x.placement(0, 1, 2), 3);
        // The least: a loop behind does not keep a name alive.
        x = Subject.of("x=a+b;y=a+b;>1;?p1,2;.;");
        due("LIFE ahead of a loop", x.placement(0, 1, 2), 2);
    }

    /** "CLASH: both ALIVE at one NODE"; "SHARED: ... the first one (0 on)". */
    private static void clashes() {
        // Alive at NODES 1, 2 and at 3, 4: side by side, no clash.
        LateMover x = Subject.of("x=a+b;y=a+b;z=c+d;w=c+d;.;");
        due("no CLASH", x.placement(0, 1, 3), 0);
        due("names of no CLASH", x.shared(-1, 1), 1);
        due("both 0", x.shared(1, 1), 0);
        // Alive at 1, 2, 3 and at 3, 4: one NODE in common. (Behind the first one's use, at the same NODE.)
        x = Subject.of("x=a+b;z=c+d;y=a+b;w=c+d;.;");
        due("CLASH", x.placement(0, 1, 3), 1);
        due("names of a CLASH", x.shared(-1, 1), 2);
        due("the first 0", x.shared(0, 1), 0);
        due("the second 1", x.shared(1, 1), 1);
        due("most at one NODE", x.most(1), 2);
        // Three that all clash, and one that clashes with the first alone.
        x = Subject.of("x=a+a;x=b+b;x=c+c;y=c+c;y=b+b;x=d+d;y=d+d;y=a+a;.;");
        due("name of a+a", x.shared(0, 1), 0);
        due("name of b+b", x.shared(1, 1), 1);
        due("name of c+c", x.shared(2, 1), 2);
        due("name of d+d", x.shared(3, 1), 1);
        due("names of four", x.shared(-1, 1), 3);
        due("most of four", x.most(1), 3);
        due("pairs of four", x.placement(-1, 1, 3), 4);
        StringBuilder all = new StringBuilder();
        for (int i = 0; i < 48; i++) {
            all.append("x=a+").append(i % 24).append(';');
        }
        x = Subject.of(all + ".;");
        for (int how = 0; how < 2; how++) {
            due("24 names", x.shared(-1, how), 24);
            due("the last one's", x.shared(23, how), 23);
            due("24 at one NODE", x.most(how), 24);
            due("each with 23 others", x.placement(23, how, 3), 23);
            due("all pairs", x.placement(-1, how, 3), 276);
        }
    }

    /** "MAYBE (the least): one from which EDGES come KEEPS, and USES or is MAYBE"; AGAIN and HALF. */
    private static void maybe() {
        again("x=a+b;.;", 0, 0);
        again("x=a+b;y=a+b;.;", 1, 0);
        again("x=a+b;y=a+b;z=a+b;.;", 2, 0);
        again("x=a+b;a=1;y=a+b;.;", 0, 0);
        again("a=a+b;y=a+b;.;", 0, 0);
        again("?p1,2;x=a+b;>3;>3;y=a+b;.;", 0, 1);
        again("?p1,2;x=a+b;>3;x=a+b;>3;y=a+b;.;", 1, 0);
        again("x=a+b;?p0,1;.;", 0, 1);
        again("?p0,1;x=a+b;.;", 0, 0);
        again("x=a/b;!1;y=a/b;.;", 0, 0);
        again("x=a/b;y=a/b;.;", 1, 0);
    }

    private static void again(String text, int again, int half) {
        LateMover x = Subject.of(text);
        due("AGAIN of " + text, x.again(0, 0), again);
        due("HALF of " + text, x.again(0, 1), half);
    }

    /** "LIVE (the least): n reads it, or n doesn't change it and it is LIVE at one ..."; "DEAD". */
    private static void liveAndDead() {
        due("LIVE of a COPY", Subject.of("x=y;.;").live(1), 1 << 24);
        due("LIVE of a NUMBER", Subject.of("x=7;.;").live(1), 0);
        due("LIVE of the NUMBER 0", Subject.of("x=0;.;").live(1), 0);
        due("LIVE of 0 and 0", Subject.of("x=0+0;.;").live(1), 0);
        due("LIVE of 25 and 25", Subject.of("x=25+25;.;").live(1), 0);
        due("LIVE of 0 WRITTEN", Subject.of("!0;.;").live(1), 0);
        due("LIVE of AoA", Subject.of("x=a+z;.;").live(1), 1 | 1 << 25);
        due("LIVE of its own v", Subject.of("x=x+1;.;").live(1), 1 << 23);
        due("LIVE of WRITTEN", Subject.of("!x;.;").live(1), 1 << 23);
        due("LIVE of a NUMBER WRITTEN", Subject.of("!23;.;").live(1), 0);
        due("LIVE of ?", Subject.of("?x1,2;.;.;").live(1), 1 << 23);
        due("LIVE of ? with alike ones", Subject.of("?x1,1;.;").live(1), 1 << 23);
        due("LIVE of the last one", Subject.of("!x;.;").live(2), 0);
        due("LIVE at FIRST", Subject.of("!x;.;").live(0), 1 << 23);
        due("changed ahead of that", Subject.of("x=1;!x;.;").live(0), 0);
        due("LIVE round a loop that does not read", Subject.of("x=1;>1;>1;").live(2), 0);
        due("DEAD COPY", Subject.of("x=1;.;").dead(1), 1);
        due("DEAD COPY to a", Subject.of("a=1;.;").dead(1), 1);
        due("DEAD COPY to z", Subject.of("z=1;.;").dead(1), 1);
        due("COPY to a that is read", Subject.of("a=1;!a;.;").dead(1), 0);
        due("COPY to z that is read", Subject.of("z=1;!z;.;").dead(1), 0);
        due("COPY that is read", Subject.of("x=1;!x;.;").dead(1), 0);
        due("COPY that is read on one way", Subject.of("x=1;?p1,2;!x;.;.;").dead(1), 0);
        due("COPY changed ahead of that", Subject.of("x=1;x=2;!x;.;").dead(1), 1);
        due("COPY read where it is changed", Subject.of("x=1;x=x;.;").dead(1), 0);
        due("DEAD v=AoA", Subject.of("x=a+b;.;").dead(1), 1);
        due("v=AoA by 1", Subject.of("x=a/1;.;").dead(1), 1);
        due("v=AoA by 0", Subject.of("x=a/0;.;").dead(1), 0);
        due("v=AoA by a letter", Subject.of("x=a%b;.;").dead(1), 0);
        due("WRITTEN is not DEAD", Subject.of("!1;.;").dead(1), 0);
        due("FIRST is not DEAD", Subject.of("!1;.;").dead(0), 0);
        due("an END is not DEAD", Subject.of("?a0,0;").dead(1), 0);
        due("none DEAD", Subject.of("!1;.;").dead(-1), 0);
        due("all DEAD", Subject.of("x=1;y=a+b;.;").dead(-1), 2);
        due("60 DEAD", Subject.of("x=1;".repeat(60) + ".;").dead(-1), 60);
    }

    /** "OVER m is n, if n lies on all ways from FIRST to m (n over n)". */
    private static void over() {
        LateMover x = Subject.of("?p1,2;>3;>3;.;");
        for (int n = 0; n < 5; n++) {
            due("n over n " + n, x.over(n, n), 1);
            due("FIRST over " + n, x.over(0, n), 1);
            due(n + " over FIRST", x.over(n, 0), n == 0 ? 1 : 0);
        }
        due("on one way", x.over(2, 4), 0);
        due("on the other way", x.over(3, 4), 0);
        due("on all ways", x.over(1, 4), 1);
        due("the wrong way round", x.over(4, 1), 0);
        x = Subject.of("!1;".repeat(60) + "?p0,1;.;");
        due("64 NODES", x.is(1), 64);
        due("61 over 63, the SKIP back", x.over(61, 63), 1);
        due("62, the last one, over 63", x.over(62, 63), 0);
        due("63 over 62", x.over(63, 62), 0);
        x = Subject.of("!1;".repeat(60) + "?p0,1;?p1,2;.;");
        due("67 NODES", x.is(1), 67);
        for (int n = 0; n < 67; n++) {
            due("over itself by " + n, x.over(n, n), 1);
            due("FIRST is over it by " + n, x.over(0, n), 1);
        }
        int[][] pairs = {{62, 63, 1}, {63, 62, 0}, {63, 64, 0}, {64, 63, 0}, {61, 64, 1}, {64, 1, 0}, {64, 65, 0},
            {65, 62, 1}, {62, 65, 0}, {65, 63, 1}, {65, 66, 1}, {66, 65, 0}, {62, 66, 1}, {66, 62, 0}, {1, 64, 1}};
        for (int[] pair : pairs) {
            due(pair[0] + " over " + pair[1], x.over(pair[0], pair[1]), pair[2]);
        }
    }

    /** "HEAD is n, if there is an EDGE to n from one that n is OVER"; its LOOP, "by one step, too". */
    private static void loops() {
        LateMover x = Subject.of(".;");
        due("no HEAD", x.heads(), 0);
        due("not DEEP", x.depth(1), 0);
        x = Subject.of(">0;");
        due("HEAD by one step", x.heads(), 1);
        due("DEEP by one step", x.depth(1), 1);
        due("FIRST lies in none", x.depth(0), 0);
        x = Subject.of("?a0,1;.;");
        due("HEAD of two", x.heads(), 1);
        due("the HEAD", x.depth(1), 1);
        due("the SKIP back", x.depth(3), 1);
        due("behind the LOOP", x.depth(2), 0);
        x = Subject.of(">1;?a2,3;?b1,3;.;");
        due("ahead of the LOOP", x.depth(1), 0);
        due("its HEAD", x.depth(2), 1);
        due("within", x.depth(3), 1);
        due("behind", x.depth(4), 0);
        // The EDGE back comes from a NODE of a lower number.
        x = Subject.of(">3;>3;?a1,4;>2;.;");
        due("HEAD of the highest", x.heads(), 1);
        int[] deep = {0, 0, 1, 1, 1, 0};
        for (int n = 0; n < 6; n++) {
            due("DEEP backwards " + n, x.depth(n), deep[n]);
        }
        // Two ways in: neither is OVER the other.
        due("no HEAD with two ways in", Subject.of("?a1,2;?b2,3;?c1,3;.;").heads(), 0);
        // Two LOOPS, one behind the other, and one in the other.
        due("two HEADS in a row", Subject.of(">1;?a1,2;?a2,3;.;").heads(), 2);
        due("DEEP in a row", Subject.of(">1;?a1,2;?a2,3;.;").depth(3), 1);
        due("two HEADS nested", Subject.of(">1;>2;?a2,3;?a1,4;.;").heads(), 2);
        due("DEEP nested", Subject.of(">1;>2;?a2,3;?a1,4;.;").depth(3), 2);
    }

    /** "Times 10 to the power of how DEEP it is (4 at most)". */
    private static void weights() {
        long[] want = {1, 10, 100, 1000, 10000, 10000, 10000, 1000, 100, 10, 1};
        int[] deep = {0, 1, 2, 3, 4, 5, 4, 3, 2, 1, 0};
        for (int b = 0; b < NEST.length; b++) {
            StringBuilder text = new StringBuilder();
            for (int i = 0; i < NEST.length; i++) {
                text.append(i == b ? "a=a+b;" : "").append(NEST[i]);
            }
            LateMover x = Subject.of(text.toString());
            due("DEEP in BLOCK " + b, x.depth(b + 1), deep[b]);
            due("WEIGHT of the source in BLOCK " + b, x.weight(-1), want[b]);
            due("WEIGHT of LAZY in BLOCK " + b, x.weight(1), want[b]);
        }
        due("nothing is COMPUTED", Subject.of("x=1;.;").weight(-1), 0);
        due("60 are COMPUTED", Subject.of("a=a+b;".repeat(60) + ".;").weight(-1), 60);
        due("by BUSY and REPLACED", Subject.of("x=a+b;y=a+b;.;").weight(0), 1);
        due("60 in a LOOP", Subject.of("a=a+b;".repeat(60) + "?a0,1;.;").weight(-1), 600);
        due("by BUSY in a LOOP", Subject.of("x=a+b;".repeat(60) + "?a0,1;.;").weight(0), 1);
        StringBuilder most = new StringBuilder(">1;>2;>3;>4;");
        most.append("a=a+b;".repeat(60)).append("?a4,5;?a3,6;?a2,7;?a1,8;.;");
        due("60 in four LOOPS", Subject.of(most.toString()).weight(-1), 600000);
    }
}
