import java.util.function.IntToLongFunction;

/** Promises 1 to 14: each sentence that names a boundary, at the boundary and one step to each side of it. */
public final class CallEdgeTest {
    private static final int MIN = Integer.MIN_VALUE;
    private static final int MAX = Integer.MAX_VALUE;
    private static final String DIAMOND = "?p1,2;x=a+b;>3;>3;y=a+b;!y;.;";
    private static final String ENDLESS = "x=a/b;!x;>0;";

    public static void main(String[] args) {
        newObject();
        lastCall();
        feed();
        feedsHighestFirst();
        end();
        program();
        programFaults();
        fault();
        is();
        node();
        expression();
        risky();
        fact();
        placed();
        placement();
        shared();
        most();
        Subject.finish("CallEdgeTest");
    }

    private static void due(String call, long got, long want) {
        Subject.due(call, got, want);
    }

    /** What lies outside low .. high answers none: one step to each side, and as far as can be. */
    static void outside(String call, IntToLongFunction f, int low, int high, long none) {
        int[] args = {MIN, MIN + 1, low - 2, low - 1, high + 1, high + 2, MAX - 1, MAX};
        for (int arg : args) {
            if (arg < low || arg > high) {
                due(call + " of " + arg, f.applyAsLong(arg), none);
            }
        }
    }

    /** "No program." */
    private static void newObject() {
        LateMover x = new LateMover();
        due("NONE", LateMover.NONE, -1);
        due("end", x.end(0), 0);
        due("program", x.fault(), -1);
        for (int what = 0; what < 8; what++) {
            due("is " + what, x.is(what), 0);
        }
        for (int i = -1; i < 2; i++) {
            due("node", x.node(i, 0), -2);
            due("expression", x.expression(i, 0), -2);
            due("fact", x.fact(i, 0, 0), -1);
            due("placed", x.placed(i, 0, 0, 0), -1);
            due("placement", x.placement(i, 0, 0), -1);
            due("shared", x.shared(i, 0), -1);
            due("most", x.most(i), -1);
            due("run", x.run(i, 0), -1);
            due("computed", x.computed(i), -1);
            due("output", x.output(i), 0);
            due("behind", x.behind(i), 0);
            due("alike", x.alike(i), -1);
            due("live", x.live(i), -1);
            due("dead", x.dead(i), -2);
            due("again", x.again(i, 0), -1);
            due("over", x.over(i, i), -1);
            due("depth", x.depth(i), -1);
            due("weight", x.weight(i), -1);
            due("others", x.others(i, 0), -2);
            due("ways", x.ways(i, 60, 0), -1);
            due("keep", x.keep(i) ? 1 : 0, 0);
            due("back", x.back(i) ? 1 : 0, 0);
            due("write", x.write(0, i), -1);
            due("octet", x.octet(i), -1);
        }
        due("risky", x.risky(), 0);
        due("heads", x.heads(), 0);
        due("letter", x.letter(0, 0), 0);
    }

    /** "An object is used for at most 512 calls": the 512th is still answered. */
    private static void lastCall() {
        LateMover x = new LateMover();
        for (int i = 1; i <= 508; i++) {
            due("call " + i, x.letter(25, i), i - 1);
        }
        due("call 509", x.feed(0x2E3B0000, 0, 0, 0, 0), 20);
        due("call 510", x.end(2), 2);
        due("call 511", x.program(), 2);
        due("call 512", x.letter(25, 0), 508);
    }

    /** "Twenty bytes come behind the tape"; "NONE, and none come, if there would be more than 800". */
    private static void feed() {
        LateMover x = new LateMover();
        due("the empty tape", x.is(7), 0);
        for (int i = 1; i <= 40; i++) {
            due("feed " + i, x.feed(0x2E3B2E3B, 0x2E3B2E3B, 0x2E3B2E3B, 0x2E3B2E3B, 0x2E3B2E3B), 20 * i);
            due("tape " + i, x.is(7), 20 * i);
        }
        due("feed 41", x.feed(0, 0, 0, 0, 0), -1);
        due("full tape", x.is(7), 800);
        due("feed 42", x.feed(0, 0, 0, 0, 0), -1);
        for (int size = 799; size > 780; size--) {
            due("end " + size, x.end(size), size);
            due("feed on " + size, x.feed(0, 0, 0, 0, 0), -1);
            due("tape of " + size, x.is(7), size);
        }
        due("end 780", x.end(780), 780);
        due("feed on 780", x.feed(0, 0, 0, 0, 0), 800);
        due("end 779", x.end(779), 779);
        due("feed on 779", x.feed(0, 0, 0, 0, 0), 799);
        due("feed on 799", x.feed(0, 0, 0, 0, 0), -1);
        // A refused feed leaves the bytes: 16 BLOCKS are read, then the 33rd byte is one too much.
        x.program();
        due("the bytes stay", x.fault(), 32);
        StringBuilder text = new StringBuilder("?z00,00;".repeat(15));
        text.append("x=999+999;".repeat(60)).append("?z00,00;");
        due("a text of 728 bytes", Subject.tell(new LateMover(), text.toString()), 2);
        x = new LateMover();
        for (int i = 0; i < 40; i++) {
            x.feed(0x2E3B2E3B, 0x2E3B2E3B, 0x2E3B2E3B, 0x2E3B2E3B, 0x2E3B2E3B);
        }
        due("refused", x.feed(0x78787878, 0x78787878, 0x78787878, 0x78787878, 0x78787878), -1);
        due("cut to 16 BLOCKS", x.end(32), 32);
        due("nothing came over them", x.program(), 2);
        due("16", x.is(0), 16);
    }

    /** "The highest of a first": each of the twenty, and bytes above 127. */
    private static void feedsHighestFirst() {
        String text = "x=a+b;y=c*d;!y;z=7;.";
        LateMover x = new LateMover();
        due("twenty", x.feed(0x783D612B, 0x623B793D, 0x632A643B, 0x21793B7A, 0x3D373B2E), 20);
        due("ends too early", x.program(), -1);
        due("all twenty are read", x.fault(), 20);
        for (int i = 0; i < 20; i++) {
            int[] words = {0x783D612B, 0x623B793D, 0x632A643B, 0x21793B7A, 0x3D373B2E};
            for (int bad : new int[] {0x80, 0xFF, 0x00, 0x7F}) {
                int shift = 24 - 8 * (i % 4);
                int[] now = words.clone();
                now[i / 4] = now[i / 4] & ~(255 << shift) | bad << shift;
                x.feed(now[0], now[1], now[2], now[3], now[4]);
                x.program();
                due("byte " + i + " of " + text + " is " + bad, x.fault(), i);
            }
        }
        x = new LateMover();
        x.feed(0x3E303B2E, 0x3B000000, 0, 0, 0);
        due("the second feed comes behind the first", x.end(5), 5);
        due("forty", x.feed(0x3E303B00, 0, 0, 0, 0), 25);
        x.end(8);
        due("three BLOCKS", x.program(), 2);
        due("three", x.is(0), 3);
    }

    /** "The tape has its first n bytes alone: n. NONE, and nothing is done, if it has not so many, or n is below 0". */
    private static void end() {
        LateMover x = new LateMover();
        due("0 of 0", x.end(0), 0);
        outside("end of 0", x::end, 0, 0, -1);
        due("the tape of 0", x.is(7), 0);
        x.feed(0x2E3B2E3B, 0x2E3B2E3B, 0, 0, 0);
        outside("end of 20", x::end, 0, 20, -1);
        due("nothing is done", x.is(7), 20);
        due("20 of 20", x.end(20), 20);
        due("tape 20", x.is(7), 20);
        due("19 of 20", x.end(19), 19);
        due("tape 19", x.is(7), 19);
        due("20 of 19", x.end(20), -1);
        due("tape 19 still", x.is(7), 19);
        due("1 of 19", x.end(1), 1);
        due("2 of 1", x.end(2), -1);
        due("1 of 1", x.end(1), 1);
        due("0 of 1", x.end(0), 0);
        due("1 of 0", x.end(1), -1);
        due("-1 of 0", x.end(-1), -1);
        for (int i = 0; i < 40; i++) {
            x.feed(0x2E3B2E3B, 0, 0, 0, 0);
        }
        outside("end of 800", x::end, 0, 800, -1);
        due("800 of 800", x.end(800), 800);
        due("4 of 800", x.end(4), 4);
        due("the first bytes", x.program(), 2);
        due("two BLOCKS", x.is(0), 2);
    }

    /** "The tape (empty then) is THE PROGRAM: how many NODES"; "Letters told stay". */
    private static void program() {
        LateMover x = new LateMover();
        x.letter(0, 7);
        due("the least", Subject.tell(x, ".;"), 2);
        due("empty then", x.is(7), 0);
        due("nothing to end", x.end(1), -1);
        due("the letter stays", x.letter(0, 7), 7);
        due("the most", Subject.tell(x, largest()), 109);
        due("109", x.is(1), 109);
        due("empty again", x.is(7), 0);
        due("its EDGES", x.is(3), 1 + 60 + 32 + 32);
        due("its SKIPS", x.is(4), 33);
        due("the letter still stays", x.letter(0, 7), 7);
        due("a smaller one", Subject.tell(x, "!a;.;"), 3);
        due("3", x.is(1), 3);
        due("no NODE of the one before", x.node(3, 0), -2);
        x.run(-1, 0);
        due("its run has the letter", x.output(0), 7);
        due("a feed follows", x.feed(0x2E3B0000, 0, 0, 0, 0), 20);
    }

    private static String largest() {
        StringBuilder text = new StringBuilder("!1;".repeat(60));
        for (int b = 0; b < 16; b++) {
            text.append("?a").append((b + 1) % 16).append(',').append((b + 2) % 16).append(';');
        }
        return text.toString();
    }

    /** "NONE: a FAULT (all else stays; the tape is empty, too)". */
    private static void programFaults() {
        for (String bad : new String[] {"", "x", ">7;", ".;".repeat(16) + ".;", "!1;".repeat(61) + ".;"}) {
            LateMover x = Subject.of(DIAMOND);
            x.letter(0, 5);
            x.letter(15, 1);
            x.run(1, 0);
            x.write(2, 1);
            x.keep(1);
            long before = digest(x);
            due("a FAULT", Subject.tell(x, bad), -1);
            due("the tape is empty, too", x.is(7), 0);
            due("all else stays", digest(x), before);
            due("COMPUTED stays", x.computed(0), 1);
            due("OUTPUT stays", x.output(0), 5);
            due("behind stays", x.behind(24), 5);
            due("what was written stays", x.octet(0), '#');
            due("letters stay", x.letter(0, 5), 5);
            due("what is KEPT stays", x.back(1) ? 1 : 0, 1);
            due("its NODES", x.is(1), 8);
        }
        LateMover x = new LateMover();
        Subject.tell(x, "x");
        due("still no program", x.is(1), 0);
        due("still none to keep", x.keep(0) ? 1 : 0, 0);
        due("still none to run", x.run(-1, 0), -1);
    }

    /** What can be asked without a change, in one number. */
    static long digest(LateMover x) {
        long sum = x.heads() + x.risky();
        for (int what = 0; what < 7; what++) {
            sum = sum * 31 + x.is(what);
        }
        for (int n = -1; n < 9; n++) {
            for (int what = 0; what < 8; what++) {
                sum = sum * 31 + x.node(n, what);
            }
            sum = sum * 31 + x.live(n) * 7L + x.depth(n) * 5L + x.dead(n);
            sum = sum * 31 + x.fact(0, n, 4) + x.placed(0, n, 1, 0) * 3L;
        }
        for (int k = -1; k < 4; k++) {
            sum = sum * 31 + x.expression(k, 0) + x.computed(k) * 3L + x.output(k) * 5L + x.octet(k) * 7L;
        }
        for (int v = 0; v < 26; v++) {
            sum = sum * 31 + x.behind(v);
        }
        return sum;
    }

    /** "The FAULT's place of the latest program(); NONE, if that was well, ahead of any". */
    private static void fault() {
        LateMover x = new LateMover();
        due("ahead of any", x.fault(), -1);
        Subject.feed(x, "x");
        due("a feed is none", x.fault(), -1);
        due("a FAULT", x.program(), -1);
        due("its place", x.fault(), 1);
        due("asked again", x.fault(), 1);
        due("the tape was empty", x.program(), -1);
        due("place 0", x.fault(), 0);
        due("well", Subject.tell(x, ".;"), 2);
        due("NONE", x.fault(), -1);
        x.keep(0);
        Subject.tell(x, ">1;");
        due("of the latest", x.fault(), 1);
        due("back", x.back(0) ? 1 : 0, 1);
        due("back is no program()", x.fault(), 1);
        for (int i = 0; i < 40; i++) {
            x.feed(0x2E3B2E3B, 0, 0, 0, 0);
        }
        x.end(4);
        for (int i = 0; i < 39; i++) {
            x.feed(0, 0, 0, 0, 0);
        }
        x.program();
        due("behind two BLOCKS", x.fault(), 4);
        String whole = "x=100+100;".repeat(60) + "?z00,00;".repeat(16);
        due("a text of 728 bytes", Subject.tell(x, whole), 62);
        due("a BLOCK too much behind it", Subject.tell(x, whole + "?"), -1);
        due("its place", x.fault(), 728);
        due("one byte less", Subject.tell(x, whole.substring(0, 727)), -1);
        due("its length", x.fault(), 727);
    }

    /** "0 to 6 are 0 ahead of any. NONE for others". */
    private static void is() {
        LateMover x = new LateMover();
        outside("is of none", x::is, 0, 7, -1);
        Subject.feed(x, "x");
        for (int what = 0; what < 7; what++) {
            due("ahead of any: is " + what, x.is(what), 0);
        }
        due("bytes", x.is(7), 1);
        x.program();
        for (int what = 0; what < 8; what++) {
            due("behind a FAULT: is " + what, x.is(what), 0);
        }
        Subject.tell(x, "?p1,2;x=a+b;>2;y=a+b;!y;.;");
        int[] want = {3, 8, 1, 8, 2, 1, 1, 0};
        for (int what = 0; what < 8; what++) {
            due("is " + what, x.is(what), want[what]);
        }
        LateMover full = x;
        outside("is", full::is, 0, 7, -1);
        due("SOUND is 0", Subject.of(">0;").is(5), 0);
    }

    /** "Of NODE n ... -2 for others". */
    private static void node() {
        LateMover x = Subject.of("?p1,2;x=a+b;>2;y=a+b;!y;.;");
        for (int what = 0; what < 8; what++) {
            int asked = what;
            outside("node(n, " + what + ")", n -> x.node(n, asked), 0, 7, -2);
            Subject.due("FIRST's " + what + " is none of others", x.node(0, what) == -2, false);
            Subject.due("the last one's " + what + " is none of others", x.node(7, what) == -2, false);
        }
        for (int n = 0; n < 8; n++) {
            int at = n;
            outside("node(" + n + ", what)", what -> x.node(at, what), 0, 7, -2);
        }
        int[][] want = {{0, -1, -1, -1, 1, 0, 1, -1}, {5, 0, -1, 15, 2, 1, 2, 7}, {2, 1, 0, 23, 1, 1, 3, -1},
            {4, 1, -1, -1, 1, 1, 4, -1}, {2, 2, 0, 24, 1, 2, 5, -1}, {3, 2, -1, -1, 1, 1, 6, -1},
            {6, 2, -1, -1, 0, 1, -1, -1}, {0, -1, -1, -1, 1, 1, 4, -1}};
        for (int n = 0; n < 8; n++) {
            for (int what = 0; what < 8; what++) {
                due("node(" + n + ", " + what + ")", x.node(n, what), want[n][what]);
            }
        }
        due("a COPY", Subject.of("x=y;.;").node(1, 0), 1);
        due("a COPY's EXPRESSION", Subject.of("x=y;.;").node(1, 2), -1);
        LateMover large = Subject.of(largest());
        due("NODE 108", large.node(108, 0), 0);
        outside("node of 109", n -> large.node(n, 0), 0, 108, -2);
    }

    /** "Of EXPRESSION e ... -2 for others". */
    private static void expression() {
        LateMover x = Subject.of("x=a/z;y=999<000;.;.;z=a&b;.;");
        for (int what = 0; what < 6; what++) {
            int asked = what;
            outside("expression(e, " + what + ")", e -> x.expression(e, asked), 0, 2, -2);
        }
        for (int e = 0; e < 3; e++) {
            int asked = e;
            outside("expression(" + e + ", what)", what -> x.expression(asked, what), 0, 5, -2);
        }
        int[][] want = {{'/', 0, 25, 1, 1, 0}, {'<', 1025, 26, 0, 1, 0}, {'&', 0, 1, 0, 0, 0}};
        for (int e = 0; e < 3; e++) {
            for (int what = 0; what < 6; what++) {
                due("expression(" + e + ", " + what + ")", x.expression(e, what), want[e][what]);
            }
        }
        LateMover none = Subject.of(".;");
        outside("expression of none", e -> none.expression(e, 0), 0, -1, -2);
        due("expression 0 of none", none.expression(0, 0), -2);
        // Not SOUND, it is answered all the same.
        due("not SOUND", Subject.of(ENDLESS).expression(0, 5), 1);
        due("not SOUND, USES", Subject.of(ENDLESS).expression(0, 4), 1);
        due("60 that USE", Subject.of("x=a+b;".repeat(60) + ".;").expression(0, 4), 60);
        due("60 that do not KEEP", Subject.of("a=a+b;".repeat(60) + ".;").expression(0, 5), 60);
    }

    private static void risky() {
        due("none", Subject.of(".;").risky(), 0);
        due("none of one", Subject.of("x=a+b;.;").risky(), 0);
        due("one", Subject.of("x=a/b;.;").risky(), 1);
        due("one of two", Subject.of("x=a/b;x=a/1;.;").risky(), 1);
        due("alike ones are one", Subject.of("x=a/b;y=a/b;.;").risky(), 1);
        StringBuilder all = new StringBuilder();
        for (int i = 0; i < 24; i++) {
            all.append("x=").append(i).append("%b;");
        }
        due("all 24", Subject.of(all + ".;").risky(), 24);
        due("not SOUND", Subject.of(ENDLESS).risky(), 1);
    }

    /** "1, 0. NONE for others, not SOUND". */
    private static void fact() {
        LateMover x = Subject.of("x=a+b;y=c+d;.;");
        outside("fact(e)", e -> x.fact(e, 0, 0), 0, 1, -1);
        outside("fact(n)", n -> x.fact(0, n, 0), 0, 3, -1);
        outside("fact(what)", what -> x.fact(0, 0, what), 0, 7, -1);
        String[] rows = {"0100", "1111", "1100", "0011", "1000", "1100", "0100", "1111"};
        for (int what = 0; what < 8; what++) {
            for (int n = 0; n < 4; n++) {
                due("fact(0, " + n + ", " + what + ")", x.fact(0, n, what), rows[what].charAt(n) - '0');
            }
        }
        rows = new String[] {"0010", "1111", "1110", "0001", "1000", "1110", "0010", "1111"};
        for (int what = 0; what < 8; what++) {
            for (int n = 0; n < 4; n++) {
                due("fact(1, " + n + ", " + what + ")", x.fact(1, n, what), rows[what].charAt(n) - '0');
            }
        }
        LateMover endless = Subject.of(ENDLESS);
        for (int what = -1; what < 9; what++) {
            due("not SOUND " + what, endless.fact(0, 1, what), -1);
        }
        due("no EXPRESSION", Subject.of(".;").fact(0, 0, 0), -1);
        StringBuilder all = new StringBuilder();
        for (int i = 0; i < 24; i++) {
            all.append("x=a+").append(i).append(';');
        }
        LateMover full = Subject.of(all + ".;");
        due("EXPRESSION 23", full.fact(23, 24, 0), 1);
        due("EXPRESSION 23 elsewhere", full.fact(23, 23, 0), 0);
        due("EXPRESSION 24", full.fact(24, 24, 0), -1);
    }

    /** "By BUSY (how 0), LAZY (1) ... NONE for others, not SOUND". */
    private static void placed() {
        LateMover x = Subject.of("x=a+b;y=a+b;.;");
        outside("placed(e)", e -> x.placed(e, 0, 0, 0), 0, 0, -1);
        outside("placed(n)", n -> x.placed(0, n, 0, 0), 0, 3, -1);
        outside("placed(how)", how -> x.placed(0, 0, how, 0), 0, 1, -1);
        outside("placed(what)", what -> x.placed(0, 0, 0, what), 0, 2, -1);
        String[][] rows = {{"1000", "0110", "1110"}, {"0100", "0110", "0110"}};
        for (int how = 0; how < 2; how++) {
            for (int what = 0; what < 3; what++) {
                for (int n = 0; n < 4; n++) {
                    due("placed " + how + what + n, x.placed(0, n, how, what), rows[how][what].charAt(n) - '0');
                }
            }
        }
        for (int how = -1; how < 3; how++) {
            due("not SOUND by " + how, Subject.of(ENDLESS).placed(0, 1, how, 0), -1);
            due("no EXPRESSION by " + how, Subject.of(".;").placed(0, 0, how, 0), -1);
        }
    }

    /** "Of EXPRESSION e (NONE: all together) ... NONE for others, not SOUND". */
    private static void placement() {
        LateMover x = Subject.of("x=a+b;y=c+d;y=a+b;z=c+d;.;");
        outside("placement(e)", e -> x.placement(e, 0, 0), -1, 1, -1);
        outside("placement(how)", how -> x.placement(0, how, 0), 0, 1, -1);
        outside("placement(what)", what -> x.placement(0, 0, what), 0, 3, -1);
        outside("placement(NONE, how)", how -> x.placement(-1, how, 0), 0, 1, -1);
        outside("placement(NONE, 0, what)", what -> x.placement(-1, 0, what), 0, 3, -1);
        int[][] rows = {{1, 2, 4, 1}, {1, 2, 5, 1}, {2, 4, 9, 1}};
        for (int e = 0; e < 3; e++) {
            for (int what = 0; what < 4; what++) {
                due("placement by BUSY " + e + what, x.placement(e == 2 ? -1 : e, 0, what), rows[e][what]);
            }
        }
        rows = new int[][] {{1, 2, 3, 1}, {1, 2, 3, 1}, {2, 4, 6, 1}};
        for (int e = 0; e < 3; e++) {
            for (int what = 0; what < 4; what++) {
                due("placement by LAZY " + e + what, x.placement(e == 2 ? -1 : e, 1, what), rows[e][what]);
            }
        }
        for (int how = -1; how < 3; how++) {
            for (int e = -1; e < 1; e++) {
                due("not SOUND by " + how, Subject.of(ENDLESS).placement(e, how, 0), -1);
            }
        }
        for (int what = 0; what < 4; what++) {
            due("no EXPRESSION, all " + what, Subject.of(".;").placement(-1, 0, what), 0);
            due("no EXPRESSION 0 " + what, Subject.of(".;").placement(0, 0, what), -1);
            due("nowhere PUT IN " + what, Subject.of("x=a+b;.;").placement(0, 1, what), 0);
        }
    }

    /** "The SHARED name of EXPRESSION e (NONE: it is nowhere PUT IN); of NONE: how many names there are". */
    private static void shared() {
        LateMover x = Subject.of("x=a+b;y=c+d;y=a+b;z=c+d;u=e+f;.;");
        outside("shared(e)", e -> x.shared(e, 0), -1, 2, -1);
        outside("shared(how)", how -> x.shared(0, how), 0, 1, -1);
        outside("shared(NONE, how)", how -> x.shared(-1, how), 0, 1, -1);
        int[] busy = {0, 1, 2};
        int[] lazy = {0, 1, -1};
        for (int e = 0; e < 3; e++) {
            due("by BUSY " + e, x.shared(e, 0), busy[e]);
            due("by LAZY " + e, x.shared(e, 1), lazy[e]);
        }
        due("names by BUSY", x.shared(-1, 0), 3);
        due("names by LAZY", x.shared(-1, 1), 2);
        due("no names", Subject.of("x=a+b;.;").shared(-1, 1), 0);
        due("no EXPRESSION", Subject.of(".;").shared(0, 0), -1);
        due("no EXPRESSION, no names", Subject.of(".;").shared(-1, 0), 0);
        for (int how = -1; how < 3; how++) {
            due("not SOUND by " + how, Subject.of(ENDLESS).shared(-1, how), -1);
            due("not SOUND of 0 by " + how, Subject.of(ENDLESS).shared(0, how), -1);
        }
        // The one ahead is nowhere PUT IN: the next one's name is 0.
        due("the first one that is PUT IN", Subject.of("x=a+b;y=c+d;z=c+d;.;").shared(1, 1), 0);
    }

    /** "The most NAMES ALIVE at one NODE. NONE for others, not SOUND". */
    private static void mostOf(String text, int busy, int lazy) {
        LateMover x = Subject.of(text);
        due("most by BUSY of " + text, x.most(0), busy);
        due("most by LAZY of " + text, x.most(1), lazy);
        outside("most of " + text, x::most, 0, 1, -1);
    }

    private static void most() {
        mostOf(".;", 0, 0);
        mostOf("x=a+b;.;", 1, 0);
        mostOf("x=a+b;y=a+b;.;", 1, 1);
        mostOf("x=a+b;y=c+d;.;", 2, 0);
        mostOf("x=a+b;y=c+d;z=a+b;w=c+d;.;", 2, 2);
        mostOf(ENDLESS, -1, -1);
    }
}
