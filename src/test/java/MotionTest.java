/** Promises 10 to 14, 23 and 28: facts, placements, shared names, other placements. */
public final class MotionTest {
    private static final String TWICE = "x=a+b;y=a+b;!x;!y;.;";

    public static void main(String[] args) {
        twice();
        risky();
        names();
        changing();
        splitEdge();
        others();
        wrong();
        Subject.finish("MotionTest");
    }

    private static void due(String call, long got, long want) {
        Subject.due(call, got, want);
    }

    private static void row(LateMover x, int e, int what, String want) {
        StringBuilder got = new StringBuilder();
        for (int n = 0; n < x.is(1); n++) {
            got.append(x.fact(e, n, what));
        }
        Subject.due("fact " + e + " " + what, got.toString(), want);
    }

    private static void placed(LateMover x, int e, int how, String... want) {
        for (int what = 0; what < 3; what++) {
            StringBuilder got = new StringBuilder();
            for (int n = 0; n < x.is(1); n++) {
                got.append(x.placed(e, n, how, what));
            }
            Subject.due("placed " + e + " " + how + " " + what, got.toString(), want[what]);
        }
    }

    private static void twice() {
        LateMover x = Subject.of(TWICE);
        String[] rows = {"011000", "111111", "111000", "001111", "100000", "110000", "010000", "101111"};
        for (int what = 0; what < 8; what++) {
            row(x, 0, what, rows[what]);
        }
        placed(x, 0, 0, "100000", "011000", "111000");
        placed(x, 0, 1, "010000", "011000", "011000");
        int[] busy = {1, 2, 3, 0};
        int[] lazy = {1, 2, 2, 0};
        for (int what = 0; what < 4; what++) {
            due("busy " + what, x.placement(0, 0, what), busy[what]);
            due("lazy " + what, x.placement(0, 1, what), lazy[what]);
            due("busy all " + what, x.placement(-1, 0, what), busy[what]);
        }
        due("again", x.again(0, 0), 1);
        due("half", x.again(0, 1), 0);
    }

    private static void risky() {
        LateMover x = Subject.of("!c;x=a/b;!x;y=a/b;.;");
        row(x, 0, 1, "101011");
        row(x, 0, 2, "001010");
        row(x, 0, 3, "000101");
        row(x, 0, 4, "001010");
        due("again", x.again(0, 0), 0);
        due("half", x.again(0, 1), 0);
        // What is written does not stop what can't fault.
        x = Subject.of("!c;x=a/2;!x;y=a/2;.;");
        row(x, 0, 1, "111111");
        row(x, 0, 4, "100000");
        due("again", x.again(0, 0), 1);
        // Another fault stops, the same does not.
        x = Subject.of("x=a/b;y=c%d;z=a/b;w=c%d;v=c%d;.;");
        row(x, 0, 1, "1101001");
        row(x, 1, 1, "1010111");
        row(x, 0, 4, "1001000");
        row(x, 1, 4, "0010100");
        row(x, 1, 3, "0001011");
        due("again 0", x.again(0, 0), 0);
        due("again 1", x.again(1, 0), 1);
        // A copy and a question stop nothing.
        x = Subject.of("x=c;?d1,1;y=a%b;.;");
        row(x, 0, 4, "10000");
        // A letter changed stops, by a risky one of its own, too.
        x = Subject.of("a=a/b;y=a/b;.;");
        row(x, 0, 0, "0110");
        row(x, 0, 1, "1011");
        row(x, 0, 3, "0001");
        row(x, 0, 4, "1010");
    }

    private static void names() {
        LateMover x = Subject.of("x=a+b;y=c+d;z=a+b;w=c+d;.;");
        placed(x, 0, 1, "010000", "010100", "011100");
        placed(x, 1, 1, "001000", "001010", "001110");
        due("clash 0", x.placement(0, 1, 3), 1);
        due("pairs", x.placement(-1, 1, 3), 1);
        due("put in all", x.placement(-1, 1, 0), 2);
        due("replaced all", x.placement(-1, 1, 1), 4);
        due("life all", x.placement(-1, 1, 2), 6);
        due("name 0", x.shared(0, 1), 0);
        due("name 1", x.shared(1, 1), 1);
        due("names", x.shared(-1, 1), 2);
        due("most", x.most(1), 2);
        x = Subject.of("x=a+b;y=a+b;z=c+d;w=c+d;.;");
        due("lazy name 0", x.shared(0, 1), 0);
        due("lazy name 1", x.shared(1, 1), 0);
        due("lazy names", x.shared(-1, 1), 1);
        due("lazy most", x.most(1), 1);
        due("lazy pairs", x.placement(-1, 1, 3), 0);
        due("busy names", x.shared(-1, 0), 2);
        due("busy most", x.most(0), 2);
        due("busy pairs", x.placement(-1, 0, 3), 1);
        x = Subject.of("x=a+b;y=c+d;z=c+d;.;");
        due("not put in", x.shared(0, 1), -1);
        due("put in", x.shared(1, 1), 0);
        due("one name", x.shared(-1, 1), 1);
        x = Subject.of(".;x=a+b;.;");
        due("not come to", x.shared(0, 0), -1);
        due("no names", x.shared(-1, 0), 0);
        due("no most", x.most(0), 0);
        // Three that clash in a row: the third takes the first one's name again.
        x = Subject.of("x=a+b;y=c+d;z=a+b;x=e+f;w=c+d;v=e+f;.;");
        due("name 2", x.shared(2, 1), 0);
        due("names", x.shared(-1, 1), 2);
        due("clash 1", x.placement(1, 1, 3), 2);
        due("pairs", x.placement(-1, 1, 3), 2);
        due("most of three", x.most(1), 2);
    }

    private static void changing() {
        LateMover x = Subject.of("a=a+b;?n0,1;!a;.;");
        row(x, 0, 0, "010000");
        row(x, 0, 1, "101111");
        row(x, 0, 2, "110001");
        row(x, 0, 3, "000000");
        row(x, 0, 4, "100001");
        row(x, 0, 6, "010000");
        row(x, 0, 7, "111111");
        placed(x, 0, 0, "100001", "010000", "110001");
        placed(x, 0, 1, "000000", "000000", "000000");
    }

    private static void splitEdge() {
        LateMover x = Subject.of("?p1,2;x=a+b;>2;y=a+b;!y;.;");
        due("nodes", x.is(1), 8);
        placed(x, 0, 1, "00100001", "00101000", "00111001");
        due("half", x.again(0, 1), 1);
        due("again", x.again(0, 0), 0);
    }

    private static void others(LateMover x, int e, int... want) {
        for (int what = 0; what < 4; what++) {
            due("others " + e + " " + what, x.others(e, what), want[what]);
        }
    }

    private static void others() {
        LateMover x = Subject.of(TWICE);
        others(x, 0, 6, 2, 2, 1);
        others(Subject.of("x=a+b;.;"), 0, 3, 2, 1, 1);
        // Never used at a node: the empty set alone.
        others(Subject.of(".;x=a+b;.;"), 0, 1, 1, 0, 0);
        // A loop: put in within is too often, ahead of it is not.
        x = Subject.of(">1;x=a+b;?n1,2;.;");
        others(x, 0, 14, 2, 4, 1);
        due("what 4", x.others(0, 4), -2);
        due("what -1", x.others(0, -1), -2);
        due("e 1", x.others(1, 0), -2);
        due("e -1", x.others(-1, 0), -2);
        due("12 nodes", Subject.of("x=a+b;" + "!1;".repeat(9) + ".;").others(0, 1), 2);
        due("13 nodes", Subject.of("x=a+b;" + "!1;".repeat(10) + ".;").others(0, 1), -2);
        due("not sound", Subject.of("x=a+b;>0;").others(0, 0), -2);
        x = Subject.of(TWICE);
        due("first", x.others(0, 0), 6);
        x.keep(0);
        Subject.tell(x, "x=a+b;.;");
        due("second", x.others(0, 0), 3);
        x.back(0);
        due("first again", x.others(0, 0), 6);
    }

    private static void wrong() {
        LateMover x = Subject.of(TWICE);
        due("fact e", x.fact(1, 0, 0), -1);
        due("fact e below", x.fact(-1, 0, 0), -1);
        due("fact n", x.fact(0, 6, 0), -1);
        due("fact n below", x.fact(0, -1, 0), -1);
        due("fact what", x.fact(0, 0, 8), -1);
        due("fact what below", x.fact(0, 0, -1), -1);
        due("placed e", x.placed(-1, 0, 0, 0), -1);
        due("placed n", x.placed(0, 6, 0, 0), -1);
        due("placed how", x.placed(0, 0, 2, 0), -1);
        due("placed how -1", x.placed(0, 0, -1, 0), -1);
        due("placed what", x.placed(0, 0, 0, 3), -1);
        due("placement e", x.placement(1, 0, 0), -1);
        due("placement e -2", x.placement(-2, 0, 0), -1);
        due("placement how", x.placement(0, -1, 0), -1);
        due("placement what", x.placement(0, 0, 4), -1);
        due("placement what all", x.placement(-1, 0, -1), -1);
        due("shared e", x.shared(1, 0), -1);
        due("shared e -2", x.shared(-2, 0), -1);
        due("shared how", x.shared(0, -1), -1);
        due("shared how 2", x.shared(-1, 2), -1);
        due("most how", x.most(-1), -1);
        due("most how 2", x.most(2), -1);
        due("again e", x.again(1, 0), -1);
        due("again e -1", x.again(-1, 0), -1);
        due("again what", x.again(0, 2), -1);
        due("again what -1", x.again(0, -1), -1);
        x = Subject.of("x=a+b;>0;");
        due("fact", x.fact(0, 0, 0), -1);
        due("placed", x.placed(0, 0, 0, 0), -1);
        due("placement", x.placement(0, 0, 0), -1);
        due("shared", x.shared(0, 0), -1);
        due("shared all", x.shared(-1, 0), -1);
        due("most", x.most(0), -1);
        due("again", x.again(0, 0), -1);
    }
}
