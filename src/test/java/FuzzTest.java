import java.math.BigInteger;

/** Programs made by a counter: every answer is compared with the Oracle's. */
public final class FuzzTest {
    private static final String[] TURNED = {"a+b", "a/b", "b*c", "c%a"};
    private static long seed = 20261119L;

    static int below(int n) {
        seed = seed * 6364136223846793005L + 1442695040888963407L;
        return (int) ((seed >>> 33) % n);
    }

    /** The object under a text, made anew before it has had 512 calls. */
    private static final class Fresh {
        final String text;
        private LateMover x;
        private int calls;

        Fresh(String text) {
            this.text = text;
            renew();
        }

        void renew() {
            x = Subject.of(text);
            calls = 0;
        }

        LateMover on() {
            calls++;
            if (calls > 440) {
                renew();
            }
            return x;
        }
    }

    public static void main(String[] args) {
        for (int i = 0; i < 2600 && Subject.wrong() < 20; i++) {
            String text = makeProgram(i);
            int fault = Oracle.fault(text);
            Subject.due("fault " + text, new Fresh(text).on().fault(), fault);
            for (int k = 0; k < 6; k++) {
                String spoilt = spoil(text);
                Subject.due("fault " + spoilt, new Fresh(spoilt).on().fault(), Oracle.fault(spoilt));
            }
            if (fault == -1) {
                compare(text, i);
            }
        }
        for (int i = 0; i < 500 && Subject.wrong() < 20; i++) {
            compare(makeTurned(i), i);
        }
        for (int i = 0; i < 400; i++) {
            String text = makeLong(i);
            Subject.due("fault " + text, new Fresh(text).on().fault(), Oracle.fault(text));
        }
        Subject.finish("FuzzTest");
    }

    // ---- programs

    private static String operand(int letters) {
        if (below(6) == 0) {
            return String.valueOf(below(3) == 0 ? 0 : below(below(2) == 0 ? 4 : 1000));
        }
        return String.valueOf((char) ('a' + below(letters)));
    }

    private static String statement(int letters, String[] pool) {
        String v = String.valueOf((char) ('a' + below(letters)));
        switch (below(8)) {
            case 0:
                return "!" + operand(letters) + ";";
            case 1:
                return v + "=" + operand(letters) + ";";
            default:
                String target = below(2) == 0 ? v : String.valueOf((char) ('p' + below(8)));
                return target + "=" + pool[below(pool.length)] + ";";
        }
    }

    private static String end(int letters, int blocks, int b) {
        int kind = below(10);
        int far = below(3) == 0 ? below(blocks) : Math.min(blocks - 1, b + 1);
        if (b == blocks - 1 && kind < 8) {
            return ".;";
        }
        if (kind < 6) {
            String v = below(6) == 0 ? "z" : String.valueOf((char) ('a' + below(letters)));
            return "?" + v + below(blocks) + "," + (below(9) == 0 ? "0" : "") + far + ";";
        }
        return kind < 9 ? ">" + far + ";" : ".;";
    }

    static String makeProgram(int i) {
        int letters = 2 + below(4);
        String[] pool = new String[1 + below(i % 3 == 0 ? 10 : 4)];
        for (int k = 0; k < pool.length; k++) {
            String sign = String.valueOf("+-*/%&<//+".charAt(below(10)));
            pool[k] = operand(letters) + sign + operand(letters);
        }
        boolean big = i % 20 == 0;
        int blocks = big ? 13 + below(4) : 1 + below(i % 4 == 0 ? 14 : 5);
        StringBuilder text = new StringBuilder();
        for (int b = 0; b < blocks; b++) {
            int statements = big ? 2 + below(3) : below(i % 2 == 0 ? 5 : 3);
            for (int k = 0; k < statements; k++) {
                text.append(statement(letters, pool));
            }
            text.append(end(letters, blocks, b));
        }
        return text.length() > 800 ? ".;" : text.toString();
    }

    /** A row of blocks, each leading on to one of a lower number, some back: what is solved round by round takes many. */
    private static String makeTurned(int i) {
        int blocks = i % 3 == 0 ? 8 + below(9) : 3 + below(6);
        String[] bodies = new String[blocks];
        for (int at = 0; at < blocks; at++) {
            StringBuilder body = new StringBuilder();
            for (int k = below(i % 3 == 0 ? 3 : 2); k > 0; k--) {
                body.append(below(3) == 0 ? statement(3, TURNED) : "x=" + TURNED[below(2)] + ";");
            }
            int next = blocks - at - 1;
            boolean forks = at > 0 && below(4) == 0;
            String end = forks ? "?" + "abp".charAt(below(3)) + (below(3) == 0 ? below(blocks) : blocks - 1 - below(at)) + "," : ">";
            body.append(at == blocks - 1 ? "." : end + next).append(';');
            bodies[at == 0 ? 0 : blocks - at] = body.toString();
        }
        return String.join("", bodies);
    }

    /** Texts about the limits: many blocks, statements, expressions. */
    private static String makeLong(int i) {
        StringBuilder text = new StringBuilder();
        int blocks = 10 + below(9);
        int most = 1 + below(9);
        for (int b = 0; b < blocks; b++) {
            for (int k = below(most); k > 0; k--) {
                text.append(i % 3 == 0 ? "x=a+" + (i % 2 == 0 ? below(60) : below(24)) + ";" : "!" + below(9) + ";");
            }
            text.append(".;");
        }
        String all = text.length() > 800 ? text.substring(0, 800) : text.toString();
        return below(3) == 0 ? spoil(all) : all;
    }

    static String spoil(String text) {
        String signs = "abxz0123456789+-*/%&<=!?>.,; A";
        int at = below(text.length());
        char sign = signs.charAt(below(signs.length()));
        switch (below(4)) {
            case 0:
                return text.substring(0, at);
            case 1:
                return text.substring(0, at) + sign + text.substring(at + 1);
            case 2:
                return text.length() >= 800 ? text : text.substring(0, at) + sign + text.substring(at);
            default:
                return text.substring(0, at) + text.substring(at + 1);
        }
    }

    // ---- answers

    private static void due(String call, Fresh fresh, long got, long want) {
        if (got != want) {
            Subject.due(fresh.text + " " + call, got, want);
        } else {
            Subject.due("", got, want);
        }
    }

    private static long one(boolean so) {
        return so ? 1 : 0;
    }

    private static void compare(String text, int i) {
        Oracle oracle = new Oracle(text);
        Fresh x = new Fresh(text);
        graph(oracle, x);
        nodes(oracle, x);
        expressions(oracle, x);
        facts(oracle, x);
        placements(oracle, x);
        loops(oracle, x, i);
        ways(oracle, x, i);
        others(oracle, x, i);
        writing(oracle, x);
        for (int k = 0; k < 3; k++) {
            runs(oracle, text);
        }
    }

    private static void graph(Oracle o, Fresh x) {
        int[] want = {o.blocks, o.size(), o.expressions.size(), o.edges(), o.kinds(0), (int) one(o.sound), o.kinds(6), 0, -1};
        for (int what = 0; what < want.length; what++) {
            due("is " + what, x, x.on().is(what), want[what]);
        }
        due("heads", x, x.on().heads(), o.heads);
    }

    private static void nodes(Oracle o, Fresh x) {
        int dead = 0;
        for (int n = 0; n < o.size(); n++) {
            Oracle.Node node = o.nodes.get(n);
            int first = node.next.isEmpty() ? -1 : node.next.get(0);
            int second = node.next.size() < 2 ? -1 : node.next.get(1);
            int[] want = {node.kind, node.block, node.e, node.v, node.next.size(), node.from.size(), first, second, -2};
            for (int what = 0; what < want.length; what++) {
                due("node " + n + " " + what, x, x.on().node(n, what), want[what]);
            }
            int bits = 0;
            for (int v = 0; v < 26; v++) {
                bits |= o.live[v][n] ? 1 << v : 0;
            }
            due("live " + n, x, x.on().live(n), bits);
            due("dead " + n, x, x.on().dead(n), one(o.dead(n)));
            due("depth " + n, x, x.on().depth(n), o.deep[n]);
            dead += o.dead(n) ? 1 : 0;
        }
        due("node beyond", x, x.on().node(o.size(), 0), -2);
        due("live beyond", x, x.on().live(o.size()), -1);
        due("dead beyond", x, x.on().dead(o.size()), -2);
        due("dead all", x, x.on().dead(-1), dead);
        due("depth beyond", x, x.on().depth(o.size()), -1);
    }

    private static void expressions(Oracle o, Fresh x) {
        int risky = 0;
        for (int e = 0; e < o.expressions.size(); e++) {
            int used = Oracle.count(o.facts[0][e]);
            int broken = o.size() - Oracle.count(o.facts[1][e]);
            int danger = (int) one(o.risky(e));
            int[] want = {o.sign(e), Oracle.operand(o.left(e)), Oracle.operand(o.right(e)), danger, used, broken, -2};
            for (int what = 0; what < want.length; what++) {
                due("expression " + e + " " + what, x, x.on().expression(e, what), want[what]);
            }
            risky += danger;
        }
        due("risky", x, x.on().risky(), risky);
        due("expression beyond", x, x.on().expression(o.expressions.size(), 0), -2);
    }

    private static void facts(Oracle o, Fresh x) {
        for (int e = 0; e < o.expressions.size(); e++) {
            int again = 0;
            int half = 0;
            for (int n = 0; n < o.size(); n++) {
                for (int what = 0; what < 8; what++) {
                    String call = "fact " + e + " " + n + " " + what;
                    due(call, x, x.on().fact(e, n, what), o.sound ? one(o.facts[what][e][n]) : -1);
                }
                again += o.uses(e, n) && o.facts[3][e][n] ? 1 : 0;
                half += o.uses(e, n) && !o.facts[3][e][n] && o.maybe[e][n] ? 1 : 0;
            }
            due("again " + e, x, x.on().again(e, 0), o.sound ? again : -1);
            due("half " + e, x, x.on().again(e, 1), o.sound ? half : -1);
            due("fact beyond", x, x.on().fact(e, o.size(), 0), -1);
        }
    }

    private static void placements(Oracle o, Fresh x) {
        for (int how = -1; how < 3; how++) {
            boolean can = o.sound && (how == 0 || how == 1);
            int by = can ? how : 0;
            int[] shared = o.shared(by);
            int[] sums = new int[4];
            int names = 0;
            for (int e = 0; e < o.expressions.size(); e++) {
                int[] want = {Oracle.count(o.put[by + 1][e]), Oracle.count(o.replaced[by + 1][e]),
                    Oracle.count(o.alive[by + 1][e]), o.clashes(e, by)};
                for (int what = 0; what < 4; what++) {
                    String call = "placement " + e + " " + how + " " + what;
                    due(call, x, x.on().placement(e, how, what), can ? want[what] : -1);
                    sums[what] += want[what];
                }
                due("shared " + e + " " + how, x, x.on().shared(e, how), can ? shared[e] : -1);
                names = Math.max(names, shared[e] + 1);
                placed(o, x, e, how, can);
            }
            for (int what = 0; what < 4; what++) {
                int want = what == 3 ? sums[3] / 2 : sums[what];
                due("placement all " + how + " " + what, x, x.on().placement(-1, how, what), can ? want : -1);
            }
            due("shared all " + how, x, x.on().shared(-1, how), can ? names : -1);
            due("most " + how, x, x.on().most(how), can ? most(o, how) : -1);
            due("beyond " + how, x, x.on().placement(o.expressions.size(), how, 0), -1);
            due("beyond " + how, x, x.on().shared(o.expressions.size(), how), -1);
        }
    }

    private static void placed(Oracle o, Fresh x, int e, int how, boolean can) {
        int by = can ? how + 1 : 1;
        for (int n = 0; n < o.size(); n++) {
            long[] want = {one(o.put[by][e][n]), one(o.replaced[by][e][n]), one(o.alive[by][e][n]), -1};
            for (int what = 0; what < 4; what++) {
                String call = "placed " + e + " " + n + " " + how + " " + what;
                due(call, x, x.on().placed(e, n, how, what), can ? want[what] : -1);
            }
        }
    }

    private static int most(Oracle o, int how) {
        int most = 0;
        for (int n = 0; n < o.size(); n++) {
            int here = 0;
            for (int e = 0; e < o.expressions.size(); e++) {
                here += o.alive[how + 1][e][n] ? 1 : 0;
            }
            most = Math.max(most, here);
        }
        return most;
    }

    private static void loops(Oracle o, Fresh x, int i) {
        for (int n = -1; n <= o.size(); n++) {
            for (int m = -1; m <= o.size(); m++) {
                boolean such = n >= 0 && m >= 0 && n < o.size() && m < o.size();
                if (i % 5 == 0 || !such) {
                    due("over " + n + " " + m, x, x.on().over(n, m), such ? one(o.over(n, m)) : -1);
                }
            }
        }
        for (int how = -2; how < 3; how++) {
            boolean can = how == -1 || (o.sound && (how == 0 || how == 1));
            due("weight " + how, x, x.on().weight(how), can ? o.weight(how) : -1);
        }
    }

    private static void ways(Oracle o, Fresh x, int i) {
        BigInteger many = BigInteger.valueOf(1000000000000L);
        int[] lengths = {1, 1 + i % 60, 60, 0, 61};
        for (int how = -1; how < 2; how++) {
            for (int length : lengths) {
                boolean can = (how == -1 || o.sound) && length >= 1 && length <= 60;
                BigInteger[] want = can ? o.ways(how, length) : null;
                for (int what = 0; what < 3; what++) {
                    long right = -1;
                    if (can && (what == 0 || want[0].signum() > 0)) {
                        right = want[what].min(many).longValue();
                    }
                    due("ways " + how + " " + length + " " + what, x, x.on().ways(how, length, what), right);
                }
            }
        }
    }

    private static void others(Oracle o, Fresh x, int i) {
        for (int e = 0; e <= o.expressions.size(); e++) {
            boolean can = o.sound && o.size() <= 12 && e < o.expressions.size();
            if (can && o.size() > 9 && i % 4 != 0) {
                continue;
            }
            int[] want = can ? o.others(e) : new int[] {-2, -2, -2, -2};
            for (int what = 0; what < 4; what++) {
                due("others " + e + " " + what, x, x.on().others(e, what), want[what]);
            }
        }
    }

    private static void writing(Oracle o, Fresh x) {
        for (int how = -1; how < 2; how++) {
            for (int n = 0; n < o.size(); n++) {
                String want = how == -1 || o.sound ? o.written(n, how) : "none";
                x.renew();
                Subject.due(x.text + " write " + n + " " + how, Subject.written(x.on(), n, how), want);
            }
        }
    }

    private static void runs(Oracle o, String text) {
        LateMover x = Subject.of(text);
        int[] told = new int[26];
        int[] values = {0, 1, 2, 3, -1, 7, Integer.MIN_VALUE, 100};
        for (int v = 0; v < 7; v++) {
            told[v == 6 ? 25 : v] = values[below(values.length)];
            x.letter(v == 6 ? 25 : v, told[v == 6 ? 25 : v]);
        }
        Fresh name = new Fresh(text);
        Oracle.Trip source = o.run(-1, told);
        for (int how = -1; how < 2; how++) {
            boolean can = how == -1 || o.sound;
            Oracle.Trip trip = can ? o.run(how, told) : source;
            int sum = 0;
            for (int e = 0; e < trip.computed.length; e++) {
                sum += trip.computed[e];
            }
            int[] want = {trip.ending, trip.steps, sum, trip.output.size(), trip.at};
            for (int what = 0; what < 5; what++) {
                due("run " + how + " " + what, name, x.run(how, what), can ? want[what] : -1);
            }
            boolean like = trip.ending == source.ending && trip.output.size() == source.output.size()
                    && head(trip).equals(head(source));
            due("alike " + how, name, x.alike(how), can ? one(like) : -1);
            behind(x, name, trip);
        }
    }

    private static java.util.List<Integer> head(Oracle.Trip trip) {
        return trip.output.subList(0, Math.min(40, trip.output.size()));
    }

    private static void behind(LateMover x, Fresh name, Oracle.Trip trip) {
        for (int e = 0; e < trip.computed.length; e++) {
            due("computed " + e, name, x.computed(e), trip.computed[e]);
        }
        for (int k = 0; k <= 41; k++) {
            due("output " + k, name, x.output(k), k < 40 && k < trip.output.size() ? trip.output.get(k) : 0);
        }
        for (int v = 0; v < 26; v++) {
            due("behind " + v, name, x.behind(v), trip.letters[v]);
        }
    }
}
