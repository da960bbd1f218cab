import java.math.BigInteger;
import java.nio.charset.StandardCharsets;
import java.util.HashMap;
import java.util.List;
import java.util.Map;

/**
 * Sequences of up to 512 calls on one object, made by a counter, with arguments at the boundaries and far outside: each
 * answer is compared with that of a model that keeps the tape, what is kept, letters, the latest run and what was
 * written as the document tells, and asks the Oracle for the rest.
 */
public final class SequenceTest {
    // A program is told by 43 calls at most; none comes behind the 512th.
    private static final int CALLS = 512 - 43;
    private static final int[] FAR = {Integer.MIN_VALUE, Integer.MAX_VALUE, -1000, 1000, -3, 128, 64, 32};
    private static final Map<String, Oracle> KNOWN = new HashMap<>();

    private final LateMover x = new LateMover();
    private final StringBuilder calls = new StringBuilder();
    private final String[] kept = new String[3];
    private final int[] told = new int[26];
    private String tape = "";
    private String text = "";
    private Oracle now;
    private Oracle.Trip latest;
    private String wrote = "";
    private int fault = -1;
    private int used;

    public static void main(String[] args) {
        for (int i = 0; i < 300 && Subject.wrong() == 0; i++) {
            SequenceTest one = new SequenceTest();
            while (one.used < CALLS) {
                one.step(i);
            }
        }
        Subject.finish("SequenceTest");
    }

    private void due(String call, long got, long want) {
        used++;
        calls.append(call).append(" = ").append(want).append('\n');
        if (got != want && Subject.wrong() == 0) {
            System.out.println(calls);
        }
        Subject.due(call + " with " + text, got, want);
    }

    private static int below(int n) {
        return FuzzTest.below(n);
    }

    /** Mostly -2 .. high + 2, with the boundaries told more often, and sometimes far outside. */
    private static int about(int high) {
        switch (below(12)) {
            case 0:
                return FAR[below(FAR.length)];
            case 1:
                return below(2) - 2;
            case 2:
                return high + below(3);
            default:
                return below(Math.max(0, high) + 1);
        }
    }

    private static long one(boolean so) {
        return so ? 1 : 0;
    }

    private int nodes() {
        return now == null ? 0 : now.size();
    }

    private int expressions() {
        return now == null ? 0 : now.expressions.size();
    }

    private boolean sound() {
        return now != null && now.sound;
    }

    private boolean isNode(int n) {
        return n >= 0 && n < nodes();
    }

    private boolean isSoundOne(int e) {
        return sound() && e >= 0 && e < expressions();
    }

    private boolean isMoved(int how) {
        return sound() && (how == 0 || how == 1);
    }

    private boolean isRunnable(int how) {
        return now != null && (how == -1 || isMoved(how));
    }

    // ---- what changes

    private void step(int i) {
        int kind = below(40);
        if (kind == 0) {
            tellProgram(i);
        } else if (kind < 4) {
            feed("x=a+b;.;>0;?a1,0;!7;".substring(below(10)));
        } else if (kind < 6) {
            cut(about(tape.length()));
        } else if (kind == 6 && below(3) == 0) {
            program();
        } else if (kind < 9) {
            keepOrBack();
        } else if (kind < 12) {
            letter();
        } else if (kind < 16) {
            run();
        } else if (kind < 19) {
            write();
        } else if (kind < 28) {
            askOfNow();
        } else {
            askOfProgram();
        }
    }

    private void tellProgram(int i) {
        String made = FuzzTest.makeProgram(below(5) == 0 ? i * 20 : 1 + below(50));
        made = below(5) == 0 ? FuzzTest.spoil(made) : made;
        cut(0);
        for (int at = 0; at < made.length(); at += 20) {
            feed(made.substring(at, Math.min(at + 20, made.length())));
        }
        cut(Math.min(made.length(), tape.length()));
        program();
    }

    private void feed(String part) {
        byte[] bytes = part.getBytes(StandardCharsets.ISO_8859_1);
        int[] w = new int[5];
        for (int i = 0; i < 5; i++) {
            w[i] = Subject.word(bytes, 4 * i);
        }
        boolean fits = tape.length() + 20 <= 800;
        due("feed " + part, x.feed(w[0], w[1], w[2], w[3], w[4]), fits ? tape.length() + 20 : -1);
        tape += fits ? part + "\0".repeat(20 - part.length()) : "";
    }

    private void cut(int n) {
        boolean can = n >= 0 && n <= tape.length();
        due("end " + n, x.end(n), can ? n : -1);
        tape = can ? tape.substring(0, n) : tape;
    }

    private static Oracle oracleOf(String text) {
        if (!KNOWN.containsKey(text)) {
            KNOWN.put(text, new Oracle(text));
        }
        return KNOWN.get(text);
    }

    private void program() {
        fault = Oracle.fault(tape);
        if (fault == -1) {
            take(tape);
        }
        due("program " + tape, x.program(), fault == -1 ? now.size() : -1);
        tape = "";
    }

    private void take(String given) {
        text = given;
        now = oracleOf(given);
        latest = null;
    }

    private void keepOrBack() {
        int i = about(2);
        boolean slot = i >= 0 && i < 3;
        if (below(2) == 0) {
            boolean can = slot && now != null;
            due("keep " + i, one(x.keep(i)), one(can));
            if (can) {
                kept[i] = text;
            }
        } else {
            boolean can = slot && kept[i] != null;
            if (can) {
                take(kept[i]);
            }
            due("back " + i, one(x.back(i)), one(can));
        }
    }

    private void letter() {
        int v = about(25);
        int[] values = {0, 1, -1, 2, 3, 40, 140, Integer.MIN_VALUE, Integer.MAX_VALUE};
        int value = values[below(values.length)];
        boolean such = v >= 0 && v < 26;
        due("letter " + v + " " + value, x.letter(v, value), such ? told[v] : 0);
        if (such) {
            told[v] = value;
        }
    }

    private void run() {
        int how = about(1) - (below(3) == 0 ? 1 : 0);
        int what = about(4);
        boolean can = isRunnable(how) && what >= 0 && what < 5;
        long want = -1;
        if (can) {
            latest = now.run(how, told);
            int sum = 0;
            for (int times : latest.computed) {
                sum += times;
            }
            want = new int[] {latest.ending, latest.steps, sum, latest.output.size(), latest.at}[what];
        }
        due("run " + how + " " + what, x.run(how, what), want);
    }

    private void write() {
        int n = about(nodes() - 1);
        int how = below(4) - 1;
        how = below(9) == 0 ? about(1) : how;
        boolean can = isNode(n) && isRunnable(how);
        wrote = can ? now.written(n, how) : wrote;
        due("write " + n + " " + how, x.write(n, how), can ? wrote.length() : -1);
    }

    // ---- what is asked of the state

    private void askOfNow() {
        switch (below(6)) {
            case 0:
                int e = about(expressions() - 1);
                boolean such = latest != null && e >= 0 && e < expressions();
                due("computed " + e, x.computed(e), such ? latest.computed[e] : -1);
                return;
            case 1:
                int k = below(3) == 0 ? 37 + below(6) : about(latest == null ? 1 : latest.output.size() - 1);
                boolean has = latest != null && k >= 0 && k < 40 && k < latest.output.size();
                due("output " + k, x.output(k), has ? latest.output.get(k) : 0);
                return;
            case 2:
                int v = about(25);
                due("behind " + v, x.behind(v), latest != null && v >= 0 && v < 26 ? latest.letters[v] : 0);
                return;
            case 3:
                int i = about(wrote.length() - 1);
                due("octet " + i, x.octet(i), i >= 0 && i < wrote.length() ? wrote.charAt(i) : -1);
                return;
            case 4:
                due("fault", x.fault(), fault);
                return;
            default:
                is();
        }
    }

    private void is() {
        int what = about(7);
        int[] want = {0, 0, 0, 0, 0, 0, 0, tape.length()};
        if (now != null) {
            want = new int[] {now.blocks, now.size(), now.expressions.size(), now.edges(), now.kinds(0),
                (int) one(now.sound), now.kinds(6), tape.length()};
        }
        due("is " + what, x.is(what), what >= 0 && what < 8 ? want[what] : -1);
    }

    // ---- what is asked of the program

    private void askOfProgram() {
        int n = about(nodes() - 1);
        int m = about(nodes() - 1);
        int e = about(expressions() - 1);
        int how = below(9) == 0 ? about(1) : below(4) - 1;
        switch (below(14)) {
            case 0:
                node(n, about(7));
                return;
            case 1:
                expression(e, about(5));
                return;
            case 2:
                int what = about(7);
                boolean such = isSoundOne(e) && isNode(n) && what >= 0 && what < 8;
                due("fact " + e + " " + n + " " + what, x.fact(e, n, what), such ? one(now.facts[what][e][n]) : -1);
                return;
            case 3:
                placed(e, n, how, about(2));
                return;
            case 4:
                placement(below(4) == 0 ? -1 : e, how, about(3));
                return;
            case 5:
                shared(below(4) == 0 ? -1 : e, how);
                return;
            case 6:
                alike(how);
                return;
            case 7:
                lettersAndLoops(n, m);
                return;
            case 8:
                again(e, about(1));
                return;
            case 9:
                due("weight " + how, x.weight(how), isRunnable(how) ? now.weight(how) : -1);
                return;
            case 10:
                others(e, about(3));
                return;
            case 11:
                most(how);
                return;
            case 12:
                due("heads", x.heads(), now == null ? 0 : now.heads);
                return;
            default:
                ways(how, below(3) == 0 ? about(60) : 60 - below(3), about(2));
        }
    }

    private void node(int n, int what) {
        long want = -2;
        if (isNode(n) && what >= 0 && what < 8) {
            Oracle.Node node = now.nodes.get(n);
            int first = node.next.isEmpty() ? -1 : node.next.get(0);
            int second = node.next.size() < 2 ? -1 : node.next.get(1);
            want = new int[] {node.kind, node.block, node.e, node.v, node.next.size(), node.from.size(), first, second}[what];
        }
        due("node " + n + " " + what, x.node(n, what), want);
    }

    private void expression(int e, int what) {
        long want = -2;
        int risky = 0;
        for (int f = 0; f < expressions(); f++) {
            risky += now.risky(f) ? 1 : 0;
        }
        due("risky", x.risky(), risky);
        if (e >= 0 && e < expressions() && what >= 0 && what < 6) {
            want = new int[] {now.sign(e), Oracle.operand(now.left(e)), Oracle.operand(now.right(e)),
                (int) one(now.risky(e)), Oracle.count(now.facts[0][e]), now.size() - Oracle.count(now.facts[1][e])}[what];
        }
        due("expression " + e + " " + what, x.expression(e, what), want);
    }

    private void placed(int e, int n, int how, int what) {
        long want = -1;
        if (isSoundOne(e) && isNode(n) && isMoved(how) && what >= 0 && what < 3) {
            want = one(List.of(now.put, now.replaced, now.alive).get(what)[how + 1][e][n]);
        }
        due("placed " + e + " " + n + " " + how + " " + what, x.placed(e, n, how, what), want);
    }

    private int placementOf(int e, int how, int what) {
        if (what == 3) {
            return now.clashes(e, how);
        }
        return Oracle.count(List.of(now.put, now.replaced, now.alive).get(what)[how + 1][e]);
    }

    private void placement(int e, int how, int what) {
        long want = -1;
        if (isMoved(how) && what >= 0 && what < 4 && (e == -1 || isSoundOne(e))) {
            want = 0;
            for (int f = 0; f < expressions(); f++) {
                want += e == -1 || e == f ? placementOf(f, how, what) : 0;
            }
            want = e == -1 && what == 3 ? want / 2 : want;
        }
        due("placement " + e + " " + how + " " + what, x.placement(e, how, what), want);
    }

    private void shared(int e, int how) {
        long want = -1;
        if (isMoved(how) && (e == -1 || isSoundOne(e))) {
            int names = 0;
            for (int name : now.shared(how)) {
                names = Math.max(names, name + 1);
            }
            want = e == -1 ? names : now.shared(how)[e];
        }
        due("shared " + e + " " + how, x.shared(e, how), want);
    }

    private void most(int how) {
        int want = isMoved(how) ? 0 : -1;
        for (int n = 0; isMoved(how) && n < nodes(); n++) {
            int here = 0;
            for (int e = 0; e < expressions(); e++) {
                here += now.alive[how + 1][e][n] ? 1 : 0;
            }
            want = Math.max(want, here);
        }
        due("most " + how, x.most(how), want);
    }

    private void alike(int how) {
        long want = -1;
        if (isRunnable(how)) {
            Oracle.Trip a = now.run(-1, told);
            Oracle.Trip b = now.run(how, told);
            int size = Math.min(40, a.output.size());
            want = one(a.ending == b.ending && a.output.size() == b.output.size()
                    && a.output.subList(0, size).equals(b.output.subList(0, size)));
        }
        due("alike " + how, x.alike(how), want);
    }

    private void lettersAndLoops(int n, int m) {
        int live = 0;
        int dead = 0;
        for (int v = 0; v < 26 && isNode(n); v++) {
            live |= now.live[v][n] ? 1 << v : 0;
        }
        for (int k = 0; k < nodes(); k++) {
            dead += now.dead(k) ? 1 : 0;
        }
        due("live " + n, x.live(n), isNode(n) ? live : -1);
        due("depth " + n, x.depth(n), isNode(n) ? now.deep[n] : -1);
        due("over " + n + " " + m, x.over(n, m), isNode(n) && isNode(m) ? one(now.over(n, m)) : -1);
        int all = now == null ? -2 : dead;
        due("dead " + n, x.dead(n), n == -1 ? all : isNode(n) ? one(now.dead(n)) : -2);
        due("dead -1", x.dead(-1), all);
    }

    private void again(int e, int what) {
        long want = -1;
        if (isSoundOne(e) && what >= 0 && what < 2) {
            want = 0;
            for (int n = 0; n < nodes(); n++) {
                boolean hand = now.facts[3][e][n];
                boolean counts = what == 0 ? hand : !hand && now.maybe[e][n];
                want += now.uses(e, n) && counts ? 1 : 0;
            }
        }
        due("again " + e + " " + what, x.again(e, what), want);
    }

    private void others(int e, int what) {
        boolean can = isSoundOne(e) && nodes() <= 12 && what >= 0 && what < 4;
        if (!can || nodes() <= 9) {
            due("others " + e + " " + what, x.others(e, what), can ? now.others(e)[what] : -2);
        }
    }

    private void ways(int how, int length, int what) {
        long want = -1;
        if (isRunnable(how) && length >= 1 && length <= 60 && what >= 0 && what < 3) {
            BigInteger[] all = now.ways(how, length);
            if (what == 0 || all[0].signum() > 0) {
                want = all[what].min(BigInteger.valueOf(1000000000000L)).longValue();
            }
        }
        due("ways " + how + " " + length + " " + what, x.ways(how, length, what), want);
    }
}
