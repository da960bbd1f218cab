import java.util.ArrayList;
import java.util.List;
import java.util.function.ToLongFunction;

/**
 * Promises 4, 30 and 31: an object that had a larger program, or a smaller one, answers for the next one as a new
 * object does; so does one that got it by back().
 */
public final class ReuseTest {
    private static final int GROUP = 300;
    private static final List<String> TEXTS = List.of(".;", ">0;", "x=a+b;y=a+b;.;", "?p1,2;x=a+b;>3;>3;y=a/b;!y;.;",
        ">1;>2;x=a+b;?a2,3;?a1,4;y=a+b;.;", "a=a+0;!0;b=0;?b0,1;x=0%c;y=0%c;.;", wide(), tower(), full());

    private static final class Question {
        final String name;
        final ToLongFunction<LateMover> ask;

        Question(String name, ToLongFunction<LateMover> ask) {
            this.name = name;
            this.ask = ask;
        }
    }

    public static void main(String[] args) {
        for (String next : TEXTS) {
            List<Question> questions = questionsOf(Subject.of(next));
            for (String before : TEXTS) {
                for (int from = 0; from < questions.size(); from += GROUP) {
                    compare(before, next, questions.subList(from, Math.min(from + GROUP, questions.size())));
                }
            }
        }
        Subject.finish("ReuseTest");
    }

    /** 109 NODES, one LOOP over all BLOCKS. */
    private static String wide() {
        StringBuilder text = new StringBuilder("x=a+b;y=c/d;!x;".repeat(20));
        for (int b = 0; b < 16; b++) {
            text.append("?a").append((b + 1) % 16).append(',').append((b + 2) % 16).append(';');
        }
        return text.toString();
    }

    /** LOOPS in LOOPS, with EXPRESSIONS in each. */
    private static String tower() {
        StringBuilder text = new StringBuilder();
        for (int b = 0; b < 15; b++) {
            text.append("x=a+").append(b).append(";a=a*2;x=a+").append(b).append(";?a").append(Math.max(0, b / 2));
            text.append(',').append(b + 1).append(';');
        }
        return text + ".;";
    }

    /** 24 EXPRESSIONS that all clash. */
    private static String full() {
        StringBuilder text = new StringBuilder();
        for (int i = 0; i < 48; i++) {
            text.append("x=").append(i % 24).append("%b;");
        }
        return text + "?x0,1;.;";
    }

    private static List<Question> questionsOf(LateMover x) {
        List<Question> all = new ArrayList<>();
        for (int n = 0; n <= x.is(1); n++) {
            ofNode(all, n);
        }
        for (int e = -1; e <= x.is(2); e++) {
            ofExpression(all, e, x.is(1));
        }
        for (int how = -1; how < 2; how++) {
            int by = how;
            all.add(new Question("most " + how, y -> y.most(by)));
            all.add(new Question("alike " + how, y -> y.alike(by)));
            all.add(new Question("weight " + how, y -> y.weight(by)));
            for (int what = 0; what < 5; what++) {
                int asked = what;
                all.add(new Question("run " + how + " " + what, y -> y.run(by, asked)));
                all.add(new Question("ways " + how + " " + what, y -> y.ways(by, 60, asked)));
                all.add(new Question("ways " + how + " " + what, y -> y.ways(by, 9, asked)));
            }
            for (int e = 0; e < x.is(2); e++) {
                int asked = e;
                all.add(new Question("run and computed " + e, y -> y.run(by, 0) * 1000L + y.computed(asked)));
            }
        }
        for (int what = 0; what < 8; what++) {
            int asked = what;
            all.add(new Question("is " + what, y -> y.is(asked)));
        }
        all.add(new Question("dead", y -> y.dead(-1)));
        all.add(new Question("heads", y -> y.heads()));
        all.add(new Question("risky", y -> y.risky()));
        all.add(new Question("computed", y -> y.computed(0)));
        return all;
    }

    private static void ofNode(List<Question> all, int n) {
        for (int what = 0; what < 8; what++) {
            int asked = what;
            all.add(new Question("node " + n + " " + what, y -> y.node(n, asked)));
        }
        all.add(new Question("live " + n, y -> y.live(n)));
        all.add(new Question("dead " + n, y -> y.dead(n)));
        all.add(new Question("depth " + n, y -> y.depth(n)));
        all.add(new Question("over 0 " + n, y -> y.over(0, n)));
        all.add(new Question("over " + n + " 1", y -> y.over(n, 1)));
        all.add(new Question("over 5 " + n, y -> y.over(5, n)));
        for (int how = -1; how < 2; how++) {
            int by = how;
            all.add(new Question("write " + n + " " + how, y -> y.write(n, by)));
        }
    }

    private static void ofExpression(List<Question> all, int e, int nodes) {
        for (int what = 0; what < 6; what++) {
            int asked = what;
            all.add(new Question("expression " + e + " " + what, y -> y.expression(e, asked)));
            all.add(new Question("others " + e + " " + what, y -> y.others(e, asked)));
            all.add(new Question("again " + e + " " + what, y -> y.again(e, asked)));
            for (int how = 0; how < 2; how++) {
                int by = how;
                all.add(new Question("placement " + e + " " + how + " " + what, y -> y.placement(e, by, asked)));
                all.add(new Question("shared " + e + " " + how, y -> y.shared(e, by)));
            }
        }
        for (int n = 0; n <= nodes; n++) {
            int at = n;
            for (int what = 0; what < 8; what++) {
                int asked = what;
                all.add(new Question("fact " + e + " " + n + " " + what, y -> y.fact(e, at, asked)));
                int by = what % 2;
                all.add(new Question("placed " + e + " " + n + " " + what, y -> y.placed(e, at, by, asked / 2)));
            }
        }
    }

    private static void compare(String before, String next, List<Question> questions) {
        LateMover fresh = Subject.of(next);
        LateMover told = used(before);
        Subject.tell(told, next);
        LateMover came = Subject.of(next);
        came.keep(2);
        Subject.tell(came, before);
        use(came);
        Subject.due("back", came.back(2), true);
        for (Question q : questions) {
            long want = q.ask.applyAsLong(fresh);
            Subject.due(q.name + " of " + next + " behind " + before, q.ask.applyAsLong(told), want);
            Subject.due(q.name + " of " + next + " back behind " + before, q.ask.applyAsLong(came), want);
        }
    }

    private static LateMover used(String text) {
        LateMover x = Subject.of(text);
        use(x);
        return x;
    }

    private static void use(LateMover x) {
        x.run(-1, 0);
        x.run(1, 0);
        x.ways(0, 60, 0);
        x.others(0, 0);
        x.others(1, 1);
        x.alike(0);
    }
}
