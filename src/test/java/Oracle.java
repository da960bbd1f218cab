import java.math.BigInteger;
import java.util.ArrayList;
import java.util.HashSet;
import java.util.List;
import java.util.Set;
import java.util.function.IntPredicate;
import java.util.regex.Matcher;
import java.util.regex.Pattern;

/** The document's words followed in the plainest way, node by node and set by set, to compare answers with. */
final class Oracle {
    private static final String A = "(?:[a-z]|[0-9]{1,3})";
    private static final String END = "(?:>[0-9]{1,2}|\\?[a-z][0-9]{1,2},[0-9]{1,2}|\\.)";
    private static final String STATEMENT = "(?:[a-z]=" + A + "(?:[-+*/%&<]" + A + ")?|!" + A + ")";
    private static final Pattern TEXT = Pattern.compile("(?:(?:" + STATEMENT + ";)*" + END + ";)+");
    private static final Pattern RIGHT_SIDE = Pattern.compile("[a-z]=(" + A + ")([-+*/%&<])(" + A + ")");
    private static final Pattern TARGET = Pattern.compile("[0-9]+");

    static final class Node {
        int kind;
        int block = -1;
        int v = -1;
        int e = -1;
        String text = "";
        String read = "";
        final List<Integer> next = new ArrayList<>();
        final List<Integer> from = new ArrayList<>();
    }

    final List<Node> nodes = new ArrayList<>();
    final List<String> expressions = new ArrayList<>();
    int blocks;
    boolean sound;
    boolean[][][] facts; // what, e, n
    boolean[][] maybe; // e, n
    boolean[][][] put; // how, e, n
    boolean[][][] replaced;
    boolean[][][] alive;
    boolean[][] live; // letter, n
    int[] deep;
    int heads;

    // ---- the fault

    static int fault(String text) {
        int wrong = -1;
        for (int i = 0; i < text.length() && wrong < 0; i++) {
            Matcher m = TEXT.matcher(text.substring(0, i + 1));
            wrong = m.matches() || m.hitEnd() ? -1 : i;
        }
        boolean whole = wrong < 0 && TEXT.matcher(text).matches();
        int place = whole ? -1 : wrong < 0 ? text.length() : wrong;
        int seen = whole ? Integer.MAX_VALUE : place;
        int statements = 0;
        int ends = 0;
        Set<String> unlike = new HashSet<>();
        for (int start = 0; start < text.length() && start <= seen; start = text.indexOf(';', start) + 1) {
            char sign = text.charAt(start);
            if (ends == 16) {
                return start;
            }
            if (sign == '!' || (sign >= 'a' && sign <= 'z')) {
                statements++;
                if (statements == 61) {
                    return start;
                }
                Matcher m = RIGHT_SIDE.matcher(text.substring(start));
                if (m.lookingAt() && start + m.end() <= seen) {
                    unlike.add(plain(m.group(1) + m.group(2) + m.group(3)));
                    if (unlike.size() == 25) {
                        return start + 2;
                    }
                }
            } else {
                ends++;
            }
            if (text.indexOf(';', start) < 0) {
                break;
            }
        }
        return whole ? strayTarget(text, ends) : place;
    }

    private static int strayTarget(String text, int blocks) {
        int start = 0;
        for (String piece : text.split(";")) {
            if (piece.charAt(0) == '>' || piece.charAt(0) == '?') {
                Matcher m = TARGET.matcher(piece);
                while (m.find()) {
                    if (Integer.parseInt(m.group()) >= blocks) {
                        return start + m.start();
                    }
                }
            }
            start += piece.length() + 1;
        }
        return -1;
    }

    static String plain(String text) {
        return text.replaceAll("(?<![0-9])0+(?=[0-9])", "");
    }

    // ---- the graph

    Oracle(String text) {
        List<List<String>> bodies = new ArrayList<>();
        List<String> body = new ArrayList<>();
        for (String piece : text.split(";")) {
            String line = plain(piece);
            body.add(line);
            Matcher m = RIGHT_SIDE.matcher(line);
            if (m.matches() && !expressions.contains(line.substring(2))) {
                expressions.add(line.substring(2));
            }
            if (">?.".indexOf(line.charAt(0)) >= 0) {
                bodies.add(body);
                body = new ArrayList<>();
            }
        }
        blocks = bodies.size();
        makeNodes(bodies);
        split();
        for (int n = 0; n < nodes.size(); n++) {
            for (int m : nodes.get(n).next) {
                nodes.get(m).from.add(n);
            }
        }
        findSound();
        findLive();
        findLoops();
        findFacts();
        findPlacements();
    }

    private static List<Integer> targets(String end) {
        List<Integer> found = new ArrayList<>();
        Matcher m = TARGET.matcher(end);
        while (m.find()) {
            if (!found.contains(Integer.parseInt(m.group()))) {
                found.add(Integer.parseInt(m.group()));
            }
        }
        return found;
    }

    private void visit(List<List<String>> bodies, int b, Set<Integer> seen) {
        if (seen.add(b)) {
            for (int t : targets(bodies.get(b).get(bodies.get(b).size() - 1))) {
                visit(bodies, t, seen);
            }
        }
    }

    private void makeNodes(List<List<String>> bodies) {
        Set<Integer> seen = new HashSet<>();
        visit(bodies, 0, seen);
        nodes.add(new Node());
        nodes.get(0).next.add(1);
        int[] starts = new int[blocks];
        List<Node> ends = new ArrayList<>();
        for (int b = 0; b < blocks; b++) {
            if (seen.contains(b)) {
                starts[b] = nodes.size();
                for (String line : bodies.get(b)) {
                    Node node = lineNode(line, b);
                    nodes.add(node);
                    if (node.kind < 4) {
                        node.next.add(nodes.size());
                    } else {
                        ends.add(node);
                    }
                }
            }
        }
        for (Node end : ends) {
            for (int t : targets(end.text)) {
                end.next.add(starts[t]);
            }
        }
    }

    private Node lineNode(String line, int b) {
        Node node = new Node();
        node.block = b;
        node.text = line;
        char sign = line.charAt(0);
        if (sign == '>' || sign == '?' || sign == '.') {
            node.kind = sign == '>' ? 4 : sign == '?' ? 5 : 6;
            node.v = sign == '?' ? line.charAt(1) - 'a' : -1;
            node.read = sign == '?' ? line.substring(1, 2) : "";
        } else if (sign == '!') {
            node.kind = 3;
            node.read = line.substring(1);
        } else {
            node.v = sign - 'a';
            node.read = line.substring(2);
            node.e = expressions.indexOf(node.read);
            node.kind = node.e < 0 ? 1 : 2;
        }
        return node;
    }

    private void split() {
        int[] coming = new int[nodes.size()];
        for (Node node : nodes) {
            for (int m : node.next) {
                coming[m]++;
            }
        }
        int count = nodes.size();
        for (int n = 0; n < count; n++) {
            List<Integer> next = nodes.get(n).next;
            for (int k = 0; k < next.size() && next.size() == 2; k++) {
                if (coming[next.get(k)] >= 2) {
                    Node skip = new Node();
                    skip.next.add(next.get(k));
                    next.set(k, nodes.size());
                    nodes.add(skip);
                }
            }
        }
    }

    int size() {
        return nodes.size();
    }

    int edges() {
        return nodes.stream().mapToInt(n -> n.next.size()).sum();
    }

    int kinds(int kind) {
        return (int) nodes.stream().filter(n -> n.kind == kind).count();
    }

    private boolean[] reach(int start, int without) {
        boolean[] met = new boolean[size()];
        List<Integer> open = new ArrayList<>();
        if (start != without) {
            open.add(start);
            met[start] = true;
        }
        while (!open.isEmpty()) {
            for (int m : nodes.get(open.remove(open.size() - 1)).next) {
                if (m != without && !met[m]) {
                    met[m] = true;
                    open.add(m);
                }
            }
        }
        return met;
    }

    private void findSound() {
        sound = true;
        for (int n = 0; n < size(); n++) {
            boolean[] met = reach(n, -1);
            boolean ends = false;
            for (int m = 0; m < size(); m++) {
                ends |= met[m] && nodes.get(m).next.isEmpty();
            }
            sound &= ends;
        }
    }

    // ---- letters, loops

    boolean reads(int n, int letter) {
        return nodes.get(n).read.indexOf('a' + letter) >= 0;
    }

    int changed(int n) {
        return nodes.get(n).kind == 1 || nodes.get(n).kind == 2 ? nodes.get(n).v : -1;
    }

    private void findLive() {
        live = new boolean[26][];
        for (int letter = 0; letter < 26; letter++) {
            int v = letter;
            boolean[] at = new boolean[size()];
            live[v] = settle(at, n -> reads(n, v)
                    || (changed(n) != v && nodes.get(n).next.stream().anyMatch(m -> at[m])));
        }
    }

    boolean dead(int n) {
        int v = changed(n);
        if (v < 0 || (nodes.get(n).kind == 2 && risky(nodes.get(n).e))) {
            return false;
        }
        return nodes.get(n).next.stream().noneMatch(m -> live[v][m]);
    }

    boolean over(int n, int m) {
        return n == m || !reach(0, n)[m];
    }

    private void findLoops() {
        deep = new int[size()];
        boolean[][] over = new boolean[size()][size()];
        for (int n = 0; n < size(); n++) {
            boolean[] without = reach(0, n);
            for (int m = 0; m < size(); m++) {
                over[n][m] = n == m || !without[m];
            }
        }
        for (int n = 0; n < size(); n++) {
            int head = n;
            if (nodes.get(n).from.stream().anyMatch(m -> over[head][m])) {
                heads++;
                for (int m = 0; m < size(); m++) {
                    deep[m] += m == n || (over[n][m] && comesBack(n, m, over[n])) ? 1 : 0;
                }
            }
        }
    }

    private boolean comesBack(int head, int start, boolean[] such) {
        boolean[] met = new boolean[size()];
        List<Integer> open = new ArrayList<>(List.of(start));
        while (!open.isEmpty()) {
            for (int m : nodes.get(open.remove(0)).next) {
                if (m == head) {
                    return true;
                }
                if (such[m] && !met[m]) {
                    met[m] = true;
                    open.add(m);
                }
            }
        }
        return false;
    }

    // ---- facts

    String left(int e) {
        return expressions.get(e).split("[-+*/%&<]")[0];
    }

    String right(int e) {
        return expressions.get(e).split("[-+*/%&<]")[1];
    }

    char sign(int e) {
        return expressions.get(e).charAt(left(e).length());
    }

    static int operand(String a) {
        return Character.isDigit(a.charAt(0)) ? Integer.parseInt(a) + 26 : a.charAt(0) - 'a';
    }

    boolean risky(int e) {
        boolean divides = sign(e) == '/' || sign(e) == '%';
        boolean above = Character.isDigit(right(e).charAt(0)) && Integer.parseInt(right(e)) > 0;
        return divides && !above;
    }

    boolean uses(int e, int n) {
        return nodes.get(n).e == e;
    }

    boolean keeps(int e, int n) {
        int v = changed(n);
        if (v >= 0 && expressions.get(e).indexOf('a' + v) >= 0) {
            return false;
        }
        if (!risky(e)) {
            return true;
        }
        int f = nodes.get(n).e;
        return nodes.get(n).kind != 3 && (f < 0 || f == e || !risky(f));
    }

    /** All nodes together, until nothing changes; each round looks at the answer of the one ahead alone. */
    private boolean[] settle(boolean[] at, IntPredicate rule) {
        boolean changed = true;
        while (changed) {
            boolean[] now = new boolean[at.length];
            for (int n = 0; n < at.length; n++) {
                now[n] = rule.test(n);
            }
            changed = !java.util.Arrays.equals(now, at);
            System.arraycopy(now, 0, at, 0, at.length);
        }
        return at;
    }

    private boolean[] full() {
        boolean[] at = new boolean[size()];
        java.util.Arrays.fill(at, true);
        return at;
    }

    private List<Integer> next(int n) {
        return nodes.get(n).next;
    }

    private List<Integer> from(int n) {
        return nodes.get(n).from;
    }

    private void findFacts() {
        facts = new boolean[8][expressions.size()][];
        maybe = new boolean[expressions.size()][];
        for (int i = 0; i < expressions.size(); i++) {
            int e = i;
            boolean[] needed = full();
            settle(needed, n -> uses(e, n)
                    || (keeps(e, n) && !next(n).isEmpty() && next(n).stream().allMatch(m -> needed[m])));
            boolean[] hand = full();
            settle(hand, n -> n != 0 && from(n).stream().allMatch(m -> keeps(e, m) && (uses(e, m) || hand[m])));
            boolean[] early = new boolean[size()];
            settle(early, n -> needed[n]
                    && (n == 0 || from(n).stream().anyMatch(m -> !keeps(e, m) || (!needed[m] && !hand[m]))));
            boolean[] delayed = full();
            settle(delayed, n -> early[n]
                    || (n != 0 && from(n).stream().allMatch(m -> delayed[m] && !uses(e, m))));
            boolean[] late = new boolean[size()];
            settle(late, n -> delayed[n] && (uses(e, n) || next(n).stream().anyMatch(m -> !delayed[m])));
            boolean[] alone = full();
            settle(alone, n -> next(n).stream().allMatch(m -> late[m] || (!uses(e, m) && alone[m])));
            boolean[] could = new boolean[size()];
            settle(could, n -> from(n).stream().anyMatch(m -> keeps(e, m) && (uses(e, m) || could[m])));
            facts[0][e] = settle(new boolean[size()], n -> uses(e, n));
            facts[1][e] = settle(new boolean[size()], n -> keeps(e, n));
            facts[2][e] = needed;
            facts[3][e] = hand;
            facts[4][e] = early;
            facts[5][e] = delayed;
            facts[6][e] = late;
            facts[7][e] = alone;
            maybe[e] = could;
        }
    }

    private void findPlacements() {
        int count = expressions.size();
        put = new boolean[3][count][size()]; // how + 1
        replaced = new boolean[3][count][size()];
        alive = new boolean[3][count][size()];
        for (int e = 0; e < count; e++) {
            for (int n = 0; n < size(); n++) {
                boolean late = facts[6][e][n];
                boolean alone = facts[7][e][n];
                put[1][e][n] = facts[4][e][n];
                replaced[1][e][n] = uses(e, n);
                put[2][e][n] = late && !alone;
                replaced[2][e][n] = uses(e, n) && !(late && alone);
            }
            for (int how = 1; how < 3; how++) {
                alive[how][e] = aliveBy(put[how][e], replaced[how][e]);
            }
        }
    }

    private boolean[] aliveBy(boolean[] puts, boolean[] replaces) {
        boolean[] at = new boolean[size()];
        return settle(at, n -> replaces[n] || next(n).stream().anyMatch(m -> !puts[m] && at[m]));
    }

    static int count(boolean[] row) {
        int sum = 0;
        for (boolean b : row) {
            sum += b ? 1 : 0;
        }
        return sum;
    }

    boolean clash(int e, int f, int how) {
        for (int n = 0; n < size(); n++) {
            if (alive[how + 1][e][n] && alive[how + 1][f][n]) {
                return true;
            }
        }
        return false;
    }

    int clashes(int e, int how) {
        int sum = 0;
        for (int f = 0; f < expressions.size(); f++) {
            sum += f != e && clash(e, f, how) ? 1 : 0;
        }
        return sum;
    }

    int[] shared(int how) {
        int[] names = new int[expressions.size()];
        for (int e = 0; e < names.length; e++) {
            Set<Integer> taken = new HashSet<>();
            for (int f = 0; f < e; f++) {
                if (names[f] >= 0 && clash(e, f, how)) {
                    taken.add(names[f]);
                }
            }
            names[e] = -1;
            for (int k = 0; names[e] < 0 && count(put[how + 1][e]) > 0; k++) {
                names[e] = taken.contains(k) ? -1 : k;
            }
        }
        return names;
    }

    // ---- work

    int work(int n, int how) {
        int sum = 0;
        for (int e = 0; e < expressions.size(); e++) {
            sum += put[how + 1][e][n] ? 1 : 0;
            sum += uses(e, n) && !replaced[how + 1][e][n] ? 1 : 0;
        }
        return sum;
    }

    long weight(int how) {
        long sum = 0;
        for (int n = 0; n < size(); n++) {
            sum += work(n, how) * (long) Math.pow(10, Math.min(4, deep[n]));
        }
        return sum;
    }

    /** Number, least and most from each node on, of at most so many nodes; from the far end. */
    BigInteger[] ways(int how, int length) {
        BigInteger[][] best = new BigInteger[size()][3];
        for (int left = 1; left <= length; left++) {
            BigInteger[][] now = new BigInteger[size()][3];
            for (int n = 0; n < size(); n++) {
                now[n][0] = BigInteger.ZERO;
                if (next(n).isEmpty()) {
                    now[n][0] = BigInteger.ONE;
                    now[n][1] = BigInteger.valueOf(work(n, how));
                    now[n][2] = now[n][1];
                }
                for (int m : left == 1 ? List.<Integer>of() : next(n)) {
                    now[n] = joined(now[n], best[m], BigInteger.valueOf(work(n, how)));
                }
            }
            best = now;
        }
        return best[0];
    }

    private static BigInteger[] joined(BigInteger[] a, BigInteger[] b, BigInteger work) {
        if (b[0].signum() == 0) {
            return a;
        }
        BigInteger low = b[1].add(work);
        BigInteger high = b[2].add(work);
        boolean none = a[0].signum() == 0;
        return new BigInteger[] {a[0].add(b[0]), none ? low : low.min(a[1]), none ? high : high.max(a[2])};
    }

    // ---- others

    int[] others(int e) {
        int right = 0;
        int few = 0;
        int life = -1;
        int fewest = -1;
        for (int set = 0; set < 1 << size(); set++) {
            boolean[] puts = new boolean[size()];
            boolean needed = true;
            for (int n = 0; n < size(); n++) {
                puts[n] = (set >> n & 1) == 1;
                needed &= !puts[n] || facts[2][e][n];
            }
            if (needed && right(e, puts)) {
                right++;
                if (few(e, puts)) {
                    few++;
                    int long0 = count(aliveBy(puts, facts[0][e]));
                    life = life < 0 ? long0 : Math.min(life, long0);
                    fewest = fewest < 0 ? count(puts) : Math.min(fewest, count(puts));
                }
            }
        }
        return new int[] {right, few, life, fewest};
    }

    private boolean right(int e, boolean[] puts) {
        boolean[] held = full();
        settle(held, n -> puts[n] || (n != 0 && from(n).stream().allMatch(m -> held[m] && facts[1][e][m])));
        for (int n = 0; n < size(); n++) {
            if (facts[0][e][n] && !held[n]) {
                return false;
            }
        }
        return true;
    }

    /** All ways of up to 240 nodes: a round that gains one at least each 12 nodes is seen by then. */
    private boolean few(int e, boolean[] puts) {
        int none = -100000;
        int[] most = new int[size()];
        java.util.Arrays.fill(most, none);
        most[0] = gain(e, puts, 0);
        for (int k = 0; k < 240; k++) {
            int[] now = new int[size()];
            java.util.Arrays.fill(now, none);
            for (int n = 0; n < size(); n++) {
                if (most[n] > none && next(n).isEmpty() && most[n] > 0) {
                    return false;
                }
                for (int m : next(n)) {
                    now[m] = most[n] == none ? now[m] : Math.max(now[m], most[n] + gain(e, puts, m));
                }
            }
            most = now;
        }
        return true;
    }

    private int gain(int e, boolean[] puts, int n) {
        return (puts[n] ? 1 : 0) - (facts[4][e][n] ? 1 : 0);
    }

    // ---- writing

    String written(int n, int how) {
        StringBuilder text = new StringBuilder();
        boolean named = false;
        for (int e = 0; e < expressions.size(); e++) {
            if (put[how + 1][e][n]) {
                text.append('#').append(e).append('=').append(expressions.get(e)).append(';');
            }
            named |= replaced[how + 1][e][n];
        }
        Node node = nodes.get(n);
        if (node.kind == 0) {
            return text.toString();
        }
        return text.append(named ? node.text.substring(0, 2) + "#" + node.e : node.text).append(';').toString();
    }

    // ---- runs

    static final class Trip {
        final int[] letters;
        final List<Integer> output = new ArrayList<>();
        final int[] computed;
        int ending = 1;
        int steps;
        int at;

        Trip(int[] letters, int expressions) {
            this.letters = letters.clone();
            computed = new int[expressions];
        }
    }

    Trip run(int how, int[] told) {
        Trip trip = new Trip(told, expressions.size());
        int[] names = new int[expressions.size()];
        try {
            while (trip.steps < 400) {
                trip.steps++;
                Node node = nodes.get(trip.at);
                for (int e = 0; e < names.length; e++) {
                    names[e] = put[how + 1][e][trip.at] ? worked(trip, e) : names[e];
                }
                if (node.kind == 6) {
                    trip.ending = 0;
                    return trip;
                }
                if (node.kind == 1) {
                    trip.letters[node.v] = value(trip, node.read);
                } else if (node.kind == 2) {
                    boolean named = replaced[how + 1][node.e][trip.at];
                    trip.letters[node.v] = named ? names[node.e] : worked(trip, node.e);
                } else if (node.kind == 3) {
                    trip.output.add(value(trip, node.read));
                }
                boolean zero = node.kind == 5 && trip.letters[node.v] == 0;
                trip.at = node.next.get(zero ? node.next.size() - 1 : 0);
            }
        } catch (ArithmeticException byZero) {
            trip.ending = 2;
        }
        return trip;
    }

    private static int value(Trip trip, String a) {
        int code = operand(a);
        return code < 26 ? trip.letters[code] : code - 26;
    }

    private int worked(Trip trip, int e) {
        trip.computed[e]++;
        int a = value(trip, left(e));
        int b = value(trip, right(e));
        switch (sign(e)) {
            case '+':
                return a + b;
            case '-':
                return a - b;
            case '*':
                return a * b;
            case '/':
                return a / b;
            case '%':
                return a % b;
            case '&':
                return a & b;
            default:
                return a < b ? 1 : 0;
        }
    }
}
