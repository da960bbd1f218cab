import java.util.Arrays;

/**
 * A mover of code that is lazy: it reads a program told as blocks, finds for each expression where it is
 * needed, at hand, early, delayed, late and alone, and tells what busy and lazy motion of code would do.
 */
public final class LateMover {
    /** None. */
    public static final int NONE = -1;

    private static final int OTHER = -2;
    private static final int TAPE = 800;
    private static final int FED = 20;
    private static final int BLOCKS = 16;
    private static final int STATEMENTS = 60;
    private static final int LINES = STATEMENTS + BLOCKS;
    private static final int EXPRESSIONS = 24;
    // FIRST, every line and two skips for each block are 109.
    private static final int NODES = 128;
    private static final int LETTERS = 26;
    private static final int SLOTS = 3;
    private static final int STEPS = 400;
    private static final int OUTPUTS = 40;
    private static final int SMALL = 12;
    private static final int DEEPEST = 4;
    private static final int LONGEST = 60;
    private static final long MANY = 1000000000000L;
    // A fixpoint of one bit at 109 nodes is reached in fewer rounds than there are nodes.
    private static final int ROUNDS = 1000;

    private static final int SKIP = 0;
    private static final int COPY = 1;
    private static final int COMPUTE = 2;
    private static final int WRITTEN = 3;
    private static final int GO = 4;
    private static final int ASK = 5;
    private static final int STOP = 6;

    private static final int BUSY = 0;
    private static final int LAZY = 1;

    private final Text tape = new Text();
    private final Text present = new Text();
    private final Text wrote = new Text();
    private final Text[] kept = new Text[SLOTS];
    private final Reader reader = new Reader();
    private final Graph graph = new Graph();
    private final Facts facts = new Facts();
    private final Loops loops = new Loops();
    private final Placement unmoved = new Placement();
    private final Placement busy = new Placement();
    private final Placement lazy = new Placement();
    private final int[] told = new int[LETTERS];
    private final Run latest = new Run();
    private final Run sourceRun = new Run();
    private final Run movedRun = new Run();
    private final Ways routes = new Ways();
    private final Others rivals = new Others();
    private int wrongAt = NONE;
    private boolean ran;

    public LateMover() {
        for (int i = 0; i < SLOTS; i++) {
            kept[i] = new Text();
        }
    }

    // ---- the tape and the program

    public int feed(int a, int b, int c, int d, int e) {
        if (tape.size() + FED > TAPE) {
            return NONE;
        }
        tape.putFour(a);
        tape.putFour(b);
        tape.putFour(c);
        tape.putFour(d);
        tape.putFour(e);
        return tape.size();
    }

    public int end(int n) {
        if (n < 0 || n > tape.size()) {
            return NONE;
        }
        tape.cut(n);
        return n;
    }

    public int program() {
        wrongAt = reader.faultOf(tape);
        tape.cut(0);
        if (wrongAt != NONE) {
            return NONE;
        }
        settle();
        return graph.nodes;
    }

    public int fault() {
        return wrongAt;
    }

    public boolean keep(int i) {
        if (i < 0 || i >= SLOTS || !isProgram()) {
            return false;
        }
        Text slot = kept[i];
        if (slot == null) {
            return false;
        }
        slot.copyFrom(present);
        return true;
    }

    public boolean back(int i) {
        if (i < 0 || i >= SLOTS) {
            return false;
        }
        Text slot = kept[i];
        if (slot == null || reader.faultOf(slot) != NONE) {
            return false;
        }
        settle();
        return true;
    }

    private void settle() {
        present.copyFrom(reader.text);
        graph.build(reader);
        facts.build(graph);
        loops.build(graph);
        for (int n = 0; n < graph.nodes; n++) {
            int single = facts.late[n] & facts.alone[n];
            busy.tell(n, facts.early[n], facts.uses[n]);
            lazy.tell(n, facts.late[n] & ~facts.alone[n], facts.uses[n] & ~single);
        }
        busy.build(graph, facts.flow);
        lazy.build(graph, facts.flow);
        rivals.forget();
        ran = false;
    }

    // ---- what the program is

    public int is(int what) {
        switch (what) {
            case 0:
                return graph.blocks;
            case 1:
                return graph.nodes;
            case 2:
                return graph.expressions.count;
            case 3:
                return graph.edges();
            case 4:
                return graph.countOf(SKIP);
            case 5:
                return oneIf(facts.sound);
            case 6:
                return graph.countOf(STOP);
            case 7:
                return tape.size();
            default:
                return NONE;
        }
    }

    public int node(int n, int what) {
        if (!graph.isNode(n)) {
            return OTHER;
        }
        switch (what) {
            case 0:
                return graph.kind[n];
            case 1:
                return graph.block[n];
            case 2:
                return graph.expression[n];
            case 3:
                return graph.letter[n];
            case 4:
                return graph.edgesFrom(n);
            case 5:
                return graph.edgesTo(n);
            case 6:
                return graph.first[n];
            case 7:
                return graph.second[n];
            default:
                return OTHER;
        }
    }

    public int expression(int e, int what) {
        Expressions all = graph.expressions;
        if (!all.isOne(e)) {
            return OTHER;
        }
        switch (what) {
            case 0:
                return all.sign[e];
            case 1:
                return all.left[e];
            case 2:
                return all.right[e];
            case 3:
                return oneIf(all.isRisky(e));
            case 4:
                return graph.nodesWith(facts.uses, 1 << e);
            case 5:
                return graph.nodes - graph.nodesWith(facts.keeps, 1 << e);
            default:
                return OTHER;
        }
    }

    public int risky() {
        int count = 0;
        for (int e = 0; e < graph.expressions.count; e++) {
            count += oneIf(graph.expressions.isRisky(e));
        }
        return count;
    }

    // ---- facts and placements

    public int fact(int e, int n, int what) {
        if (!isSoundOne(e) || !graph.isNode(n)) {
            return NONE;
        }
        switch (what) {
            case 0:
                return bitOf(facts.uses[n], e);
            case 1:
                return bitOf(facts.keeps[n], e);
            case 2:
                return bitOf(facts.needed[n], e);
            case 3:
                return bitOf(facts.atHand[n], e);
            case 4:
                return bitOf(facts.early[n], e);
            case 5:
                return bitOf(facts.delayed[n], e);
            case 6:
                return bitOf(facts.late[n], e);
            case 7:
                return bitOf(facts.alone[n], e);
            default:
                return NONE;
        }
    }

    public int placed(int e, int n, int how, int what) {
        if (!isSoundOne(e) || !graph.isNode(n) || !isMoved(how)) {
            return NONE;
        }
        Placement by = placementBy(how);
        switch (what) {
            case 0:
                return bitOf(by.put[n], e);
            case 1:
                return bitOf(by.replaced[n], e);
            case 2:
                return bitOf(by.alive[n], e);
            default:
                return NONE;
        }
    }

    public int placement(int e, int how, int what) {
        if (!isMoved(how) || (e != NONE && !graph.expressions.isOne(e))) {
            return NONE;
        }
        Placement by = placementBy(how);
        switch (what) {
            case 0:
                return countIn(by.put, e);
            case 1:
                return countIn(by.replaced, e);
            case 2:
                return countIn(by.alive, e);
            case 3:
                return e == NONE ? by.clashingPairs(graph.expressions.count) : Integer.bitCount(by.clashes[e]);
            default:
                return NONE;
        }
    }

    private int countIn(int[] row, int e) {
        return e == NONE ? graph.bitsIn(row) : graph.nodesWith(row, 1 << e);
    }

    public int shared(int e, int how) {
        if (!isMoved(how)) {
            return NONE;
        }
        Placement by = placementBy(how);
        if (e == NONE) {
            return by.names;
        }
        return graph.expressions.isOne(e) ? by.name[e] : NONE;
    }

    public int most(int how) {
        if (!isMoved(how)) {
            return NONE;
        }
        Placement by = placementBy(how);
        int most = 0;
        for (int n = 0; n < graph.nodes; n++) {
            most = Math.max(most, Integer.bitCount(by.alive[n]));
        }
        return most;
    }

    // ---- runs

    public int letter(int v, int value) {
        if (v < 0 || v >= LETTERS) {
            return 0;
        }
        int before = told[v];
        told[v] = value;
        return before;
    }

    public int run(int how, int what) {
        if (!isRunnable(how) || what < 0 || what > 4) {
            return NONE;
        }
        latest.follow(graph, placementBy(how), told);
        ran = true;
        switch (what) {
            case 0:
                return latest.ending;
            case 1:
                return latest.steps;
            case 2:
                return latest.worked;
            case 3:
                return latest.outs;
            default:
                return latest.at;
        }
    }

    public int computed(int e) {
        return ran && graph.expressions.isOne(e) ? latest.times[e] : NONE;
    }

    public int output(int k) {
        return ran && k >= 0 && k < OUTPUTS && k < latest.outs ? latest.outputs[k] : 0;
    }

    public int behind(int v) {
        return ran && v >= 0 && v < LETTERS ? latest.letters[v] : 0;
    }

    public int alike(int how) {
        if (!isRunnable(how)) {
            return NONE;
        }
        sourceRun.follow(graph, unmoved, told);
        movedRun.follow(graph, placementBy(how), told);
        return oneIf(sourceRun.endsAndWroteLike(movedRun));
    }

    // ---- letters, again, loops

    public int live(int n) {
        return graph.isNode(n) ? facts.live[n] : NONE;
    }

    public int dead(int n) {
        if (graph.isNode(n)) {
            return oneIf(facts.isDead(graph, n));
        }
        if (n != NONE || !isProgram()) {
            return OTHER;
        }
        int count = 0;
        for (int m = 0; m < graph.nodes; m++) {
            count += oneIf(facts.isDead(graph, m));
        }
        return count;
    }

    public int again(int e, int what) {
        if (!isSoundOne(e) || what < 0 || what > 1) {
            return NONE;
        }
        int count = 0;
        for (int n = 0; n < graph.nodes; n++) {
            int half = facts.maybe[n] & ~facts.atHand[n];
            int met = what == 0 ? facts.atHand[n] : half;
            count += bitOf(met & facts.uses[n], e);
        }
        return count;
    }

    public int over(int n, int m) {
        return graph.isNode(n) && graph.isNode(m) ? oneIf(loops.isOver(n, m)) : NONE;
    }

    public int depth(int n) {
        return graph.isNode(n) ? loops.deep[n] : NONE;
    }

    public int heads() {
        return loops.headCount;
    }

    public long weight(int how) {
        if (!isRunnable(how)) {
            return NONE;
        }
        Placement by = placementBy(how);
        long sum = 0;
        for (int n = 0; n < graph.nodes; n++) {
            sum += (long) by.computedAt(graph, n) * powerOfTen(loops.deep[n]);
        }
        return sum;
    }

    private static long powerOfTen(int deep) {
        long power = 1;
        for (int i = 0; i < deep && i < DEEPEST; i++) {
            power *= 10;
        }
        return power;
    }

    // ---- other placements, ways

    public int others(int e, int what) {
        if (!isSoundOne(e) || what < 0 || what > 3 || graph.nodes > SMALL) {
            return OTHER;
        }
        return rivals.answer(graph, facts, e, what);
    }

    public long ways(int how, int length, int what) {
        if (!isRunnable(how) || length < 1 || length > LONGEST || what < 0 || what > 2) {
            return NONE;
        }
        routes.count(graph, placementBy(how), length);
        if (what == 0) {
            return routes.found;
        }
        if (routes.found == 0) {
            return NONE;
        }
        return what == 1 ? routes.least : routes.most;
    }

    // ---- writing

    public int write(int n, int how) {
        if (!graph.isNode(n) || !isRunnable(how)) {
            return NONE;
        }
        Placement by = placementBy(how);
        wrote.cut(0);
        for (int e = 0; e < graph.expressions.count; e++) {
            if (bitOf(by.put[n], e) == 1) {
                writeName(e);
                wrote.put('=');
                writeExpression(e);
                wrote.put(';');
            }
        }
        writeNode(n, by.replaced[n] != 0);
        return wrote.size();
    }

    public int octet(int k) {
        return wrote.at(k);
    }

    private void writeNode(int n, boolean replaced) {
        int kind = graph.kind[n];
        if (kind == SKIP) {
            return;
        }
        if (kind == COPY || kind == COMPUTE) {
            writeAssignment(n, replaced);
        } else if (kind == WRITTEN) {
            wrote.put('!');
            writeOperand(graph.operand[n]);
        } else {
            writeEnd(n);
        }
        wrote.put(';');
    }

    private void writeAssignment(int n, boolean replaced) {
        wrote.put('a' + graph.letter[n]);
        wrote.put('=');
        if (graph.kind[n] == COPY) {
            writeOperand(graph.operand[n]);
        } else if (replaced) {
            writeName(graph.expression[n]);
        } else {
            writeExpression(graph.expression[n]);
        }
    }

    private void writeEnd(int n) {
        int kind = graph.kind[n];
        if (kind == STOP) {
            wrote.put('.');
        } else if (kind == GO) {
            wrote.put('>');
            wrote.putNumber(graph.to[n]);
        } else {
            wrote.put('?');
            wrote.put('a' + graph.letter[n]);
            wrote.putNumber(graph.to[n]);
            wrote.put(',');
            wrote.putNumber(graph.orTo[n]);
        }
    }

    private void writeName(int e) {
        wrote.put('#');
        wrote.putNumber(e);
    }

    private void writeExpression(int e) {
        if (graph.expressions.isOne(e)) {
            writeOperand(graph.expressions.left[e]);
            wrote.put(graph.expressions.sign[e]);
            writeOperand(graph.expressions.right[e]);
        }
    }

    private void writeOperand(int a) {
        if (a < LETTERS) {
            wrote.put('a' + a);
        } else {
            wrote.putNumber(a - LETTERS);
        }
    }

    // ---- what may be asked

    private boolean isProgram() {
        return graph.nodes > 0;
    }

    private boolean isSoundOne(int e) {
        return facts.sound && graph.expressions.isOne(e);
    }

    private boolean isMoved(int how) {
        return facts.sound && (how == BUSY || how == LAZY);
    }

    private boolean isRunnable(int how) {
        return isProgram() && (how == NONE || isMoved(how));
    }

    private Placement placementBy(int how) {
        if (how == BUSY) {
            return busy;
        }
        return how == LAZY ? lazy : unmoved;
    }

    private static int oneIf(boolean so) {
        return so ? 1 : 0;
    }

    private static int bitOf(int bits, int e) {
        return (bits >>> e) & 1;
    }

    /** Bytes, 800 at most. */
    private static final class Text {
        private final byte[] bytes = new byte[TAPE];
        private int length;

        int size() {
            return length;
        }

        int at(int i) {
            return i >= 0 && i < length && i < TAPE ? bytes[i] & 255 : NONE;
        }

        void cut(int n) {
            if (n >= 0 && n <= length) {
                length = n;
            }
        }

        void put(int value) {
            if (length >= 0 && length < TAPE) {
                bytes[length] = (byte) value;
                length++;
            }
        }

        void putFour(int value) {
            put(value >>> 24);
            put(value >>> 16);
            put(value >>> 8);
            put(value);
        }

        /** A number of three digits at most, without 0 ahead. */
        void putNumber(int value) {
            if (value >= 100) {
                put('0' + value / 100 % 10);
            }
            if (value >= 10) {
                put('0' + value / 10 % 10);
            }
            put('0' + value % 10);
        }

        void copyFrom(Text other) {
            System.arraycopy(other.bytes, 0, bytes, 0, TAPE);
            length = other.length;
        }
    }

    /** The unlike expressions, by numbers. An operand is a letter (0 .. 25) or a number and 26. */
    private static final class Expressions {
        final int[] sign = new int[EXPRESSIONS];
        final int[] left = new int[EXPRESSIONS];
        final int[] right = new int[EXPRESSIONS];
        int count;

        boolean isOne(int e) {
            return e >= 0 && e < count && e < EXPRESSIONS;
        }

        /** The number of an expression, a new one if there is none like it; NONE if that is too much. */
        int numberOf(int o, int a, int b) {
            for (int e = 0; e < count && e < EXPRESSIONS; e++) {
                if (sign[e] == o && left[e] == a && right[e] == b) {
                    return e;
                }
            }
            if (count < 0 || count >= EXPRESSIONS) {
                return NONE;
            }
            sign[count] = o;
            left[count] = a;
            right[count] = b;
            count++;
            return count - 1;
        }

        boolean isRisky(int e) {
            if (!isOne(e) || (sign[e] != '/' && sign[e] != '%')) {
                return false;
            }
            // LETTERS itself is the number 0.
            return right[e] <= LETTERS;
        }

        int lettersOf(int e) {
            return isOne(e) ? letterBit(left[e]) | letterBit(right[e]) : 0;
        }

        static int letterBit(int a) {
            return a >= 0 && a < LETTERS ? 1 << a : 0;
        }

        void copyFrom(Expressions other) {
            System.arraycopy(other.sign, 0, sign, 0, EXPRESSIONS);
            System.arraycopy(other.left, 0, left, 0, EXPRESSIONS);
            System.arraycopy(other.right, 0, right, 0, EXPRESSIONS);
            count = other.count;
        }
    }

    /** Reads a text as lines (each a statement or an end of a block), or finds its fault. */
    private static final class Reader {
        final Text text = new Text();
        final Expressions expressions = new Expressions();
        final int[] kind = new int[LINES];
        final int[] block = new int[LINES];
        final int[] letter = new int[LINES];
        final int[] operand = new int[LINES];
        final int[] expression = new int[LINES];
        final int[] to = new int[LINES];
        final int[] orTo = new int[LINES];
        private final int[] toAt = new int[LINES];
        private final int[] orToAt = new int[LINES];
        int lines;
        int blocks;
        private int statements;
        private int at;
        private int wrong;

        int faultOf(Text given) {
            text.copyFrom(given);
            expressions.count = 0;
            lines = 0;
            blocks = 0;
            statements = 0;
            at = 0;
            wrong = text.size() == 0 ? 0 : NONE;
            for (int i = 0; i < TAPE && wrong == NONE && at < text.size(); i++) {
                readBlock();
            }
            if (wrong == NONE) {
                findStrayNumber();
            }
            return wrong;
        }

        private boolean refuse(int place) {
            wrong = place;
            return false;
        }

        private boolean take(int sign) {
            if (text.at(at) != sign) {
                return refuse(at);
            }
            at++;
            return true;
        }

        private boolean readBlock() {
            if (blocks >= BLOCKS) {
                return refuse(at);
            }
            for (int i = 0; i <= STATEMENTS && startsStatement(); i++) {
                if (!readStatement() || !take(';')) {
                    return false;
                }
            }
            if (!readEnd() || !take(';')) {
                return false;
            }
            blocks++;
            return true;
        }

        private boolean startsStatement() {
            return isLetter(text.at(at)) || text.at(at) == '!';
        }

        private boolean readStatement() {
            if (statements >= STATEMENTS) {
                return refuse(at);
            }
            statements++;
            int sign = text.at(at);
            at++;
            if (sign == '!') {
                int a = readOperand();
                return a != NONE && addStatement(WRITTEN, NONE, a, NONE);
            }
            return take('=') && readRightSide(sign - 'a');
        }

        private boolean readRightSide(int v) {
            int start = at;
            int a = readOperand();
            if (a == NONE) {
                return false;
            }
            int sign = text.at(at);
            if (!isOperator(sign)) {
                return addStatement(COPY, v, a, NONE);
            }
            at++;
            int b = readOperand();
            if (b == NONE) {
                return false;
            }
            int e = expressions.numberOf(sign, a, b);
            if (e == NONE) {
                return refuse(start);
            }
            return addStatement(COMPUTE, v, NONE, e);
        }

        private int readOperand() {
            int sign = text.at(at);
            if (isLetter(sign)) {
                at++;
                return sign - 'a';
            }
            int value = readNumber(3);
            return value == NONE ? NONE : value + LETTERS;
        }

        private int readNumber(int most) {
            int value = 0;
            int digits = 0;
            while (digits < most && isDigit(text.at(at))) {
                value = value * 10 + text.at(at) - '0';
                digits++;
                at++;
            }
            if (digits == 0) {
                refuse(at);
                return NONE;
            }
            return value;
        }

        private boolean readEnd() {
            int sign = text.at(at);
            if (sign == '.') {
                at++;
                return addLine(STOP);
            }
            if (sign == '>') {
                at++;
                return addLine(GO) && readTarget(to, toAt);
            }
            return take('?') && readChoice();
        }

        private boolean readChoice() {
            int sign = text.at(at);
            if (!isLetter(sign)) {
                return refuse(at);
            }
            at++;
            if (!addLine(ASK)) {
                return false;
            }
            letter[lines - 1] = sign - 'a';
            return readTarget(to, toAt) && take(',') && readTarget(orTo, orToAt);
        }

        /** The number of a block, and where it stands, for the line read last. */
        private boolean readTarget(int[] target, int[] place) {
            int start = at;
            int value = readNumber(2);
            int line = lines - 1;
            if (value == NONE || line < 0 || line >= LINES) {
                return false;
            }
            target[line] = value;
            place[line] = start;
            return true;
        }

        private boolean addStatement(int what, int v, int a, int e) {
            if (!addLine(what)) {
                return false;
            }
            letter[lines - 1] = v;
            operand[lines - 1] = a;
            expression[lines - 1] = e;
            return true;
        }

        private boolean addLine(int what) {
            if (lines < 0 || lines >= LINES) {
                return refuse(at);
            }
            kind[lines] = what;
            block[lines] = blocks;
            letter[lines] = NONE;
            operand[lines] = NONE;
            expression[lines] = NONE;
            to[lines] = NONE;
            orTo[lines] = NONE;
            lines++;
            return true;
        }

        private void findStrayNumber() {
            for (int i = 0; i < lines && wrong == NONE; i++) {
                if (to[i] >= blocks) {
                    wrong = toAt[i];
                } else if (orTo[i] >= blocks) {
                    wrong = orToAt[i];
                }
            }
        }

        private static boolean isLetter(int sign) {
            return sign >= 'a' && sign <= 'z';
        }

        private static boolean isDigit(int sign) {
            return sign >= '0' && sign <= '9';
        }

        private static boolean isOperator(int sign) {
            switch (sign) {
                case '+':
                case '-':
                case '*':
                case '/':
                case '%':
                case '&':
                case '<':
                    return true;
                default:
                    return false;
            }
        }
    }

    /** The nodes of the program and the edges between them. */
    private static final class Graph {
        final Expressions expressions = new Expressions();
        final int[] kind = new int[NODES];
        final int[] block = new int[NODES];
        final int[] letter = new int[NODES];
        final int[] operand = new int[NODES];
        final int[] expression = new int[NODES];
        final int[] to = new int[NODES];
        final int[] orTo = new int[NODES];
        final int[] first = new int[NODES];
        final int[] second = new int[NODES];
        private final int[] from = new int[2 * NODES];
        private final int[] fromStart = new int[NODES + 1];
        private final int[] blockStart = new int[BLOCKS];
        int nodes;
        int blocks;

        void build(Reader read) {
            expressions.copyFrom(read.expressions);
            blocks = read.blocks;
            nodes = 0;
            add(SKIP);
            addReached(read);
            joinNodes();
            splitEdges();
            listFrom();
        }

        boolean isNode(int n) {
            return n >= 0 && n < nodes && n < NODES;
        }

        private int add(int what) {
            int n = nodes;
            if (n < 0 || n >= NODES) {
                return NONE;
            }
            kind[n] = what;
            block[n] = NONE;
            letter[n] = NONE;
            operand[n] = NONE;
            expression[n] = NONE;
            to[n] = NONE;
            orTo[n] = NONE;
            first[n] = NONE;
            second[n] = NONE;
            nodes++;
            return n;
        }

        private void addReached(Reader read) {
            int reached = reachedBlocks(read);
            Arrays.fill(blockStart, NONE);
            for (int i = 0; i < read.lines && i < LINES; i++) {
                int b = read.block[i];
                if (b >= 0 && b < BLOCKS && (reached >>> b & 1) == 1) {
                    int n = add(read.kind[i]);
                    if (n != NONE) {
                        fill(n, read, i);
                        blockStart[b] = blockStart[b] == NONE ? n : blockStart[b];
                    }
                }
            }
        }

        private void fill(int n, Reader read, int line) {
            block[n] = read.block[line];
            letter[n] = read.letter[line];
            operand[n] = read.operand[line];
            expression[n] = read.expression[line];
            to[n] = read.to[line];
            orTo[n] = read.orTo[line];
        }

        private static int reachedBlocks(Reader read) {
            int reached = 1;
            for (int round = 0; round < BLOCKS; round++) {
                for (int i = 0; i < read.lines && i < LINES; i++) {
                    if ((reached >>> read.block[i] & 1) == 1) {
                        reached |= blockBit(read.to[i]) | blockBit(read.orTo[i]);
                    }
                }
            }
            return reached;
        }

        private static int blockBit(int b) {
            return b >= 0 && b < BLOCKS ? 1 << b : 0;
        }

        private void joinNodes() {
            for (int n = 0; n < nodes; n++) {
                if (kind[n] < GO) {
                    first[n] = n + 1 < nodes ? n + 1 : NONE;
                } else {
                    first[n] = startOf(to[n]);
                    second[n] = orTo[n] == to[n] ? NONE : startOf(orTo[n]);
                }
            }
        }

        private int startOf(int b) {
            return b >= 0 && b < BLOCKS ? blockStart[b] : NONE;
        }

        private void splitEdges() {
            int unsplit = nodes;
            for (int n = 0; n < unsplit; n++) {
                if (edgesFrom(n) == 2) {
                    first[n] = splitIfOthersCome(first[n]);
                    second[n] = splitIfOthersCome(second[n]);
                }
            }
        }

        private int splitIfOthersCome(int target) {
            if (comingTo(target) < 2) {
                return target;
            }
            int skip = add(SKIP);
            if (skip == NONE) {
                return target;
            }
            first[skip] = target;
            return skip;
        }

        private int comingTo(int target) {
            int count = 0;
            for (int n = 0; n < nodes; n++) {
                count += oneIf(first[n] == target || second[n] == target);
            }
            return count;
        }

        private void listFrom() {
            int next = 0;
            for (int m = 0; m < nodes; m++) {
                fromStart[m] = next;
                for (int n = 0; n < nodes && next < 2 * NODES; n++) {
                    if (first[n] == m || second[n] == m) {
                        from[next] = n;
                        next++;
                    }
                }
            }
            fromStart[nodes] = next;
        }

        int edgesFrom(int n) {
            return isNode(n) ? oneIf(first[n] != NONE) + oneIf(second[n] != NONE) : 0;
        }

        int kthTarget(int n, int k) {
            if (!isNode(n)) {
                return NONE;
            }
            return k == 0 ? first[n] : second[n];
        }

        int edgesTo(int n) {
            return isNode(n) ? fromStart[n + 1] - fromStart[n] : 0;
        }

        int kthSource(int n, int k) {
            if (!isNode(n) || k < 0 || k >= fromStart[n + 1] - fromStart[n]) {
                return NONE;
            }
            int i = fromStart[n] + k;
            return i >= 0 && i < 2 * NODES ? from[i] : NONE;
        }

        int edges() {
            int count = 0;
            for (int n = 0; n < nodes; n++) {
                count += edgesFrom(n);
            }
            return count;
        }

        int countOf(int what) {
            int count = 0;
            for (int n = 0; n < nodes; n++) {
                count += oneIf(kind[n] == what);
            }
            return count;
        }

        int nodesWith(int[] row, int bit) {
            int count = 0;
            for (int n = 0; n < nodes; n++) {
                count += oneIf((row[n] & bit) != 0);
            }
            return count;
        }

        int bitsIn(int[] row) {
            int count = 0;
            for (int n = 0; n < nodes; n++) {
                count += Integer.bitCount(row[n]);
            }
            return count;
        }
    }

    /**
     * Solves for bits at nodes: answer(n) = own(n), or lets(n) and what the neighbours m on one side have:
     * gives(m), or passes(m) and answer(m); all of them for the greatest answer, one of them for the least.
     */
    private static final class Flow {
        static final boolean ONWARD = true;
        static final boolean BACKWARD = false;
        static final boolean GREATEST = true;
        static final boolean LEAST = false;

        private final int[] own = new int[NODES];
        private final int[] lets = new int[NODES];
        private final int[] gives = new int[NODES];
        private final int[] passes = new int[NODES];

        void tell(int n, int ownBits, int letsBits, int givesBits, int passesBits) {
            if (n >= 0 && n < NODES) {
                own[n] = ownBits;
                lets[n] = letsBits;
                gives[n] = givesBits;
                passes[n] = passesBits;
            }
        }

        /** The neighbours are those to which edges lead (ONWARD), or those from which they come (BACKWARD). */
        void solve(Graph g, int[] answer, int all, boolean onward, boolean greatest) {
            Arrays.fill(answer, greatest ? all : 0);
            boolean changed = true;
            for (int round = 0; changed && round < ROUNDS; round++) {
                changed = false;
                for (int i = 0; i < g.nodes; i++) {
                    int n = onward ? g.nodes - 1 - i : i;
                    int around = greatest ? inAll(g, answer, n, onward, all) : inOne(g, answer, n, onward);
                    int now = own[n] | (lets[n] & around);
                    changed = changed || now != answer[n];
                    answer[n] = now;
                }
            }
        }

        private int inAll(Graph g, int[] answer, int n, boolean onward, int all) {
            int bits = all;
            int count = onward ? g.edgesFrom(n) : g.edgesTo(n);
            for (int k = 0; k < count; k++) {
                bits &= side(g, answer, onward ? g.kthTarget(n, k) : g.kthSource(n, k));
            }
            return bits;
        }

        private int inOne(Graph g, int[] answer, int n, boolean onward) {
            int bits = 0;
            int count = onward ? g.edgesFrom(n) : g.edgesTo(n);
            for (int k = 0; k < count; k++) {
                bits |= side(g, answer, onward ? g.kthTarget(n, k) : g.kthSource(n, k));
            }
            return bits;
        }

        private int side(Graph g, int[] answer, int m) {
            return g.isNode(m) ? gives[m] | (passes[m] & answer[m]) : 0;
        }
    }

    /** What holds at each node: of the expressions, and which letters are live, as bits. */
    private static final class Facts {
        final Flow flow = new Flow();
        final int[] uses = new int[NODES];
        final int[] keeps = new int[NODES];
        final int[] needed = new int[NODES];
        final int[] atHand = new int[NODES];
        final int[] early = new int[NODES];
        final int[] delayed = new int[NODES];
        final int[] late = new int[NODES];
        final int[] alone = new int[NODES];
        final int[] maybe = new int[NODES];
        final int[] live = new int[NODES];
        private final int[] ends = new int[NODES];
        boolean sound;
        private int all;

        void build(Graph g) {
            all = (1 << g.expressions.count) - 1;
            for (int n = 0; n < g.nodes; n++) {
                uses[n] = usedAt(g, n);
                keeps[n] = keptAt(g, n);
            }
            findSound(g);
            findLive(g);
            findNeeded(g);
            findAtHand(g);
            findMaybe(g);
            findEarly(g);
            findDelayed(g);
            findLate(g);
            findAlone(g);
        }

        private static int usedAt(Graph g, int n) {
            int e = g.expression[n];
            return g.expressions.isOne(e) ? 1 << e : 0;
        }

        private static int keptAt(Graph g, int n) {
            int changes = Expressions.letterBit(letterChangedAt(g, n));
            int bits = 0;
            for (int e = 0; e < g.expressions.count; e++) {
                boolean same = (g.expressions.lettersOf(e) & changes) == 0;
                if (same && !(g.expressions.isRisky(e) && hinders(g, n, e))) {
                    bits |= 1 << e;
                }
            }
            return bits;
        }

        /** Whether what can fault must not be moved over a node. */
        private static boolean hinders(Graph g, int n, int e) {
            int f = g.expression[n];
            return g.kind[n] == WRITTEN || (f != e && g.expressions.isRisky(f));
        }

        private static int letterChangedAt(Graph g, int n) {
            return g.kind[n] == COPY || g.kind[n] == COMPUTE ? g.letter[n] : NONE;
        }

        private static int lettersReadAt(Graph g, int n) {
            switch (g.kind[n]) {
                case COPY:
                case WRITTEN:
                    return Expressions.letterBit(g.operand[n]);
                case COMPUTE:
                    return g.expressions.lettersOf(g.expression[n]);
                case ASK:
                    return Expressions.letterBit(g.letter[n]);
                default:
                    return 0;
            }
        }

        private void findSound(Graph g) {
            for (int n = 0; n < g.nodes; n++) {
                flow.tell(n, oneIf(g.edgesFrom(n) == 0), 1, 0, 1);
            }
            flow.solve(g, ends, 1, Flow.ONWARD, Flow.LEAST);
            sound = g.nodesWith(ends, 1) == g.nodes;
        }

        private void findLive(Graph g) {
            for (int n = 0; n < g.nodes; n++) {
                flow.tell(n, lettersReadAt(g, n), ~Expressions.letterBit(letterChangedAt(g, n)), 0, -1);
            }
            flow.solve(g, live, -1, Flow.ONWARD, Flow.LEAST);
        }

        boolean isDead(Graph g, int n) {
            int v = letterChangedAt(g, n);
            if (v == NONE || g.expressions.isRisky(g.expression[n])) {
                return false;
            }
            int behind = 0;
            for (int k = 0; k < g.edgesFrom(n); k++) {
                int m = g.kthTarget(n, k);
                behind |= g.isNode(m) ? live[m] : 0;
            }
            return (behind & Expressions.letterBit(v)) == 0;
        }

        private void findNeeded(Graph g) {
            for (int n = 0; n < g.nodes; n++) {
                flow.tell(n, uses[n], g.edgesFrom(n) > 0 ? keeps[n] : 0, 0, all);
            }
            flow.solve(g, needed, all, Flow.ONWARD, Flow.GREATEST);
        }

        private void findAtHand(Graph g) {
            for (int n = 0; n < g.nodes; n++) {
                flow.tell(n, 0, n == 0 ? 0 : all, keeps[n] & uses[n], keeps[n]);
            }
            flow.solve(g, atHand, all, Flow.BACKWARD, Flow.GREATEST);
        }

        private void findMaybe(Graph g) {
            for (int n = 0; n < g.nodes; n++) {
                flow.tell(n, 0, all, keeps[n] & uses[n], keeps[n]);
            }
            flow.solve(g, maybe, all, Flow.BACKWARD, Flow.LEAST);
        }

        private void findEarly(Graph g) {
            for (int n = 0; n < g.nodes; n++) {
                int start = n == 0 ? all : 0;
                for (int k = 0; k < g.edgesTo(n); k++) {
                    int m = g.kthSource(n, k);
                    start |= g.isNode(m) ? ~keeps[m] | ~(needed[m] | atHand[m]) : 0;
                }
                early[n] = needed[n] & start;
            }
        }

        private void findDelayed(Graph g) {
            for (int n = 0; n < g.nodes; n++) {
                flow.tell(n, early[n], n == 0 ? 0 : all, 0, ~uses[n]);
            }
            flow.solve(g, delayed, all, Flow.BACKWARD, Flow.GREATEST);
        }

        private void findLate(Graph g) {
            for (int n = 0; n < g.nodes; n++) {
                int onward = all;
                for (int k = 0; k < g.edgesFrom(n); k++) {
                    int m = g.kthTarget(n, k);
                    onward &= g.isNode(m) ? delayed[m] : 0;
                }
                late[n] = delayed[n] & (uses[n] | ~onward);
            }
        }

        private void findAlone(Graph g) {
            for (int n = 0; n < g.nodes; n++) {
                flow.tell(n, 0, all, late[n], ~uses[n]);
            }
            flow.solve(g, alone, all, Flow.ONWARD, Flow.GREATEST);
        }
    }

    /** Where expressions are put in and replaced, and what follows for their names. */
    private static final class Placement {
        final int[] put = new int[NODES];
        final int[] replaced = new int[NODES];
        final int[] alive = new int[NODES];
        final int[] clashes = new int[EXPRESSIONS];
        final int[] name = new int[EXPRESSIONS];
        int names;

        void tell(int n, int putBits, int replacedBits) {
            if (n >= 0 && n < NODES) {
                put[n] = putBits;
                replaced[n] = replacedBits;
            }
        }

        void build(Graph g, Flow flow) {
            for (int n = 0; n < g.nodes; n++) {
                flow.tell(n, replaced[n], -1, 0, ~put[n]);
            }
            flow.solve(g, alive, -1, Flow.ONWARD, Flow.LEAST);
            findClashes(g);
            shareNames(g);
        }

        private void findClashes(Graph g) {
            for (int e = 0; e < g.expressions.count; e++) {
                int met = 0;
                for (int n = 0; n < g.nodes; n++) {
                    met |= bitOf(alive[n], e) == 1 ? alive[n] : 0;
                }
                clashes[e] = met & ~(1 << e);
            }
        }

        private void shareNames(Graph g) {
            names = 0;
            for (int e = 0; e < g.expressions.count; e++) {
                name[e] = g.nodesWith(put, 1 << e) == 0 ? NONE : firstFreeName(e);
                names = Math.max(names, name[e] + 1);
            }
        }

        private int firstFreeName(int e) {
            int taken = 0;
            for (int f = 0; f < e; f++) {
                if (bitOf(clashes[e], f) == 1 && name[f] != NONE) {
                    taken |= 1 << name[f];
                }
            }
            int free = 0;
            while (free < EXPRESSIONS && bitOf(taken, free) == 1) {
                free++;
            }
            return free;
        }

        int clashingPairs(int count) {
            int sum = 0;
            for (int e = 0; e < count && e < EXPRESSIONS; e++) {
                sum += Integer.bitCount(clashes[e]);
            }
            return sum / 2;
        }

        int computedAt(Graph g, int n) {
            boolean itself = g.kind[n] == COMPUTE && replaced[n] == 0;
            return Integer.bitCount(put[n]) + oneIf(itself);
        }
    }

    /** Which nodes lie over which, and how deep they lie in loops. */
    private static final class Loops {
        // Those over a node as bits: of nodes 0 .. 63, and of 64 on.
        private final long[] lowOver = new long[NODES];
        private final long[] highOver = new long[NODES];
        private final int[] inside = new int[NODES];
        final int[] deep = new int[NODES];
        int headCount;

        void build(Graph g) {
            findOver(g);
            Arrays.fill(deep, 0);
            headCount = 0;
            for (int n = 0; n < g.nodes; n++) {
                if (isHead(g, n)) {
                    headCount++;
                    addLoop(g, n);
                }
            }
        }

        boolean isOver(int n, int m) {
            return n < 64 ? (lowOver[m] >>> n & 1L) == 1L : (highOver[m] >>> (n - 64) & 1L) == 1L;
        }

        private void findOver(Graph g) {
            Arrays.fill(lowOver, -1L);
            Arrays.fill(highOver, -1L);
            boolean changed = true;
            for (int round = 0; changed && round < ROUNDS; round++) {
                changed = false;
                for (int n = 0; n < g.nodes; n++) {
                    changed = narrowsAt(g, n) || changed;
                }
            }
        }

        private boolean narrowsAt(Graph g, int n) {
            long low = n == 0 ? 0L : -1L;
            long high = low;
            for (int k = 0; k < g.edgesTo(n); k++) {
                int m = g.kthSource(n, k);
                low &= g.isNode(m) ? lowOver[m] : 0L;
                high &= g.isNode(m) ? highOver[m] : 0L;
            }
            low |= n < 64 ? 1L << n : 0L;
            high |= n < 64 ? 0L : 1L << (n - 64);
            boolean less = low != lowOver[n] || high != highOver[n];
            lowOver[n] = low;
            highOver[n] = high;
            return less;
        }

        private boolean isHead(Graph g, int n) {
            for (int k = 0; k < g.edgesTo(n); k++) {
                int m = g.kthSource(n, k);
                if (g.isNode(m) && isOver(n, m)) {
                    return true;
                }
            }
            return false;
        }

        private void addLoop(Graph g, int head) {
            Arrays.fill(inside, 0);
            inside[head] = 1;
            boolean changed = true;
            for (int round = 0; changed && round < ROUNDS; round++) {
                changed = false;
                for (int n = g.nodes - 1; n >= 0; n--) {
                    if (inside[n] == 0 && isOver(head, n) && leadsInside(g, n)) {
                        inside[n] = 1;
                        changed = true;
                    }
                }
            }
            for (int n = 0; n < g.nodes; n++) {
                deep[n] += inside[n];
            }
        }

        private boolean leadsInside(Graph g, int n) {
            for (int k = 0; k < g.edgesFrom(n); k++) {
                int m = g.kthTarget(n, k);
                if (g.isNode(m) && inside[m] == 1) {
                    return true;
                }
            }
            return false;
        }
    }

    /** A run of the program under a placement. */
    private static final class Run {
        final int[] letters = new int[LETTERS];
        final int[] outputs = new int[OUTPUTS];
        final int[] times = new int[EXPRESSIONS];
        private final int[] names = new int[EXPRESSIONS];
        int ending;
        int steps;
        int worked;
        int outs;
        int at;
        private int value;

        void follow(Graph g, Placement by, int[] told) {
            System.arraycopy(told, 0, letters, 0, LETTERS);
            Arrays.fill(names, 0);
            Arrays.fill(times, 0);
            steps = 0;
            worked = 0;
            outs = 0;
            at = 0;
            ending = NONE;
            for (int i = 0; i < STEPS && ending == NONE && g.isNode(at); i++) {
                step(g, by);
            }
            ending = ending == NONE ? 1 : ending;
        }

        private void step(Graph g, Placement by) {
            steps++;
            if (!putIn(g, by) || !doNode(g, by)) {
                ending = 2;
            } else if (g.edgesFrom(at) == 0) {
                ending = 0;
            } else {
                at = nextNode(g);
            }
        }

        private boolean putIn(Graph g, Placement by) {
            int bits = by.put[at];
            for (int e = 0; e < g.expressions.count && bits >>> e != 0; e++) {
                if (bitOf(bits, e) == 1) {
                    if (!compute(g.expressions, e)) {
                        return false;
                    }
                    names[e] = value;
                }
            }
            return true;
        }

        private boolean doNode(Graph g, Placement by) {
            switch (g.kind[at]) {
                case COPY:
                    setLetter(g.letter[at], valueOf(g.operand[at]));
                    return true;
                case COMPUTE:
                    return assign(g, by);
                case WRITTEN:
                    writeOut(valueOf(g.operand[at]));
                    return true;
                default:
                    return true;
            }
        }

        private boolean assign(Graph g, Placement by) {
            int e = g.expression[at];
            if (!g.expressions.isOne(e)) {
                return false;
            }
            if (by.replaced[at] != 0) {
                value = names[e];
            } else if (!compute(g.expressions, e)) {
                return false;
            }
            setLetter(g.letter[at], value);
            return true;
        }

        private int nextNode(Graph g) {
            boolean onlyOne = g.second[at] == NONE;
            return onlyOne || valueOf(g.letter[at]) != 0 ? g.first[at] : g.second[at];
        }

        private void setLetter(int v, int given) {
            if (v >= 0 && v < LETTERS) {
                letters[v] = given;
            }
        }

        private void writeOut(int given) {
            if (outs < OUTPUTS) {
                outputs[outs] = given;
            }
            outs++;
        }

        private int valueOf(int a) {
            if (a < 0) {
                return 0;
            }
            return a < LETTERS ? letters[a] : a - LETTERS;
        }

        /** Works an expression into value; false if it faults. */
        private boolean compute(Expressions all, int e) {
            times[e]++;
            worked++;
            int a = valueOf(all.left[e]);
            int b = valueOf(all.right[e]);
            switch (all.sign[e]) {
                case '+':
                    value = a + b;
                    return true;
                case '-':
                    value = a - b;
                    return true;
                case '*':
                    value = a * b;
                    return true;
                case '&':
                    value = a & b;
                    return true;
                case '<':
                    value = oneIf(a < b);
                    return true;
                default:
                    return divide(all.sign[e], a, b);
            }
        }

        private boolean divide(int sign, int a, int b) {
            if (b == 0) {
                return false;
            }
            value = sign == '/' ? a / b : a % b;
            return true;
        }

        boolean endsAndWroteLike(Run other) {
            if (ending != other.ending || outs != other.outs) {
                return false;
            }
            for (int k = 0; k < outs && k < OUTPUTS; k++) {
                if (outputs[k] != other.outputs[k]) {
                    return false;
                }
            }
            return true;
        }
    }

    /** Counts the ways from the first node to last ones, and what is computed on them. */
    private static final class Ways {
        private final int[] work = new int[NODES];
        private long[] ways = new long[NODES];
        private int[] low = new int[NODES];
        private int[] high = new int[NODES];
        private long[] nextWays = new long[NODES];
        private int[] nextLow = new int[NODES];
        private int[] nextHigh = new int[NODES];
        long found;
        int least;
        int most;

        void count(Graph g, Placement by, int length) {
            for (int n = 0; n < g.nodes; n++) {
                work[n] = by.computedAt(g, n);
                ways[n] = 0;
            }
            found = 0;
            least = 0;
            most = 0;
            ways[0] = 1;
            low[0] = work[0];
            high[0] = work[0];
            for (int k = 1; k <= length; k++) {
                endWaysAtLast(g);
                goOnByOneEdge(g);
            }
        }

        private void endWaysAtLast(Graph g) {
            for (int n = 0; n < g.nodes; n++) {
                if (ways[n] > 0 && g.edgesFrom(n) == 0) {
                    least = found == 0 ? low[n] : Math.min(least, low[n]);
                    most = found == 0 ? high[n] : Math.max(most, high[n]);
                    found = Math.min(MANY, found + ways[n]);
                }
            }
        }

        private void goOnByOneEdge(Graph g) {
            for (int n = 0; n < g.nodes; n++) {
                nextWays[n] = 0;
            }
            for (int n = 0; n < g.nodes; n++) {
                for (int k = 0; ways[n] > 0 && k < g.edgesFrom(n); k++) {
                    extend(g, n, g.kthTarget(n, k));
                }
            }
            swap();
        }

        private void extend(Graph g, int n, int m) {
            if (!g.isNode(m)) {
                return;
            }
            int lowThere = low[n] + work[m];
            int highThere = high[n] + work[m];
            boolean fresh = nextWays[m] == 0;
            nextLow[m] = fresh ? lowThere : Math.min(nextLow[m], lowThere);
            nextHigh[m] = fresh ? highThere : Math.max(nextHigh[m], highThere);
            nextWays[m] = Math.min(MANY, nextWays[m] + ways[n]);
        }

        private void swap() {
            long[] oldWays = ways;
            int[] oldLow = low;
            int[] oldHigh = high;
            ways = nextWays;
            low = nextLow;
            high = nextHigh;
            nextWays = oldWays;
            nextLow = oldLow;
            nextHigh = oldHigh;
        }
    }

    /** All other placements of one expression in a program of 12 nodes at most; sets of nodes are bits. */
    private static final class Others {
        private static final int KINDS = 4;
        private static final int FAR_BEHIND = -1000;

        private final int[][] answers = new int[EXPRESSIONS][KINDS];
        private final int[] one = new int[SMALL];
        private final int[] two = new int[SMALL];
        private final int[] from = new int[SMALL];
        private final int[] next = new int[SMALL];
        // By how much a set is put in more often than by busy, at most, on a way to a node.
        private final int[] ahead = new int[SMALL];
        private int known;
        private int nodes;
        private int uses;
        private int keeps;
        private int needed;
        private int early;
        private int lasts;

        void forget() {
            known = 0;
        }

        int answer(Graph g, Facts facts, int e, int what) {
            if (e < 0 || e >= EXPRESSIONS || what < 0 || what >= KINDS || g.nodes > SMALL) {
                return OTHER;
            }
            if (bitOf(known, e) == 0) {
                takeGraph(g);
                takeFacts(facts, e);
                tryAll(answers[e]);
                known |= 1 << e;
            }
            return answers[e][what];
        }

        private void takeGraph(Graph g) {
            nodes = g.nodes;
            lasts = 0;
            Arrays.fill(from, 0);
            for (int n = 0; n < nodes; n++) {
                one[n] = g.first[n];
                two[n] = g.second[n];
                next[n] = nodeBit(one[n]) | nodeBit(two[n]);
                lasts |= next[n] == 0 ? 1 << n : 0;
            }
            for (int n = 0; n < nodes; n++) {
                for (int m = 0; m < nodes; m++) {
                    from[m] |= bitOf(next[n], m) << n;
                }
            }
        }

        private int nodeBit(int n) {
            return n >= 0 && n < nodes ? 1 << n : 0;
        }

        private void takeFacts(Facts facts, int e) {
            uses = column(facts.uses, e);
            keeps = column(facts.keeps, e);
            needed = column(facts.needed, e);
            early = column(facts.early, e);
        }

        private int column(int[] row, int e) {
            int bits = 0;
            for (int n = 0; n < nodes; n++) {
                bits |= bitOf(row[n], e) << n;
            }
            return bits;
        }

        private void tryAll(int[] answer) {
            int right = 0;
            int few = 0;
            int life = NONE;
            int fewest = NONE;
            for (int put = 0; put < 1 << nodes; put++) {
                if ((put & ~needed) == 0 && isRight(put)) {
                    right++;
                    if (isFew(put)) {
                        few++;
                        life = lesser(life, lifeOf(put));
                        fewest = lesser(fewest, Integer.bitCount(put));
                    }
                }
            }
            answer[0] = right;
            answer[1] = few;
            answer[2] = life;
            answer[3] = fewest;
        }

        private static int lesser(int known, int found) {
            return known == NONE ? found : Math.min(known, found);
        }

        private boolean isRight(int put) {
            int held = (1 << nodes) - 1;
            boolean changed = true;
            for (int round = 0; changed && round <= SMALL; round++) {
                int before = held;
                for (int n = 0; n < nodes; n++) {
                    boolean gets = n > 0 && (from[n] & ~(held & keeps)) == 0;
                    if (!gets && bitOf(put, n) == 0) {
                        held &= ~(1 << n);
                    }
                }
                changed = held != before;
            }
            return (uses & ~held) == 0;
        }

        private int lifeOf(int put) {
            int alive = uses;
            boolean changed = true;
            for (int round = 0; changed && round <= SMALL; round++) {
                int before = alive;
                for (int n = nodes - 1; n >= 0; n--) {
                    alive |= (next[n] & alive & ~put) != 0 ? 1 << n : 0;
                }
                changed = alive != before;
            }
            return Integer.bitCount(alive);
        }

        private boolean isFew(int put) {
            Arrays.fill(ahead, FAR_BEHIND);
            ahead[0] = gain(put, 0);
            // Who is ahead by more has met a node twice: going round gains, and would for ever.
            int most = Integer.bitCount(put & ~early);
            boolean grows = true;
            for (int round = 0; grows && round <= nodes; round++) {
                grows = false;
                for (int n = 0; n < nodes; n++) {
                    if (ahead[n] > most) {
                        return false;
                    }
                    boolean further = ahead[n] > FAR_BEHIND / 2;
                    grows = further && carry(put, n, one[n]) || grows;
                    grows = further && carry(put, n, two[n]) || grows;
                }
            }
            // What still grows after a round for each node gains by going round, too.
            return !grows && !endsAhead();
        }

        /** Whether a way over an edge is ahead of busy by more than was known. */
        private boolean carry(int put, int n, int m) {
            if (m < 0 || m >= nodes || ahead[n] + gain(put, m) <= ahead[m]) {
                return false;
            }
            ahead[m] = ahead[n] + gain(put, m);
            return true;
        }

        private int gain(int put, int n) {
            return bitOf(put, n) - bitOf(early, n);
        }

        private boolean endsAhead() {
            for (int n = 0; n < nodes; n++) {
                if (bitOf(lasts, n) == 1 && ahead[n] > 0) {
                    return true;
                }
            }
            return false;
        }
    }
}
