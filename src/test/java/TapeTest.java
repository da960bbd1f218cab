/** Promises 1 to 6 and 30, 31: the tape, the program, its fault, what is kept. */
public final class TapeTest {
    public static void main(String[] args) {
        newObject();
        feedAndEnd();
        programs();
        faults();
        limits();
        kept();
        Subject.finish("TapeTest");
    }

    private static void due(String call, long got, long want) {
        Subject.due(call, got, want);
    }

    private static void newObject() {
        LateMover x = new LateMover();
        for (int what = 0; what < 8; what++) {
            due("new is " + what, x.is(what), 0);
        }
        due("is(-1)", x.is(-1), -1);
        due("is(8)", x.is(8), -1);
        due("is(max)", x.is(Integer.MAX_VALUE), -1);
        due("new fault", x.fault(), -1);
        due("new risky", x.risky(), 0);
        due("new heads", x.heads(), 0);
        due("new dead", x.dead(0), -2);
        due("new ways", x.ways(-1, 5, 0), -1);
        due("new others", x.others(0, 0), -2);
        Subject.due("new keep", x.keep(0), false);
        Subject.due("new back", x.back(0), false);
    }

    private static void feedAndEnd() {
        LateMover x = new LateMover();
        due("end(-1)", x.end(-1), -1);
        due("end(1) of none", x.end(1), -1);
        for (int i = 1; i <= 40; i++) {
            due("feed " + i, x.feed(0x3E303B00, 0, 0, 0, -1), 20 * i);
        }
        due("feed too much", x.feed(1, 2, 3, 4, 5), -1);
        due("is(7) full", x.is(7), 800);
        due("end(801)", x.end(801), -1);
        due("end(781)", x.end(781), 781);
        due("feed above 800", x.feed(1, 2, 3, 4, 5), -1);
        due("is(7) still", x.is(7), 781);
        due("end(780)", x.end(780), 780);
        due("feed to 800", x.feed(1, 2, 3, 4, 5), 800);
        due("end(3)", x.end(3), 3);
        due("end(4) of 3", x.end(4), -1);
        due("end(min)", x.end(Integer.MIN_VALUE), -1);
        due("program", x.program(), 2);
        due("tape is empty", x.is(7), 0);
        x = new LateMover();
        due("bytes by highest first", x.feed(0x783D612B, 0x623B2E3B, 0, 0, 0), 20);
        due("end(8)", x.end(8), 8);
        due("program", x.program(), 3);
        due("sign", x.expression(0, 0), '+');
    }

    private static void programs() {
        LateMover x = Subject.of("x=a+b;?x0,1;!x;.;");
        due("blocks", x.is(0), 2);
        due("nodes", x.is(1), 6);
        due("expressions", x.is(2), 1);
        due("edges", x.is(3), 6);
        due("skips", x.is(4), 2);
        due("sound", x.is(5), 1);
        due("lasts", x.is(6), 1);
        x.run(-1, 0);
        x.letter(3, 7);
        due("fault of other", Subject.tell(x, ">1;"), -1);
        due("fault", x.fault(), 1);
        due("tape empty", x.is(7), 0);
        due("nodes stay", x.is(1), 6);
        due("run stays", x.computed(0), x.run(-1, 2));
        due("letter stays", x.letter(3, 7), 7);
        due("next program", Subject.tell(x, ".;"), 2);
        due("no fault", x.fault(), -1);
        due("letters stay", x.letter(3, 1), 7);
        due("no expressions", x.is(2), 0);
        due("no run yet", x.computed(0), -1);
    }

    private static void fault(String text, int place) {
        LateMover x = new LateMover();
        due("program " + text, Subject.tell(x, text), -1);
        due("fault " + text, x.fault(), place);
    }

    private static void faults() {
        fault("", 0);
        fault(".", 1);
        fault(";", 0);
        fault("x", 1);
        fault("x=", 2);
        fault("x=;", 2);
        fault("x=a+;", 4);
        fault("x=a+b+c;.;", 5);
        fault("x=a;", 4);
        fault("x=a;.", 5);
        fault("x=1234;.;", 5);
        fault("x=a+1234;.;", 7);
        fault("x= a;.;", 2);
        fault("X=a;.;", 0);
        fault("x=a!b;.;", 3);
        fault("!;", 1);
        fault("!a+b;.;", 2);
        fault("!1000;.;", 4);
        fault(">;", 1);
        fault(">000;", 3);
        fault(">0,0;", 2);
        fault("?0,0;", 1);
        fault("?a;", 2);
        fault("?a0;", 3);
        fault("?a0,;", 4);
        fault("?a0,0,", 5);
        fault("?a00,000;", 7);
        fault(".;x", 3);
        fault(".;.;>3;", 5);
        fault("?a1,2;?a9,1;.;", 8);
        fault("?a1,3;?a9,1;.;", 4);
        fault(".; ", 2);
        fault(".;\u00e9", 2);
        fault("\u0000", 0);
        fault("x=a?b;.;", 3);
        fault("x=a=b;.;", 3);
        fault("x=+a;.;", 2);
        LateMover x = Subject.of("x=007/000;>00;");
        due("numbers by value", x.expression(0, 1), 33);
        due("number 0", x.expression(0, 2), 26);
    }

    private static void limits() {
        String blocks = ".;".repeat(16);
        due("16 blocks", Subject.tell(new LateMover(), blocks), 2);
        fault(blocks + ".;", 32);
        fault(blocks + "x", 32);
        fault(blocks + ";", 32);
        String statements = "!1;".repeat(60);
        due("60 statements", Subject.tell(new LateMover(), statements + ".;"), 62);
        fault(statements + "!1;.;", 180);
        fault(statements + "x", 180);
        fault(statements, 180);
        fault("!1;".repeat(30) + ".;" + "x=a;".repeat(31), 90 + 2 + 120);
        StringBuilder most = new StringBuilder();
        for (int i = 0; i < 24; i++) {
            most.append("x=a+").append(i).append(';');
        }
        String many = most.toString();
        int size = many.length();
        LateMover x = Subject.of(many + "x=a+023;x=a+07;.;");
        due("24 expressions", x.is(2), 24);
        fault(many + "x=a+24;.;", size + 2);
        fault(many + "y=23-a;.;", size + 2);
        fault(many + "x=a+24", size + 2);
        fault(many + "x=a+b+", size + 2);
        fault(many + "x=a+", size + 4);
        fault(many + "x=a+;", size + 4);
        fault(many + "x=a;x=b-a;>9;", size + 6);
    }

    private static void kept() {
        LateMover x = Subject.of("x=a+b;.;");
        Subject.due("keep(-1)", x.keep(-1), false);
        Subject.due("keep(3)", x.keep(3), false);
        Subject.due("keep(0)", x.keep(0), true);
        Subject.due("back(1)", x.back(1), false);
        Subject.due("back(-1)", x.back(-1), false);
        Subject.due("back(3)", x.back(3), false);
        Subject.tell(x, "!a;!b;>1;.;");
        Subject.due("keep(2)", x.keep(2), true);
        x.letter(0, 5);
        due("run", x.run(-1, 3), 2);
        due("output", x.output(0), 5);
        due("fault between", Subject.tell(x, "x"), -1);
        x.feed(0, 0, 0, 0, 0);
        Subject.due("back(0)", x.back(0), true);
        due("tape stays", x.is(7), 20);
        due("fault stays", x.fault(), 1);
        due("nodes", x.is(1), 3);
        due("expressions", x.is(2), 1);
        due("no run", x.computed(0), -1);
        due("no output", x.output(0), 0);
        due("nothing behind", x.behind(0), 0);
        due("letters stay", x.letter(0, 5), 5);
        Subject.due("back(2)", x.back(2), true);
        due("nodes of 2", x.is(1), 5);
        Subject.due("keep over", x.keep(0), true);
        Subject.tell(x, ".;");
        Subject.due("back(0) again", x.back(0), true);
        due("blocks of new 0", x.is(0), 2);
    }
}
