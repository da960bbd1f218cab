/**
 * Terms I, and promises 4 and 5: each sentence about what a text may be that names a boundary, at the boundary
 * and one step to each side of it.
 */
public final class TextEdgeTest {
    private static final String WHOLE = "x=a+12;y=b;!7;z=003/c;?c0,00;";

    public static void main(String[] args) {
        blocks();
        statements();
        unlikeExpressions();
        alikeExpressions();
        expressionTooMuch();
        tooMuchTogether();
        letters();
        numbers();
        blockNumbers();
        signs();
        noBlanks();
        everyByte();
        tooEarly();
        strayBlocks();
        firstFaultOnly();
        Subject.finish("TextEdgeTest");
    }

    private static void due(String call, long got, long want) {
        Subject.due(call, got, want);
    }

    private static LateMover well(String sentence, String text, int nodes) {
        LateMover x = new LateMover();
        due(sentence + ": program " + text, Subject.tell(x, text), nodes);
        due(sentence + ": fault " + text, x.fault(), -1);
        return x;
    }

    private static void fault(String sentence, String text, int place) {
        LateMover x = new LateMover();
        due(sentence + ": program " + text, Subject.tell(x, text), -1);
        due(sentence + ": fault " + text, x.fault(), place);
        due(sentence + ": no blocks of " + text, x.is(0), 0);
    }

    /** "BLOCKS, one behind the other, numbered from 0 on, 16 at most"; "a BLOCK too much: its first byte". */
    private static void blocks() {
        fault("no BLOCK", "", 0);
        due("1 BLOCK", well("1 BLOCK", ".;", 2).is(0), 1);
        due("2 BLOCKS", well("2 BLOCKS", ".;.;", 2).is(0), 2);
        due("15 BLOCKS", well("15 BLOCKS", ".;".repeat(15), 2).is(0), 15);
        due("16 BLOCKS", well("16 BLOCKS", ".;".repeat(16), 2).is(0), 16);
        for (String more : new String[] {".;", ".", ">0;", "?a0,0;", "x=1;.;", "x", "!1;.;", "!", ";", " ", "0"}) {
            fault("17 BLOCKS", ".;".repeat(16) + more, 32);
        }
        LateMover x = well("numbered from 0 on", ">1;>2;.;", 4);
        due("the first is 0", x.node(1, 1), 0);
        due("the next is 1", x.node(2, 1), 1);
        due("the third is 2", x.node(3, 1), 2);
        StringBuilder row = new StringBuilder();
        for (int b = 1; b < 16; b++) {
            row.append('>').append(b).append(';');
        }
        x = well("16 BLOCKS in a row", row + ".;", 17);
        due("the last is 15", x.node(16, 1), 15);
    }

    /** "At most 60 STATEMENTS (END not)"; "a STATEMENT too much: its first byte". */
    private static void statements() {
        well("no STATEMENT", ".;", 2);
        well("59 STATEMENTS", "x=1;".repeat(59) + ".;", 61);
        well("60 STATEMENTS", "x=1;".repeat(60) + ".;", 62);
        for (String more : new String[] {"x=1;.;", "!1;.;", "y=a+b;.;", "x", "!", "x=", "x=1", "x=1;", "x!"}) {
            fault("61 STATEMENTS", "x=1;".repeat(60) + more, 240);
        }
        well("59 written", "!1;".repeat(59) + ".;", 61);
        well("60 written", "!1;".repeat(60) + ".;", 62);
        fault("61 written", "!1;".repeat(60) + "!1;.;", 180);
        well("60 computed", "x=a+b;".repeat(60) + ".;", 62);
        fault("61 computed", "x=a+b;".repeat(60) + "x=a+b;.;", 360);
        well("60 of all kinds", "x=1;!x;x=a+b;".repeat(20) + ".;", 62);
        fault("61 of all kinds", "x=1;!x;x=a+b;".repeat(20) + "!x;.;", 260);
        well("60 and 16 ENDs", "!1;".repeat(60) + ".;".repeat(16), 62);
        well("15 ENDs behind 60", "!1;".repeat(30) + ".;".repeat(15) + "!1;".repeat(30) + ".;", 32);
        fault("61 over all BLOCKS", "!1;".repeat(30) + ".;".repeat(14) + "!1;".repeat(31) + ".;", 90 + 28 + 90);
        well("59 over all BLOCKS", "!1;".repeat(30) + ".;".repeat(15) + "!1;".repeat(29) + ".;", 32);
    }

    private static String unlike(int count) {
        StringBuilder text = new StringBuilder();
        for (int i = 0; i < count; i++) {
            text.append("x=a+").append(i).append(';');
        }
        return text.toString();
    }

    /** "24 unlike EXPRESSIONS", "numbered as they come first". */
    private static void unlikeExpressions() {
        due("no EXPRESSION", well("no EXPRESSION", "x=1;.;", 3).is(2), 0);
        due("1 EXPRESSION", well("1 EXPRESSION", "x=a+1;.;", 3).is(2), 1);
        due("23 EXPRESSIONS", well("23 EXPRESSIONS", unlike(23) + ".;", 25).is(2), 23);
        due("24 EXPRESSIONS", well("24 EXPRESSIONS", unlike(24) + ".;", 26).is(2), 24);
        int size = unlike(24).length();
        fault("25 EXPRESSIONS", unlike(25) + ".;", size + 2);
        fault("25, the last in another BLOCK", unlike(24) + ".;y=c;y=c*c;.;", size + 2 + 4 + 2);
        LateMover x = well("alike ones are not counted", unlike(24) + unlike(24) + ".;", 50);
        due("still 24", x.is(2), 24);
        for (int e = 0; e < 24; e++) {
            due("the number of " + e, x.expression(e, 2), 26 + e);
            due("at its first NODE " + e, x.node(1 + e, 2), e);
            due("at its second NODE " + e, x.node(25 + e, 2), e);
        }
        fault("25 behind alike ones", unlike(24) + unlike(24) + "y=a-0;.;", 2 * size + 2);
        well("copies are not counted", unlike(24) + "y=a;y=7;!y;.;", 29);
    }

    private static void alike(String one, String other, boolean so) {
        LateMover x = well("alike", "x=" + one + ";y=" + other + ";.;", 4);
        due(one + " and " + other, x.is(2), so ? 1 : 2);
        due(one + " and " + other + " at NODE 2", x.node(2, 2), so ? 0 : 1);
    }

    /** "AoA, letter by letter alike, NUMBERS by value". */
    private static void alikeExpressions() {
        alike("a+b", "a+b", true);
        alike("a+b", "b+a", false);
        alike("a+b", "a-b", false);
        alike("a+b", "a+c", false);
        alike("a+b", "c+b", false);
        alike("a+1", "a+01", true);
        alike("a+1", "a+001", true);
        alike("a+0", "a+000", true);
        alike("007*a", "7*a", true);
        alike("a+1", "a+10", false);
        alike("a+1", "a+0", false);
        alike("a+1", "a+2", false);
        alike("a+010", "a+10", true);
        alike("a+100", "a+1", false);
        alike("a+0", "a+a", false);
        alike("a+999", "a+998", false);
        alike("0+25", "a+z", false);
    }

    /** "An EXPRESSION too much: its first byte, when its last A is read": ahead of that, other faults are told. */
    private static void expressionTooMuch() {
        String many = unlike(24);
        int size = many.length();
        well("a COPY is none", many + "x=b;.;", 27);
        fault("its first A alone", many + "x=b", size + 3);
        fault("its sign alone", many + "x=b+", size + 4);
        fault("a fault for its last A", many + "x=b+;", size + 4);
        fault("a fault for its sign", many + "x=b!c;", size + 3);
        fault("its last A, a letter", many + "x=b+c", size + 2);
        fault("its last A and more", many + "x=b+c;.;", size + 2);
        fault("its last A, a NUMBER", many + "x=b+1;.;", size + 2);
        fault("its last A of three digits", many + "x=123+456;.;", size + 2);
        well("an alike one", many + "x=a+023;.;", 27);
        fault("a fault behind an alike one", many + "x=a+023!", size + 7);
        well("number 24 of 24", unlike(23) + "x=b+c;.;", 26);
    }

    /** Two limits at once: what comes first is told. */
    private static void tooMuchTogether() {
        String full = unlike(24) + "!1;".repeat(36);
        int size = full.length();
        well("24 and 60", full + ".;", 62);
        fault("25 and 61", full + "x=b+c;.;", size);
        fault("61 in the 16th BLOCK", full + ".;".repeat(15) + "x=b+c;.;", size + 30);
        well("24 and 60 and 16", full + ".;".repeat(16), 62);
        fault("25 and 61 and 17", full + ".;".repeat(16) + "x=b+c;.;", size + 32);
        fault("25 in the 60th", unlike(24) + "!1;".repeat(35) + "x=b+c;.;", size - 3 + 2);
    }

    /** "v: a letter a .. z", in each place of a letter. */
    private static void letters() {
        String[] ahead = {"", "x=", "x=a+", "!", "?"};
        String[] behind = {"=1;.;", ";.;", ";.;", ";.;", "0,0;"};
        for (int i = 0; i < ahead.length; i++) {
            int nodes = i == 4 ? 2 : 3;
            well("letter a", ahead[i] + "a" + behind[i], nodes);
            well("letter b", ahead[i] + "b" + behind[i], nodes);
            well("letter y", ahead[i] + "y" + behind[i], nodes);
            well("letter z", ahead[i] + "z" + behind[i], nodes);
            for (char no : new char[] {'`', '{', 'A', 'Z', '@', '[', '\u00e1', '\u00fa'}) {
                fault("no letter", ahead[i] + no + behind[i], ahead[i].length());
            }
        }
        due("a is 0", Subject.of("a=1;.;").node(1, 3), 0);
        due("z is 25", Subject.of("z=1;.;").node(1, 3), 25);
        due("?a is 0", Subject.of("?a0,0;").node(1, 3), 0);
        due("?z is 25", Subject.of("?z0,0;").node(1, 3), 25);
    }

    /** "NUMBER (1 to 3 digits)", in each place of an A. */
    private static void numbers() {
        String[] ahead = {"x=", "x=", "x=a-", "!"};
        String[] behind = {";.;", "*a;.;", ";.;", ";.;"};
        for (int i = 0; i < ahead.length; i++) {
            int at = ahead[i].length();
            fault("no digit", ahead[i] + behind[i], at);
            for (String digits : new String[] {"0", "1", "8", "9", "00", "10", "99", "000", "009", "100", "998", "999"}) {
                well("1 to 3 digits", ahead[i] + digits + behind[i], 3);
            }
            fault("4 digits", ahead[i] + "1000" + behind[i], at + 3);
            fault("4 digits, 0 ahead", ahead[i] + "0001" + behind[i], at + 3);
            fault("5 digits", ahead[i] + "99999" + behind[i], at + 3);
            fault("/ is below 0", ahead[i] + "/" + behind[i], at);
            fault(": is above 9", ahead[i] + ":" + behind[i], at);
            fault("below 0 behind a digit", ahead[i] + "1." + behind[i], at + 1);
            fault("above 9 behind a digit", ahead[i] + "1:" + behind[i], at + 1);
            fault("a sign ahead", ahead[i] + "-1" + behind[i], at);
            fault("a letter behind a digit", ahead[i] + "1a" + behind[i], at + 1);
            fault("a digit behind a letter", ahead[i] + "a1" + behind[i], at + 1);
        }
        due("NUMBER 0", Subject.of("x=0+a;.;").expression(0, 1), 26);
        due("NUMBER 1", Subject.of("x=1+a;.;").expression(0, 1), 27);
        due("NUMBER 999", Subject.of("x=a+999;.;").expression(0, 2), 1025);
    }

    /** "N: 1 or 2 digits", in each place of an N. */
    private static void blockNumbers() {
        String[] ahead = {">", "?a", "?a0,"};
        String[] behind = {";", ",0;", ";"};
        for (int i = 0; i < ahead.length; i++) {
            int at = ahead[i].length();
            fault("no digit", ahead[i] + behind[i], at);
            well("1 digit", ahead[i] + "0" + behind[i], 2);
            well("2 digits", ahead[i] + "00" + behind[i], 2);
            fault("3 digits", ahead[i] + "000" + behind[i], at + 2);
            fault("3 digits, the last 1", ahead[i] + "001" + behind[i], at + 2);
            fault("below 0", ahead[i] + "/" + behind[i], at);
            fault("above 9", ahead[i] + ":" + behind[i], at);
            fault("above 9 behind a digit", ahead[i] + "0:" + behind[i], at + 1);
            fault("a letter", ahead[i] + "b" + behind[i], at);
            fault("a sign ahead", ahead[i] + "-0" + behind[i], at);
        }
    }

    /** "o: + - * / % & <", and nothing else. */
    private static void signs() {
        for (int code = 0; code < 256; code++) {
            String text = "x=a" + (char) code + "b;.;";
            if ("+-*/%&<".indexOf(code) >= 0) {
                due("sign " + code, well("sign", text, 3).expression(0, 0), code);
            } else {
                fault("no sign", text, code == ';' ? 5 : 3);
            }
        }
        fault("two signs", "x=a++b;.;", 4);
        fault("two EXPRESSIONS", "x=a+b+c;.;", 5);
        fault("an EXPRESSION written", "!a+b;.;", 2);
        fault("an EXPRESSION asked", "?a+b0,0;", 2);
    }

    /** "No blanks": one in each place, of each kind. */
    private static void noBlanks() {
        well("without blanks", WHOLE, 6);
        for (int i = 0; i <= WHOLE.length(); i++) {
            for (char blank : new char[] {' ', '\t', '\n', '\r', '\0', '\u00a0'}) {
                fault("a blank", WHOLE.substring(0, i) + blank + WHOLE.substring(i), i);
            }
        }
    }

    /** "The first byte with which no such text goes on": each byte in each place. */
    private static void everyByte() {
        for (String text : new String[] {WHOLE, "?b1,02;>2;.;", "x=1;.;y=22<333;>0;"}) {
            for (int i = 0; i <= text.length(); i++) {
                for (int code = 0; code < 256; code++) {
                    String other = text.substring(0, i) + (char) code + text.substring(Math.min(i + 1, text.length()));
                    LateMover x = new LateMover();
                    Subject.tell(x, other);
                    due("byte " + code + " at " + i + " of " + text, x.fault(), Oracle.fault(other));
                }
            }
        }
    }

    /** "Its length, if it ends too early, or is empty". */
    private static void tooEarly() {
        for (int i = 0; i < WHOLE.length(); i++) {
            fault("too early", WHOLE.substring(0, i), i);
        }
        well("not too early", WHOLE, 6);
        fault("one byte more", WHOLE + "z", WHOLE.length() + 1);
        LateMover x = new LateMover();
        due("an empty tape", x.program(), -1);
        due("an empty tape's fault", x.fault(), 0);
        well("one BLOCK, whole", ".;", 2);
        fault("a second one's first byte", ".;>", 3);
        fault("a second one's second byte", ".;>0", 4);
        well("a second one, whole", ".;>0;", 2);
        String whole = "!1;".repeat(59) + "x=a+b;" + ".;".repeat(15);
        fault("16 BLOCKS but one byte", whole + ".", whole.length() + 1);
    }

    /** "When all else is well, the first digit of the first N that is no BLOCK's". */
    private static void strayBlocks() {
        well("N 0 of 1", ">0;", 2);
        fault("N 1 of 1", ">1;", 1);
        fault("N 2 of 1", ">2;", 1);
        well("N 1 of 2", ">1;.;", 3);
        fault("N 2 of 2", ">2;.;", 1);
        fault("two digits", ">02;.;", 1);
        fault("N 10 of 10", ">10;" + ".;".repeat(9), 1);
        well("N 9 of 10", ">09;" + ".;".repeat(9), 3);
        well("N 15 of 16", ">15;" + ".;".repeat(15), 3);
        fault("N 16 of 16", ">16;" + ".;".repeat(15), 1);
        fault("N 15 of 15", ">15;" + ".;".repeat(14), 1);
        fault("N 99", ">99;" + ".;".repeat(15), 1);
        well("? 1,0 of 2", "?a1,0;.;", 4);
        fault("? first one", "?a2,0;.;", 2);
        fault("? second one", "?a1,2;.;", 4);
        fault("? second one of two digits", "?a01,02;.;", 5);
        fault("? both", "?a3,2;.;", 2);
        fault("the second END's", "?a1,0;>2;", 7);
        fault("the first of two ENDs'", "?a1,3;>2;", 4);
        fault("of a BLOCK that isn't come to", ".;>2;", 3);
        fault("behind STATEMENTS", "x=100;!99;>1;", 11);
        fault("its BLOCK would be the next", ".;.;.;?z2,4;", 10);
        well("its BLOCK is the last", ".;.;.;?z2,3;", 2);
    }

    /** All else comes ahead of an N that is no BLOCK's; what comes first is told. */
    private static void firstFaultOnly() {
        fault("else is not well", ">9;x", 4);
        fault("ends too early", ">9;.", 4);
        fault("another sign", ">9;.;;", 5);
        fault("a BLOCK too much", ">99;" + ".;".repeat(15) + ".;", 34);
        fault("a STATEMENT too much", ">99;" + "!1;".repeat(61) + ".;", 4 + 180);
        fault("an EXPRESSION too much", ">99;" + unlike(25) + ".;", 4 + unlike(24).length() + 2);
        fault("two faults", "x=;y=;.;", 2);
        LateMover x = new LateMover();
        Subject.tell(x, "x=;.;");
        due("the first program's", x.fault(), 2);
        Subject.tell(x, "x=a+;.;");
        due("the second program's", x.fault(), 4);
        Subject.tell(x, ".;");
        due("well", x.fault(), -1);
    }
}
