/** Promise 4: load, its faults and what it sets back. */
public final class LoadTest {
    private LoadTest() {
    }

    public static void main(String[] args) {
        goodTexts();
        bytesThatAreNoToken();
        tokensThatCannotCome();
        wordsThatAreTaken();
        wordsThatAreNone();
        tooMuch();
        tooDeep();
        argumentsOfStarts();
        theLeastOfOneToken();
        lettersBehindNumbers();
        reservedWordsThatCannotCome();
        reservedWordsThatAreWords();
        aFaultReadsNothing();
        loadSetsBack();
        loadMakesAsNew();
        manyLoads();
        Due.close();
    }

    private static void goodTexts() {
        Texts.good("");
        Texts.good(" \t\r\n");
        Texts.good("# only a remark");
        Texts.good("#\n#");
        Texts.good("number a;#x\nnumber b;");
        Texts.good("resource r 1;resource s 99;");
        Texts.good("store s 0 1; store t 9999 9999; store u 0 9999;");
        Texts.good("number a, b1, C, abcdefgh;");
        Texts.good("number holds, Hold, HOLD, rel, wait;");
        Texts.good("number a, z, A, Z, a0, z9, AZ09az;");
        Texts.good("process p() { }");
        Texts.good("process p(a,b,c,d,e,f,g,h) { start p(1,2,3,4,5,6,7,a) 2; }");
        Texts.good("process p() { start q(1); } process q(x) { start p(); }");
        Texts.good("process p(q) { start q(); } process q() { }");
        Texts.good("number g; process p(g) { g = 1; } process q() { let g = g + 1; g = g; }");
        Texts.good("process p(a) { } process q(a) { let b = a; } number a; resource b 1;");
        Texts.good("process p() { if 1 { let a = 1; } else { a = 2; } say a; }");
        Texts.good("process p() { say 000000001 == 1; say 999999999; }");
        Texts.good("process p() { say 1 - -1; say !!1 != !0; say -(-1) <= 2; say 1 < 2 && 2 < 3 || 0; }");
        Texts.good("resource r 1; store s 0 1; process p() { seize r; seize r -1; free r; put s 1; get s 1; }");
        Texts.good("resource r 1; store s 0 1; process p() { await units r + queue s > now * me; wake me; stop me; end; }");
        Texts.good("process p() { hold draw(3) + draw((2)); while 0 { } if 1 { } if 0 { } else { } }");
        Texts.good("resource r 1; process p(a) { await 1; if draw(2) { } await 1; while draw(2) { } await 1; let b = draw(2);"
                + " await 1; a = draw(2); await 1; seize r draw(2); await 1; start p(draw(2)) draw(2); }");
        Due.is("behind a remark", Due.hall("number a;# number b;\nnumber c;").number(1), 0);
        Due.is("in a remark", Due.hall("number a;# number b;\nnumber c;").number(2), -2_000_000_000);
    }

    private static void bytesThatAreNoToken() {
        for (char c = 0; c < 256; c++) {
            boolean begins = c < 128 && " \t\n\r#(){},;=+-*/%<>!".indexOf(c) >= 0;
            boolean isWordByte = c < 128 && Character.isLetterOrDigit(c);
            if (!begins && !isWordByte) {
                Texts.fault("number a;" + c, 1, 9);
            }
        }
        Texts.faultAtMark("number |abcdefghi;", 1);
        Texts.faultAtMark("|abcdefghi", 1);
        Texts.faultAtMark("process p() { say |1234567890; }", 1);
        Texts.faultAtMark("process p() { say |1234567890x; }", 1);
        Texts.faultAtMark("process p() { say 1 |& 2; }", 1);
        Texts.fault("process p() { say 1 | 2; }", 1, 20);
        Texts.faultAtMark("process p() { say 1 &&|& 2; }", 1);
        Texts.fault("process p() { say 1 ||| 2; }", 1, 22);
        Texts.faultAtMark("number a|_b;", 1);
        Texts.faultAtMark("number a; |\"", 1);
    }

    private static void tokensThatCannotCome() {
        Texts.faultAtMark("|x", 2);
        Texts.faultAtMark("# number $ \n |x", 2);
        Texts.faultAtMark("number a;#\r x\n#\n\n |x", 2);
        Texts.faultAtMark("|;", 2);
        Texts.faultAtMark("|hold 1;", 2);
        Texts.faultAtMark("|7", 2);
        Texts.faultAtMark("resource|", 2);
        Texts.faultAtMark("resource |5 r;", 2);
        Texts.faultAtMark("resource r |s;", 2);
        Texts.faultAtMark("resource r |;", 2);
        Texts.faultAtMark("resource r 1 # more \n |", 2);
        Texts.faultAtMark("resource r 1|, s 1;", 2);
        Texts.faultAtMark("resource r |-1;", 2);
        Texts.faultAtMark("store s 1 |;", 2);
        Texts.faultAtMark("number a b;".replace(" b", " |b"), 2);
        Texts.faultAtMark("number |;", 2);
        Texts.faultAtMark("number a, |;", 2);
        Texts.faultAtMark("process p |{ }", 2);
        Texts.faultAtMark("process p(|,) { }", 2);
        Texts.faultAtMark("process p(a |b) { }", 2);
        Texts.faultAtMark("process p(a, |) { }", 2);
        Texts.faultAtMark("process p() |;", 2);
        Texts.faultAtMark("process p() { |", 2);
        Texts.faultAtMark("process p() { } |}", 2);
        Texts.faultAtMark("process p() { |; }", 2);
        Texts.faultAtMark("process p() { |1 = 2; }", 2);
        Texts.faultAtMark("process p(a) { a |== 2; }", 2);
        Texts.faultAtMark("process p(a) { a = |; }", 2);
        Texts.faultAtMark("process p(a) { a = 1 |}", 2);
        Texts.faultAtMark("process p() { let |= 2; }", 2);
        Texts.faultAtMark("process p() { if 1 |say 1; }", 2);
        Texts.faultAtMark("process p() { if |{ } }", 2);
        Texts.faultAtMark("process p() { if 1 { } else |if 1 { } }", 2);
        Texts.faultAtMark("process p() { end |1; }", 2);
        Texts.faultAtMark("process p() { say (1|; }", 2);
        Texts.faultAtMark("process p() { say 1|); }", 2);
        Texts.faultAtMark("process p() { say 1 < 2 |< 3; }", 2);
        Texts.faultAtMark("process p() { say |* 2; }", 2);
        Texts.faultAtMark("process p() { say |+ 2; }", 2);
        Texts.faultAtMark("process p() { say draw |3; }", 2);
        Texts.faultAtMark("process p() { say units |3; }", 2);
        Texts.faultAtMark("process p() { start |(); }", 2);
        Texts.faultAtMark("process p() { start p|; }", 2);
        Texts.faultAtMark("process p() { start p(|,); }", 2);
        Texts.faultAtMark("process p(a) { start p(1 |2); }", 2);
        Texts.faultAtMark("resource r 1; process p() { free r |1; }", 2);
        Texts.faultAtMark("resource r 1; process p() { seize |1; }", 2);
        Texts.faultAtMark("store s 0 1; process p() { put s |; }", 2);
    }

    private static void wordsThatAreTaken() {
        for (String word : Texts.RESERVED) {
            Texts.faultAtMark("number |" + word + ";", 3);
            Texts.faultAtMark("process p(|" + word + ") { }", 3);
            Texts.faultAtMark("process p() { let |" + word + " = 1; }", 3);
        }
        Texts.faultAtMark("resource |hold 1;", 3);
        Texts.faultAtMark("store |say 0 1;", 3);
        Texts.faultAtMark("process |end() { }", 3);
        Texts.faultAtMark("number a, |a;", 3);
        Texts.faultAtMark("number a; resource |a 1;", 3);
        Texts.faultAtMark("resource a 1; store |a 0 1;", 3);
        Texts.faultAtMark("store a 0 1; process |a() { }", 3);
        Texts.faultAtMark("process a() { } number |a;", 3);
        Texts.faultAtMark("process a() { } process |a() { }", 3);
        Texts.faultAtMark("process p(|p) { }", 3);
        Texts.faultAtMark("process p() { let |p = 1; }", 3);
        Texts.faultAtMark("process p(a, |a) { }", 3);
        Texts.faultAtMark("process p(a) { let |a = 1; }", 3);
        Texts.faultAtMark("process p() { if 1 { let a = 1; } else { let |a = 1; } }", 3);
        Texts.faultAtMark("resource r 1; process p(|r) { }", 3);
        Texts.faultAtMark("store s 0 1; process p() { let |s = 1; }", 3);
    }

    private static void wordsThatAreNone() {
        Texts.faultAtMark("process p() { |x = 1; }", 4);
        Texts.faultAtMark("process p() { |x & 1; }", 4);
        Texts.faultAtMark("process p() { say |x; }", 4);
        Texts.faultAtMark("process p() { let a = |a; }", 4);
        Texts.faultAtMark("process p() { say |a; let a = 1; }", 4);
        Texts.faultAtMark("process p(a) { } process q() { say |a; }", 4);
        Texts.faultAtMark("process p() { say |a; } number a;", 4);
        Texts.faultAtMark("process p() { say |p; }", 4);
        Texts.faultAtMark("resource r 1; process p() { |r = 1; }", 4);
        Texts.faultAtMark("resource r 1; process p() { say |r; }", 4);
        Texts.faultAtMark("resource r 1; process p() { put |r 1; }", 4);
        Texts.faultAtMark("resource r 1; process p() { get |r 1; }", 4);
        Texts.faultAtMark("store s 0 1; process p() { seize |s; }", 4);
        Texts.faultAtMark("store s 0 1; process p() { free |s; }", 4);
        Texts.faultAtMark("number n; process p() { say units |n; }", 4);
        Texts.faultAtMark("number n; process p() { say queue |n; }", 4);
        Texts.faultAtMark("process p() { await |draw(3); }", 4);
        Texts.faultAtMark("process p() { await 1 + (2 * -|draw(3)); }", 4);
        Texts.good("process p() { await 1; say draw(3); }");
    }

    private static void tooMuch() {
        Texts.faultAtMark("resource r |0;", 5);
        Texts.faultAtMark("resource r |100;", 5);
        Texts.faultAtMark("store s |10000 10000;", 5);
        Texts.faultAtMark("store s 0 |10000;", 5);
        Texts.faultAtMark("store s 0 |0;", 5);
        Texts.faultAtMark("store s 5 |4;", 5);
        Texts.good(Texts.numbered("resource ", "r", 1, 8, " 1;"));
        Texts.faultAtMark(Texts.numbered("resource ", "r", 1, 8, " 1;") + "resource |r9 1;", 5);
        Texts.good(Texts.numbered("store ", "s", 1, 6, " 0 1;"));
        Texts.faultAtMark(Texts.numbered("store ", "s", 1, 6, " 0 1;") + "store |s7 0 1;", 5);
        Texts.good("number n" + Texts.numbered(", ", "n", 2, 16, "") + ";");
        Texts.faultAtMark("number n" + Texts.numbered(", ", "n", 2, 16, "") + ", |n17;", 5);
        Texts.faultAtMark("number n" + Texts.numbered(", ", "n", 2, 16, "") + "; number |n17;", 5);
        Texts.good(Texts.numbered("process ", "p", 1, 12, "() { }"));
        Texts.faultAtMark(Texts.numbered("process ", "p", 1, 12, "() { }") + "process |p13() { }", 5);
        Texts.faultAtMark("process p(a" + Texts.numbered(", ", "a", 2, 8, "") + ", |a9) { }", 5);
        Texts.good("process p(a, b) { " + Texts.numbered("let ", "a", 3, 8, " = 1;") + " }");
        Texts.faultAtMark("process p(a, b) { " + Texts.numbered("let ", "a", 3, 8, " = 1;") + "let |a9 = 1; }", 5);
        Texts.good("process p() { " + "end;".repeat(250) + " }");
        Texts.faultAtMark("process p() { " + "end;".repeat(250) + " |end; }", 5);
        Texts.good("process p() { " + "end;".repeat(125) + " } process q() { " + "if 1 { }".repeat(125) + " }");
        Texts.faultAtMark("process p() { " + "end;".repeat(125) + " } process q() { " + "while 0 { }".repeat(124)
                + " if 1 { |say 1; } }", 5);
    }

    private static void tooDeep() {
        Texts.good("process p() { " + "if 1 { ".repeat(9) + "} ".repeat(9) + "}");
        Texts.faultAtMark("process p() { " + "if 1 { ".repeat(9) + "if 1 |{ } " + "} ".repeat(9) + "}", 5);
        Texts.faultAtMark("process p() { " + "while 1 { ".repeat(9) + "if 1 |say 1; " + "} ".repeat(9) + "}", 2);
        Texts.good("process p() { " + "if 1 { } else { ".repeat(9) + "say 1;" + "} ".repeat(9) + "}");
        Texts.good("process p() { say " + "(".repeat(30) + "1" + ")".repeat(30) + "; }");
        Texts.faultAtMark("process p() { say " + "(".repeat(31) + "|1" + ")".repeat(31) + "; }", 5);
        Texts.good("process p() { say " + "-".repeat(30) + "1; }");
        Texts.faultAtMark("process p() { say " + "!".repeat(31) + "|1; }", 5);
        Texts.good("process p() { say " + "draw(".repeat(30) + "1" + ")".repeat(30) + "; }");
        Texts.faultAtMark("process p() { say " + "draw(".repeat(31) + "|me" + ")".repeat(31) + "; }", 5);
        Texts.good("process p() { say " + "1 + (2 * ".repeat(30) + "1" + ")".repeat(30) + "; }");
        Texts.good("process p() { say 1" + "+1".repeat(1980) + "; }");
        Texts.good("process p() { say 1" + "||1".repeat(1320) + "; }");
    }

    private static void argumentsOfStarts() {
        Texts.faultAtMark("process p() { start p(1|); }", 6);
        Texts.faultAtMark("process p(a) { start p(|); }", 6);
        Texts.faultAtMark("process p(a, b) { } process q() { start p(1, 2, 3|) 4; }", 6);
        Texts.faultAtMark("process p() { start |q(); }", 6);
        Texts.faultAtMark("process p() { start |q(); } process q(a) { }", 6);
        Texts.faultAtMark("process p() { start |q(1); start r(); }", 6);
        Texts.faultAtMark("process p() { start q(1); start |r(); } process q(a) { }", 6);
        Texts.faultAtMark("process p() { start q(); say |x; }", 4);
        Texts.faultAtMark("resource r 1; process p() { start |r(); }", 6);
        Texts.faultAtMark("process p() { start |q(); } number q;", 6);
        Texts.faultAtMark("process p() { start |q(1,2,3,4,5,6,7,8,9); }", 6);
    }

    private static void theLeastOfOneToken() {
        Texts.faultAtMark("resource |abcdefghi 1;", 1);
        Texts.faultAtMark(Texts.numbered("resource ", "r", 1, 8, " 1;") + "resource |hold 1;", 3);
        Texts.faultAtMark(Texts.numbered("resource ", "r", 1, 8, " 1;") + "resource |r1 1;", 3);
        Texts.faultAtMark(Texts.numbered("resource ", "r", 1, 8, " 1;") + "resource |1 1;", 2);
        Texts.faultAtMark("process p() { " + "end;".repeat(250) + " |x = 1; }", 4);
        Texts.faultAtMark("process p() { " + "end;".repeat(250) + " |5; }", 2);
        Texts.faultAtMark("process p() { say " + "(".repeat(31) + "|x; }", 4);
        Texts.faultAtMark("process p() { say " + "(".repeat(31) + "|); }", 2);
        Texts.faultAtMark("process p() { await " + "(".repeat(31) + "|draw(1); }", 4);
    }

    /** A NUMBER's own faults come before that of the letter behind it, which stands at a later place. */
    private static void lettersBehindNumbers() {
        Texts.faultAtMark("process p() { say 123456789|x; }", 1);
        Texts.faultAtMark("resource r 1|x;", 1);
        Texts.faultAtMark("store s 1|store 2;", 1);
        Texts.faultAtMark("store s 1 2|A", 1);
        Texts.faultAtMark("process p() { if 1|Z { } }", 1);
        Texts.faultAtMark("process p() { hold 0|x10; }", 1);
        Texts.faultAtMark("process p() { say " + "(".repeat(30) + "1|x; }", 1);
        Texts.faultAtMark("process p(a) { start p(1|a); }", 1);
        Texts.faultAtMark("|2X", 2);
        Texts.faultAtMark("number |1a;", 2);
        Texts.faultAtMark("number a |1a;", 2);
        Texts.faultAtMark("process p() { |1x = 2; }", 2);
        Texts.faultAtMark("process p() { say 1 |1x; }", 2);
        Texts.faultAtMark("resource r |0x;", 5);
        Texts.faultAtMark("resource r |100x;", 5);
        Texts.faultAtMark("store s 5 |4x;", 5);
        Texts.faultAtMark("process p() { say " + "(".repeat(31) + "|1x; }", 5);
        Texts.faultAtMark("|1234567890x", 1);
        Texts.faultAtMark("resource r |1234567890x;", 1);
    }

    private static boolean isOneOf(String word, String words) {
        return (" " + words + " ").contains(" " + word + " ");
    }

    /** Where the grammar has words in quotes beside WORD, or no WORD, a RESERVED one that it doesn't have can't come. */
    private static void reservedWordsThatCannotCome() {
        String items = "resource store number process";
        String statements = "let if while hold seize free put get await start stop wake say end";
        for (String word : Texts.RESERVED) {
            if (!isOneOf(word, items)) {
                Texts.faultAtMark("|" + word, 2);
                Texts.faultAtMark("number a; |" + word + " 1;", 2);
            }
            if (!isOneOf(word, statements)) {
                Texts.faultAtMark("process p() {|" + word, 2);
                Texts.faultAtMark("process p() { |" + word + " = 1; }", 2);
                Texts.faultAtMark("process p() { " + "end;".repeat(250) + " |" + word, 2);
            }
            if (!isOneOf(word, "now me draw units queue")) {
                Texts.faultAtMark("number a; process p(){ a = (((((((((((((|" + word, 2);
                Texts.faultAtMark("process p() { say |" + word + "; }", 2);
                Texts.faultAtMark("process p() { say 1 + |" + word + "; }", 2);
                Texts.faultAtMark("process p() { await |" + word + "; }", 2);
                Texts.faultAtMark("process p() { start p(|" + word + "); }", 2);
                Texts.faultAtMark("process p() { say " + "(".repeat(31) + "|" + word + "; }", 2);
                Texts.faultAtMark("resource r 1; process p() { seize r |" + word + "; }", 2);
            }
            Texts.faultAtMark("number a |" + word + ";", 2);
            Texts.faultAtMark("resource r |" + word + ";", 2);
            Texts.faultAtMark("process p |" + word + "() { }", 2);
            Texts.faultAtMark("process p(a |" + word + ") { }", 2);
            Texts.faultAtMark("process p() |" + word + " { }", 2);
            Texts.faultAtMark("process p() { say 1 |" + word + "; }", 2);
            Texts.faultAtMark("process p() { end |" + word + "; }", 2);
            Texts.faultAtMark("process p() { let a |" + word + " 1; }", 2);
        }
    }

    /** Where the grammar has a WORD alone, a RESERVED one is a WORD: of no place, of no process. */
    private static void reservedWordsThatAreWords() {
        String before = "resource r 1; store s 0 1; number a; process p() { ";
        for (String word : Texts.RESERVED) {
            for (String use : new String[] {"seize", "free", "put", "get", "say units", "say queue", "await 1 + queue"}) {
                Texts.faultAtMark(before + use + " |" + word + " 1; }", 4);
                Texts.faultAtMark(before + use + " |" + word, 4);
                Texts.faultAtMark(before + use + " |" + word + "\0", 4);
            }
            Texts.faultAtMark(before + "start |" + word + "(); }", 6);
            Texts.faultAtMark(before + "start |" + word + "(1, a) 5; start q(); }", 6);
            Texts.faultAtMark(before + "start q(); start |" + word + "(); } process q() { }", 6);
            Texts.faultAtMark(before + "start " + word + "(|\0", 1);
            Texts.faultAtMark(before + "start " + word + "|;", 2);
            Texts.faultAtMark(before + "start " + word + "|", 2);
            Texts.faultAtMark(before + "start " + word + "() |x; }", 4);
            Texts.faultAtMark(before + "start " + word + "() |) }", 2);
            Texts.faultAtMark(before + "start " + word + "(); } number |a;", 3);
            Texts.faultAtMark(before + "start " + word + "(); } process |" + word + "() { }", 3);
        }
    }

    private static void aFaultReadsNothing() {
        EventHall hall = Due.hall("number a; resource r 1; process p() { a = 1; say 1; }");
        hall.start(0, 0, 0, 0, 0);
        hall.run(10);
        Due.is("number before", hall.number(0), 1);
        Due.feed(hall, "number a; x");
        Due.is("faulty load", hall.load(), 2);
        Due.is("TIME", hall.state(0), EventHall.BAD);
        Due.is("SEED", hall.state(9), EventHall.BAD);
        Due.is("number", hall.number(0), -2_000_000_000);
        Due.is("process", hall.process(0, 0), -2_000_000_000);
        Due.is("place", hall.place(0, 0), -2);
        Due.is("sum", hall.sum(0, 0), EventHall.BAD);
        Due.is("trace", hall.trace(0, 0), -2_000_000_000);
        Due.is("start", hall.start(0, 0, 0, 0, 0), EventHall.BAD);
        Due.is("run", hall.run(1), EventHall.BAD);
        Due.is("turn", hall.turn(1), EventHall.BAD);
        Due.is("load of the empty text", hall.load(), 0);
        Due.is("fault behind it", hall.state(11), 0);
        Due.is("its place", hall.state(12), EventHall.BAD);
        Due.is("TIME of the empty text", hall.state(0), 0);
        Due.is("run of the empty text", hall.run(5), 0);
        Due.is("turn of the empty text", hall.turn(5), EventHall.NONE);
    }

    private static void loadSetsBack() {
        String text = "number a; resource r 1; store s 2 5;"
                + " process p(n) { a = n; let b = 7; seize r; say a; hold 5; get s 3; say draw(9); }";
        EventHall hall = Due.hall(text);
        hall.start(0, 4, 0, 0, 0);
        hall.start(0, 5, 0, 0, 0);
        hall.run(6);
        Due.is("amid", hall.state(10), 1);
        Due.feed(hall, text);
        Due.is("second load", hall.load(), 0);
        int[] want = {0, 0, 0, 0, 0, 0, 0, 0, 0, 1, EventHall.NONE, 0, EventHall.BAD};
        for (int what = 0; what < want.length; what++) {
            Due.is("state(" + what + ") behind the second load", hall.state(what), want[what]);
        }
        Due.is("number", hall.number(0), 0);
        Due.is("process", hall.process(0, 0), -2_000_000_000);
        Due.is("trace", hall.trace(0, 0), -2_000_000_000);
        int[] resource = {1, 0, 1, 0, 0, 0, EventHall.NONE};
        int[] store = {2, 0, 5, 0, 0, 0, EventHall.NONE};
        for (int what = 0; what < resource.length; what++) {
            Due.is("place(0, " + what + ")", hall.place(0, what), resource[what]);
            Due.is("place(1, " + what + ")", hall.place(1, what), store[what]);
        }
        Due.is("nobody waits", hall.place(0, 10), EventHall.NONE);
        for (int what = 0; what < 3; what++) {
            Due.is("sum(0, " + what + ")", hall.sum(0, what), 0);
            Due.is("sum(1, " + what + ")", hall.sum(1, what), 0);
        }
        Due.is("first process again", hall.start(0, 6, 0, 0, 0), 0);
        Due.is("its parameter", hall.process(0, 10), 6);
        Due.is("its let, not yet told", hall.process(0, 11), 0);
        Due.is("it has no units", hall.process(0, 4), 0);
        hall.seed(77);
        hall.load();
        Due.is("load leaves the SEED", hall.state(9), 77);
    }

    private static final String LIFE = "number a; resource r 1; resource t 2; store s 2 5; store u 0 4;"
            + " process main(n) { let b = n; start wrong(); start waits(b) 1; start waits(2); start tells(); start sits(); seize r; seize t; hold 3;"
            + " put u 3; put u 3; say 5; }"
            + " process tells() { let f = now; say f + 1; } process sits() { await a > 1; say me; await a > 9; }"
            + " process wrong() { seize t; hold 1; say 1 / 0; }"
            + " process waits(n) { let c = n + a; let d = me; seize r n; let e = now; a = a + 1; hold 2; get s n; await a > 7; say c; }";

    /** A life in which all counts come to be something. */
    private static String live(EventHall hall, int runs) {
        StringBuilder all = new StringBuilder();
        hall.seed(5);
        for (int i = 0; i < 3; i++) {
            all.append(hall.start(0, 2 + i, 0, 0, 0)).append(' ');
        }
        for (int i = 0; i < runs; i++) {
            all.append(hall.run(7)).append(' ').append(told(hall)).append('\n');
        }
        return all.toString();
    }

    private static String told(EventHall hall) {
        StringBuilder all = new StringBuilder();
        for (int what = 0; what <= 12; what++) {
            all.append(hall.state(what)).append(' ');
        }
        for (int i = 0; i < 14; i++) {
            for (int what = 0; what < 18; what++) {
                all.append(hall.process(i, what)).append(' ').append(hall.place(i, what)).append(' ');
            }
            all.append(hall.number(i)).append(' ').append(hall.trace(i, 0)).append(' ').append(hall.trace(i, 1)).append(' ');
            all.append(hall.sum(i, 0)).append(' ').append(hall.sum(i, 1)).append(' ').append(hall.sum(i, 2)).append(' ');
        }
        return all.toString();
    }

    private static void loadMakesAsNew() {
        String first = live(Due.hall(LIFE), 12);
        for (int runs = 1; runs <= 14; runs++) {
            EventHall hall = Due.hall(LIFE);
            live(hall, runs);
            Due.feed(hall, LIFE);
            hall.load();
            Due.isTrue("the life behind a load amid another, " + runs, live(hall, 12).equals(first));
        }
        EventHall hall = Due.hall(LIFE);
        live(hall, 14);
        int[] least = {3, 50, 10, 18, 0, 6, 3, 3, 3};
        for (int what = 0; what < least.length; what++) {
            Due.isTrue("state(" + what + ") came to be something: " + hall.state(what), hall.state(what) >= least[what]);
        }
        Due.feed(hall, LIFE);
        hall.load();
        hall.seed(1);
        Due.isTrue("as new", told(hall).equals(told(Due.hall(LIFE))));
    }

    /** What was read before takes no room from what is read now. */
    private static void manyLoads() {
        EventHall hall = new EventHall();
        String big = "process p() { start q(); " + "if 0 { } else { }".repeat(100) + " } process q() { " + "hold 1;".repeat(100) + " }";
        for (int i = 0; i < 9; i++) {
            Due.feed(hall, big);
            Due.is("load of a big text", hall.load(), 0);
            hall.start(0, 0, 0, 0, 0);
            Due.is("steps of the big text", hall.run(1000), 201);
            Due.feed(hall, "process r() { say 1; }");
            Due.is("load of a small text", hall.load(), 0);
        }
        EventHall other = new EventHall();
        for (int terms = 1900; terms < 1902; terms++) {
            Due.feed(other, "process p() { say 0" + "+1".repeat(terms) + "; }");
            Due.is("load of a long expression", other.load(), 0);
            other.start(0, 0, 0, 0, 0);
            other.run(5);
            Due.isTrace(other, 0, terms);
        }
    }
}
