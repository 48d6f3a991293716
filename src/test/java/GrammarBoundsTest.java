/** The bounds of the grammar; each test bears the sentence of the document. */
public final class GrammarBoundsTest {
    private static final int NO_VALUE = -2_000_000_000;
    // Each kind of statement once; r is a resource, s a store, g a number, q a process without parameters.
    private static final String[] STATEMENTS = {"let x = 1;", "g = 1;", "if 1 { }", "if 1 { } else { }", "while 0 { }", "hold 1;",
        "seize r;", "seize r 1;", "free r;", "put s 1;", "get s 1;", "await 1;", "start q();", "start q() 1;", "stop 0;",
        "wake 0;", "say 1;", "end;"};
    private static final String HEAD = "resource r 1; store s 0 1; number g; process q() { } ";

    private GrammarBoundsTest() {
    }

    public static void main(String[] args) {
        unitsOfAResource();
        firstOfAStore();
        roomOfAStore();
        roomAndFirstOfAStore();
        mostResources();
        mostStores();
        mostNumbers();
        mostProcesses();
        mostParameters();
        mostLets();
        mostParametersAndLets();
        allOfAllSorts();
        mostStatements();
        mostStatementsWithBlocks();
        statementsOfEachKind();
        deepestBlocks();
        deepestBlocksOfElse();
        deepestOnes();
        onesOfEachKind();
        onesBesideOthers();
        onesInEachStatement();
        nothingRepeated();
        reservedWords();
        startedBeforeTold();
        Due.close();
    }

    private static void places(String text, int there, int room) {
        EventHall hall = Due.hall(text);
        Due.is("there, of " + text, hall.place(0, 0), there);
        Due.is("room, of " + text, hall.place(0, 2), room);
    }

    /** "'resource' WORD NUMBER ';' (units, 1 .. 99)" */
    private static void unitsOfAResource() {
        for (int units : new int[] {1, 2, 98, 99}) {
            places("resource r " + units + ";", units, units);
        }
        for (int units : new int[] {0, 100, 101, 999_999_999}) {
            Texts.faultAtMark("resource r |" + units + ";", 5);
        }
        Texts.faultAtMark("resource r |000;", 5);
        Texts.faultAtMark("resource r |-1;", 2);
        places("resource r 000000099;", 99, 99);
    }

    /** "'store' WORD NUMBER NUMBER ';' (at first, room; 0 .. 9999, ..)": at first. */
    private static void firstOfAStore() {
        for (int first : new int[] {0, 1, 9998, 9999}) {
            places("store s " + first + " 9999;", first, 9999);
        }
        for (int first : new int[] {10_000, 10_001, 999_999_999}) {
            Texts.faultAtMark("store s |" + first + " 9999;", 5);
            Texts.faultAtMark("store s |" + first + " " + first + ";", 5);
        }
        Texts.faultAtMark("store s |-1 5;", 2);
    }

    /** "(at first, room; 0 .. 9999, room not 0 ..)": room. */
    private static void roomOfAStore() {
        for (int room : new int[] {1, 2, 9998, 9999}) {
            places("store s 0 " + room + ";", 0, room);
        }
        for (int room : new int[] {0, 10_000, 10_001, 999_999_999}) {
            Texts.faultAtMark("store s 0 |" + room + ";", 5);
        }
        Texts.faultAtMark("store s 0 |-1;", 2);
    }

    /** "(at first, room; .. room not 0 nor less)" than what is there at first. */
    private static void roomAndFirstOfAStore() {
        for (int first : new int[] {1, 2, 5000, 9998}) {
            places("store s " + first + " " + first + ";", first, first);
            places("store s " + first + " " + (first + 1) + ";", first, first + 1);
            Texts.faultAtMark("store s " + first + " |" + (first - 1) + ";", 5);
            Texts.faultAtMark("store s " + first + " |0;", 5);
        }
        places("store s 9999 9999;", 9999, 9999);
        Texts.faultAtMark("store s 9999 |9998;", 5);
    }

    /** "There are at most 8 resources, .." */
    private static void mostResources() {
        String eight = Texts.numbered("resource ", "r", 1, 8, " 1;");
        EventHall hall = Due.hall(eight);
        Due.is("the last one", hall.place(7, 2), 1);
        Due.is("none behind it", hall.place(8, 2), -2);
        Texts.faultAtMark(eight + "resource |r9 1;", 5);
        Texts.faultAtMark("store s 0 1;" + eight + "number n; resource |r9", 5);
        Texts.good(eight + "store s 0 1; number n; process p() { }");
    }

    /** "There are at most .. 6 stores, .." */
    private static void mostStores() {
        String six = Texts.numbered("store ", "s", 1, 6, " 0 1;");
        EventHall hall = Due.hall(six);
        Due.is("the last one", hall.place(5, 2), 1);
        Due.is("none behind it", hall.place(6, 2), -2);
        Texts.faultAtMark(six + "store |s7 0 1;", 5);
        Texts.faultAtMark(six + "resource r 1; store |s7", 5);
        Texts.good(six + "resource r 1; number n; process p() { }");
    }

    /** "There are at most .. 16 numbers, .." */
    private static void mostNumbers() {
        String sixteen = "number n1" + Texts.numbered(", ", "n", 2, 16, "");
        EventHall hall = Due.hall(sixteen + ";");
        Due.is("the last one", hall.number(15), 0);
        Due.is("none behind it", hall.number(16), NO_VALUE);
        Texts.faultAtMark(sixteen + ", |n17;", 5);
        Texts.faultAtMark(sixteen + "; number |n17;", 5);
        Texts.good(Texts.numbered("number ", "n", 1, 16, ";"));
        Texts.faultAtMark(Texts.numbered("number ", "n", 1, 16, ";") + "number |n17", 5);
    }

    /** "There are at most .. 12 processes, .." */
    private static void mostProcesses() {
        String twelve = Texts.numbered("process ", "p", 1, 12, "() { }");
        EventHall hall = Due.hall(twelve);
        Due.is("the last one", hall.start(11, 0, 0, 0, 0), 0);
        Due.is("none behind it", hall.start(12, 0, 0, 0, 0), EventHall.BAD);
        Texts.faultAtMark(twelve + "process |p13() { }", 5);
        Texts.faultAtMark("process p1() { start |p13(); }" + Texts.numbered("process ", "p", 2, 12, "() { }"), 6);
    }

    /** "12 processes, with 8 parameters and lets each": parameters. */
    private static void mostParameters() {
        String eight = "process p(a1" + Texts.numbered(", ", "a", 2, 8, "");
        EventHall hall = Due.hall(eight + ") { start p(1, 2, 3, 4, 5, 6, 7, 8); }");
        hall.start(0, 0, 0, 0, 0);
        hall.run(1);
        Due.is("the last one", hall.process(1, 17), 8);
        Due.is("none behind it", hall.process(1, 18), NO_VALUE);
        Texts.faultAtMark(eight + ", |a9) { }", 5);
        Texts.good(eight + ") { }" + eight.replace("p(", "q(") + ") { }");
    }

    /** "12 processes, with 8 parameters and lets each": lets, those within blocks too. */
    private static void mostLets() {
        String eight = "process p() { " + Texts.numbered("let ", "a", 1, 8, " = 1;");
        EventHall hall = Due.hall(eight + " }");
        hall.start(0, 0, 0, 0, 0);
        hall.run(8);
        Due.is("the last one", hall.process(0, 17), 1);
        Due.is("none behind it", hall.process(0, 18), NO_VALUE);
        Texts.faultAtMark(eight + " let |a9 = 1; }", 5);
        String inBlocks = "process p() { " + Texts.numbered("if 1 { let ", "a", 1, 8, " = 1; } ");
        Texts.good(inBlocks + "}");
        Texts.faultAtMark(inBlocks + "while 0 { let |a9 = 1; } }", 5);
    }

    /** "12 processes, with 8 parameters and lets each": both together, in each process anew. */
    private static void mostParametersAndLets() {
        for (int parameters = 1; parameters <= 8; parameters++) {
            String begin = "(a1" + Texts.numbered(", ", "a", 2, parameters, "") + ") { "
                    + Texts.numbered("let ", "a", parameters + 1, 8, " = 1;");
            Texts.good("process p" + begin + " } process q" + begin + " }");
            Texts.faultAtMark("process p" + begin + " let |a9 = 1; }", 5);
            Texts.faultAtMark("process p" + begin + " } process q" + begin + " let |a9 = 1; }", 5);
        }
    }

    /** "at most 8 resources, 6 stores, 16 numbers, 12 processes, with 8 parameters and lets each": all at once. */
    private static void allOfAllSorts() {
        EventHall hall = Due.hall(Texts.numbered("resource ", "r", 1, 8, " 99;") + Texts.numbered("store ", "s", 1, 6, " 7 9999;")
                + "number n1" + Texts.numbered(", ", "n", 2, 16, "") + ";"
                + Texts.numbered("process ", "p", 1, 12, "(a, b, c, d) { let e = a; let f = b; let g = c; let h = d; n16 = h + units s6; }"));
        Due.is("the last definition", hall.start(11, 1, 2, 3, 4), 0);
        Due.is("no definition behind it", hall.start(12, 0, 0, 0, 0), EventHall.BAD);
        hall.run(5);
        Due.is("the last let", hall.process(0, 17), 4);
        Due.is("the last number", hall.number(15), 11);
        Due.is("no number behind it", hall.number(16), NO_VALUE);
        Due.is("the last resource", hall.place(7, 2), 99);
        Due.is("the first store", hall.place(8, 2), 9999);
        Due.is("the last store", hall.place(13, 0), 7);
        Due.is("no place behind it", hall.place(14, 0), -2);
        Due.is("no sum behind it", hall.sum(14, 0), EventHall.BAD);
    }

    /** "250 statements in all" */
    private static void mostStatements() {
        Texts.good("process p() { " + "end;".repeat(250) + " }");
        Texts.faultAtMark("process p() { " + "end;".repeat(250) + " |end; }", 5);
        String twelve = Texts.numbered("process ", "p", 1, 12, "() { " + "say 1;".repeat(20) + " } ");
        Texts.good(twelve.replace("p12() {", "p12() { " + "end;".repeat(10)));
        Texts.faultAtMark(twelve.replace("p12() {", "p12() { " + "end;".repeat(10)).replaceFirst("say 1; } $", "say 1; |end; }"), 5);
        Texts.good("process p() { " + "if 1 { end; } else { end; }".repeat(83) + " end; }");
        Texts.faultAtMark("process p() { " + "if 1 { end; } else { end; }".repeat(83) + " end; |end; }", 5);
        Texts.faultAtMark("process p() { " + "while 0 { end; }".repeat(124) + "if 1 { end; } else { |end; } }", 5);
        EventHall hall = Due.hall("process p() { " + "say 1;".repeat(249) + " say 2; }");
        hall.start(0, 0, 0, 0, 0);
        Due.is("all are done", hall.run(1000), 250);
        Due.is("the last one", hall.trace(249, 1), 2);
    }

    /** "250 statements in all": all of them with blocks, in all 12 processes. */
    private static void mostStatementsWithBlocks() {
        for (String statement : new String[] {"while 0{}", "if 0{}else{}", "if 1{}else{}"}) {
            EventHall hall = Due.hall(Texts.numbered("process ", "p", 1, 11, "(){" + statement.repeat(21) + "}") + "process p12(){" + statement.repeat(19) + "}");
            for (int d = 0; d < 12; d++) {
                hall.start(d, 0, 0, 0, 0);
                Due.is("STEPS of definition " + d, hall.run(1000), d < 11 ? 21 : 19);
                Due.is("it ended", hall.process(d, 1), 5);
            }
        }
    }

    /** "250 statements in all": of each kind the 250th may come, and the 251st not. */
    private static void statementsOfEachKind() {
        for (String statement : STATEMENTS) {
            Texts.good(HEAD + "process p() { " + "end;".repeat(249) + statement + " }");
            Texts.faultAtMark(HEAD + "process p() { " + "end;".repeat(250) + "|" + statement + " }", 5);
            Texts.good(HEAD + "process p() { " + statement + "end;".repeat(249) + " }");
            Texts.faultAtMark(HEAD + "process p() { " + statement + "end;".repeat(249) + "|end; }", 5);
        }
    }

    private static String nested(String open, int times, String inner, String close) {
        return open.repeat(times) + inner + close.repeat(times);
    }

    /** "no block within more than 9 others" */
    private static void deepestBlocks() {
        for (String open : new String[] {"if 1 { ", "while 1 { "}) {
            Texts.good("process p() { " + nested(open, 9, "say 7; end;", "}") + " }");
            Texts.faultAtMark("process p() { " + nested(open, 9, open.replace("{", "|{ }"), "}") + " }", 5);
            Texts.faultAtMark("process p() { " + nested(open, 9, open.replace("{", "|{"), ""), 5);
        }
        Texts.good("process p() { " + nested("if 1 { ", 9, "", "}") + nested("while 0 { ", 9, "", "}") + " } process q() { "
                + nested("if 1 { ", 9, "", "}") + " }");
        EventHall hall = Due.hall("process p() { " + nested("if 1 { ", 9, "say 7;", "}") + " say 8; }");
        hall.start(0, 0, 0, 0, 0);
        hall.run(100);
        Due.isTrace(hall, 0, 7, 0, 8);
    }

    /** "no block within more than 9 others": the blocks of an else. */
    private static void deepestBlocksOfElse() {
        String open = "if 0 { } else { ";
        EventHall hall = Due.hall("process p() { " + nested(open, 9, "say 7;", "}") + " say 8; }");
        hall.start(0, 0, 0, 0, 0);
        hall.run(100);
        Due.isTrace(hall, 0, 7, 0, 8);
        Texts.faultAtMark("process p() { " + nested(open, 9, "if 0 |{ } else { }", "}") + " }", 5);
        Texts.good("process p() { " + nested(open, 8, "if 0 { } else { }", "}") + " }");
    }

    /** "no one within more than 30 others" */
    private static void deepestOnes() {
        String[][] around = {{"(", ")"}, {"-", ""}, {"!", ""}, {"draw(", ")"}, {"1 + 2 * (", ")"}, {"1 && 0 < (", ")"}};
        for (String[] one : around) {
            Texts.good("process p() { say " + nested(one[0], 30, "1", one[1]) + "; }");
            Texts.faultAtMark("process p() { say " + nested(one[0], 31, "|1", one[1]) + "; }", 5);
            Texts.faultAtMark("process p() { say " + one[0].repeat(31) + "|(1", 5);
        }
        Texts.good("process p() { say " + nested("-(!(", 7, "-(1)", "))") + "; }");
        Texts.good("process p() { say " + nested("-(!", 10, "1", ")") + "; }");
        Texts.faultAtMark("process p() { say " + nested("-(!", 10, "-|1", ")") + "; }", 5);
        EventHall hall = Due.hall("process p() { say " + nested("2 + (", 30, "7", ")") + "; }");
        hall.start(0, 0, 0, 0, 0);
        hall.run(1);
        Due.isTrace(hall, 0, 67);
    }

    /** "no one within more than 30 others": each kind of one. */
    private static void onesOfEachKind() {
        String head = "resource r 1; store s 0 1; number g; process p(a) { let b = 1; say ";
        for (String one : new String[] {"1", "g", "a", "b", "now", "me", "units r", "queue s"}) {
            Texts.good(head + nested("(", 30, one, ")") + "; }");
            Texts.faultAtMark(head + nested("(", 31, "|" + one, ")") + "; }", 5);
        }
        for (String one : new String[] {"(1)", "-1", "!1", "draw(1)"}) {
            Texts.good(head + nested("(", 29, one, ")") + "; }");
            Texts.faultAtMark(head + nested("(", 30, one.replace("1", "|1"), ")") + "; }", 5);
            Texts.faultAtMark(head + nested("(", 31, "|" + one, ")") + "; }", 5);
        }
    }

    /** "no one within more than 30 others": those beside it do not count, and each expression begins anew. */
    private static void onesBesideOthers() {
        String deep = nested("(", 30, "1", ")");
        Texts.good("process p(a, b) { say " + deep + " + " + deep + " * " + deep + " < " + deep + " && " + deep + " || " + deep + "; }");
        Texts.good("process p(a, b) { start p(" + deep + ", " + deep + ") " + deep + "; if " + deep + " { hold " + deep + "; } }");
        Texts.faultAtMark("process p() { say " + deep + " + " + nested("(", 31, "|1", ")") + "; }", 5);
    }

    /** "no one within more than 30 others": in each place that has an expression. */
    private static void onesInEachStatement() {
        String head = "resource r 1; store s 0 1; number g; process p(a, b) { ";
        String[] before = {"let x = ", "g = ", "if ", "while ", "hold ", "seize r ", "put s ", "get s ", "await ", "start p(", "start p(1, ", "start p(1, 2) ",
            "stop ", "wake ", "say "};
        String[] behind = {";", ";", " { }", " { } ", ";", ";", ";", ";", ";", ", 1);", ");", ";", ";", ";", ";"};
        for (int i = 0; i < before.length; i++) {
            Texts.good(head + before[i] + nested("(", 30, "1", ")") + behind[i] + " }");
            Texts.good(head + before[i] + nested("-", 30, "1", "") + behind[i] + " }");
            Texts.faultAtMark(head + before[i] + nested("(", 31, "|1", ")") + behind[i] + " }", 5);
            Texts.faultAtMark(head + before[i] + nested("-", 31, "|a", "") + behind[i] + " }", 5);
        }
    }

    /** "text: {item}"; "'(' [WORD {',' WORD}] ')' block"; "'{' {statement} '}'": none may come, of 'number' one must. */
    private static void nothingRepeated() {
        Texts.good("");
        Texts.good("process p() { }");
        Texts.good("process p(){}process q(){start p();if 1{}else{}while 0{}}");
        Texts.good("number a;");
        Texts.faultAtMark("number |;", 2);
        Texts.faultAtMark("number a,|;", 2);
        Texts.faultAtMark("process p(a,|) { }", 2);
        Texts.faultAtMark("process p(|,a) { }", 2);
        Texts.faultAtMark("process p(a) { start p(1,|); }", 2);
        Texts.faultAtMark("process p(a) { start p(|,1); }", 2);
        Texts.faultAtMark("process p() |}", 2);
        Texts.faultAtMark("process p() { say |; }", 2);
    }

    /** "A WORD in quotes above is RESERVED." No other is. */
    private static void reservedWords() {
        Due.is("RESERVED words", Texts.RESERVED.length, 24);
        for (String word : Texts.RESERVED) {
            Texts.faultAtMark("number |" + word + ";", 3);
            String upper = Character.toUpperCase(word.charAt(0)) + word.substring(1);
            Texts.good("number " + upper + ";");
            Texts.good("number " + word.substring(1) + ";");
            Texts.good("number " + word.substring(0, word.length() - 1) + ";");
            if (word.length() < 8) {
                Texts.good("number " + word + "0, x" + word + ";");
            }
        }
        Texts.good("number text, item, block, exp, all, test, rel, sum, term, one, WORD, NUMBER, units1, true, wait, run;");
    }

    /** "A process may be started before it is told." */
    private static void startedBeforeTold() {
        EventHall hall = Due.hall("process p(n) { start q(n, 2) 3; start p12(); } process q(a, b) { say a * 10 + b; }"
                + Texts.numbered("process ", "p", 3, 12, "() { say me; }"));
        hall.start(0, 4, 0, 0, 0);
        hall.run(100);
        Due.isTrace(hall, 0, 2, 3, 42);
        Due.is("the definition of the first", hall.process(1, 0), 1);
        Due.is("the definition of the last", hall.process(2, 0), 11);
        Texts.good("process p() { " + "start q();".repeat(250) + " } process q() { }");
        Texts.faultAtMark("process p() { " + "start q();".repeat(249) + " start |r(); } process q() { }", 6);
    }
}
