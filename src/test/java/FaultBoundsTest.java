import java.util.List;

/** The bounds of the faults of load(), and of what load() leaves; each test bears the sentence of the document. */
public final class FaultBoundsTest {
    private static final int NO_VALUE = -2_000_000_000;
    // Of each sort one: resource r, store s, number n, process q, parameter a, let b.
    private static final String ALL_SORTS = "resource r 1; store s 0 1; number n; process q() { } process p(a) { let b = 1; ";

    private static final String SIGNS = "( ) { } , ; = + - * / % < > ! == != <= >= && ||";
    private static final String ITEMS = "resource store number process";
    private static final String STATEMENTS = "let if while hold seize free put get await start stop wake say end a b n";
    private static final String ONES = "- ! 1 now me draw units queue ( a b n";
    private static final String BEHIND_ONE = "|| && < > <= >= == != + - * / %";
    // A told WORD is tried just where it can come; wordsOfOtherSorts() and wordsToldTwice() try the others.
    private static final int NOT_TRIED = -1;

    private FaultBoundsTest() {
    }

    public static void main(String[] args) {
        textEndsTooEarly();
        theFirstFaultMet();
        tokensThatCanComeInItems();
        tokensThatCanComeInStatements();
        tokensThatCanComeInExpressions();
        wordsToldTwice();
        wordsToldInAProcess();
        parametersAndLetsHideNumbers();
        wordsOfOtherSorts();
        letsAboveTheirUse();
        drawInAwait();
        otherNumbersOfArguments();
        processesNeverTold();
        startsWhenAllElseIsGood();
        theLeastOfAWord();
        theLeastOfAStatement();
        theLeastOfAOne();
        theTextIsEmptyThen();
        aFaultReadsNothing();
        loadOfAFullHall();
        loadLeavesNoValues();
        loadLeavesNoWords();
        theFaultOfTheLastLoad();
        Due.close();
    }

    /** "at a token's first byte (the text's end, if it ends too early)": cut behind each token of a text. */
    private static void textEndsTooEarly() {
        String[] tokens = ("resource r 1 ; store s 0 1 ; number n , m ; process q ( ) { } process p ( a , b ) { let c = 1 ; n = ( 2 ) ;"
                + " if 1 { } if 1 { } else { end ; } while 0 { } hold - 1 ; seize r ; seize r ! 1 ; free r ; put s 1 ; get s 1 ; await a ;"
                + " start q ( ) ; start p ( 1 , 2 ) 3 ; stop me ; wake now ; say draw ( 3 ) + units r * queue s < 2 && 1 || 0 ; end ; }").split(" ");
        int depth = 0;
        StringBuilder text = new StringBuilder();
        for (String token : tokens) {
            text.append(token);
            depth += token.equals("{") ? 1 : token.equals("}") ? -1 : 0;
            boolean isItem = depth == 0 && (token.equals(";") || token.equals("}"));
            for (String behind : new String[] {"", " ", "\n\t\r ", "# remark", "#\n"}) {
                Texts.fault(text + behind, isItem ? 0 : 2, isItem ? EventHall.BAD : text.length() + behind.length());
            }
            text.append(' ');
        }
        Due.is("all blocks are closed", depth, 0);
        Texts.fault("number", 2, 6);
        Texts.fault("process p() { say 11111;", 2, 24);
        Texts.fault("process p() {       ", 2, 20);
    }

    /** "FAULTS of load(), the first one that reading meets" */
    private static void theFirstFaultMet() {
        Texts.faultAtMark("|; $", 2);
        Texts.faultAtMark("|$ ;", 1);
        Texts.faultAtMark("number a, |a; $", 3);
        Texts.faultAtMark("number a |$, a;", 1);
        Texts.faultAtMark("process p() { say |x; say 1 1; $", 4);
        Texts.faultAtMark("process p() { say 1 |1; say x; $", 2);
        Texts.faultAtMark("resource r |0; resource r 1; $", 5);
        Texts.faultAtMark("process p() { start p(1|); $", 6);
        Texts.faultAtMark("store s |10000 0;", 5);
        Texts.faultAtMark("store s 0 |0$", 5);
    }

    /**
     * Behind a text each token that can come leads to the text's end; another is fault 2, a WORD and a RESERVED one what is said:
     * the fault of a WORD that was never told, and that of a RESERVED one (0: it can come).
     */
    private static void canCome(String text, String allowed, int wordFault, int reservedFault) {
        for (String token : (SIGNS + " 1 zz a b n r s q p " + String.join(" ", Texts.RESERVED)).split(" ")) {
            String whole = text + " " + token + " ";
            boolean isAllowed = (" " + allowed + " ").contains(" " + token + " ");
            boolean isReserved = List.of(Texts.RESERVED).contains(token);
            int fault = !Texts.isLetter(token.charAt(0)) ? 2 : isReserved ? reservedFault : token.equals("zz") ? wordFault : NOT_TRIED;
            if (isAllowed || fault == 0) {
                EventHall hall = new EventHall();
                Due.feed(hall, whole);
                int got = hall.load();
                Due.isTrue(whole + " leads to the end", got == 0 || got == 2 && hall.state(12) == whole.length());
            } else if (fault != NOT_TRIED) {
                Texts.fault(whole, fault, text.length() + 1);
            }
        }
    }

    /** "2 a token that can't come": in items. */
    private static void tokensThatCanComeInItems() {
        canCome("", ITEMS, 2, 2);
        canCome("resource", "", 0, 3);
        canCome("resource w", "1", 2, 2);
        canCome("resource w 1", ";", 2, 2);
        canCome("resource w 1;", ITEMS, 2, 2);
        canCome("store", "", 0, 3);
        canCome("store w", "1", 2, 2);
        canCome("store w 1", "1", 2, 2);
        canCome("store w 1 1", ";", 2, 2);
        canCome("number", "", 0, 3);
        canCome("number w", ", ;", 2, 2);
        canCome("number w,", "", 0, 3);
        canCome("process", "", 0, 3);
        canCome("process w", "(", 2, 2);
        canCome("process w(", ")", 0, 3);
        canCome("process w(v", ", )", 2, 2);
        canCome("process w(v,", "", 0, 3);
        canCome("process w(v)", "{", 2, 2);
        canCome("process w()", "{", 2, 2);
        canCome("process w() {", "} let if while hold seize free put get await start stop wake say end", 4, 2);
        canCome("process w() { }", ITEMS, 2, 2);
    }

    /** "2 a token that can't come": in statements. */
    private static void tokensThatCanComeInStatements() {
        canCome(ALL_SORTS, "} " + STATEMENTS, 4, 2);
        canCome(ALL_SORTS + "let", "", 0, 3);
        canCome(ALL_SORTS + "let c", "=", 2, 2);
        canCome(ALL_SORTS + "a", "=", 2, 2);
        canCome(ALL_SORTS + "if 1 {", "} " + STATEMENTS, 4, 2);
        canCome(ALL_SORTS + "if 1 { }", "else } " + STATEMENTS, 4, 2);
        canCome(ALL_SORTS + "if 1 { } else", "{", 2, 2);
        canCome(ALL_SORTS + "if 1 { } else { }", "} " + STATEMENTS, 4, 2);
        canCome(ALL_SORTS + "while 1 { }", "} " + STATEMENTS, 4, 2);
        canCome(ALL_SORTS + "seize", "r", 4, 4);
        canCome(ALL_SORTS + "seize r", "; " + ONES, 4, 2);
        canCome(ALL_SORTS + "free", "r", 4, 4);
        canCome(ALL_SORTS + "free r", ";", 2, 2);
        canCome(ALL_SORTS + "put", "s", 4, 4);
        canCome(ALL_SORTS + "get", "s", 4, 4);
        canCome(ALL_SORTS + "start", "a b n r s q p", 0, 0);
        canCome(ALL_SORTS + "start q", "(", 2, 2);
        canCome(ALL_SORTS + "start q(", ") " + ONES, 4, 2);
        canCome(ALL_SORTS + "start p(1", ") , " + BEHIND_ONE, 2, 2);
        canCome(ALL_SORTS + "start p(1,", ONES, 4, 2);
        canCome(ALL_SORTS + "start q()", "; " + ONES, 4, 2);
        canCome(ALL_SORTS + "end", ";", 2, 2);
        canCome(ALL_SORTS + "end;", "} " + STATEMENTS, 4, 2);
        Texts.faultAtMark(ALL_SORTS + "start q |a = 1; }", 2);
        Texts.faultAtMark(ALL_SORTS + "free r |a = 1; }", 2);
        Texts.faultAtMark(ALL_SORTS + "end |a = 1; }", 2);
    }

    /** "2 a token that can't come": in expressions, wherever these stand. */
    private static void tokensThatCanComeInExpressions() {
        String[] before = {"let c =", "a =", "if", "while", "hold", "put s", "get s", "stop", "wake", "say", "seize r", "start q()"};
        for (String statement : before) {
            boolean hasBlock = statement.equals("if") || statement.equals("while");
            boolean mayEnd = statement.equals("seize r") || statement.equals("start q()");
            canCome(ALL_SORTS + statement, ONES + (mayEnd ? " ;" : ""), 4, 2);
            canCome(ALL_SORTS + statement + " 1", BEHIND_ONE + (hasBlock ? " {" : " ;"), 2, 2);
            canCome(ALL_SORTS + statement + " 1 <", ONES, 4, 2);
            canCome(ALL_SORTS + statement + " 1 < 1", "|| && + - * / %" + (hasBlock ? " {" : " ;"), 2, 2);
        }
        canCome(ALL_SORTS + "await", ONES.replace("draw ", ""), 4, NOT_TRIED);
        canCome(ALL_SORTS + "say (", ONES, 4, 2);
        canCome(ALL_SORTS + "say (1", ") " + BEHIND_ONE, 2, 2);
        canCome(ALL_SORTS + "say (1)", "; " + BEHIND_ONE, 2, 2);
        canCome(ALL_SORTS + "say draw", "(", 2, 2);
        canCome(ALL_SORTS + "say draw(", ONES, 4, 2);
        canCome(ALL_SORTS + "say draw(1", ") " + BEHIND_ONE, 2, 2);
        canCome(ALL_SORTS + "say units", "r s", 4, 4);
        canCome(ALL_SORTS + "say queue", "r s", 4, 4);
        for (String one : new String[] {"a", "now", "me", "units r", "queue s", "-1", "!1", "draw(1)", "1 + 1", "1 * 1", "1 - 1", "1 / 1", "1 % 1"}) {
            canCome(ALL_SORTS + "say " + one, "; " + BEHIND_ONE, 2, 2);
        }
        for (String sign : ("- ! 1+ 1- 1* 1/ 1% 1> 1<= 1>= 1== 1!= 1&& 1||").split(" ")) {
            canCome(ALL_SORTS + "say " + sign, ONES, 4, 2);
        }
        canCome(ALL_SORTS + "say 1 < 1 &&", ONES, 4, 2);
        canCome(ALL_SORTS + "say 1 < 1 && 1", "; " + BEHIND_ONE, 2, 2);
        canCome(ALL_SORTS + "say 1 < 1 || 1 < 1", "; || && + - * / %", 2, 2);
    }

    /** "3 a WORD that .. was told (where one is told: as resource, store, number or process ..)": each behind each. */
    private static void wordsToldTwice() {
        String[] before = {"resource ", "store ", "number ", "process "};
        String[] behind = {" 1; ", " 0 1; ", "; ", "() { } "};
        for (int first = 0; first < 4; first++) {
            for (int second = 0; second < 4; second++) {
                String told = before[first] + "w" + behind[first];
                Texts.faultAtMark(told + before[second] + "|w" + behind[second], 3);
                Texts.good(told + before[second] + "v" + behind[second]);
            }
            for (String word : Texts.RESERVED) {
                Texts.faultAtMark(before[first] + "|" + word + behind[first], 3);
            }
        }
    }

    /** "in a process, as parameter or let, too": and no longer than in it. */
    private static void wordsToldInAProcess() {
        for (String word : new String[] {"r", "s", "q", "p", "a", "b"}) {
            Texts.faultAtMark(ALL_SORTS + "let |" + word + " = 1; }", 3);
        }
        for (String word : new String[] {"r", "s", "q", "p"}) {
            Texts.faultAtMark("resource r 1; store s 0 1; process q() { } process p(|" + word + ") { }", 3);
            Texts.faultAtMark("resource r 1; store s 0 1; process q() { } process p(c, |" + word + ") { }", 3);
        }
        Texts.faultAtMark("process p(c, |c) { }", 3);
        Texts.faultAtMark("process p() { if 1 { let c = 1; } while 0 { let |c = 1; } }", 3);
        Texts.good(ALL_SORTS + "} resource a 1; store b 0 1;");
        Texts.good(ALL_SORTS + "} number a; process b() { }");
        Texts.good(ALL_SORTS + "} process u(b) { let a = 1; }");
    }

    /** "but these may hide numbers" */
    private static void parametersAndLetsHideNumbers() {
        Texts.good("number n, m; process p(n) { let m = 1; n = m; } process q() { m = n; }");
        Texts.faultAtMark("number n; process p(n, |n) { }", 3);
        Texts.faultAtMark("number n; process p(n) { let |n = 1; }", 3);
        Texts.faultAtMark("number n; process p() { let n = 1; let |n = 1; }", 3);
        EventHall hall = Due.hall("number n; process p(n) { n = 5; say n; } process q() { n = 6; let n = 7; n = 8; say n; } process u() { say n; }");
        for (int d = 0; d < 3; d++) {
            hall.start(d, 0, 0, 0, 0);
        }
        hall.run(100);
        Due.isTrace(hall, 0, 5, 0, 8, 0, 6);
    }

    private static void uses(String before, String behind, String sorts) {
        for (String word : new String[] {"r", "s", "n", "q", "p", "a", "b", "x"}) {
            boolean isGood = sorts.contains(word);
            if (isGood) {
                Texts.good(ALL_SORTS + before + word + behind + " }");
            } else {
                Texts.faultAtMark(ALL_SORTS + before + "|" + word + behind + " }", 4);
            }
        }
    }

    /** "4 a WORD that is none such (of 'seize', 'free' a resource; 'put', 'get' a store; 'units', 'queue' one of both; ..)" */
    private static void wordsOfOtherSorts() {
        uses("seize ", ";", "r");
        uses("seize ", " 1;", "r");
        uses("free ", ";", "r");
        uses("put ", " 1;", "s");
        uses("get ", " 1;", "s");
        uses("say units ", ";", "r s");
        uses("say queue ", ";", "r s");
        uses("say ", ";", "n a b");
        uses("", " = 1;", "n a b");
        uses("say 1 + (2 * -", ");", "n a b");
        uses("hold ", ";", "n a b");
        uses("await ", ";", "n a b");
        uses("if ", " { }", "n a b");
        uses("start q() ", ";", "n a b");
        uses("start p(", ");", "n a b");
        Texts.faultAtMark("process p() { seize |r; } resource r 1;", 4);
        Texts.faultAtMark("process p() { put |s 1; } store s 0 1;", 4);
        Texts.faultAtMark("process p() { say units |s; } store s 0 1;", 4);
        Texts.faultAtMark("process p() { |n = 1; } number n;", 4);
    }

    /** "as a value or before = a parameter, a let above it in its process, or a number" */
    private static void letsAboveTheirUse() {
        Texts.good("process p() { let c = 1; say c; }");
        Texts.faultAtMark("process p() { say |c; let c = 1; }", 4);
        Texts.faultAtMark("process p() { |c = 1; let c = 1; }", 4);
        Texts.faultAtMark("process p() { let c = |c; }", 4);
        Texts.faultAtMark("process p() { while |c { let c = 1; } }", 4);
        Texts.good("process p() { if 0 { let c = 1; } say c; }");
        Texts.good("process p() { if 0 { let c = 1; } else { c = 2; } }");
        Texts.faultAtMark("process p() { let c = 1; } process q() { say |c; }", 4);
        Texts.faultAtMark("process p(c) { } process q() { |c = 1; }", 4);
        EventHall hall = Due.hall("number n; process p() { n = 3; let n = n + 4; say n; }");
        hall.start(0, 0, 0, 0, 0);
        hall.run(9);
        Due.isTrace(hall, 0, 7);
    }

    /** "'draw' in 'await'" */
    private static void drawInAwait() {
        Texts.faultAtMark("process p() { await |draw(1); }", 4);
        Texts.faultAtMark("process p() { await 0 && |draw(1); }", 4);
        Texts.faultAtMark("process p() { await !-(1 + |draw(1)); }", 4);
        Texts.faultAtMark("process p() { await 1 == |draw", 4);
        Texts.good("process p() { await 1; hold draw(1); }");
        Texts.good("process p() { hold draw(1); await 1; while draw(1) { } }");
        Texts.faultAtMark("process p() { await |x; hold draw(1); }", 4);
    }

    /** "6 another number of arguments than parameters (the closing bracket)" */
    private static void otherNumbersOfArguments() {
        for (int parameters = 0; parameters <= 8; parameters++) {
            String told = "process p(" + list("a", parameters) + ") { } process q() { start p(";
            for (int arguments = 0; arguments <= 9; arguments++) {
                String given = told + list("", arguments);
                if (arguments == parameters) {
                    Texts.good(given + "); }");
                    Texts.good(given + ") 5; }");
                } else {
                    Texts.faultAtMark(given + "|); }", 6);
                    Texts.faultAtMark(given + "  |) $", 6);
                }
            }
        }
        Texts.good("process p(a) { start p(1); }");
        Texts.faultAtMark("process p(a) { start p(|); }", 6);
        Texts.faultAtMark("process p(a) { let b = 1; start p(1, 2|); }", 6);
    }

    private static String list(String letter, int count) {
        String all = Texts.numbered(", ", letter, 1, count, "");
        return count == 0 ? "" : all.substring(2);
    }

    /** "or a process that is never told or has another number of parameters, told later (its WORD ..; the first such one)" */
    private static void processesNeverTold() {
        for (int parameters = 0; parameters <= 8; parameters++) {
            for (int arguments = 0; arguments <= 9; arguments++) {
                String text = "process p() { start |q(" + list("", arguments) + "); } process q(" + list("a", parameters) + ") { }";
                if (arguments == parameters) {
                    Texts.good(text.replace("|", ""));
                } else {
                    Texts.faultAtMark(text, 6);
                }
            }
        }
        Texts.faultAtMark("process p() { start |q(); }", 6);
        Texts.faultAtMark("process p() { start u(); start |q(); start v(); } process u() { }", 6);
        Texts.faultAtMark("process p() { start |q(1); start v(); } process q() { }", 6);
        Texts.faultAtMark("process p() { start q(); start |q(1); start q(); } process q() { }", 6);
        Texts.faultAtMark("process p() { start |n(); } number n;", 6);
        Texts.faultAtMark("process p(a) { start |a(); }", 6);
        Texts.faultAtMark("resource r 1; process p() { start |r(); }", 6);
        Texts.good("process p(a) { start a(); } process a() { }");
    }

    /** "(its WORD, when all else is without fault; ..)" */
    private static void startsWhenAllElseIsGood() {
        String start = "process p() { start q(); } ";
        Texts.faultAtMark(start + "|$", 1);
        Texts.faultAtMark(start + "|;", 2);
        Texts.faultAtMark(start + "number |p;", 3);
        Texts.faultAtMark(start + "process u() { say |x; }", 4);
        Texts.faultAtMark(start + "resource r |0;", 5);
        Texts.faultAtMark(start + "process u() { start p(1|); }", 6);
        Texts.faultAtMark(start + "number|", 2);
        Texts.faultAtMark("process p() { start |q(); } number n;", 6);
    }

    /** "Of one token the least.": where a WORD is told. */
    private static void theLeastOfAWord() {
        String[] full = {Texts.numbered("resource ", "w", 1, 8, " 1; ") + "resource ", Texts.numbered("store ", "w", 1, 6, " 0 1; ") + "store ",
            Texts.numbered("number ", "w", 1, 16, "; ") + "number ", Texts.numbered("process ", "w", 1, 12, "() { } ") + "process ",
            "process p(w1" + Texts.numbered(", ", "w", 2, 8, "") + ", ", "process p(w1) { " + Texts.numbered("let ", "w", 2, 8, " = 1; ") + "let "};
        for (String text : full) {
            Texts.faultAtMark(text + "|neww", 5);
            Texts.faultAtMark(text + "|w1", 3);
            Texts.faultAtMark(text + "|hold", 3);
            Texts.faultAtMark(text + "|1", 2);
            Texts.faultAtMark(text + "|;", 2);
            Texts.faultAtMark(text + "|", 2);
            Texts.faultAtMark(text + "|$", 1);
            Texts.faultAtMark(text + "|newwnewww", 1);
        }
    }

    /** "Of one token the least.": where a statement begins that would be the 251st, and a block within 10 others. */
    private static void theLeastOfAStatement() {
        String full = "process p(a) { " + "end; ".repeat(250);
        Texts.faultAtMark(full + "|a = 1; }", 5);
        Texts.faultAtMark(full + "|x = 1; }", 4);
        Texts.faultAtMark(full + "|p = 1; }", 4);
        Texts.faultAtMark(full + "|else { } }", 2);
        Texts.faultAtMark(full + "|now", 2);
        Texts.faultAtMark(full + "|1", 2);
        Texts.faultAtMark(full + "|", 2);
        Texts.faultAtMark(full + "|$", 1);
        Texts.faultAtMark(full + "|abcdefghi", 1);
        Texts.good(full + "}");
        String deep = "process p(a) { " + "if 1 { ".repeat(9);
        Texts.faultAtMark(deep + "if 1 |{", 5);
        Texts.faultAtMark(deep + "if 1 |}", 2);
        Texts.faultAtMark(deep + "if 1 |", 2);
        Texts.faultAtMark(deep + "if 1 |$", 1);
    }

    /** "Of one token the least.": a one within 31 others. */
    private static void theLeastOfAOne() {
        for (String statement : new String[] {"say ", "await "}) {
            String deep = "resource r 1; process p(a) { " + statement + "(".repeat(31);
            Texts.faultAtMark(deep + "|a", 5);
            Texts.faultAtMark(deep + "|1", 5);
            Texts.faultAtMark(deep + "|(", 5);
            Texts.faultAtMark(deep + "|-", 5);
            Texts.faultAtMark(deep + "|units x", 5);
            Texts.faultAtMark(deep + "|x", 4);
            Texts.faultAtMark(deep + "|r", 4);
            Texts.faultAtMark(deep + "|draw", statement.equals("say ") ? 5 : 4);
            Texts.faultAtMark(deep + "|hold", 2);
            Texts.faultAtMark(deep + "|*", 2);
            Texts.faultAtMark(deep + "|", 2);
            Texts.faultAtMark(deep + "|$", 1);
            Texts.faultAtMark(deep + "|1234567890", 1);
        }
    }

    /** "The text, which is empty then, is read" */
    private static void theTextIsEmptyThen() {
        for (String text : new String[] {"number a; number b; ", "number a; number a; ", "$" + " ".repeat(3999), " ".repeat(4000)}) {
            EventHall hall = new EventHall();
            Due.feed(hall, text);
            hall.load();
            Due.is("end(20) behind load", hall.end(20), EventHall.BAD);
            Due.is("load of no text", hall.load(), 0);
            Due.is("no number", hall.number(0), NO_VALUE);
            Due.feed(hall, "number c; number d; ");
            Due.is("twenty are there", hall.end(20), 20);
            Due.is("load", hall.load(), 0);
            Due.is("the second number", hall.number(1), 0);
            Due.is("no third one", hall.number(2), NO_VALUE);
        }
    }

    /** "0, or its fault (nothing is read then)": also if something was read before. */
    private static void aFaultReadsNothing() {
        String[] texts = {"$", ";", "number a, a;", "process p() { say x; }", "resource r 0;", "process p() { start q(); }"};
        for (int fault = 1; fault <= 6; fault++) {
            EventHall hall = Due.hall("number a; resource r 1; process p() { say 1; say 2; }");
            hall.start(0, 0, 0, 0, 0);
            hall.run(1);
            Due.is("amid", hall.state(10), 0);
            Due.feed(hall, texts[fault - 1]);
            Due.is("load of " + texts[fault - 1], hall.load(), fault);
            for (int what = 0; what <= 10; what++) {
                Due.is("state(" + what + ")", hall.state(what), EventHall.BAD);
            }
            Due.is("start", hall.start(0, 0, 0, 0, 0), EventHall.BAD);
            Due.is("run", hall.run(1), EventHall.BAD);
            Due.is("turn", hall.turn(1), EventHall.BAD);
            Due.is("number", hall.number(0), NO_VALUE);
            Due.is("process", hall.process(0, 0), NO_VALUE);
            Due.is("place", hall.place(0, 0), -2);
            Due.is("sum", hall.sum(0, 0), EventHall.BAD);
            Due.is("trace", hall.trace(0, 0), NO_VALUE);
            Due.is("seed is told still", hall.seed(3), 1);
        }
    }

    /** "The TIME is 0, all numbers are 0, there are no processes, the TRACE is empty, all sums are 0.": behind the utmost. */
    private static void loadOfAFullHall() {
        String text = "number n; resource r 1; store s 1 1;"
                + " process main() { let k = 150; while k > 1 { start p(); start q(); k = k - 1; } start q(); start q(); }"
                + " process p() { n = n - 1; say n; say n; say n; say n; say n; say n; say n; seize r; hold 999999999; hold 1; }"
                + " process q() { put s 1; }";
        EventHall hall = Due.hall(text);
        for (int round = 0; round < 3; round++) {
            Due.isTrue("as new", hall.state(0) == 0 && hall.number(0) == 0 && hall.state(3) == 0 && hall.state(8) == 0);
            for (int what = 0; what < 3; what++) {
                Due.is("sum(0, " + what + ")", hall.sum(0, what), 0);
                Due.is("sum(1, " + what + ")", hall.sum(1, what), 0);
            }
            Due.is("first line", hall.trace(0, 0), NO_VALUE);
            Due.is("first process", hall.process(0, 0), NO_VALUE);
            hall.start(0, 0, 0, 0, 0);
            hall.run(20_000);
            Due.is("processes", hall.state(3), 300);
            Due.is("the 301st", hall.process(0, 5), 5);
            Due.is("TIME", hall.state(0), 1_000_000_000);
            Due.is("number", hall.number(0), -149);
            Due.is("lines", hall.state(8), 1043);
            Due.is("the last line that is kept", hall.trace(999, 1), -143);
            Due.is("those that waited for r", hall.place(0, 5), 148);
            Due.is("units of r over TIME", hall.sum(0, 0), 1_000_000_000L);
            Due.is("those that wait for s", hall.place(1, 1), 150);
            Due.is("waiting for s", hall.sum(1, 1), 150_000_000_000L);
            Due.feed(hall, text);
            hall.load();
        }
    }

    /** "there are no processes": those of the next text have nothing of what the last ones had. */
    private static void loadLeavesNoValues() {
        String text = "resource r 9; process p() { let a = 7; start q(); seize r; hold 1; } process q() { let b = 8; seize r; hold 1; say 1 / 0; }";
        EventHall hall = Due.hall(text);
        for (int round = 0; round < 3; round++) {
            hall.start(0, 5, 5, 5, 5);
            hall.run(2);
            Due.is("the let of p", hall.process(0, 10), 7);
            Due.is("the let of q, not yet told", hall.process(1, 10), 0);
            Due.isProcess(hall, 0, 7, EventHall.NONE, EventHall.NONE, 0, 0, EventHall.NONE);
            Due.isProcess(hall, 1, 0, 0, EventHall.NONE, 0, 0, 0);
            hall.turn(9);
            hall.turn(round == 0 ? 1 : 9);
            Due.feed(hall, text);
            hall.load();
        }
    }

    /** "4 a WORD that is none such", "a process that is never told": what an earlier text told is told no more. */
    private static void loadLeavesNoWords() {
        String[] before = {"resource ", "store ", "number ", "process "};
        String[] behind = {" 1; ", " 0 1; ", "; ", "() { } "};
        String[] uses = {"seize ", "put ", "say ", "start "};
        String[] rest = {"; }", " 1; }", "; }", "(); }"};
        for (int sort = 0; sort < 4; sort++) {
            for (int k = 1; k <= 6; k++) {
                EventHall hall = Due.hall(Texts.numbered(before[sort], "w", 1, 6, behind[sort]));
                String text = "process p() { " + uses[sort] + "w" + k + rest[sort];
                Due.feed(hall, text);
                Due.is("load of " + text, hall.load(), sort == 3 ? 6 : 4);
                Due.is("its place", hall.state(12), text.indexOf("w" + k));
                String told = before[sort] + "w" + k + behind[sort];
                Due.feed(hall, told);
                Due.is("load of " + told, hall.load(), 0);
            }
        }
    }

    /** "11 the fault of the last load(), 12 its place (BAD without)." */
    private static void theFaultOfTheLastLoad() {
        EventHall hall = new EventHall();
        String[] texts = {"$", "number a;", " ;", "", "number b, b;"};
        int[] faults = {1, 0, 2, 0, 3};
        int[] places = {0, EventHall.BAD, 1, EventHall.BAD, 10};
        for (int i = 0; i < texts.length; i++) {
            Due.feed(hall, texts[i]);
            Due.is("fed, not loaded: fault", hall.state(11), i == 0 ? 0 : faults[i - 1]);
            Due.is("fed, not loaded: place", hall.state(12), i == 0 ? EventHall.BAD : places[i - 1]);
            hall.load();
            Due.is("fault", hall.state(11), faults[i]);
            Due.is("place", hall.state(12), places[i]);
        }
    }
}
