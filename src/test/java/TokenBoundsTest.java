/** The bounds of blanks and tokens; each test bears the sentence of the document. */
public final class TokenBoundsTest {
    private TokenBoundsTest() {
    }

    public static void main(String[] args) {
        blanks();
        remarks();
        remarksUpToTheEnd();
        lengthsOfWords();
        bytesThatBeginAWord();
        bytesWithinAWord();
        wordsDifferInEachByte();
        lengthsOfNumbers();
        bytesBehindANumber();
        lettersBehindANumber();
        signs();
        signsTakeWhatTheyCan();
        loneSigns();
        bytesThatBeginNoToken();
        Due.close();
    }

    /** "BLANKS are 9, 10, 13, 32 .. they part tokens, and are left out." */
    private static void blanks() {
        for (char b = 0; b < 256; b++) {
            String text = "number" + b + "a;";
            if (Texts.isBlank(b)) {
                Texts.good(text);
                Texts.good(b + "number" + b + b + "a" + b + ";" + b);
                Texts.good(String.valueOf(b));
            } else if (b == '#') {
                Texts.fault(text, 2, text.length());
            } else if (Texts.isLetter(b) || Texts.isDigit(b)) {
                Texts.fault(text, 2, 0);
            } else {
                Texts.fault(text, Texts.isSign(b) ? 2 : 1, 6);
            }
        }
    }

    /** "and all from # to the next 10 (or the text's end)": any byte but 10 stays within. */
    private static void remarks() {
        for (char b = 0; b < 256; b++) {
            Texts.good("#" + b + "\nnumber a;");
            String text = "number a;#" + b + "$\n";
            Texts.fault(text, b == 10 ? 1 : 0, b == 10 ? 11 : EventHall.BAD);
        }
        Texts.good("#\nnumber a;");
        Texts.good("##\n#\n\n#\nnumber#\na#;\n;");
        Texts.faultAtMark("#\n|$", 1);
        Texts.faultAtMark("# # #\n|$", 1);
        Texts.faultAtMark("number#\n|number;", 3);
        Due.is("a remark parts tokens", Due.hall("number a#\n,b;").number(1), 0);
        Texts.faultAtMark("number a#\n|b;", 2);
    }

    /** "all from # to the next 10 (or the text's end)" */
    private static void remarksUpToTheEnd() {
        Texts.good("#");
        Texts.good("number a;#");
        Texts.good("number a;# $");
        Texts.good("number a;#" + "$".repeat(3990));
        Texts.fault("number a#;", 2, 10);
        Texts.fault("number a#\n", 2, 10);
        Texts.fault("number#" + "$".repeat(13), 2, 20);
    }

    /** "a WORD: a letter, and letters and digits, at most 8" and "a WORD or NUMBER that is too long" */
    private static void lengthsOfWords() {
        for (int length = 1; length <= 8; length++) {
            Texts.good("number " + "w".repeat(length) + ";");
            Texts.good("number w" + "7".repeat(length - 1) + ";");
        }
        for (int length : new int[] {9, 10, 16, 17, 3992}) {
            Texts.faultAtMark("number |" + "w".repeat(length) + ";", 1);
            Texts.faultAtMark("number |w" + "7".repeat(length - 1) + ";", 1);
        }
        Texts.faultAtMark("|" + "w".repeat(4000), 1);
        Texts.fault("wwwwwwww", 2, 0);
        Texts.good("number abcdefgh; process p() { abcdefgh = abcdefgh; }");
        Texts.faultAtMark("number abcdefgh; process p() { |abcdefghi = 1; }", 1);
        Texts.faultAtMark("number abcdefgh; process p() { say |abcdefgh9; }", 1);
        Texts.faultAtMark("|resources r 1;", 1);
        Texts.faultAtMark("process p() { |processes; }", 1);
    }

    /** "a WORD: a letter, .." */
    private static void bytesThatBeginAWord() {
        for (char b = 0; b < 256; b++) {
            String text = "number " + b + " ;";
            if (Texts.isLetter(b)) {
                Texts.good(text);
            } else if (b == '#') {
                Texts.fault(text, 2, text.length());
            } else if (Texts.isBlank(b)) {
                Texts.fault(text, 2, 9);
            } else {
                Texts.fault(text, Texts.isSign(b) || Texts.isDigit(b) ? 2 : 1, 7);
            }
        }
    }

    /** "a WORD: a letter, and letters and digits, .." */
    private static void bytesWithinAWord() {
        for (char b = 0; b < 256; b++) {
            String text = "number a" + b + "a;";
            if (Texts.isLetter(b) || Texts.isDigit(b)) {
                Texts.good(text);
            } else if (b == '#') {
                Texts.fault(text, 2, text.length());
            } else if (Texts.isBlank(b)) {
                Texts.fault(text, 2, 9);
            } else if (b == ',') {
                Texts.fault(text, 3, 9);
            } else if (b == ';') {
                Texts.fault(text, 2, 9);
            } else {
                Texts.fault(text, Texts.isSign(b) ? 2 : 1, 8);
            }
        }
    }

    /** "TOKENS take as many bytes as they can": all eight bytes of a WORD count. */
    private static void wordsDifferInEachByte() {
        for (int place = 0; place < 8; place++) {
            StringBuilder other = new StringBuilder("wwwwwwww");
            other.setCharAt(place, 'v');
            Texts.good("number wwwwwwww, " + other + ";");
            other.setCharAt(place, 'W');
            Texts.good("number wwwwwwww, " + other + ";");
            Texts.good("number wwwwwwww, " + "w".repeat(place) + "v;");
        }
        Texts.good("number w, ww, www, wwww, wwwww, wwwwww, wwwwwww, wwwwwwww;");
        Texts.faultAtMark("number wwwwwwww, |wwwwwwww;", 3);
        Texts.faultAtMark("number w, |w;", 3);
    }

    /** "a NUMBER: 1 to 9 digits" and "a WORD or NUMBER that is too long" */
    private static void lengthsOfNumbers() {
        for (int length = 1; length <= 9; length++) {
            int nines = Integer.parseInt("9".repeat(length));
            EventHall hall = Due.hall("process p() { say " + "9".repeat(length) + "; say " + "0".repeat(length - 1) + "7; }");
            hall.start(0, 0, 0, 0, 0);
            hall.run(2);
            Due.isTrace(hall, 0, nines, 0, 7);
        }
        for (int length : new int[] {10, 11, 19, 20, 3900}) {
            Texts.faultAtMark("process p() { say |" + "9".repeat(length) + "; }", 1);
            Texts.faultAtMark("process p() { say |" + "0".repeat(length - 1) + "7; }", 1);
            Texts.faultAtMark("resource r |" + "0".repeat(length - 1) + "7;", 1);
        }
        Texts.good("resource r 000000099;");
        Texts.faultAtMark("resource r |0000000099;", 1);
        Texts.faultAtMark("|" + "1".repeat(4000), 1);
    }

    /** "a letter right behind a NUMBER (there)": of all bytes letters alone. */
    private static void bytesBehindANumber() {
        for (char b = 0; b < 256; b++) {
            String text = "resource r 9" + b + ";";
            if (Texts.isBlank(b) || Texts.isDigit(b)) {
                Texts.good(text);
            } else if (b == '#') {
                Texts.fault(text, 2, text.length());
            } else if (b == ';') {
                Texts.fault(text, 2, 13);
            } else {
                Texts.fault(text, Texts.isSign(b) ? 2 : 1, 12);
            }
        }
    }

    /** "a letter right behind a NUMBER (there)" */
    private static void lettersBehindANumber() {
        for (int length = 1; length <= 9; length++) {
            Texts.faultAtMark("process p() { say " + "1".repeat(length) + "|x; }", 1);
        }
        Texts.faultAtMark("process p() { say |1111111111x; }", 1);
        Texts.faultAtMark("process p() { say 1 |x; }", 2);
        Texts.faultAtMark("process p() { say 1#\n|x; }", 2);
        Texts.faultAtMark("process p() { say 1|abcdefghi; }", 1);
        Texts.faultAtMark("process p() { if 1|else { } }", 1);
        Texts.faultAtMark("resource r 1|x", 1);
        Texts.faultAtMark("|1x", 2);
        Texts.good("number a1; process p() { a1 = 1; }");
    }

    private static void worth(String expression, int want) {
        EventHall hall = Due.hall("process p(){say " + expression + ";}");
        hall.start(0, 0, 0, 0, 0);
        hall.run(1);
        Due.is(expression, hall.trace(0, 1), want);
    }

    /** "a sign: ( ) { } , ; = + - * / % < > & | ! or == != <= >= && ||" */
    private static void signs() {
        worth("(7+2)*3-8/2%3", 26);
        worth("1<2", 1);
        worth("1>2", 0);
        worth("2<=2", 1);
        worth("1>=2", 0);
        worth("2==2", 1);
        worth("2!=2", 0);
        worth("0||3", 1);
        worth("0&&3", 0);
        worth("!3", 0);
        Texts.good("number a,b;process p(c,d){a=1;if c{b=2;}else{d=3;}}");
    }

    /** "TOKENS take as many bytes as they can" */
    private static void signsTakeWhatTheyCan() {
        worth("1<=-1", 0);
        worth("1!=!1", 1);
        worth("!!1", 1);
        worth("1==!0", 1);
        worth("1&&!0||0", 1);
        worth("1--1", 2);
        Texts.faultAtMark("process p(){say 1==|=1;}", 2);
        Texts.faultAtMark("process p(){say 1<=|=1;}", 2);
        Texts.faultAtMark("process p(){say 1>=|=1;}", 2);
        Texts.faultAtMark("process p(){say 1!=|=1;}", 2);
        Texts.faultAtMark("process p(){say 1<|<1;}", 2);
        Texts.faultAtMark("process p(){say 1>|>1;}", 2);
        Texts.faultAtMark("process p(){say 1<|>1;}", 2);
        Texts.faultAtMark("process p(){say 1|=<1;}", 2);
        Texts.faultAtMark("process p(){say 1< |=1;}", 2);
        Texts.faultAtMark("process p(){say 1> |=1;}", 2);
        Texts.faultAtMark("process p(){say 1|= =1;}", 2);
        Texts.faultAtMark("process p(){say 1|! =1;}", 2);
        Texts.faultAtMark("process p(){say 1|!1;}", 2);
        Texts.faultAtMark("number a;process p(){a|==1;}", 2);
        Texts.faultAtMark("number a;process p(){a= |=1;}", 2);
        Texts.good("number a;process p(){a=!1;a=-1;}");
    }

    /** "(a lone & or | is none)" */
    private static void loneSigns() {
        for (String sign : new String[] {"&", "|"}) {
            String before = "process p(){say 1";
            Texts.good(before + sign + sign + "1;}");
            Texts.fault(before + sign + "1;}", 1, 17);
            Texts.fault(before + sign + " " + sign + "1;}", 1, 17);
            Texts.fault(before + sign, 1, 17);
            Texts.fault(before + sign + sign, 2, 19);
            Texts.fault(before + sign + sign + sign + "1;}", 1, 19);
            Texts.fault(before + sign + sign + sign + sign + "1;}", 2, 19);
            Texts.fault(before + sign + "=1;}", 1, 17);
            Texts.fault(sign, 1, 0);
            Texts.fault(sign + sign, 2, 0);
        }
        Texts.fault("process p(){say 1&|1;}", 1, 17);
        Texts.fault("process p(){say 1|&1;}", 1, 17);
    }

    /** "1 a byte that begins no token" */
    private static void bytesThatBeginNoToken() {
        for (char b = 0; b < 256; b++) {
            boolean begins = Texts.isLetter(b) || Texts.isDigit(b) || Texts.isSign(b);
            if (!Texts.isBlank(b) && b != '#') {
                Texts.fault(String.valueOf(b), begins ? 2 : 1, 0);
                Texts.fault("number a;" + b, begins ? 2 : 1, 9);
            }
        }
    }
}
