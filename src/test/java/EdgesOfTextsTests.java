/** The edges of the TEXTS, of what their lines answer, and of what FAILS: section 2, promises 9, 10, 11 and 13. */
public final class EdgesOfTextsTests extends Edge {
    private static final String[] LAW_WORDS = {"weak", "age", "sort", "beside", "place", "size", "load", "day", "mid"};
    private static final String[] RULE_WORDS = {"gone", "age", "sort", "beside", "place", "size", "day", "phase", "since"};
    private static final String[] ALL_WORDS = {"go", "change", "when", "and", "or", "not", "weak", "age", "sort", "beside", "place",
        "size", "load", "day", "mid", "gone", "phase", "since", "side", "any", "in", "shape", "there", "all"};

    public static void main(String[] args) {
        if (run() != 0) {
            System.exit(1);
        }
    }

    static int run() {
        tape();
        tokens();
        keywords();
        cutShort();
        faultsOne();
        faultsTwo();
        faultsThree();
        firstFault();
        numbers();
        names();
        goes();
        urge();
        truths();
        failsCall();
        side();
        any();
        shape();
        return wrongAnswers();
    }

    private static void tape() {
        edge("2: {..}: no line at all", () -> {
            for (int k = 0; k <= 3; k++) {
                lines(k, "", 0);
                lines(k, " ", 0);
                lines(k, "\n \n", 0);
                lines(k, many(" ", 500), 0);
            }
        });
        edge("Promise 9: an empty TEXT takes the place of one with lines", () -> {
            NoTwoTogether x = allTold();
            for (int k = 0; k <= 3; k++) {
                due("text(" + k + ")", x.text(k), 0);
            }
            due("GOES", x.of(0, 5), 0);
            due("URGE by RULE 1", x.of(0, 7), 0);
            due("URGE by RULE 2", x.of(0, 8), 0);
            due("FAILS", x.fails(255, 0), 0);
        });
        edge("Promise 9: a TEXT of fewer lines takes the place of one of more: none of these is left", () -> {
            NoTwoTogether x = new NoTwoTogether();
            for (int k = 0; k <= 2; k++) {
                String word = k == 0 ? "go " : "change ";
                good(x, k, word + "5 when 1=2;" + word + "6 when 1=1;" + word + "7;");
                good(x, k, word + "5 when 1=2;");
            }
            good(x, 3, "side 8;side 1;side 2;");
            good(x, 3, "side 8;");
            due("GOES", x.of(0, 5), 0);
            due("URGE by RULE 1", x.of(0, 7), 0);
            due("URGE by RULE 2", x.of(0, 8), 0);
            due("FAILS", x.fails(3, 0), 0);
        });
        edge("Promise 9: the TAPE is empty in each case: a TEXT", () -> {
            for (int k = 0; k <= 3; k++) {
                NoTwoTogether x = new NoTwoTogether();
                write(x, "   ");
                due("text(" + k + ")", x.text(k), 0);
                due("end(1)", x.end(1), false);
                due("feed", x.feed(0, 0, 0, 0, 0), 20);
            }
        });
        edge("Promise 9: the TAPE is empty in each case: a FAULT", () -> {
            for (int k = 0; k <= 3; k++) {
                NoTwoTogether x = new NoTwoTogether();
                write(x, ";");
                due("text(" + k + ")", x.text(k), -1);
                due("end(1)", x.end(1), false);
                due("feed", x.feed(0, 0, 0, 0, 0), 20);
            }
        });
        edge("Promise 9: the TAPE is empty in each case: no such one", () -> {
            for (int k : new int[] {-1, 4, LEAST, MOST}) {
                NoTwoTogether x = new NoTwoTogether();
                write(x, "go 1;");
                due("text(" + k + ")", x.text(k), -1);
                due("end(1)", x.end(1), false);
                due("feed", x.feed(0, 0, 0, 0, 0), 20);
            }
        });
        edge("Promise 9: NONE: no such one (fault() tells 0), all TEXTS stay", () -> {
            for (int k : new int[] {-1, 4, LEAST, MOST}) {
                NoTwoTogether x = allTold();
                due("a FAULT ahead", tell(x, 0, "go 1/0;"), -1);
                due("text(" + k + ")", tell(x, k, "go 1/0;"), -1);
                due("fault(0)", x.fault(0), 0);
                due("fault(1)", x.fault(1), -1);
                allStay(x);
            }
        });
        edge("Promise 9: a FAULT: the TEXT stays as it was, the others too", () -> {
            for (int k = 0; k <= 3; k++) {
                NoTwoTogether x = allTold();
                String good = k == 0 ? "go 9;" : k == 3 ? "side 1;" : "change 9;";
                due("a fault behind a good line", tell(x, k, good + ";"), -1);
                due("a fault 2", tell(x, k, k == 3 ? good + "side 0;" : good + good.replace(";", "/0;")), -1);
                due("a fault 3", tell(x, k, many(good, 17)), -1);
                due("fault(0)", x.fault(0), 3);
                due("a line without its end", tell(x, k, good.replace(";", "")), -1);
                allStay(x);
            }
        });
        edge("Promise 9: how many lines: 1, 16 of THE LAW and of a RULE, 8 of WHAT FAILS", () -> {
            lines(0, "go 1;", 1);
            lines(0, many("go 1;", 16), 16);
            for (int k = 1; k <= 2; k++) {
                lines(k, "change 1;", 1);
                lines(k, many("change 1;", 16), 16);
            }
            lines(3, "side 1;", 1);
            lines(3, many("side 1;", 8), 8);
        });
        edge("Promise 7, 9: a TEXT of 500 bytes", () -> {
            NoTwoTogether x = new NoTwoTogether();
            due("lines", tell(x, 0, many(" ", 494) + "go 77;"), 1);
            due("GOES", x.of(0, 5), 77);
            due("lines", tell(x, 0, "go7when" + many("1+", 244) + "1>1 ;"), 1);
            due("GOES", x.of(0, 5), 7);
            due("lines", tell(x, 0, "go 8" + many(" ", 495) + ";"), 1);
            due("GOES", x.of(0, 5), 8);
        });
        edge("Promise 9: a FAULT at the 500th byte", () -> {
            faulty(0, many(" ", 499) + ";", 1, 499);
            faulty(3, many(" ", 499) + ";", 1, 499);
            faulty(0, many(";", 500), 1, 0);
            faulty(0, "go 1" + many("+1", 248), 1, 500);
            faulty(0, "go 1/" + many("0", 4) + many("/", 491), 2, 5);
            faulty(0, "go 1" + many(" ", 496), 1, 500);
        });
    }

    /** Each TEXT has a line that tells it from an empty one. */
    private static NoTwoTogether allTold() {
        NoTwoTogether x = bridge(8, "go 5;", "side 8;");
        good(x, 1, "change 6;");
        good(x, 2, "change 7;");
        return x;
    }

    private static void allStay(NoTwoTogether x) {
        due("GOES", x.of(0, 5), 5);
        due("URGE by RULE 1", x.of(0, 7), 6);
        due("URGE by RULE 2", x.of(0, 8), 7);
        due("eight side by side", x.fails(255, 0), 1);
        due("seven", x.fails(127, 0), 0);
    }

    private static void tokens() {
        edge("2: Blanks (32, 10) between, and no other sign is one", () -> {
            for (int c = 0; c < 256; c++) {
                boolean isGood = c == 32 || c == 10 || isDigit(c);
                between("go", c, "5;", 0, isGood, isLetter(c) ? 0 : 2);
                between("side", c, "5;", 3, c == 32 || c == 10 || c == '0', isLetter(c) ? 0 : 4);
            }
        });
        edge("2: digits as many as stand together, and no other sign is one", () -> {
            for (int c = 0; c < 256; c++) {
                boolean isGood = c == 32 || c == 10 || isDigit(c);
                boolean isHalf = c == '+' || c == '-' || c == '*' || c == '/' || c == ';';
                between("go 5", c, ";", 0, isGood, isHalf ? 5 : 4);
            }
        });
        edge("2: letters (capitals, too) as many as stand together", () -> {
            for (int c = 0; c < 256; c++) {
                boolean isHalf = c == '+' || c == '-' || c == '*' || c == '/' || c == ';';
                between("go age", c, ";", 0, c == 32 || c == 10, isLetter(c) ? 3 : isHalf ? 7 : 6);
            }
            faulty(0, "Go 1;", 1, 0);
            faulty(0, "gO 1;", 1, 0);
            faulty(0, "GO 1;", 1, 0);
            faulty(0, "go Age;", 1, 3);
            faulty(0, "go agE;", 1, 3);
            faulty(0, "gogo 1;", 1, 0);
            faulty(0, "g o 1;", 1, 0);
            faulty(0, "go ageage;", 1, 3);
        });
        edge("2: no blank is asked for where a word, a number and a sign stand together", () -> {
            lines(0, "go1when1=1;go2;", 2);
            lines(0, "go age*2when not(age<1)or 1>2and 3=3;", 1);
            lines(3, "any2in3;side2;shape gone;", 3);
        });
        edge("2: blanks ahead of the first, behind the last, many between", () -> {
            lines(0, "  \n go \n\n 1  when\n1 = 1 ; \n ", 1);
            lines(3, "\nany\n2\nin\n3\n;\n", 1);
        });
        edge("2: a blank parts a word and a number", () -> {
            faulty(0, "go 1 2;", 1, 5);
            faulty(0, "go 1 when 1=1 2;", 1, 14);
            faulty(3, "side 1 2;", 1, 7);
            faulty(3, "shape go ne;", 1, 6);
        });
        edge("2: NUMBERS of 1 to 4 digits", () -> {
            urgeOf("9", 9);
            urgeOf("99", 99);
            urgeOf("999", 999);
            urgeOf("9999", 9999);
            urgeOf("0", 0);
            urgeOf("0000", 0);
            urgeOf("0007", 7);
            lines(3, "side 0008;", 1);
            lines(3, "any 0001 in 0008;", 1);
        });
        edge("2: digits that are none: five and more", () -> {
            faulty(0, "go 10000;", 1, 3);
            faulty(0, "go 00001;", 1, 3);
            faulty(0, "go 00000;", 1, 3);
            faulty(0, "go 1/00000;", 1, 5);
            faulty(0, "go 1/10000;", 1, 5);
            faulty(0, "go " + many("1", 497), 1, 3);
            faulty(3, "side 00002;", 1, 5);
            faulty(3, "any 00002 in 3;", 1, 4);
            faulty(3, "any 2 in 00003;", 1, 9);
        });
    }

    private static void between(String ahead, int c, String behind, int k, boolean isGood, int place) {
        NoTwoTogether x = new NoTwoTogether();
        String text = ahead + (char) c + behind;
        if (isGood) {
            due("text of <" + ahead + "> sign " + c + " <" + behind + ">", tell(x, k, text), 1);
        } else {
            due("text of <" + ahead + "> sign " + c + " <" + behind + ">", tell(x, k, text), -1);
            due("its fault(1)", x.fault(1), place);
        }
    }

    private static boolean isLetter(int c) {
        return c >= 65 && c <= 90 || c >= 97 && c <= 122;
    }

    private static boolean isDigit(int c) {
        return c >= 48 && c <= 57;
    }

    private static boolean isOne(String[] words, String word) {
        for (String w : words) {
            if (w.equals(word)) {
                return true;
            }
        }
        return false;
    }

    private static void keywords() {
        edge("2: U of THE LAW: its KEYWORDS and no other", () -> {
            for (String word : ALL_WORDS) {
                unit(0, "go ", word, isOne(LAW_WORDS, word));
            }
        });
        edge("2: U of RULES: their KEYWORDS and no other", () -> {
            for (String word : ALL_WORDS) {
                unit(1, "change ", word, isOne(RULE_WORDS, word));
                unit(2, "change ", word, isOne(RULE_WORDS, word));
            }
        });
        edge("2: S = gone | there | all and no other", () -> {
            for (String word : ALL_WORDS) {
                unit(3, "shape ", word, word.equals("gone") || word.equals("there") || word.equals("all"));
            }
        });
        edge("2: a line of THE LAW begins with go and no other", () -> {
            for (String word : ALL_WORDS) {
                unit(0, "", word + " 1", word.equals("go"));
            }
        });
        edge("2: a line of RULES begins with change and no other", () -> {
            for (String word : ALL_WORDS) {
                unit(1, "", word + " 1", word.equals("change"));
                unit(2, "", word + " 1", word.equals("change"));
            }
        });
        edge("2: a line of WHAT FAILS begins with side, any or shape and no other", () -> {
            for (String word : ALL_WORDS) {
                boolean isFirst = word.equals("side") || word.equals("any") || word.equals("shape");
                String rest = word.equals("any") ? " 1 in 1" : word.equals("shape") ? " all" : " 1";
                unit(3, "", word + rest, isFirst);
            }
        });
    }

    private static void unit(int k, String ahead, String word, boolean isGood) {
        if (isGood) {
            lines(k, ahead + word + ";", 1);
        } else {
            faulty(k, ahead + word + ";", 1, ahead.length());
        }
    }

    /** The place of the fault of each beginning of a text: its end, or the word that is not whole. */
    private static void beginnings(int k, String text, int... places) {
        due("places of <" + text + ">", places.length, text.length());
        for (int n = 1; n < text.length(); n++) {
            faulty(k, text.substring(0, n), 1, places[n]);
        }
        lines(k, "", 0);
        lines(k, text, 1);
    }

    private static void cutShort() {
        edge("2: fault 1 at the end: the text's length: THE LAW", () -> beginnings(0, "go weak when not(age<1)and 2=2;",
            0, 0, 2, 3, 3, 3, 3, 7, 8, 8, 8, 8, 12, 13, 13, 13, 16, 17, 17, 17, 20, 21, 22, 23, 23, 23, 26, 27, 28, 29, 30));
        edge("2: fault 1 at the end: the text's length: a RULE", () -> {
            for (int k = 1; k <= 2; k++) {
                beginnings(k, "change 7*age/2 when gone=1 or 2>1;",
                    0, 0, 0, 0, 0, 0, 6, 7, 8, 9, 9, 9, 12, 13, 14, 15, 15, 15, 15, 19, 20, 20, 20, 20, 24, 25, 26, 27, 27, 29, 30, 31,
                    32, 33);
            }
        });
        edge("2: fault 1 at the end: the text's length: WHAT FAILS", () -> {
            beginnings(3, "any 2 in 3;", 0, 0, 0, 3, 4, 5, 6, 6, 8, 9, 10);
            beginnings(3, "side 4;", 0, 0, 0, 0, 4, 5, 6);
            beginnings(3, "shape gone all;", 0, 0, 0, 0, 0, 5, 6, 6, 6, 6, 10, 11, 11, 11, 14);
        });
        edge("2: fault 1 at the end: blanks behind count", () -> {
            faulty(0, "go ", 1, 3);
            faulty(0, "go 1\n\n", 1, 6);
            faulty(1, "change 1 when   ", 1, 16);
            faulty(3, "side  ", 1, 6);
            faulty(3, "shape gone ", 1, 11);
        });
    }

    private static void faultsOne() {
        edge("2: THE LAW = {go E [when B] ;}: what can't stand there", () -> {
            faulty(0, ";", 1, 0);
            faulty(0, "1;", 1, 0);
            faulty(0, "go;", 1, 2);
            faulty(0, "go go 1;", 1, 3);
            faulty(0, "go 1 go 2;", 1, 5);
            faulty(0, "go 1;;", 1, 5);
            faulty(0, "go when 1=1;", 1, 3);
            faulty(0, "go 1 when;", 1, 9);
            faulty(0, "go 1 when 1=1 when 1=1;", 1, 14);
            faulty(0, "go 1 1=1;", 1, 5);
        });
        edge("2: E = T {(+ | -) T}, T = U {* U | / NUMBER}: what can't stand there", () -> {
            faulty(0, "go +1;", 1, 3);
            faulty(0, "go -1;", 1, 3);
            faulty(0, "go 1+;", 1, 5);
            faulty(0, "go 1-;", 1, 5);
            faulty(0, "go 1+-1;", 1, 5);
            faulty(0, "go 1*;", 1, 5);
            faulty(0, "go 1**2;", 1, 5);
            faulty(0, "go *1;", 1, 3);
            faulty(0, "go /1;", 1, 3);
            faulty(0, "go 1/;", 1, 5);
            faulty(0, "go 1/age;", 1, 5);
            faulty(0, "go 1//1;", 1, 5);
            faulty(0, "go (1);", 1, 3);
            faulty(0, "go 1*(2+3);", 1, 5);
            faulty(0, "go 1/2/age;", 1, 7);
            lines(0, "go 1/2/3*4/5-6*7+8;", 1);
        });
        edge("2: C = E (< | = | >) E | not C | ( B ): what can't stand there", () -> {
            faulty(0, "go 1 when 1;", 1, 11);
            faulty(0, "go 1 when <1;", 1, 10);
            faulty(0, "go 1 when 1<;", 1, 12);
            faulty(0, "go 1 when 1<=1;", 1, 12);
            faulty(0, "go 1 when 1=1=1;", 1, 13);
            faulty(0, "go 1 when not;", 1, 13);
            faulty(0, "go 1 when not 1;", 1, 15);
            faulty(0, "go 1 when ();", 1, 11);
            faulty(0, "go 1 when (1);", 1, 12);
            faulty(0, "go 1 when (1)=1;", 1, 12);
            faulty(0, "go 1 when 1=(1);", 1, 12);
            faulty(0, "go 1 when (1=1;", 1, 14);
            faulty(0, "go 1 when 1=1);", 1, 13);
            faulty(0, "go 1 when (1=1));", 1, 15);
            faulty(0, "go 1 when 1=not 1=1;", 1, 12);
            faulty(0, "go 1 when 1 not 1=1;", 1, 12);
        });
        edge("2: B = A {or A}, A = C {and C}: what can't stand there", () -> {
            faulty(0, "go 1 when or 1=1;", 1, 10);
            faulty(0, "go 1 when and 1=1;", 1, 10);
            faulty(0, "go 1 when 1=1 or;", 1, 16);
            faulty(0, "go 1 when 1=1 and;", 1, 17);
            faulty(0, "go 1 when 1=1 and or 1=1;", 1, 18);
            faulty(0, "go 1 when 1=1 1=1;", 1, 14);
            faulty(0, "go 1 when 1=1 or when;", 1, 17);
        });
        edge("2: WHAT FAILS = {(side N | any N in N | shape S {S}) ;}: what can't stand there", () -> {
            faulty(3, ";", 1, 0);
            faulty(3, "2;", 1, 0);
            faulty(3, "side;", 1, 4);
            faulty(3, "side side 2;", 1, 5);
            faulty(3, "side 2 in 3;", 1, 7);
            faulty(3, "side 2;;", 1, 7);
            faulty(3, "side 2 side 3;", 1, 7);
            faulty(3, "side -2;", 1, 5);
            faulty(3, "any;", 1, 3);
            faulty(3, "any in 3;", 1, 4);
            faulty(3, "any 2;", 1, 5);
            faulty(3, "any 2 3;", 1, 6);
            faulty(3, "any 2 in;", 1, 8);
            faulty(3, "any 2 in 3 in 4;", 1, 11);
            faulty(3, "any 2 in 3 4;", 1, 11);
            faulty(3, "shape;", 1, 5);
            faulty(3, "shape 1;", 1, 6);
            faulty(3, "shape gone 1;", 1, 11);
            faulty(3, "shape gone shape all;", 1, 11);
            faulty(3, "shape gone;;", 1, 11);
        });
    }

    private static void faultsTwo() {
        edge("2: fault 2 (at the NUMBER) a part by 0", () -> {
            faulty(0, "go 1/0;", 2, 5);
            faulty(0, "go 1/  0;", 2, 7);
            faulty(0, "go 1/0000;", 2, 5);
            faulty(0, "go 1/1/0;", 2, 7);
            faulty(0, "go 2 when 1/0=1;", 2, 12);
            faulty(0, "go 2 when 1=1/0;", 2, 14);
            faulty(0, "go 1;go 1/0;", 2, 10);
            faulty(1, "change 1/0;", 2, 9);
            faulty(2, "change 1/00;", 2, 9);
            lines(0, "go 1/1;", 1);
            lines(0, "go 0/1;", 1);
            lines(0, "go 1*0;", 1);
        });
        edge("2: fault 2: side that is not 1 .. 8", () -> {
            for (int n = 0; n <= 10; n++) {
                number("side ", n, ";", n >= 1 && n <= 8);
            }
            number("side ", 9999, ";", false);
        });
        edge("2: fault 2: any that is not 1 .. 8", () -> {
            for (int n = 0; n <= 10; n++) {
                number("any ", n, " in 8;", n >= 1 && n <= 8);
            }
            number("any ", 9999, " in 8;", false);
        });
        edge("2: fault 2: in that is not 1 .. 8", () -> {
            for (int n = 0; n <= 10; n++) {
                number("any 1 in ", n, ";", n >= 1 && n <= 8);
            }
            number("any 1 in ", 9999, ";", false);
        });
        edge("2: fault 2 (at the second one) in that is less than any", () -> {
            for (int many = 1; many <= 8; many++) {
                for (int wide = 1; wide <= 8; wide++) {
                    number("any " + many + " in ", wide, ";", wide >= many);
                }
            }
        });
    }

    private static void number(String ahead, int n, String behind, boolean isGood) {
        if (isGood) {
            lines(3, ahead + n + behind, 1);
        } else {
            faulty(3, ahead + n + behind, 2, ahead.length());
        }
    }

    private static void faultsThree() {
        edge("2: fault 3 (at its KEYWORD) the 17th line of THE LAW", () -> {
            lines(0, many("go 1;", 16), 16);
            faulty(0, many("go 1;", 17), 3, 80);
            faulty(0, many("go 1; ", 16) + "  go", 3, 98);
            faulty(0, many("go 1;", 16) + "go /0", 3, 80);
        });
        edge("2: fault 3 (at its KEYWORD) the 17th line of a RULE", () -> {
            for (int k = 1; k <= 2; k++) {
                lines(k, many("change 1;", 16), 16);
                faulty(k, many("change 1;", 17), 3, 144);
                faulty(k, many("change 1;", 16) + "\nchange", 3, 145);
            }
        });
        edge("2: fault 3 (at its KEYWORD) the 9th line of WHAT FAILS", () -> {
            lines(3, many("side 2;", 8), 8);
            lines(3, many("any 1 in 1;", 4) + many("shape all;", 4), 8);
            faulty(3, many("side 2;", 9), 3, 56);
            faulty(3, many("side 2;", 8) + "any 0", 3, 56);
            faulty(3, many("side 2;", 8) + " shape", 3, 57);
        });
        edge("2: fault 3 (at its KEYWORD) the 9th S of a shape", () -> {
            lines(3, "shape" + many(" all", 8) + ";", 1);
            lines(3, "shape" + many(" gone", 8) + ";shape" + many(" there", 8) + ";", 2);
            for (String s : new String[] {"gone", "there", "all"}) {
                faulty(3, "shape" + many(" all", 8) + " " + s + ";", 3, 38);
                faulty(3, "shape" + many(" " + s, 9) + ";", 3, 5 + 8 * (s.length() + 1) + 1);
            }
            faulty(3, "shape all;shape" + many(" all", 9) + ";", 3, 48);
        });
        edge("2: fault 3 (at it) the 9th ( that is open", () -> {
            lines(0, "go 1 when " + many("(", 8) + "1=1" + many(")", 8) + ";", 1);
            faulty(0, "go 1 when " + many("(", 9) + "1=1" + many(")", 9) + ";", 3, 18);
            faulty(0, "go 1 when " + many("(", 9), 3, 18);
            faulty(1, "change 1 when " + many("(", 9), 3, 22);
            faulty(2, "change 1 when " + many("(", 9), 3, 22);
        });
        edge("2: fault 3 (at it) the 9th not that is open", () -> {
            lines(0, "go 1 when " + many("not ", 8) + "1=1;", 1);
            faulty(0, "go 1 when " + many("not ", 9) + "1=1;", 3, 42);
            faulty(0, "go 1 when " + many("not ", 9), 3, 42);
        });
        edge("2: fault 3 (at it): ( and not are open together", () -> {
            lines(0, "go 1 when " + many("not(", 4) + "1=1" + many(")", 4) + ";", 1);
            faulty(0, "go 1 when " + many("not(", 4) + "not 1=1" + many(")", 4) + ";", 3, 26);
            faulty(0, "go 1 when " + many("not(", 4) + "(1=1)" + many(")", 4) + ";", 3, 26);
            faulty(0, "go 1 when " + many("(not ", 5), 3, 30);
        });
        edge("2: fault 3: what is closed is not open: )", () -> {
            lines(0, "go 1 when " + many("((((((((1=1)))))))) and ", 3) + "1=1;", 1);
            lines(0, "go 1 when (((((((" + "(1=1)or(1=1)and(1=1)" + ")))))));", 1);
            faulty(0, "go 1 when (((((((" + "(1=1)or((1=1))" + ")))))));", 3, 25);
        });
        edge("2: fault 3: what is closed is not open: not behind its C", () -> {
            lines(0, "go 1 when " + many(many("not ", 8) + "1=1 or ", 3) + "1=1;", 1);
            lines(0, "go 1 when (((((((not 1=1 and not 1=1)))))));", 1);
            faulty(0, "go 1 when (((((((not 1=1 and not not 1=1)))))));", 3, 33);
        });
    }

    private static void firstFault() {
        edge("2: FAULTS, the first by its place", () -> {
            faulty(0, "go 1/0;;", 2, 5);
            faulty(0, "go ;1/0;", 1, 3);
            faulty(0, "go 1/0 when " + many("(", 9), 2, 5);
            faulty(0, "go 1 when " + many("(", 9) + "1/0", 3, 18);
            faulty(0, many("go 1;", 15) + "go 1/0;go 1;", 2, 80);
            faulty(0, "!" + many("go 1;", 17), 1, 0);
            faulty(0, many("go 1;", 17) + "!", 3, 80);
            faulty(3, "side 9;side;", 2, 5);
            faulty(3, "side;side 9;", 1, 4);
            faulty(3, "any 9 in 0;", 2, 4);
            faulty(3, "any 9 of 3;", 2, 4);
            faulty(3, "any 3 of 9;", 1, 6);
            faulty(3, "shape" + many(" all", 9) + "!", 3, 38);
        });
        edge("2: FAULTS, at one place the least", () -> {
            faulty(0, many("go 1;", 16) + "x", 1, 80);
            faulty(0, many("go 1;", 16) + ";", 1, 80);
            faulty(1, many("change 1;", 16) + "go 1;", 1, 144);
            faulty(3, many("side 2;", 8) + "in", 1, 56);
            faulty(3, "shape" + many(" all", 8) + " any;", 1, 38);
            faulty(0, "go 1 when ((((((((1(1=1", 1, 19);
            faulty(0, "go 1 when ((((((((1=not 1=1", 1, 20);
        });
    }

    private static void urgeOf(String e, int want) {
        NoTwoTogether x = new NoTwoTogether();
        good(x, 1, "change " + e + ";");
        due("URGE by " + e, x.of(0, 7), want);
    }

    private static void numbers() {
        edge("2: Ints, which wrap", () -> {
            urgeOf("9999*9999*21", 2099580021);
            urgeOf("9999*9999*30", -1295567266);
            urgeOf("9999*9999*21+9999*9999", -2095407274);
            urgeOf("0-9999*9999*21-9999*9999", 2095407274);
            urgeOf("9999*9999*9999*9999", 1089432001);
        });
        edge("2: / goes towards 0", () -> {
            urgeOf("9999*9999*30/4", -323891816);
            urgeOf("7/2", 3);
            urgeOf("7/8", 0);
            urgeOf("0/9", 0);
            urgeOf("9999/9999", 1);
            urgeOf("7/1", 7);
        });
        edge("2: * and / one behind the other, ahead of + and -", () -> {
            urgeOf("7/2*2", 6);
            urgeOf("2*7/4", 3);
            urgeOf("20/3/2", 3);
            urgeOf("10-3-2", 5);
            urgeOf("10-3+2", 9);
            urgeOf("2+3*4-5", 9);
            urgeOf("1-2*3", -5);
        });
    }

    private static void goesOf(NoTwoTogether x, int p, String e, int want) {
        good(x, 0, "go " + e + ";");
        due("GOES of " + p + " by " + e, x.of(p, 5), want);
    }

    private static void urgeAt(NoTwoTogether x, int p, String e, int want) {
        good(x, 2, "change " + e + ";");
        due("URGE of " + p + " by " + e, x.of(p, 8), want);
    }

    private static void names() {
        edge("2: beside (how many of the two PLACES next to it are GONE): at the ends there is one", () -> {
            NoTwoTogether x = bridge(3, "go beside;", "");
            x.place(0, 0, 0, true);
            x.place(2, 0, 0, true);
            due("of the left one, itself GONE", x.of(0, 5), 0);
            due("of the middle one", x.of(1, 5), 2);
            due("of the right one, itself GONE", x.of(2, 5), 0);
            x.place(1, 0, 0, true);
            due("of the left one", x.of(0, 5), 1);
            due("of the right one", x.of(2, 5), 1);
            x.place(0, 0, 0, false);
            due("of the middle one", x.of(1, 5), 1);
            urgeAt(x, 0, "beside", 1);
            urgeAt(x, 1, "beside", 1);
            urgeAt(x, 2, "beside", 1);
        });
        edge("2: beside, of sixty", () -> {
            NoTwoTogether x = bridge(60, "go beside;", "");
            for (int p : new int[] {1, 58, 31, 33, 30}) {
                x.place(p, 0, 0, true);
            }
            due("of 0", x.of(0, 5), 1);
            due("of 59", x.of(59, 5), 1);
            due("of 32", x.of(32, 5), 2);
            due("of 31", x.of(31, 5), 1);
            due("of 29", x.of(29, 5), 1);
            due("of 57", x.of(57, 5), 1);
            due("of 56", x.of(56, 5), 0);
        });
        edge("2: place (0 the left one), size (n)", () -> {
            for (int n : new int[] {2, 60}) {
                NoTwoTogether x = bridge(n);
                goesOf(x, 0, "place", 0);
                goesOf(x, n - 1, "place", n - 1);
                goesOf(x, 0, "size", n);
                urgeAt(x, 0, "place", 0);
                urgeAt(x, n - 1, "place", n - 1);
                urgeAt(x, 0, "size", n);
            }
        });
        edge("2: mid (how far 2 place + 1 is from n)", () -> {
            int[][] mids = {{1, 1}, {2, 0, 2}, {3, 1, 1, 3}};
            for (int[] wanted : mids) {
                NoTwoTogether x = bridge(wanted.length, "go mid;", "");
                for (int p = 0; p < wanted.length; p++) {
                    due("mid of " + p + " of " + wanted.length, x.of(p, 5), wanted[p]);
                }
            }
            NoTwoTogether x = bridge(60, "go mid;", "");
            due("mid of 0 of 60", x.of(0, 5), 59);
            due("mid of 29 of 60", x.of(29, 5), 1);
            due("mid of 30 of 60", x.of(30, 5), 1);
            due("mid of 59 of 60", x.of(59, 5), 59);
        });
        edge("2: weak (of its SORT), age, sort, load: the least and the most", () -> {
            NoTwoTogether x = bridge(2);
            x.sort(5, 1000, 0);
            x.sort(0, 0, 0);
            x.place(0, 5, 999, false);
            x.set(0, 99);
            goesOf(x, 0, "weak", 1000);
            goesOf(x, 1, "weak+1", 1);
            goesOf(x, 0, "age", 999);
            goesOf(x, 1, "age+1", 1);
            goesOf(x, 0, "sort", 5);
            goesOf(x, 1, "sort+1", 1);
            goesOf(x, 0, "load", 99);
            x.set(0, 0);
            goesOf(x, 0, "load+1", 1);
            urgeAt(x, 0, "age*10+sort", 9995);
        });
        edge("1, 2: day 0 and day 9999", () -> {
            NoTwoTogether x = bridge(2);
            goesOf(x, 0, "day+1", 1);
            urgeAt(x, 0, "day", 0);
            good(x, 0, "");
            x.set(3, 99);
            for (int i = 0; i < 101; i++) {
                x.days(99);
            }
            urgeAt(x, 0, "day", 9999);
            goesOf(x, 0, "day-9000", 999);
            urgeAt(x, 0, "age", 9999);
        });
        edge("2: gone (1, 0)", () -> {
            NoTwoTogether x = bridge(2);
            x.place(1, 0, 0, true);
            urgeAt(x, 0, "gone", 0);
            urgeAt(x, 1, "gone", 1);
        });
        edge("2: phase ((place + day) modulo PERIOD): PERIOD 1 and 9", () -> {
            NoTwoTogether x = bridge(60);
            x.set(3, 99);
            x.set(1, 9);
            urgeAt(x, 8, "phase", 8);
            urgeAt(x, 9, "phase", 0);
            urgeAt(x, 59, "phase", 5);
            x.days(1);
            urgeAt(x, 8, "phase", 0);
            urgeAt(x, 7, "phase", 8);
            x.set(1, 1);
            urgeAt(x, 7, "phase", 0);
        });
        edge("2: since (DAY less when it was SEEN last; DAY and 1 without)", () -> {
            NoTwoTogether x = bridge(3);
            x.set(3, 99);
            urgeAt(x, 0, "since", 1);
            x.see(1);
            urgeAt(x, 1, "since", 0);
            x.days(4);
            urgeAt(x, 0, "since", 5);
            urgeAt(x, 1, "since", 4);
            x.see(2);
            urgeAt(x, 2, "since", 0);
        });
    }

    private static void goes() {
        edge("2: GOES held to 0 .. 1000", () -> {
            NoTwoTogether x = bridge(2);
            goesOf(x, 0, "0", 0);
            goesOf(x, 0, "0-1", 0);
            goesOf(x, 0, "0-9999", 0);
            goesOf(x, 0, "1", 1);
            goesOf(x, 0, "999", 999);
            goesOf(x, 0, "1000", 1000);
            goesOf(x, 0, "1001", 1000);
            goesOf(x, 0, "9999", 1000);
            goesOf(x, 0, "9999*9999*21", 1000);
            goesOf(x, 0, "9999*9999*30", 0);
        });
        edge("2: GOES: 0 without a line", () -> {
            NoTwoTogether x = bridge(2, "", "");
            due("an empty LAW", x.of(0, 5), 0);
            goesOf(x, 0, "5 when 1=2", 0);
            goesOf(x, 0, many("5 when 1=2;go ", 15) + "6 when 1>1", 0);
        });
        edge("2: E of the first line whose B is so (or that has none)", () -> {
            NoTwoTogether x = bridge(3);
            goesOf(x, 0, "5;go 6", 5);
            goesOf(x, 0, "5 when 1=1;go 6", 5);
            goesOf(x, 0, "5 when 1=2;go 6;go 7", 6);
            goesOf(x, 0, "5 when 1=2;go 6 when 1=2;go 7 when 1=1;go 8", 7);
            goesOf(x, 0, many("5 when 1=2;go ", 15) + "6", 6);
            goesOf(x, 0, "0 when 1=1;go 6", 0);
            goesOf(x, 1, "5 when place=0;go 6 when place=1;go 7", 6);
            goesOf(x, 2, "5 when place=0;go 6 when place=1;go 7", 7);
        });
        edge("Promise 11: GOES of one that is GONE", () -> {
            NoTwoTogether x = bridge(2, "go age;", "");
            x.place(0, 0, 5, true);
            due("of(0, 5)", x.of(0, 5), 5);
        });
    }

    private static void urge() {
        edge("2: URGE as it comes: it is not held", () -> {
            urgeOf("0-1", -1);
            urgeOf("0-9999", -9999);
            urgeOf("1001", 1001);
            urgeOf("9999*9999", 99980001);
        });
        edge("2: URGE: 0 without a line", () -> {
            urgeOf("5 when 1=2", 0);
            urgeOf("5 when 1=2;change 6 when 2=1", 0);
        });
        edge("2: URGE likewise: the first line whose B is so (or that has none)", () -> {
            urgeOf("5;change 6", 5);
            urgeOf("5 when 1=2;change 6;change 7", 6);
            urgeOf(many("5 when 1=2;change ", 15) + "6", 6);
        });
        edge("Promise 11: what 7, 8 URGE by RULE 1, 2: each its own", () -> {
            NoTwoTogether x = new NoTwoTogether();
            good(x, 1, "change 3;");
            due("by RULE 1", x.of(0, 7), 3);
            due("by RULE 2", x.of(0, 8), 0);
            good(x, 2, "change 4;");
            due("by RULE 1", x.of(0, 7), 3);
            due("by RULE 2", x.of(0, 8), 4);
        });
    }

    private static void truth(String b, boolean want) {
        urgeOf("1 when " + b, want ? 1 : 0);
        urgeOf("1 when not (" + b + ")", want ? 0 : 1);
    }

    private static void truths() {
        edge("2: < = > of alike ones and of those one apart", () -> {
            for (int b = 4; b <= 6; b++) {
                truth("5<" + b, b == 6);
                truth("5=" + b, b == 5);
                truth("5>" + b, b == 4);
            }
        });
        edge("2: < = > of ints below 0 and of those that wrapped", () -> {
            truth("0-1<0", true);
            truth("0-2<0-1", true);
            truth("0-1=0-1", true);
            truth("9999*9999*30<0", true);
            truth("9999*9999*30>0-9999*9999*21", true);
            truth("9999*9999*21>9999*9999*30", true);
        });
        edge("2: B = A {or A}, A = C {and C}: and goes ahead of or", () -> {
            truth("1=1 or 1=1 and 1=2", true);
            truth("1=2 and 1=1 or 1=1", true);
            truth("(1=1 or 1=1) and 1=2", false);
            truth("1=2 and (1=1 or 1=1)", false);
            truth("1=2 or 1=2 or 1=1", true);
            truth("1=1 and 1=1 and 1=2", false);
            truth("1=1 and 1=1 or 1=2 and 1=2", true);
        });
        edge("2: not C: of one C alone", () -> {
            truth("not 1=1", false);
            truth("not 1=2", true);
            truth("not not 1=1", true);
            truth("not 1=2 and 1=2", false);
            truth("not (1=2 and 1=2)", true);
            truth("not 1=1 or 1=1", true);
            truth("1=1 and not 1=2", true);
            truth("1=1 and not 1=1", false);
            truth("1=2 or not 1=1", false);
            truth("1=2 or not 1=2", true);
            truth("1=2 or 1=1 and not (1=1 and not 1=1)", true);
            truth("not (1=1 or 1=1)", false);
            truth(many("not ", 5) + "1=1", false);
            truth(many("not ", 6) + "1=1", true);
        });
        edge("2: eight open ( and not, with what they hold", () -> {
            urgeOf("1 when " + many("(1=2 or 1=1 and ", 8) + "1=1" + many(")", 8), 1);
            urgeOf("1 when " + many("(1=2 or 1=1 and ", 8) + "1=2" + many(")", 8), 0);
            urgeOf("1 when " + many("not ", 8) + "1=1", 1);
            urgeOf("1 when " + many("not ", 8) + "1=2", 0);
            urgeOf("1 when " + many("not(", 4) + "1+2*3<2*3+1" + many(")", 4), 0);
        });
    }

    private static int told(NoTwoTogether x, long gone) {
        return x.fails((int) (gone & 0x3FFFFFFF), (int) (gone >>> 30));
    }

    private static void row(NoTwoTogether x, long gone, boolean want) {
        due("fails of " + Long.toBinaryString(gone), told(x, gone), want ? 1 : 0);
    }

    private static long ones(int many) {
        return (1L << many) - 1;
    }

    private static void failsCall() {
        edge("Promise 13: PLACE p is GONE, if bit p of low is 1, for p 30 .. 59 bit p - 30 of high", () -> {
            NoTwoTogether x = bridge(60);
            for (int p = 0; p < 60; p++) {
                good(x, 3, "shape " + "there ".repeat(Math.min(p, 3)) + "gone " + "there ".repeat(Math.min(59 - p, 3)) + ";");
                row(x, 1L << p, true);
            }
        });
        edge("Promise 13: bits at the ends of low and high are apart or beside as their PLACES are", () -> {
            NoTwoTogether x = bridge(60, "", "side 2;");
            row(x, 3L << 29, true);
            row(x, 3L << 28, true);
            row(x, 3L << 30, true);
            row(x, 3L << 58, true);
            row(x, 1L | 1L << 59, false);
            row(x, 5L << 29, false);
            row(x, 1L << 29 | 1L << 59, false);
        });
        edge("Promise 13: NONE if it can't be (bits beyond n): n up to 30", () -> {
            for (int n : new int[] {2, 3, 8, 29, 30}) {
                NoTwoTogether x = bridge(n, "", "side 1;");
                due("the last PLACE of " + n, x.fails(1 << n - 1, 0), 1);
                due("all of " + n, x.fails((int) ones(n), 0), 1);
                due("the one behind the last", x.fails(n < 30 ? 1 << n : 0, n < 30 ? 0 : 1), -1);
                due("a bit of high", x.fails(1, 1), -1);
                due("the highest of high", x.fails(1, LEAST), -1);
                due("all", x.fails(-1, -1), -1);
            }
        });
        edge("Promise 13: NONE if it can't be (bits beyond n): n above 30", () -> {
            for (int n : new int[] {31, 32, 33, 59, 60}) {
                NoTwoTogether x = bridge(n, "", "side 1;");
                due("the last PLACE of " + n, x.fails(0, 1 << n - 31), 1);
                due("all of " + n, x.fails(0x3FFFFFFF, (int) ones(n - 30)), 1);
                due("the one behind the last", x.fails(0, 1 << n - 30), -1);
                due("bit 30 of low", x.fails(1 << 30, 0), -1);
                due("bit 31 of low", x.fails(LEAST, 0), -1);
                due("bit 30 of high", x.fails(0, 1 << 30), -1);
                due("bit 31 of high", x.fails(0, LEAST), -1);
            }
        });
        edge("Promise 13: a told row: the row itself is not asked and stays", () -> {
            NoTwoTogether x = used();
            String before = picture(x);
            due("none GONE", x.fails(0, 0), 0);
            due("all GONE", x.fails(7, 0), 1);
            same("fails", picture(x), before);
        });
    }

    private static void side() {
        edge("2: side k: k GONE side by side, fewer are not enough", () -> {
            for (int k = 1; k <= 8; k++) {
                NoTwoTogether x = bridge(60, "", "side " + k + ";");
                row(x, 0, false);
                for (int from : new int[] {0, 1, 27, 60 - k}) {
                    row(x, ones(k) << from, true);
                    row(x, ones(k - 1) << from, false);
                }
                row(x, ones(k - 1) << 1 | ones(k - 1) << k + 1, false);
                row(x, ones(60), true);
            }
        });
        edge("2: side k: more of them FAIL, too", () -> {
            NoTwoTogether x = bridge(20, "", "side 3;");
            row(x, ones(4) << 5, true);
            row(x, ones(20), true);
        });
        edge("2: side k of fewer than k PLACES", () -> {
            for (int k = 3; k <= 8; k++) {
                NoTwoTogether x = bridge(k - 1, "", "side " + k + ";");
                row(x, ones(k - 1), false);
                x.row(k);
                row(x, ones(k), true);
                row(x, ones(k) - 1, false);
            }
        });
    }

    /** So many GONE within so many PLACES, the first and the last of these among them. */
    private static long spread(int gone, int places) {
        return ones(gone - 1) | 1L << places - 1;
    }

    private static void any() {
        edge("2: any k in m: in some m PLACES side by side k GONE; not in one more", () -> {
            for (int k = 2; k <= 8; k++) {
                for (int m = k; m <= 8; m++) {
                    NoTwoTogether x = bridge(60, "", "any " + k + " in " + m + ";");
                    for (int from : new int[] {0, 26, 60 - m}) {
                        row(x, spread(k, m) << from, true);
                        row(x, ones(k) << from, true);
                        row(x, ones(k - 1) << from, false);
                    }
                    row(x, spread(k, m + 1), false);
                    row(x, spread(k, m + 1) << 59 - m, false);
                }
            }
        });
        edge("2: any k in m: or more GONE", () -> {
            NoTwoTogether x = bridge(12, "", "any 3 in 6;");
            row(x, ones(4) << 3, true);
            row(x, ones(12), true);
            row(x, 0, false);
        });
        edge("2: any 1 in m", () -> {
            for (int m = 1; m <= 8; m++) {
                NoTwoTogether x = bridge(9, "", "any 1 in " + m + ";");
                row(x, 0, false);
                row(x, 1, true);
                row(x, 256, true);
            }
        });
        edge("2: any k in m: m or fewer PLACES: of a row of fewer than m", () -> {
            NoTwoTogether x = bridge(2, "", "any 2 in 8;");
            row(x, 3, true);
            row(x, 1, false);
            x.row(7);
            row(x, 65, true);
            row(x, 64, false);
            good(x, 3, "any 3 in 8;");
            x.row(2);
            row(x, 3, false);
            x.row(3);
            row(x, 7, true);
        });
    }

    private static void shape() {
        edge("2: shape: just so, the first S for the leftmost PLACE", () -> {
            NoTwoTogether x = bridge(2, "", "shape gone there;");
            row(x, 0, false);
            row(x, 1, true);
            row(x, 2, false);
            row(x, 3, false);
            good(x, 3, "shape there gone;");
            row(x, 1, false);
            row(x, 2, true);
        });
        edge("2: shape: some PLACES side by side: at either end and between", () -> {
            NoTwoTogether x = bridge(60, "", "shape gone there gone gone;");
            for (int from = 0; from <= 56; from++) {
                row(x, 13L << from, true);
            }
            row(x, 13L << 57 & ones(60), false);
            row(x, 15, false);
            row(x, 9, false);
        });
        edge("2: shape (all: GONE or not)", () -> {
            NoTwoTogether x = bridge(3, "", "shape gone all gone;");
            row(x, 5, true);
            row(x, 7, true);
            row(x, 3, false);
            row(x, 6, false);
            good(x, 3, "shape all;");
            row(x, 0, true);
            row(x, 7, true);
        });
        edge("2: shape of one S", () -> {
            NoTwoTogether x = bridge(9, "", "shape gone;");
            row(x, 0, false);
            row(x, 256, true);
            good(x, 3, "shape there;");
            row(x, 0, true);
            row(x, 255, true);
            row(x, 511, false);
        });
        edge("2: shape of eight S, of a row of eight and of seven", () -> {
            for (String s : new String[] {"gone", "there", "all"}) {
                NoTwoTogether x = bridge(8, "", "shape" + many(" " + s, 8) + ";");
                row(x, 255, !s.equals("there"));
                row(x, 0, !s.equals("gone"));
                row(x, 127, s.equals("all"));
                row(x, 128, s.equals("all"));
                x.row(7);
                row(x, 127, false);
                row(x, 0, false);
            }
        });
        edge("2: a shape is not met by what is not there beyond an end", () -> {
            NoTwoTogether x = bridge(3, "", "shape there there there gone;");
            row(x, 1, false);
            row(x, 4, false);
            x.row(4);
            row(x, 8, true);
            row(x, 4, false);
        });
        edge("2: FAILS, if a line is met: the first, the last, none", () -> {
            NoTwoTogether x = bridge(6, "", "side 4;any 3 in 4;shape gone there there there there gone;");
            row(x, 15, true);
            row(x, 11, true);
            row(x, 33, true);
            row(x, 19, false);
            row(x, 0, false);
            good(x, 3, many("side 8;", 7) + "side 1;");
            row(x, 32, true);
            row(x, 0, false);
        });
    }
}
