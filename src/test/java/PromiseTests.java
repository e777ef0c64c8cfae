/** For each promise: ordinary inputs, the edges that the document names, and wrong inputs; answers worked out by hand. */
public final class PromiseTests {
    private static final int NO_SUCH = -1000000;
    private static final long ALL = 1000000000000L;
    private static final int[] ODD = {Integer.MIN_VALUE, -2, -1, Integer.MAX_VALUE};
    private static int wrong = 0;
    private static int asked = 0;
    private static String promise = "";

    public static void main(String[] args) {
        aNewObject();
        state();
        row();
        place();
        sort();
        set();
        feed();
        end();
        text();
        faultsOfLaw();
        faultsOfRules();
        faultsOfWhatFails();
        of();
        goes();
        guess();
        urge();
        see();
        fails();
        days();
        theMan();
        chance();
        left();
        ahead();
        hold();
        which();
        where();
        stocks();
        thought();
        often();
        nine();
        image();
        look();
        System.out.println(wrong == 0 ? asked + " answers are as due" : wrong + " of " + asked + " answers are not as due");
        if (wrong != 0) {
            System.exit(1);
        }
    }

    private static void due(String call, long got, long want) {
        asked++;
        if (got != want) {
            wrong++;
            System.out.println(promise + ": " + call + " answered " + got + ", due is " + want);
        }
    }

    private static void due(String call, boolean got, boolean want) {
        due(call, got ? 1L : 0L, want ? 1L : 0L);
    }

    private static int tell(NoTwoTogether x, int k, String text) {
        write(x, text);
        return x.text(k);
    }

    private static void write(NoTwoTogether x, String text) {
        for (int from = 0; from < text.length(); from += 20) {
            int[] n = new int[5];
            for (int i = 0; i < 20; i++) {
                n[i / 4] = n[i / 4] << 8 | (from + i < text.length() ? text.charAt(from + i) : 32);
            }
            x.feed(n[0], n[1], n[2], n[3], n[4]);
        }
        x.end(text.length());
    }

    private static void faulty(int k, String text, int fault, int place) {
        NoTwoTogether x = new NoTwoTogether();
        due("text(" + k + ") of <" + text + ">", tell(x, k, text), -1);
        due("fault(0) of <" + text + ">", x.fault(0), fault);
        due("fault(1) of <" + text + ">", x.fault(1), place);
    }

    private static void good(int k, String text, int lines) {
        NoTwoTogether x = new NoTwoTogether();
        due("text(" + k + ") of <" + text + ">", tell(x, k, text), lines);
        due("fault(0) of <" + text + ">", x.fault(0), 0);
        due("fault(1) of <" + text + ">", x.fault(1), -1);
    }

    private static NoTwoTogether bridge(int n, String law, String fails) {
        NoTwoTogether x = new NoTwoTogether();
        due("row(" + n + ")", x.row(n), true);
        due("lines of <" + law + ">", tell(x, 0, law) >= 0, true);
        due("lines of <" + fails + ">", tell(x, 3, fails) >= 0, true);
        return x;
    }

    private static String many(String part, int times) {
        return part.repeat(times);
    }

    private static void aNewObject() {
        promise = "Promise 1";
        NoTwoTogether x = new NoTwoTogether();
        int[] first = {8, 0, 0, 0, 0, 0, 0, 0, -1, 0, 5, 11, 1, 1, 100, 99, 99};
        for (int what = 0; what < first.length; what++) {
            due("look(" + what + ")", x.look(what), first[what]);
        }
        int[] place = {0, 0, 0, -1, 0, 0, 500, 0, 0, 0};
        for (int p = 0; p < 8; p++) {
            for (int what = 0; what < place.length; what++) {
                due("of(" + p + ", " + what + ")", x.of(p, what), place[what]);
            }
        }
        due("state(0)", x.state(0), 0);
        due("NONE", NoTwoTogether.NONE, -1);
        tell(x, 0, "go weak;");
        for (int k = 0; k < 6; k++) {
            x.place(0, k, 0, false);
            due("WEAK of a SORT at first", x.of(0, 5), 10);
        }
    }

    private static void state() {
        promise = "Promise 2";
        NoTwoTogether x = new NoTwoTogether();
        due("state(7)", x.state(7), 0);
        due("state(MIN)", x.state(Integer.MIN_VALUE), 7);
        due("state(-1)", x.state(-1), Integer.MIN_VALUE);
        due("state(0)", x.state(0), -1);
        NoTwoTogether y = bridge(2, "", "");
        y.days(1);
        due("STATE behind two DRAWS", y.state(0), 1664525 * 1013904223 + 1013904223);
    }

    private static void row() {
        promise = "Promise 3";
        NoTwoTogether x = new NoTwoTogether();
        for (int n : ODD) {
            due("row(" + n + ")", x.row(n), false);
        }
        due("row(0)", x.row(0), false);
        due("row(1)", x.row(1), false);
        due("row(61)", x.row(61), false);
        due("n", x.look(0), 8);
        due("row(60)", x.row(60), true);
        due("n", x.look(0), 60);
        due("row(2)", x.row(2), true);
        due("n", x.look(0), 2);
        due("of(2, 0)", x.of(2, 0), NO_SUCH);
        wornRow(x);
        due("row(3)", x.row(3), true);
        for (int p = 0; p < 3; p++) {
            int[] fresh = {0, 0, 0, -1, 0};
            for (int what = 0; what < fresh.length; what++) {
                due("of(" + p + ", " + what + ") of a new row", x.of(p, what), fresh[what]);
            }
            due("of(" + p + ", 9) of a new row", x.of(p, 9), 0);
        }
        due("LONGEST STAY", x.look(7), 0);
        due("its PLACE", x.look(8), -1);
        due("DAY stays", x.look(1), 2);
        due("CHANGED stays", x.look(4), 4);
        due("COST stays", x.look(3), 4 * 1 + 2 * (1 + 1));
        due("LOAD stays", x.look(9), 3);
    }

    private static void wornRow(NoTwoTogether x) {
        x.place(0, 3, 9, true);
        x.set(0, 3);
        tell(x, 1, "change 1;");
        x.days(2);
        due("CHANGED of a PLACE", x.of(0, 9), 2);
        due("LONGEST STAY", x.look(7), 1);
        tell(x, 1, "");
    }

    private static void place() {
        promise = "Promise 4";
        NoTwoTogether x = new NoTwoTogether();
        for (int odd : ODD) {
            due("place(" + odd + ", ..)", x.place(odd, 0, 0, false), false);
            due("place(.., " + odd + ", ..)", x.place(0, odd, 0, true), false);
            due("place(.., " + odd + ", ..)", x.place(0, 0, odd, true), false);
        }
        due("place(8, ..)", x.place(8, 0, 0, false), false);
        due("SORT 6", x.place(0, 6, 0, true), false);
        due("AGE 1000", x.place(0, 0, 1000, true), false);
        due("nothing is done", x.of(0, 2), 0);
        due("place(7, 5, 999, true)", x.place(7, 5, 999, true), true);
        due("SORT", x.of(7, 0), 5);
        due("AGE", x.of(7, 1), 999);
        due("GONE", x.of(7, 2), 1);
        due("another", x.of(6, 2), 0);
        due("see", x.see(7), true);
        due("place(7, 1, 0, false)", x.place(7, 1, 0, false), true);
        due("GONE", x.of(7, 2), 0);
        due("SEEN stays", x.of(7, 3), 0);
        due("how it was then stays", x.of(7, 4), 1);
        due("LONGEST STAY is no matter of telling", x.look(7), 0);
        due("row(60)", x.row(60), true);
        due("place(59, ..)", x.place(59, 2, 3, true), true);
        due("place(60, ..)", x.place(60, 2, 3, true), false);
        due("how many are GONE", x.look(5), 1);
    }

    private static void sort() {
        promise = "Promise 5";
        NoTwoTogether x = new NoTwoTogether();
        tell(x, 0, "go weak;");
        for (int odd : ODD) {
            due("sort(" + odd + ", ..)", x.sort(odd, 0, 0), false);
            due("WEAK " + odd, x.sort(0, odd, 0), false);
            due("PRICE " + odd, x.sort(0, 0, odd), false);
        }
        due("sort(6, ..)", x.sort(6, 0, 0), false);
        due("WEAK 1001", x.sort(0, 1001, 0), false);
        due("PRICE 100", x.sort(0, 0, 100), false);
        due("nothing is done", x.of(0, 5), 10);
        due("sort(0, 1000, 99)", x.sort(0, 1000, 99), true);
        due("WEAK", x.of(0, 5), 1000);
        due("sort(5, 0, 0)", x.sort(5, 0, 0), true);
        x.place(0, 5, 0, false);
        due("WEAK", x.of(0, 5), 0);
        x.place(0, 0, 0, true);
        tell(x, 1, "change gone;");
        x.set(4, 0);
        x.days(1);
        due("PRICE of each", x.look(3), 99 * 8);
    }

    private static void set() {
        promise = "Promise 6";
        int[] least = {0, 1, 0, 1, 0, 0, 0, 0};
        int[] most = {99, 9, 20, 99, 99, 9999, 999, 999};
        NoTwoTogether x = new NoTwoTogether();
        for (int k = 0; k < 8; k++) {
            due("set(" + k + ") too low", x.set(k, least[k] - 1), false);
            due("set(" + k + ") too high", x.set(k, most[k] + 1), false);
            due("set(" + k + ") far too high", x.set(k, Integer.MAX_VALUE), false);
            due("set(" + k + ") far too low", x.set(k, Integer.MIN_VALUE), false);
            due("set(" + k + ") highest", x.set(k, most[k]), true);
            due("look", x.look(9 + k), most[k]);
            due("set(" + k + ") lowest", x.set(k, least[k]), true);
            due("look", x.look(9 + k), least[k]);
        }
        due("set(8, 1)", x.set(8, 1), false);
        for (int odd : ODD) {
            due("set(" + odd + ", 1)", x.set(odd, 1), false);
        }
    }

    private static void feed() {
        promise = "Promise 7";
        NoTwoTogether x = new NoTwoTogether();
        for (int i = 1; i <= 25; i++) {
            due("feed", x.feed(0x20202020, 0x20202020, 0x20202020, 0x20202020, 0x20202020), 20 * i);
        }
        due("feed, full", x.feed(0, 0, 0, 0, 0), -1);
        due("nothing comes", x.end(501), false);
        due("end(481)", x.end(481), true);
        due("feed, one too many", x.feed(0, 0, 0, 0, 0), -1);
        due("end(480)", x.end(480), true);
        due("feed behind 480", x.feed(0, 0, 0, 0, 0), 500);
        due("text of 500", x.text(0), -1);
        due("fault(1)", x.fault(1), 480);
        due("the highest byte first", x.feed(0x676F2037, 0x3B676F20, 0x383B676F, 0x20393B20, 0x0A202020), 20);
        due("three lines", x.text(0), 3);
        due("the first of them", x.of(0, 5), 7);
        write(x, many(";", 500));
        due("500 tokens", x.text(0), -1);
        due("fault(1)", x.fault(1), 0);
        due("500 tokens, the last missing", tell(x, 0, "go1when" + many("1+", 245) + "1=1"), -1);
        due("fault(1)", x.fault(1), 500);
        due("498 tokens of a line", tell(x, 0, "go7when" + many("1+", 244) + "1>1" + ";"), 1);
        due("that line", x.of(0, 5), 7);
    }

    private static void end() {
        promise = "Promise 8";
        NoTwoTogether x = new NoTwoTogether();
        due("end(0) of none", x.end(0), true);
        due("end(1) of none", x.end(1), false);
        x.feed(0x676F2039, 0x3B676F20, 0x20202020, 0x20202020, 0x20202020);
        for (int odd : ODD) {
            due("end(" + odd + ")", x.end(odd), false);
        }
        due("end(21)", x.end(21), false);
        due("end(20)", x.end(20), true);
        due("end(5)", x.end(5), true);
        due("end(6)", x.end(6), false);
        due("text(0)", x.text(0), 1);
        due("the TAPE is empty", x.end(1), false);
        for (String text : new String[] {"side 23;", "sidex 2;"}) {
            write(x, text);
            int cut = text.equals("side 23;") ? 6 : 4;
            due("end within <" + text + ">", x.end(cut), true);
            due("text(3)", x.text(3), -1);
            due("what lay behind is no part of it", x.fault(1), cut);
        }
    }

    private static void text() {
        promise = "Promise 9";
        NoTwoTogether x = new NoTwoTogether();
        due("an empty TEXT", x.text(0), 0);
        due("blanks alone", tell(x, 0, " \n \n"), 0);
        due("a law", tell(x, 0, "go 5;"), 1);
        due("a FAULT", tell(x, 0, "go 6;;"), -1);
        due("the TEXT stays", x.of(0, 5), 5);
        due("the TAPE is empty", x.end(1), false);
        for (int odd : new int[] {4, -1, Integer.MIN_VALUE, Integer.MAX_VALUE}) {
            write(x, "go 1;");
            due("text(" + odd + ")", x.text(odd), -1);
            due("fault(0)", x.fault(0), 0);
            due("fault(1)", x.fault(1), -1);
            due("the TAPE is empty", x.end(1), false);
        }
        due("sixteen lines", tell(x, 0, many("go 1 when 1=2;", 15) + "go 16;"), 16);
        due("the last of them", x.of(0, 5), 16);
        due("RULE 1", tell(x, 1, "change 3;change 4;"), 2);
        due("RULE 2", tell(x, 2, "change 5;"), 1);
        due("URGE by RULE 1", x.of(0, 7), 3);
        due("URGE by RULE 2", x.of(0, 8), 5);
        due("eight lines of WHAT FAILS", tell(x, 3, many("side 8;", 7) + "any 1 in 1;"), 8);
        due("the last of them", x.fails(1, 0), 1);
        due("a FAULT", tell(x, 3, "side 9;"), -1);
        due("WHAT FAILS stays", x.fails(1, 0), 1);
        due("empty again", x.text(3), 0);
        due("none FAILS", x.fails(255, 0), 0);
        due("empty again", x.text(0), 0);
        due("GOES without a line", x.of(0, 5), 0);
        String open = "go1when1<2or(not 3=4)and 5>6;go\nweak";
        faulty(0, open, 1, open.length());
        good(0, open + ";", 2);
    }

    private static void faultsOfLaw() {
        promise = "Promise 9, 10 (THE LAW)";
        good(0, "go weak+age-sort*beside/3*place+size+load+day+mid;", 1);
        good(0, "go 1 when 1<2;", 1);
        good(0, "go 1 when not(not 1=2 and(3>4 or weak<5));go 0009;", 2);
        good(0, "go 1 when " + many("not ", 8) + "1=1;", 1);
        good(0, "go 1 when " + many("(", 8) + "1=1" + many(")", 8) + ";", 1);
        good(0, "go 1 when " + many("not ", 8) + "1=1 and " + many("(", 8) + "1=1" + many(")", 8) + " or not 1=1;", 1);
        faulty(0, "go 1 when " + many("not ", 9) + "1=1;", 3, 10 + 32);
        faulty(0, "go 1 when " + many("(", 9) + "1=1" + many(")", 9) + ";", 3, 18);
        faulty(0, "go 1 when not((((((((1=1))))))));", 3, 10 + 3 + 7);
        faulty(0, "go 1 when " + many("not ", 8) + "(1=1);", 3, 10 + 32);
        faulty(0, "go 1 when " + many("not ", 8) + "* 1=1;", 1, 10 + 32);
        faulty(0, many("go 1;", 17), 3, 80);
        faulty(0, many("go 1;", 16) + "change 1;", 1, 80);
        faulty(0, many("go 1;", 16) + ";", 1, 80);
        faulty(0, "go", 1, 2);
        faulty(0, "go  ", 1, 4);
        faulty(0, "go ;", 1, 3);
        faulty(0, "go 1", 1, 4);
        faulty(0, "go 1 2;", 1, 5);
        faulty(0, "go 1;change 2;", 1, 5);
        faulty(0, "Go 1;", 1, 0);
        faulty(0, "gogo 1;", 1, 0);
        for (String letter : new String[] {"a", "z", "A", "Z"}) {
            faulty(0, "go" + letter + " 1;", 1, 0);
        }
        for (String sign : new String[] {"`", "{", "@", "[", ":"}) {
            faulty(0, "go" + sign + " 1;", 1, 2);
            faulty(0, "go 1" + sign + ";", 1, 4);
        }
        faulty(0, "go 12345;", 1, 3);
        faulty(0, "go 1/0;", 2, 5);
        faulty(0, "go 1/0000;", 2, 5);
        faulty(0, "go 1/00000;", 1, 5);
        faulty(0, "go 1/weak;", 1, 5);
        faulty(0, "go 1/;", 1, 5);
        faulty(0, "go 1*/2;", 1, 5);
        faulty(0, "go -1;", 1, 3);
        faulty(0, "go (1);", 1, 3);
        faulty(0, "go 1 when;", 1, 9);
        faulty(0, "go 1 when 1;", 1, 11);
        faulty(0, "go 1 when (1)=1;", 1, 12);
        faulty(0, "go 1 when 1=1=1;", 1, 13);
        faulty(0, "go 1 when (1=1;", 1, 14);
        faulty(0, "go 1 when 1=1);", 1, 13);
        faulty(0, "go 1 when 1=1 and;", 1, 17);
        faulty(0, "go 1 when 1=1 or or 1=1;", 1, 17);
        faulty(0, "go 1 when 1<=2;", 1, 12);
        faulty(0, "go weak when 1=1 when 1=1;", 1, 17);
        faulty(0, "go gone;", 1, 3);
        faulty(0, "go since;", 1, 3);
        faulty(0, "go phase;", 1, 3);
        faulty(0, "go 1.5;", 1, 4);
        faulty(0, "go\t1;", 1, 2);
        faulty(0, "go 1;\u00e9", 1, 5);
        faulty(0, "go 1/0 when (((((((((1=1;", 2, 5);
    }

    private static void faultsOfRules() {
        promise = "Promise 9, 10 (RULES)";
        for (int k = 1; k <= 2; k++) {
            good(k, "change gone+age-sort*beside/3*place+size+day+phase+since;", 1);
            good(k, many("change 1 when 1=1;", 16), 16);
            faulty(k, many("change 1;", 17), 3, 144);
            faulty(k, "go 1;", 1, 0);
            faulty(k, "change weak;", 1, 7);
            faulty(k, "change load;", 1, 7);
            faulty(k, "change mid;", 1, 7);
            faulty(k, "change 1 when gone;", 1, 18);
            faulty(k, "change 1/0;", 2, 9);
        }
        NoTwoTogether x = new NoTwoTogether();
        for (int what : new int[] {2, -1, Integer.MIN_VALUE, Integer.MAX_VALUE}) {
            due("fault(" + what + ")", x.fault(what), -1);
        }
        due("fault(0) at first", x.fault(0), 0);
        due("fault(1) at first", x.fault(1), -1);
        tell(x, 1, "change;");
        x.set(0, 1);
        due("fault(0) stays", x.fault(0), 1);
        due("fault(1) stays", x.fault(1), 6);
        x.text(1);
        due("fault(0) of the latest", x.fault(0), 0);
        due("fault(1) of the latest", x.fault(1), -1);
    }

    private static void faultsOfWhatFails() {
        promise = "Promise 9, 10 (WHAT FAILS)";
        good(3, "side 1;side 8;any 1 in 8;any 8 in 8;shape gone;shape there all;", 6);
        good(3, "shape" + many(" all", 8) + ";", 1);
        faulty(3, "shape" + many(" all", 9) + ";", 3, 5 + 32 + 1);
        faulty(3, "shape" + many(" all", 8) + " side 1;", 1, 5 + 32 + 1);
        faulty(3, many("side 2;", 9), 3, 56);
        faulty(3, many("side 2;", 8) + "go 2;", 1, 56);
        faulty(3, "side 0;", 2, 5);
        faulty(3, "side 9;", 2, 5);
        faulty(3, "side;", 1, 4);
        faulty(3, "side 2", 1, 6);
        faulty(3, "any 0 in 3;", 2, 4);
        faulty(3, "any 9 in 9;", 2, 4);
        faulty(3, "any 2 in 9;", 2, 9);
        faulty(3, "any 2 in 0;", 2, 9);
        faulty(3, "any 3 in 2;", 2, 9);
        faulty(3, "any 3 2;", 1, 6);
        faulty(3, "any 3 in;", 1, 8);
        faulty(3, "any 3 in gone;", 1, 9);
        faulty(3, "shape;", 1, 5);
        faulty(3, "shape 1;", 1, 6);
        faulty(3, "shape gone 1;", 1, 11);
        faulty(3, "shape gone side 1;", 1, 11);
        faulty(3, "gone;", 1, 0);
        faulty(3, "side weak;", 1, 5);
        faulty(3, "side 2 when 1=1;", 1, 7);
    }

    private static void of() {
        promise = "Promise 11";
        NoTwoTogether x = new NoTwoTogether();
        for (int odd : ODD) {
            due("of(" + odd + ", 0)", x.of(odd, 0), NO_SUCH);
            due("of(0, " + odd + ")", x.of(0, odd), NO_SUCH);
        }
        due("of(8, 0)", x.of(8, 0), NO_SUCH);
        due("of(0, 10)", x.of(0, 10), NO_SUCH);
        due("of(7, 9)", x.of(7, 9), 0);
    }

    private static void goes() {
        promise = "Promise 11 (GOES)";
        NoTwoTogether x = bridge(5, "", "");
        x.place(0, 2, 7, true);
        x.place(2, 3, 8, true);
        x.place(1, 4, 9, false);
        x.sort(4, 345, 0);
        x.set(0, 56);
        String[] names = {"weak", "age", "sort", "beside", "place", "size", "load", "day", "mid"};
        int[] wanted = {345, 9, 4, 2, 1, 5, 56, 0, 2};
        for (int i = 0; i < names.length; i++) {
            tell(x, 0, "go " + names[i] + ";");
            due(names[i], x.of(1, 5), wanted[i]);
        }
        tell(x, 0, "go mid*10+beside;");
        int[] mids = {40, 22, 0, 21, 40};
        for (int p = 0; p < 5; p++) {
            due("mid and beside of " + p, x.of(p, 5), mids[p]);
        }
        value(x, "7-9+100", 98);
        value(x, "2+3*4-5", 9);
        value(x, "1-9", 0);
        value(x, "1001", 1000);
        value(x, "7/2*2", 6);
        value(x, "0-7/2+10", 7);
        value(x, "10*10/7", 14);
        value(x, "9999*9999*9999*9999/9999/9999", (long) Math.max(0, Math.min(1000, 9999 * 9999 * 9999 * 9999 / 9999 / 9999)));
        value(x, "1 when 1<1;go 2 when 1>1;go 3 when 1=2;go 4 when 1=1", 4);
        value(x, "1 when 1=1 or 1=1 and 1=2", 1);
        value(x, "1 when (1=1 or 1=1) and 1=2;go 2", 2);
        value(x, "1 when not 1=2 and 1=2;go 3", 3);
        value(x, "1 when not (1=2 and 1=2);go 3", 1);
        value(x, "1 when not not 1=1;go 3", 1);
        value(x, "1 when 0-5<0-4", 1);
        value(x, "1 when 1=2", 0);
        tell(x, 0, "go age when age>8;go sort;");
        due("the first line that is so", x.of(1, 5), 9);
        due("else the next", x.of(2, 5), 3);
    }

    private static void value(NoTwoTogether x, String lines, long want) {
        tell(x, 0, "go " + lines + ";");
        due("go " + lines, x.of(1, 5), want);
    }

    private static void guess() {
        promise = "Promise 11 (GUESS)";
        NoTwoTogether x = bridge(3, "go 100+beside*300;", "");
        tell(x, 1, "");
        x.set(3, 99);
        due("never SEEN", x.of(1, 6), 500);
        x.see(1);
        due("SEEN today", x.of(1, 6), 0);
        x.place(0, 0, 0, true);
        x.see(0);
        due("SEEN GONE", x.of(0, 6), 1000);
        x.place(0, 0, 0, false);
        due("SEEN GONE, though it is not", x.of(0, 6), 1000);
        x.days(1);
        due("behind a day", x.of(1, 6), 100);
        x.days(1);
        due("behind two", x.of(1, 6), 190);
        x.days(1);
        due("behind three", x.of(1, 6), 271);
        x.days(1);
        due("behind four: 729 * 9 / 10 is 656", x.of(1, 6), 344);
        x.place(0, 0, 0, true);
        x.place(1, 0, 0, true);
        due("beside is no matter, nor that it is GONE", x.of(1, 6), 344);
        tell(x, 0, "go age;");
        x.place(1, 0, 500, false);
        due("GOES as it is", x.of(1, 6), 1000 - 500 / 2 / 2 / 2);
    }

    private static void urge() {
        promise = "Promise 11 (URGE)";
        NoTwoTogether x = bridge(5, "", "");
        x.place(1, 4, 9, true);
        x.place(2, 3, 8, true);
        x.set(1, 3);
        x.set(2, 0);
        tell(x, 1, "change since;");
        due("since of one never SEEN", x.of(1, 7), 1);
        x.set(3, 99);
        x.days(7);
        String[] names = {"gone", "age", "sort", "beside", "place", "size", "day", "phase", "since"};
        int[] wanted = {1, 9, 4, 1, 1, 5, 7, 2, 8};
        for (int i = 0; i < names.length; i++) {
            tell(x, 1 + i % 2, "change " + names[i] + ";");
            due(names[i], x.of(1, 7 + i % 2), wanted[i]);
        }
        x.see(1);
        tell(x, 1, "change since;");
        due("since of one SEEN today", x.of(1, 7), 0);
        x.days(2);
        due("since of one SEEN two days ago", x.of(1, 7), 2);
        tell(x, 1, "change 0-5;");
        due("as it comes", x.of(1, 7), -5);
        tell(x, 1, "change 9999*9999;");
        due("as it comes", x.of(1, 7), 99980001);
        tell(x, 1, "change 9999*9999*9999;");
        due("wraps", x.of(1, 7), 9999 * 9999 * 9999);
        tell(x, 1, "change 3 when 1=2;");
        due("without a line", x.of(1, 7), 0);
    }

    private static void see() {
        promise = "Promise 12";
        NoTwoTogether x = bridge(4, "", "");
        for (int odd : ODD) {
            due("see(" + odd + ")", x.see(odd), false);
        }
        due("see(4)", x.see(4), false);
        x.set(3, 99);
        x.days(9);
        x.place(3, 0, 0, true);
        due("see(3)", x.see(3), true);
        due("when", x.of(3, 3), 9);
        due("how", x.of(3, 4), 1);
        due("another", x.of(2, 3), -1);
        x.place(3, 0, 0, false);
        due("see(3)", x.see(3), true);
        due("how", x.of(3, 4), 0);
    }

    private static void fails() {
        promise = "Promise 13";
        NoTwoTogether x = bridge(60, "", "side 3;");
        due("none", x.fails(0, 0), 0);
        due("three", x.fails(7, 0), 1);
        due("two", x.fails(6, 0), 0);
        due("over the word's end", x.fails(3 << 28, 1), 1);
        due("over the word's end, two", x.fails(1 << 29, 1), 0);
        due("the last three", x.fails(0, 7 << 27), 1);
        due("the last two", x.fails(0, 3 << 28), 0);
        due("bit 30 of low", x.fails(1 << 30, 0), -1);
        due("bit 31 of low", x.fails(1 << 31, 0), -1);
        due("bit 30 of high", x.fails(0, 1 << 30), -1);
        due("bit 31 of high", x.fails(0, 1 << 31), -1);
        x.row(30);
        due("PLACE 29", x.fails(1 << 29, 0), 0);
        due("PLACE 30 of 30", x.fails(0, 1), -1);
        x.row(31);
        due("PLACE 30 of 31", x.fails(0, 1), 0);
        due("PLACE 31 of 31", x.fails(0, 2), -1);
        x.row(5);
        due("PLACE 5 of 5", x.fails(32, 0), -1);
        broken(x, "any 3 in 5;", new int[] {7, 21, 19, 14}, new int[] {3, 17, 6, 0});
        x.row(9);
        broken(x, "any 3 in 5;", new int[] {21 << 4, 7, 19 << 2}, new int[] {37, 35, 0, 289});
        broken(x, "any 2 in 8;", new int[] {129, 258, 3}, new int[] {257, 0, 256, 1});
        broken(x, "any 1 in 8;", new int[] {1, 256, 16, 511}, new int[] {0});
        broken(x, "side 8;", new int[] {255, 510, 511}, new int[] {127, 508, 479});
        broken(x, "side 1;", new int[] {1, 256}, new int[] {0});
        broken(x, "shape gone there there;", new int[] {1, 2, 64, 9}, new int[] {0, 128, 256, 170, 384});
        broken(x, "shape there there gone;", new int[] {4, 256, 7 << 2}, new int[] {0, 1, 2, 3, 170});
        broken(x, "shape gone all gone;", new int[] {5, 7, 448, 320}, new int[] {3, 0, 9, 51});
        broken(x, "shape all all all all all all all all;", new int[] {0, 511, 170}, new int[] {});
        broken(x, "shape there there there there there there there there;", new int[] {0, 1, 256}, new int[] {2, 128, 16});
        x.row(7);
        broken(x, "shape all all all all all all all all;", new int[] {}, new int[] {0, 127});
        broken(x, "side 8;", new int[] {}, new int[] {127});
        broken(x, "any 2 in 8;", new int[] {65, 3}, new int[] {64, 0});
        broken(x, "shape all;", new int[] {0, 127}, new int[] {});
        broken(x, "side 5;shape gone there gone;", new int[] {31, 5, 127}, new int[] {15, 9});
    }

    private static void broken(NoTwoTogether x, String text, int[] failing, int[] holding) {
        tell(x, 3, text);
        for (int row : failing) {
            due(text + " of " + Integer.toBinaryString(row), x.fails(row, 0), 1);
        }
        for (int row : holding) {
            due(text + " of " + Integer.toBinaryString(row), x.fails(row, 0), 0);
        }
    }

    private static void days() {
        promise = "Promise 14";
        NoTwoTogether x = bridge(3, "go 1000 when place=1;", "side 1;");
        for (int odd : ODD) {
            due("days(" + odd + ")", x.days(odd), -1);
        }
        due("days(0)", x.days(0), -1);
        due("days(100)", x.days(100), -1);
        due("DAY", x.look(1), 0);
        due("days(1)", x.days(1), 1);
        due("GONE", x.of(1, 2), 1);
        due("AGE of one GONE", x.of(1, 1), 0);
        due("AGE of another", x.of(0, 1), 1);
        due("FAILURES", x.look(2), 1);
        due("COST", x.look(3), 100);
        due("days(99)", x.days(99), 99);
        due("AGE", x.of(2, 1), 100);
        due("LONGEST STAY", x.look(7), 100);
        due("the first that had it", x.look(8), 0);
        for (int i = 0; i < 99; i++) {
            x.days(99);
        }
        due("DAY", x.look(1), 9901);
        due("beyond 9999", x.days(99), -1);
        due("nothing is done", x.look(1), 9901);
        due("up to 9999", x.days(98), 98);
        due("DAY", x.look(1), 9999);
        due("beyond 9999", x.days(1), -1);
        drawsOfDays();
    }

    /** DRAWS are asked of those not GONE alone, first to last, with GOES asked ahead of all. */
    private static void drawsOfDays() {
        NoTwoTogether x = bridge(4, "go 400+beside*200;", "");
        x.set(3, 99);
        x.place(1, 0, 5, true);
        x.state(12345);
        int state = 12345;
        int[] goes = {600, 0, 600, 400};
        boolean[] gone = {false, true, false, false};
        for (int p = 0; p < 4; p++) {
            if (!gone[p]) {
                state = 1664525 * state + 1013904223;
                gone[p] = (state >>> 8) % 1000 < goes[p];
            }
        }
        due("days(1)", x.days(1), 0);
        for (int p = 0; p < 4; p++) {
            due("GONE of " + p, x.of(p, 2), gone[p] ? 1 : 0);
            due("AGE of " + p, x.of(p, 1), p == 1 ? 5 : gone[p] ? 0 : 1);
        }
        due("STATE", x.state(0), state);
        NoTwoTogether y = bridge(2, "go 1;", "");
        int low = 0;
        for (int i = 0; i < 99; i++) {
            low = 1664525 * low + 1013904223;
        }
        y.place(0, 0, 0, true);
        y.set(3, 99);
        y.days(99);
        due("a DRAW a day", y.of(1, 2) == 1 || y.state(0) == low, true);
        NoTwoTogether z = bridge(2, "go 1000;", "side 2;");
        due("a FAILURE on each of three days", z.days(3), 3);
        due("no DRAWS for those GONE", z.state(0), 1664525 * 1013904223 + 1013904223);
    }

    private static void theMan() {
        promise = "Promise 14 (the man)";
        NoTwoTogether x = bridge(5, "", "");
        x.sort(1, 0, 7);
        x.place(1, 1, 5, true);
        x.place(3, 0, 9, false);
        x.set(2, 3);
        x.set(4, 10);
        x.set(6, 2);
        tell(x, 1, "change 4 when gone=1;change 4 when place=3;change 2 when place=2;change 0-1 when place=0;change 1;");
        x.days(1);
        due("CHANGED", x.look(4), 3);
        due("COST: 7 and 20, 1 and 20, 1 and 30 from the right", x.look(3), 27 + 21 + 31);
        due("left STOCK: of 1, then of 2", x.look(15), 0);
        due("right STOCK", x.look(16), 98);
        due("AGE of one not changed", x.of(0, 1), 1);
        due("AGE of one changed", x.of(3, 1), 0);
        due("SORT stays", x.of(1, 0), 1);
        due("not GONE", x.of(1, 2), 0);
        due("SEEN so", x.of(1, 4), 0);
        due("SEEN today", x.of(0, 3), 1);
        due("how often", x.of(1, 9), 1);
        due("how often", x.of(4, 9), 0);
        due("LONGEST STAY is ahead of his coming", x.look(7), 10);
        due("its PLACE", x.look(8), 3);
        x.set(6, 0);
        x.set(7, 1);
        tell(x, 1, "change 1;");
        x.days(1);
        due("until no STOCK is left", x.look(4), 4);
        due("the first of several", x.of(0, 9), 1);
        due("the far end", x.look(3), 79 + 1 + 50);
        x.days(1);
        due("no STOCK", x.look(4), 4);
        x.set(7, 9);
        x.set(3, 5);
        x.days(1);
        due("DAY 4, EVERY 5", x.look(4), 4);
        due("not SEEN", x.of(0, 3), 3);
        x.days(1);
        due("DAY 5", x.look(4), 7);
        due("SEEN", x.of(0, 3), 5);
        theManLooks();
    }

    /** FAILS comes ahead of his coming; his URGE is asked ahead of all he does; those GONE are SEEN GONE. */
    private static void theManLooks() {
        NoTwoTogether x = bridge(3, "", "side 2;");
        x.place(0, 0, 0, true);
        x.place(1, 0, 0, true);
        x.set(2, 1);
        tell(x, 1, "change beside when beside>0;");
        due("FAILS ahead of his coming", x.days(1), 1);
        due("URGE of 0 is 1, of 1 is 1, of 2 is 1", x.of(0, 9), 1);
        due("SEEN GONE", x.of(1, 4), 1);
        due("a new slat is SEEN so", x.of(0, 4), 0);
        due("FAILS no more", x.look(6), 0);
        x.set(2, 0);
        due("BACK 0", x.days(1), 0);
        due("CHANGED", x.look(4), 1);
        due("all are SEEN still", x.of(2, 3), 2);
        NoTwoTogether y = bridge(2, "", "");
        tell(y, 1, "change day+since+phase;");
        y.set(1, 9);
        y.set(2, 1);
        y.days(1);
        due("URGE by DAY 1: phase of 1 is greater", y.of(1, 9), 1);
    }

    private static void chance() {
        promise = "Promise 15";
        NoTwoTogether x = bridge(2, "go 500;", "");
        due("chance(2)", x.chance(2), -1);
        for (int odd : ODD) {
            due("chance(" + odd + ")", x.chance(odd), -1);
        }
        due("nothing FAILS", x.chance(0), 0);
        tell(x, 3, "side 1;");
        due("3 of 4", x.chance(0), 3 * ALL / 4);
        tell(x, 3, "side 2;");
        due("1 of 4", x.chance(0), ALL / 4);
        x.place(0, 0, 0, true);
        due("one GONE: 1000, the other 500", x.chance(0), ALL / 2);
        x.place(1, 0, 0, true);
        due("both GONE", x.chance(0), ALL);
        due("THOUGHT, never SEEN", x.chance(1), ALL / 4);
        x.see(0);
        due("THOUGHT, one SEEN GONE", x.chance(1), ALL / 2);
        x.place(1, 0, 0, false);
        x.see(1);
        due("THOUGHT, the other SEEN there", x.chance(1), 0);
        NoTwoTogether y = bridge(60, "go 1000;", "side 8;");
        due("all go", y.chance(0), ALL);
        tell(y, 0, "go 999 when place=52 or place=59;go 1000 when place>51;");
        due("the last eight alone", y.chance(0), ALL / 1000000 * 998001);
        NoTwoTogether z = bridge(3, "go 333;", "side 3;");
        due("downwards each time", z.chance(0), (ALL * 333 / 1000 * 333 / 1000) * 333 / 1000);
        tell(z, 3, "any 2 in 2;");
        long g = ALL * 333 / 1000;
        long gg = g * 333 / 1000;
        long t = ALL - g;
        long tg = t * 333 / 1000;
        due("either two", z.chance(0), gg + tg * 333 / 1000);
        tell(z, 3, "shape there gone;");
        due("there, then gone", z.chance(0), tg + (t - tg) * 333 / 1000 + (g - gg) * 333 / 1000);
    }

    private static void left() {
        promise = "Promise 16";
        NoTwoTogether x = bridge(2, "go 100*beside+100;", "side 2;");
        for (int odd : ODD) {
            due("left(" + odd + ")", x.left(odd), -1);
        }
        due("left(61)", x.left(61), -1);
        due("left(0)", x.left(0), ALL);
        due("left(1): less both at once", x.left(1), ALL - ALL / 100);
        long none = ALL / 100 * 81;
        long one = ALL / 100 * 9;
        due("left(2)", x.left(2), ALL - ALL / 100 - none / 100 - one / 10 * 2 * 2);
        x.place(0, 0, 0, true);
        due("one GONE", x.left(1), ALL / 10 * 8);
        x.place(1, 0, 0, true);
        due("all out at first", x.left(0), 0);
        due("all out", x.left(60), 0);
        x.row(10);
        due("n 10", x.left(0), ALL);
        x.row(11);
        due("n 11", x.left(0), -1);
        NoTwoTogether y = bridge(2, "go 1000 when age=5;go 1000 when day=7;", "side 1;");
        y.place(0, 0, 2, false);
        due("AGE 5 behind three days", y.left(3), ALL);
        due("AGE 5 on the fourth", y.left(4), 0);
        y.place(0, 0, 9, false);
        y.place(1, 0, 9, false);
        due("DAY 7 is on the eighth", y.left(7), ALL);
        due("DAY 7 is on the eighth", y.left(8), 0);
    }

    private static void ahead() {
        promise = "Promise 17";
        NoTwoTogether x = bridge(2, "go 600 when place=0;", "side 2;");
        due("LASTS", x.ahead(0, -7), 60000);
        due("first", x.ahead(1, 0), 0);
        due("behind a day", x.ahead(1, 1), 1);
        due("ahead(1, 60)", x.ahead(1, 60), 1);
        due("ahead(1, 61)", x.ahead(1, 61), -1);
        for (int odd : ODD) {
            due("ahead(1, " + odd + ")", x.ahead(1, odd), -1);
            due("ahead(" + odd + ", 0)", x.ahead(odd, 0), -1);
        }
        due("ahead(2, 0)", x.ahead(2, 0), -1);
        tell(x, 0, "go 500;");
        due("the least of several", x.ahead(1, 1), 0);
        tell(x, 3, "side 1;");
        due("LASTS: 1 and 1/4 and ...", x.ahead(0, 0), 1333);
        tell(x, 0, "go 1000;");
        due("LASTS a day", x.ahead(0, 0), 1000);
        due("all out", x.ahead(1, 1), -1);
        x.place(0, 0, 0, true);
        due("all out at first", x.ahead(1, 0), -1);
        due("LASTS no day", x.ahead(0, 0), 0);
        x.row(10);
        x.place(9, 0, 0, true);
        tell(x, 3, "");
        due("n 10", x.ahead(1, 0), 512);
        due("all go", x.ahead(1, 1), 1023);
        x.row(11);
        due("n 11", x.ahead(1, 0), -1);
        due("n 11", x.ahead(0, 0), -1);
    }

    private static void hold() {
        promise = "Promise 18";
        NoTwoTogether x = bridge(60, "", "side 2;");
        for (int odd : ODD) {
            due("hold(" + odd + ")", x.hold(odd), -1);
        }
        due("hold(61)", x.hold(61), -1);
        due("no two together, 30 of 60", x.hold(30), 31);
        due("no two together, 31 of 60", x.hold(31), 0);
        due("no two together, 2 of 60", x.hold(2), 59 * 58 / 2);
        tell(x, 3, "");
        due("30 of 60", x.hold(30), 118264581564861424L);
        due("60 of 60", x.hold(60), 1);
        due("0 of 60", x.hold(0), 1);
        due("1 of 60", x.hold(1), 60);
        tell(x, 3, "any 2 in 8;");
        due("8 apart, 8 of 60", x.hold(8), 11 * 10 * 9 / 6);
        due("8 apart, 2 of 60", x.hold(2), 53 * 52 / 2);
        tell(x, 3, "shape there;");
        due("all GONE", x.hold(60), 1);
        due("one there", x.hold(59), 0);
        x.row(2);
        due("hold(3) of 2", x.hold(3), -1);
        due("hold(2) of 2", x.hold(2), 1);
    }

    private static void which() {
        promise = "Promise 19";
        NoTwoTogether x = bridge(12, "go age;", "side 2;");
        for (int odd : ODD) {
            due("which(" + odd + ")", x.which(odd), -1);
        }
        due("which(5)", x.which(5), -1);
        due("none is of use", x.which(4), 0);
        x.place(5, 0, 9, true);
        x.place(6, 0, 9, true);
        due("which(0)", x.which(0), 0);
        due("one, the least", x.which(1), 32);
        due("one is enough", x.which(4), 32);
        x.place(4, 0, 100, false);
        due("that beside an old one", x.which(1), 32);
        x.place(7, 0, 200, false);
        due("that beside an older one", x.which(1), 64);
        x.place(4, 0, 0, false);
        x.place(10, 0, 500, false);
        x.place(11, 0, 500, false);
        due("two: 6, and 10 of 10 and 11", x.which(2), 64 + 1024);
        due("nothing is done", x.look(5), 2);
        due("no STOCK is asked", x.set(6, 0) && x.set(7, 0), true);
        due("two", x.which(2), 64 + 1024);
        x.row(13);
        due("n 13", x.which(0), -1);
        x.row(2);
        x.place(0, 0, 0, true);
        due("n 2", x.which(4), 0);
    }

    private static void where() {
        promise = "Promise 20";
        NoTwoTogether x = bridge(3, "go weak;", "side 2;");
        for (int odd : ODD) {
            due("where(" + odd + ")", x.where(odd), -1);
        }
        due("where(3)", x.where(3), -1);
        x.sort(0, 500, 0);
        x.sort(1, 0, 0);
        x.sort(2, 500, 0);
        x.place(0, 1, 9, true);
        x.place(1, 2, 9, true);
        order(x, 0, 1, 2);
        x.sort(1, 1000, 0);
        x.sort(2, 0, 0);
        order(x, 0, 2, 1);
        due("nothing is done", x.of(0, 0), 1);
        tell(x, 3, "");
        order(x, 0, 1, 2);
        tell(x, 0, "go age+weak*place;");
        x.sort(0, 10, 0);
        x.sort(1, 20, 0);
        x.sort(2, 40, 0);
        tell(x, 3, "shape all all gone;");
        order(x, 1, 2, 0);
        x.row(7);
        due("where(6) of 7", x.where(6), 0);
        x.row(8);
        due("n 8", x.where(0), -1);
    }

    private static void order(NoTwoTogether x, int... sorts) {
        for (int p = 0; p < sorts.length; p++) {
            due("where(" + p + ")", x.where(p), sorts[p]);
        }
    }

    private static void stocks() {
        promise = "Promise 21";
        NoTwoTogether x = bridge(5, "", "");
        for (int odd : ODD) {
            due("stocks(1, " + odd + ")", x.stocks(1, odd), -1);
            due("stocks(" + odd + ", 0)", x.stocks(odd, 0), -1);
        }
        due("stocks(1, 2)", x.stocks(1, 2), -1);
        due("stocks(32, 0)", x.stocks(32, 0), -1);
        due("all", x.stocks(31, 0), 1 + 2 + 3 + 2 + 1);
        due("fewest from the left", x.stocks(31, 1), 2);
        due("none", x.stocks(0, 0), 0);
        due("none from the left", x.stocks(0, 1), 0);
        x.set(7, 1);
        due("one from the right", x.stocks(31, 0), 1 + 2 + 3 + 4 + 1);
        due("four from the left", x.stocks(31, 1), 4);
        x.set(6, 3);
        due("not as much", x.stocks(31, 0), -1);
        due("not as much", x.stocks(31, 1), -1);
        due("four of them", x.stocks(23, 0), 1 + 2 + 3 + 1);
        x.set(6, 0);
        due("the first from the right", x.stocks(1, 0), 5);
        due("none from the left", x.stocks(1, 1), 0);
        x.set(4, 50);
        due("the way, whatever it costs", x.stocks(1, 0), 5);
        x.row(30);
        x.set(7, 999);
        due("PLACE 29", x.stocks(1 << 29, 0), 1);
        due("all thirty from the right", x.stocks((1 << 30) - 1, 0), 465);
        due("bit 30", x.stocks(1 << 30, 0), -1);
        x.row(31);
        due("n 31", x.stocks(1, 0), -1);
    }

    private static void thought() {
        promise = "Promise 22";
        NoTwoTogether x = bridge(4, "go 300;", "side 2;");
        tell(x, 1, "change gone;");
        tell(x, 2, "change 1;");
        for (int odd : ODD) {
            due("rule " + odd, x.thought(odd, 1, 1, 0), -1);
            due("every " + odd, x.thought(1, odd, 1, 0), -1);
            due("days " + odd, x.thought(1, 1, odd, 0), -1);
            due("what " + odd, x.thought(1, 1, 1, odd), -1);
        }
        due("rule 0", x.thought(0, 1, 1, 0), -1);
        due("rule 3", x.thought(3, 1, 1, 0), -1);
        due("every 0", x.thought(1, 0, 1, 0), -1);
        due("every 100", x.thought(1, 100, 1, 0), -1);
        due("days 0", x.thought(1, 1, 0, 0), -1);
        due("days 100", x.thought(1, 1, 100, 0), -1);
        due("what 3", x.thought(1, 1, 1, 3), -1);
        x.state(77);
        x.days(3);
        int cost = x.look(3);
        int failures = x.look(2);
        int changed = x.look(4);
        due("RULE 2 changes all", x.thought(2, 1, 5, 2), 20);
        due("every second DAY: 4, 6, 8", x.thought(2, 2, 5, 2), 12);
        due("EVERY 99: DAY 99", x.thought(2, 99, 96, 2), 4);
        due("EVERY 99: not by DAY 98", x.thought(2, 99, 95, 2), 0);
        int[] thought = {x.thought(1, 1, 40, 0), x.thought(1, 1, 40, 1), x.thought(1, 1, 40, 2)};
        due("DAY stays", x.look(1), 3);
        due("EVERY stays", x.look(12), 1);
        due("COST stays", x.look(3), cost);
        due("then it is so", x.days(40), thought[1]);
        due("COST", x.look(3) - cost, thought[0]);
        due("FAILURES", x.look(2) - failures, thought[1]);
        due("CHANGED", x.look(4) - changed, thought[2]);
        due("something FAILED", thought[1] > 0, true);
        NoTwoTogether y = bridge(2, "", "shape all;");
        y.set(3, 99);
        for (int i = 0; i < 101; i++) {
            y.days(99);
        }
        due("beyond DAY 9999", y.thought(1, 1, 99, 1), 99);
        due("DAY", y.look(1), 9999);
    }

    private static void often() {
        promise = "Promise 23";
        NoTwoTogether x = bridge(2, "", "");
        for (int odd : ODD) {
            due("often(" + odd + ", 0)", x.often(odd, 0), -1);
            due("often(1, " + odd + ")", x.often(1, odd), -1);
        }
        due("often(0, 0)", x.often(0, 0), -1);
        due("often(100, 0)", x.often(100, 0), -1);
        due("often(1, 2)", x.often(1, 2), -1);
        due("alike: the greatest", x.often(99, 0), 9);
        due("alike: RULE 1", x.often(99, 1), 1);
        tell(x, 1, "change 1;");
        due("the fewest comings in 10 days: 6 .. 9 alike", x.often(10, 0), 9);
        due("the fewest in 14 days: 8 and 9 once", x.often(14, 0), 9);
        due("the fewest in 18 days", x.often(18, 0), 9);
        due("RULE 2 does nothing", x.often(1, 1), 2);
        x.set(3, 2);
        due("by EVERY as it is, none comes", x.often(1, 1), 1);
        x.set(3, 1);
        tell(x, 0, "go 1000 when age>2;");
        tell(x, 3, "side 1;");
        due("before they go: EVERY 3", x.often(12, 0), 3);
        tell(x, 2, "change 1 when place=0;");
        due("RULE 1 is worth it", x.often(12, 1), 1);
    }

    private static void nine() {
        promise = "Promise 24";
        NoTwoTogether x = bridge(2, "go 100;", "side 1;");
        for (int odd : ODD) {
            due("nine(" + odd + ")", x.nine(odd), -1);
        }
        due("nine(0)", x.nine(0), -1);
        due("nine(100)", x.nine(100), -1);
        due("nine(1)", x.nine(1), 810000);
        due("nine(2)", x.nine(2), 656100);
        due("nine(3)", x.nine(3), 531441);
        due("nine(4)", x.nine(4), 430467);
        due("nine(99)", x.nine(99) < 10, true);
        tell(x, 3, "");
        due("nothing FAILS", x.nine(99), 1000000);
        tell(x, 3, "shape all;");
        due("all FAILS", x.nine(1), 0);
    }

    private static void image() {
        promise = "Promise 25";
        NoTwoTogether x = bridge(4, "go weak;", "side 2;");
        due("there is none", x.image(false), false);
        tell(x, 1, "change 2;");
        tell(x, 2, "change 3;");
        x.set(3, 99);
        x.set(0, 7);
        x.sort(2, 345, 67);
        x.place(1, 2, 9, true);
        x.see(1);
        x.days(5);
        x.state(99);
        int[] looks = new int[17];
        int[] ofs = new int[40];
        for (int i = 0; i < 17; i++) {
            looks[i] = x.look(i);
        }
        for (int i = 0; i < 40; i++) {
            ofs[i] = x.of(i / 10, i % 10);
        }
        long chance = x.chance(0);
        due("it is taken", x.image(true), true);
        for (int round = 0; round < 3; round++) {
            change(x, round);
            write(x, "go 1;");
            due("gone back to", x.image(false), true);
            due("the TAPE is not in it", x.end(5), true);
            due("fault() is not in it", x.fault(0), round == 1 ? 1 : 0);
            due("STATE", x.state(99), 99);
            for (int i = 0; i < 17; i++) {
                due("look(" + i + ")", x.look(i), looks[i]);
            }
            for (int i = 0; i < 40; i++) {
                due("of(" + i / 10 + ", " + i % 10 + ")", x.of(i / 10, i % 10), ofs[i]);
            }
            due("chance(0)", x.chance(0), chance);
            due("fails(3, 0)", x.fails(3, 0), 1);
            x.end(0);
        }
        x.set(0, 8);
        due("taken again", x.image(true), true);
        x.set(0, 9);
        x.image(false);
        due("the later one", x.look(9), 8);
    }

    private static void change(NoTwoTogether x, int round) {
        x.state(5);
        x.set(0, 1);
        x.set(3, 1);
        x.set(6, 3);
        x.sort(2, 1, 1);
        x.place(0, 3, 99, true);
        for (int k = 0; k < 3; k++) {
            tell(x, k, k == 0 ? "go 900;" : "change gone;");
        }
        tell(x, 3, "side 1;");
        x.days(9);
        if (round == 1) {
            x.row(60);
            tell(x, 3, "side;");
        }
    }

    private static void look() {
        promise = "Promise 26";
        NoTwoTogether x = bridge(3, "go 1000 when place=2;", "side 1;");
        for (int odd : ODD) {
            due("look(" + odd + ")", x.look(odd), -1);
        }
        due("look(17)", x.look(17), -1);
        x.set(3, 2);
        x.set(5, 30);
        x.set(4, 5);
        tell(x, 1, "change gone;");
        x.days(1);
        x.place(0, 0, 0, true);
        due("how many are GONE", x.look(5), 2);
        due("FAILS", x.look(6), 1);
        due("LONGEST STAY", x.look(7), 1);
        due("its PLACE", x.look(8), 0);
        x.days(1);
        due("n", x.look(0), 3);
        due("DAY", x.look(1), 2);
        due("FAILURES", x.look(2), 2);
        due("COST: 30, 30, 1 and 5 at either end", x.look(3), 60 + 6 + 6);
        due("CHANGED", x.look(4), 2);
        due("how many are GONE", x.look(5), 0);
        due("FAILS", x.look(6), 0);
        due("LONGEST STAY", x.look(7), 2);
        due("its PLACE", x.look(8), 1);
        due("left STOCK", x.look(15), 98);
        due("right STOCK", x.look(16), 98);
    }
}
