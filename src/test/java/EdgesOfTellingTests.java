/** The edges of what is told and looked at: promises 1 to 8, 10 to 12, 25 and 26. */
public final class EdgesOfTellingTests extends Edge {
    private static final int BLANKS = 0x20202020;

    public static void main(String[] args) {
        if (run() != 0) {
            System.exit(1);
        }
    }

    static int run() {
        newObject();
        state();
        row();
        place();
        sort();
        set();
        feed();
        end();
        fault();
        of();
        see();
        look();
        image();
        return wrongAnswers();
    }

    private static void newObject() {
        edge("Promise 1: eight slats", () -> {
            NoTwoTogether x = new NoTwoTogether();
            due("look(0)", x.look(0), 8);
            due("how many are GONE", x.look(5), 0);
            due("SORT of the last", x.of(7, 0), 0);
            due("one behind the last", x.of(8, 0), NO_SUCH);
        });
        edge("1: AGE (0 at first)", () -> first(1, 0));
        edge("1: a slat or is GONE: a new row has slats", () -> first(2, 0));
        edge("1: when it was SEEN last (NONE at first)", () -> first(3, -1));
        edge("1: how it was then: never SEEN it was not GONE", () -> first(4, 0));
        edge("2: THE LAW is a TEXT (empty at first): GOES is 0 without a line", () -> first(5, 0));
        edge("3: GUESS of one never SEEN is 500", () -> first(6, 500));
        edge("2: RULE 1 is a TEXT (empty at first): URGE is 0 without a line", () -> first(7, 0));
        edge("2: RULE 2 is a TEXT (empty at first)", () -> first(8, 0));
        edge("Promise 11: how often it was CHANGED: never at first", () -> first(9, 0));
        edge("2: WHAT FAILS is a TEXT (empty at first): no row FAILS", () -> {
            NoTwoTogether x = new NoTwoTogether();
            due("all GONE", x.fails(255, 0), 0);
            due("none GONE", x.fails(0, 0), 0);
        });
        edge("1: WEAK (10 at first)", () -> {
            NoTwoTogether x = bridge(6, "go weak;", "");
            for (int k = 0; k < 6; k++) {
                due("place(" + k + ", " + k + ", 0, false)", x.place(k, k, 0, false), true);
                due("WEAK of SORT " + k, x.of(k, 5), 10);
            }
        });
        edge("1: PRICE (1 at first)", () -> {
            for (int k = 0; k < 6; k++) {
                due("COST of a slat of SORT " + k, costOfSlat(new NoTwoTogether(), k), 1);
            }
        });
        edge("1: DAY (0 at first)", () -> due("look(1)", new NoTwoTogether().look(1), 0));
        edge("3: FAILURES, COST, CHANGED: none at first", () -> {
            for (int what = 2; what <= 4; what++) {
                due("look(" + what + ")", new NoTwoTogether().look(what), 0);
            }
        });
        edge("4: LONGEST STAY (0 and NONE at first)", () -> {
            due("look(7)", new NoTwoTogether().look(7), 0);
            due("look(8)", new NoTwoTogether().look(8), -1);
        });
        edge("two objects have nothing in common", () -> {
            NoTwoTogether x = used();
            x.image(true);
            tell(x, 0, "go 1/0;");
            write(x, "go 1;");
            String before = picture(new NoTwoTogether());
            NoTwoTogether y = new NoTwoTogether();
            same("another object", picture(y), before);
            due("its TAPE", y.end(1), false);
            due("its FAULT", y.fault(0), 0);
            due("its IMAGE", y.image(false), false);
            due("its WHAT FAILS", y.fails(255, 0), 0);
            String used = picture(x);
            y.row(9);
            tell(y, 0, "go 1000;");
            y.days(9);
            same("the first one", picture(x), used);
            due("its TAPE", x.end(5), true);
        });
        edge("the constant NONE", () -> due("NONE", NoTwoTogether.NONE, -1));
    }

    private static void first(int what, int want) {
        NoTwoTogether x = new NoTwoTogether();
        due("of(0, " + what + ")", x.of(0, what), want);
        due("of(7, " + what + ")", x.of(7, what), want);
    }

    /** What one new slat of this SORT costs, with no way to go. */
    private static int costOfSlat(NoTwoTogether x, int sort) {
        x.place(0, sort, 0, true);
        x.set(4, 0);
        good(x, 1, "change gone;");
        int before = x.look(3);
        x.days(1);
        return x.look(3) - before;
    }

    private static void state() {
        edge("1: one STATE (an int, 0 at first)", () -> due("state(5)", new NoTwoTogether().state(5), 0));
        edge("Promise 2: STATE is told: what it was, the least and the greatest int too", () -> {
            NoTwoTogether x = new NoTwoTogether();
            due("state(MOST)", x.state(MOST), 0);
            due("state(LEAST)", x.state(LEAST), MOST);
            due("state(-1)", x.state(-1), LEAST);
            due("state(0)", x.state(0), -1);
            due("state(0)", x.state(0), 0);
        });
    }

    private static void row() {
        edge("1: a ROW has 2 .. 60 PLACES: 2 is the least", () -> {
            NoTwoTogether x = bridge(2);
            due("look(0)", x.look(0), 2);
            due("the last", x.of(1, 0), 0);
            due("behind the last", x.of(2, 0), NO_SUCH);
        });
        edge("1: a ROW has 2 .. 60 PLACES: 60 is the most", () -> {
            NoTwoTogether x = bridge(60);
            due("look(0)", x.look(0), 60);
            due("the last", x.of(59, 0), 0);
            due("behind the last", x.of(60, 0), NO_SUCH);
        });
        edge("Promise 3: false if it can't be: too few", () -> refusedRow(1, 0, -1, LEAST));
        edge("Promise 3: false if it can't be: too many", () -> refusedRow(61, 62, MOST));
        edge("Promise 3: all of SORT 0, AGE 0, not GONE", () -> {
            NoTwoTogether x = toldToTheEnd();
            for (int p = 0; p < 60; p++) {
                due("SORT of " + p, x.of(p, 0), 0);
                due("AGE of " + p, x.of(p, 1), 0);
                due("GONE of " + p, x.of(p, 2), 0);
            }
        });
        edge("Promise 3: never SEEN nor CHANGED", () -> {
            NoTwoTogether x = toldToTheEnd();
            for (int p = 0; p < 60; p++) {
                due("SEEN of " + p, x.of(p, 3), -1);
                due("GONE then of " + p, x.of(p, 4), 0);
                due("GUESS of " + p, x.of(p, 6), 500);
                due("CHANGED of " + p, x.of(p, 9), 0);
            }
        });
        edge("Promise 3: LONGEST STAY 0", () -> {
            NoTwoTogether x = bridge(3);
            x.days(4);
            due("it was", x.look(7), 4);
            due("its PLACE was", x.look(8), 0);
            due("row(3)", x.row(3), true);
            due("look(7)", x.look(7), 0);
            due("look(8)", x.look(8), -1);
        });
        edge("Promise 3: the ROW alone is new: what else was told and done stays", () -> {
            NoTwoTogether x = used();
            int[] before = new int[17];
            for (int what = 0; what < 17; what++) {
                before[what] = x.look(what);
            }
            due("row(4)", x.row(4), true);
            for (int what : new int[] {1, 2, 3, 4, 9, 10, 11, 12, 13, 14, 15, 16}) {
                due("look(" + what + ")", x.look(what), before[what]);
            }
            due("STATE", x.state(0), 4321);
            due("THE LAW", x.of(0, 5), 10);
            due("RULE 2", x.of(0, 8), 2);
            due("WEAK of SORT 1", x.place(0, 1, 0, false) ? x.of(0, 5) : -1, 40);
            due("PRICE of SORT 1", costOfSlat(x, 1), 6);
            due("WHAT FAILS", x.fails(3, 0), 1);
        });
    }

    private static void refusedRow(int... many) {
        NoTwoTogether x = used();
        String before = picture(x);
        for (int n : many) {
            due("row(" + n + ")", x.row(n), false);
        }
        same("row", picture(x), before);
    }

    /** Sixty new PLACES behind two, behind sixty on which all was told, seen and changed. */
    private static NoTwoTogether toldToTheEnd() {
        NoTwoTogether x = bridge(60);
        for (int p = 0; p < 60; p++) {
            x.place(p, 5, 999, true);
        }
        good(x, 1, "change 1 when place<20;");
        x.set(2, 20);
        x.days(1);
        due("CHANGED", x.look(4), 20);
        due("row(2)", x.row(2), true);
        due("row(60)", x.row(60), true);
        return x;
    }

    private static void place() {
        edge("Promise 4: PLACES are 0 .. n less 1", () -> {
            NoTwoTogether x = bridge(60);
            due("place(0, ..)", x.place(0, 1, 2, true), true);
            due("place(59, ..)", x.place(59, 1, 2, true), true);
            due("GONE are", x.look(5), 2);
            x.row(2);
            due("place(1, ..) of 2", x.place(1, 1, 2, true), true);
            due("place(2, ..) of 2", x.place(2, 1, 2, true), false);
        });
        edge("Promise 4: false if one can't be: no such PLACE", () -> {
            for (int p : new int[] {-1, 3, 59, 60, 64, LEAST, MOST}) {
                refusedPlace(p, 2, 3);
            }
        });
        edge("1: a SORT 0 .. 5", () -> {
            NoTwoTogether x = bridge(2);
            due("SORT 5", x.place(0, 5, 0, false), true);
            due("it is", x.of(0, 0), 5);
            due("SORT 0", x.place(0, 0, 0, false), true);
            due("it is", x.of(0, 0), 0);
        });
        edge("Promise 4: false if one can't be: no such SORT", () -> {
            for (int sort : new int[] {-1, 6, LEAST, MOST}) {
                refusedPlace(1, sort, 3);
            }
        });
        edge("Promise 4: AGE 0 .. 999", () -> {
            NoTwoTogether x = bridge(2);
            due("AGE 999", x.place(1, 0, 999, false), true);
            due("it is", x.of(1, 1), 999);
            due("AGE 0", x.place(1, 0, 0, false), true);
            due("it is", x.of(1, 1), 0);
        });
        edge("Promise 4: false if one can't be: no such AGE", () -> {
            for (int age : new int[] {-1, 1000, LEAST, MOST}) {
                refusedPlace(1, 2, age);
            }
        });
        edge("Promise 4: GONE or not, told again and again", () -> {
            NoTwoTogether x = bridge(2);
            for (boolean gone : new boolean[] {true, true, false, false, true}) {
                due("place", x.place(1, 0, 0, gone), true);
                due("GONE", x.of(1, 2), gone ? 1 : 0);
                due("of the other", x.of(0, 2), 0);
            }
        });
        edge("Promise 4: its SEEN stays: NONE", () -> {
            NoTwoTogether x = bridge(2);
            x.place(1, 3, 4, true);
            due("SEEN", x.of(1, 3), -1);
            due("GONE then", x.of(1, 4), 0);
        });
        edge("Promise 4: its SEEN stays: a DAY, and how it was then", () -> {
            NoTwoTogether x = bridge(2);
            x.set(3, 99);
            x.days(6);
            x.place(0, 0, 0, true);
            x.see(0);
            x.see(1);
            x.days(1);
            x.place(0, 0, 0, false);
            x.place(1, 0, 0, true);
            due("SEEN", x.of(0, 3), 6);
            due("GONE then", x.of(0, 4), 1);
            due("SEEN", x.of(1, 3), 6);
            due("GONE then", x.of(1, 4), 0);
        });
    }

    private static void refusedPlace(int p, int sort, int age) {
        NoTwoTogether x = used();
        String before = picture(x);
        due("place(" + p + ", " + sort + ", " + age + ", false)", x.place(p, sort, age, false), false);
        due("place(" + p + ", " + sort + ", " + age + ", true)", x.place(p, sort, age, true), false);
        same("place", picture(x), before);
    }

    private static void sort() {
        edge("1: SORTS 0 .. 5, each with its own", () -> {
            NoTwoTogether x = bridge(6, "go weak;", "");
            for (int k = 0; k < 6; k++) {
                due("sort(" + k + ", ..)", x.sort(k, 100 + k, 50 + k), true);
                x.place(k, k, 0, false);
            }
            for (int k = 0; k < 6; k++) {
                due("WEAK of " + k, x.of(k, 5), 100 + k);
            }
            good(x, 0, "");
            for (int k = 0; k < 6; k++) {
                due("PRICE of " + k, costOfSlat(x, k), 50 + k);
            }
        });
        edge("Promise 5: false if one can't be: no such SORT", () -> {
            NoTwoTogether x = used();
            String before = picture(x);
            for (int k : new int[] {-1, 6, LEAST, MOST}) {
                due("sort(" + k + ", 1, 1)", x.sort(k, 1, 1), false);
            }
            same("sort", picture(x), before);
        });
        edge("1: WEAK 0 .. 1000", () -> {
            NoTwoTogether x = bridge(2, "go weak;", "");
            due("WEAK 1000", x.sort(0, 1000, 1), true);
            due("it is", x.of(0, 5), 1000);
            due("WEAK 0", x.sort(0, 0, 1), true);
            due("it is", x.of(0, 5), 0);
        });
        edge("Promise 5: false if one can't be: no such WEAK, and PRICE stays", () -> {
            for (int weak : new int[] {-1, 1001, LEAST, MOST}) {
                refusedSort(weak, 8);
            }
        });
        edge("1: PRICE 0 .. 99", () -> {
            NoTwoTogether x = new NoTwoTogether();
            due("PRICE 99", x.sort(0, 10, 99), true);
            due("COST", costOfSlat(x, 0), 99);
            due("PRICE 0", x.sort(0, 10, 0), true);
            due("COST", costOfSlat(x, 0), 0);
        });
        edge("Promise 5: false if one can't be: no such PRICE, and WEAK stays", () -> {
            for (int price : new int[] {-1, 100, LEAST, MOST}) {
                refusedSort(300, price);
            }
        });
    }

    private static void refusedSort(int weak, int price) {
        NoTwoTogether x = bridge(2, "go weak;", "");
        due("sort(1, 7, 5)", x.sort(1, 7, 5), true);
        due("sort(1, " + weak + ", " + price + ")", x.sort(1, weak, price), false);
        x.place(0, 1, 0, false);
        due("WEAK", x.of(0, 5), 7);
        good(x, 0, "");
        due("PRICE", costOfSlat(x, 1), 5);
    }

    private static void set() {
        edge("1: LOAD 0 .. 99 (0 at first)", () -> told(0, 0, 99, 0));
        edge("1: PERIOD 1 .. 9 (5 at first)", () -> told(1, 1, 9, 5));
        edge("1: BACK 0 .. 20 (11 at first)", () -> told(2, 0, 20, 11));
        edge("1: EVERY 1 .. 99 (1 at first)", () -> told(3, 1, 99, 1));
        edge("1: WALK 0 .. 99 (1 at first)", () -> told(4, 0, 99, 1));
        edge("1: HARM 0 .. 9999 (100 at first)", () -> told(5, 0, 9999, 100));
        edge("1: STOCK of the left end (0 .. 999; 99 at first)", () -> told(6, 0, 999, 99));
        edge("1: STOCK of the right end (0 .. 999; 99 at first)", () -> told(7, 0, 999, 99));
        edge("Promise 6: false if another what", () -> {
            NoTwoTogether x = used();
            String before = picture(x);
            for (int what : new int[] {-1, 8, 9, LEAST, MOST}) {
                due("set(" + what + ", 1)", x.set(what, 1), false);
            }
            same("set", picture(x), before);
        });
    }

    private static void told(int what, int least, int most, int first) {
        NoTwoTogether x = new NoTwoTogether();
        due("at first", x.look(9 + what), first);
        due("the most", x.set(what, most), true);
        due("it is", x.look(9 + what), most);
        String before = picture(x);
        for (int v : new int[] {least - 1, most + 1, LEAST, MOST}) {
            due("set(" + what + ", " + v + ")", x.set(what, v), false);
        }
        same("set", picture(x), before);
        due("the least", x.set(what, least), true);
        due("it is", x.look(9 + what), least);
        for (int other = 0; other < 8; other++) {
            if (other != what) {
                due("another one", x.look(9 + other), new NoTwoTogether().look(9 + other));
            }
        }
    }

    /** Of twenty bytes all but one are blanks; that one is no sign of any TEXT. */
    private static void feedStrange(NoTwoTogether x, int at) {
        int[] n = {BLANKS, BLANKS, BLANKS, BLANKS, BLANKS};
        n[at / 4] |= 0xFF << 24 - at % 4 * 8;
        x.feed(n[0], n[1], n[2], n[3], n[4]);
    }

    private static NoTwoTogether full() {
        NoTwoTogether x = new NoTwoTogether();
        for (int i = 1; i <= 25; i++) {
            due("feed " + i, x.feed(BLANKS, BLANKS, BLANKS, BLANKS, BLANKS), 20 * i);
        }
        return x;
    }

    private static void feed() {
        edge("Promise 7: twenty bytes, of each number the highest first", () -> {
            for (int at = 0; at < 20; at++) {
                NoTwoTogether x = new NoTwoTogether();
                feedStrange(x, at);
                due("text(0)", x.text(0), -1);
                due("fault(1)", x.fault(1), at);
            }
        });
        edge("Promise 7: the bytes come behind the TAPE", () -> {
            NoTwoTogether x = new NoTwoTogether();
            write(x, "go 5;");
            due("feed", x.feed(0x676F2036, 0x3B202020, BLANKS, BLANKS, BLANKS), 25);
            due("text(0)", x.text(0), 2);
            due("GOES", x.of(0, 5), 5);
        });
        edge("Promise 7: 500 are not more than 500", () -> {
            NoTwoTogether x = full();
            due("end(500)", x.end(500), true);
            due("all 500 are read", x.text(0), 0);
        });
        edge("Promise 7: the last of 500 bytes is read, too", () -> {
            NoTwoTogether x = full();
            x.end(480);
            feedStrange(x, 19);
            due("text(0)", x.text(0), -1);
            due("fault(1)", x.fault(1), 499);
        });
        edge("Promise 7: NONE, and nothing comes, if there would be more than 500: full", () -> {
            NoTwoTogether x = full();
            due("feed", x.feed(-1, -1, -1, -1, -1), -1);
            due("end(501)", x.end(501), false);
            due("text(0)", x.text(0), 0);
        });
        edge("Promise 7: NONE, and nothing comes, if there would be more than 500: one too many", () -> {
            NoTwoTogether x = full();
            due("end(481)", x.end(481), true);
            due("feed", x.feed(-1, -1, -1, -1, -1), -1);
            due("end(482)", x.end(482), false);
            due("end(480)", x.end(480), true);
            due("feed", x.feed(BLANKS, BLANKS, BLANKS, BLANKS, BLANKS), 500);
        });
        edge("Promise 7: any number's bytes", () -> {
            NoTwoTogether x = new NoTwoTogether();
            due("feed", x.feed(LEAST, MOST, 0, -1, 1), 20);
            due("text(0)", x.text(0), -1);
            due("fault(1)", x.fault(1), 0);
        });
    }

    private static void end() {
        edge("Promise 8: the TAPE has its first n bytes alone", () -> {
            NoTwoTogether x = new NoTwoTogether();
            write(x, "go 5;go 6;");
            due("end(5)", x.end(5), true);
            due("feed", x.feed(BLANKS, BLANKS, BLANKS, BLANKS, BLANKS), 25);
            due("text(0)", x.text(0), 1);
        });
        edge("Promise 8: what lay behind is gone from a word, a number, a line", () -> {
            cut("go 5;gone", 7, 0, 1, 7);
            cut("go 12345;", 7, 0, 1, 7);
            cut("go 5;", 4, 0, 1, 4);
            cut("side 22;", 6, 3, 1, 6);
        });
        edge("Promise 8: n 0", () -> {
            NoTwoTogether x = new NoTwoTogether();
            write(x, "go 5;");
            due("end(0)", x.end(0), true);
            due("end(1)", x.end(1), false);
            due("text(0)", x.text(0), 0);
        });
        edge("Promise 8: all that it has", () -> {
            NoTwoTogether x = new NoTwoTogether();
            write(x, "go 5;");
            due("end(5)", x.end(5), true);
            due("text(0)", x.text(0), 1);
        });
        edge("Promise 8: false, changing nothing, if it has not so many", () -> {
            NoTwoTogether x = new NoTwoTogether();
            write(x, "go 5;");
            due("end(6)", x.end(6), false);
            due("end(500)", x.end(500), false);
            due("end(MOST)", x.end(MOST), false);
            due("feed", x.feed(BLANKS, BLANKS, BLANKS, BLANKS, BLANKS), 25);
            due("text(0)", x.text(0), 1);
        });
        edge("Promise 8: false, changing nothing, if n is below 0", () -> {
            NoTwoTogether x = new NoTwoTogether();
            write(x, "go 5;");
            due("end(-1)", x.end(-1), false);
            due("end(LEAST)", x.end(LEAST), false);
            due("feed", x.feed(BLANKS, BLANKS, BLANKS, BLANKS, BLANKS), 25);
            due("text(0)", x.text(0), 1);
        });
        edge("Promise 8: an empty TAPE", () -> {
            NoTwoTogether x = new NoTwoTogether();
            due("end(0)", x.end(0), true);
            due("end(1)", x.end(1), false);
            due("end(-1)", x.end(-1), false);
        });
    }

    private static void cut(String text, int n, int k, int fault, int place) {
        NoTwoTogether x = new NoTwoTogether();
        write(x, text);
        due("end(" + n + ")", x.end(n), true);
        due("text(" + k + ") of the first " + n + " of <" + text + ">", x.text(k), -1);
        due("fault(0)", x.fault(0), fault);
        due("fault(1)", x.fault(1), place);
    }

    private static void fault() {
        edge("Promise 10: 0 without one, its place NONE: no text() yet", () -> {
            due("fault(0)", new NoTwoTogether().fault(0), 0);
            due("fault(1)", new NoTwoTogether().fault(1), -1);
        });
        edge("Promise 10: of the latest text(): a good one behind a FAULT", () -> {
            NoTwoTogether x = withFault();
            tell(x, 1, "change 1;");
            due("fault(0)", x.fault(0), 0);
            due("fault(1)", x.fault(1), -1);
        });
        edge("Promise 10: of the latest text(): a FAULT behind another", () -> {
            NoTwoTogether x = withFault();
            tell(x, 3, "side 1");
            due("fault(0)", x.fault(0), 1);
            due("fault(1)", x.fault(1), 6);
        });
        edge("Promise 10: of the latest text(): no other call changes it", () -> {
            NoTwoTogether x = withFault();
            write(x, "side 1");
            x.row(4);
            x.days(1);
            x.set(0, 100);
            x.image(true);
            x.image(false);
            due("fault(0)", x.fault(0), 2);
            due("fault(1)", x.fault(1), 5);
        });
        edge("Promise 10: NONE for another what", () -> {
            NoTwoTogether x = withFault();
            for (int what : new int[] {-1, 2, LEAST, MOST}) {
                due("fault(" + what + ")", x.fault(what), -1);
            }
        });
    }

    private static NoTwoTogether withFault() {
        NoTwoTogether x = new NoTwoTogether();
        due("a part by 0", tell(x, 0, "go 1/0;"), -1);
        due("fault(0)", x.fault(0), 2);
        due("fault(1)", x.fault(1), 5);
        return x;
    }

    private static void of() {
        edge("Promise 11: NONE - 999999 if there is none such", () -> {
            NoTwoTogether x = new NoTwoTogether();
            for (int what = 0; what <= 9; what++) {
                for (int p : new int[] {-1, 8, 59, 60, 64, LEAST, MOST}) {
                    due("of(" + p + ", " + what + ")", x.of(p, what), NO_SUCH);
                }
            }
        });
        edge("Promise 11: the last PLACE of two and of sixty", () -> {
            NoTwoTogether x = bridge(60);
            due("of(59, 3)", x.of(59, 3), -1);
            due("of(60, 3)", x.of(60, 3), NO_SUCH);
            x.row(2);
            due("of(1, 3)", x.of(1, 3), -1);
            due("of(2, 3)", x.of(2, 3), NO_SUCH);
        });
        edge("Promise 11: NONE - 999999 for another what", () -> {
            NoTwoTogether x = new NoTwoTogether();
            for (int what : new int[] {-1, 10, LEAST, MOST}) {
                due("of(0, " + what + ")", x.of(0, what), NO_SUCH);
                due("of(8, " + what + ")", x.of(8, what), NO_SUCH);
            }
        });
        edge("Promise 11: how often it was CHANGED: by the man alone, not by place()", () -> {
            NoTwoTogether x = bridge(2);
            x.place(0, 0, 0, true);
            x.place(0, 1, 0, false);
            due("of(0, 9)", x.of(0, 9), 0);
            good(x, 1, "change 1 when place=0;");
            x.days(3);
            due("of(0, 9)", x.of(0, 9), 3);
            due("of(1, 9)", x.of(1, 9), 0);
        });
    }

    private static void see() {
        edge("Promise 12: false if one can't be", () -> {
            NoTwoTogether x = used();
            String before = picture(x);
            for (int p : new int[] {-1, 3, 60, 64, LEAST, MOST}) {
                due("see(" + p + ")", x.see(p), false);
            }
            same("see", picture(x), before);
        });
        edge("Promise 12: the first and the last PLACE", () -> {
            NoTwoTogether x = bridge(60);
            due("see(0)", x.see(0), true);
            due("see(59)", x.see(59), true);
            due("SEEN", x.of(0, 3), 0);
            due("SEEN", x.of(59, 3), 0);
            due("not SEEN", x.of(1, 3), -1);
            due("not SEEN", x.of(58, 3), -1);
        });
        edge("Promise 12: SEEN GONE, then SEEN not GONE, and on a later DAY", () -> {
            NoTwoTogether x = bridge(2);
            x.set(3, 99);
            x.place(1, 0, 0, true);
            x.see(1);
            due("GONE then", x.of(1, 4), 1);
            x.place(1, 0, 0, false);
            x.days(2);
            due("it stays until it is SEEN", x.of(1, 4), 1);
            due("see(1)", x.see(1), true);
            due("SEEN", x.of(1, 3), 2);
            due("not GONE then", x.of(1, 4), 0);
        });
    }

    private static void look() {
        edge("Promise 26: NONE for another what", () -> {
            NoTwoTogether x = used();
            for (int what : new int[] {-1, 17, 18, LEAST, MOST}) {
                due("look(" + what + ")", x.look(what), -1);
            }
        });
        edge("Promise 26: 9 + k what was told as set() k, k 0 .. 7", () -> {
            NoTwoTogether x = new NoTwoTogether();
            for (int k = 0; k < 8; k++) {
                x.set(k, 2 + k % 4);
            }
            for (int k = 0; k < 8; k++) {
                due("look(" + (9 + k) + ")", x.look(9 + k), 2 + k % 4);
            }
        });
        edge("Promise 26: how many are GONE: none, all", () -> {
            NoTwoTogether x = bridge(60);
            due("look(5)", x.look(5), 0);
            for (int p = 0; p < 60; p++) {
                x.place(p, 0, 0, true);
            }
            due("look(5)", x.look(5), 60);
        });
        edge("Promise 26: 1 if the row FAILS, else 0", () -> {
            NoTwoTogether x = bridge(60, "", "side 2;");
            due("look(6)", x.look(6), 0);
            x.place(59, 0, 0, true);
            due("look(6)", x.look(6), 0);
            x.place(58, 0, 0, true);
            due("look(6)", x.look(6), 1);
            x.place(58, 0, 0, false);
            due("look(6)", x.look(6), 0);
        });
        edge("Promise 26: its PLACE (NONE without)", () -> {
            NoTwoTogether x = bridge(2);
            x.place(0, 0, 999, false);
            due("look(8)", x.look(8), -1);
            x.place(0, 0, 0, true);
            x.place(1, 0, 0, true);
            x.days(9);
            due("all GONE: LONGEST STAY", x.look(7), 0);
            due("all GONE: its PLACE", x.look(8), -1);
        });
    }

    private static void image() {
        edge("Promise 25: false if there is none, and nothing is changed", () -> {
            NoTwoTogether x = used();
            String before = picture(x);
            due("image(false)", x.image(false), false);
            due("image(false)", x.image(false), false);
            same("image(false)", picture(x), before);
        });
        edge("4: all that is and was told", () -> {
            NoTwoTogether x = used();
            String before = picture(x);
            due("image(true)", x.image(true), true);
            same("image(true)", picture(x), before);
            spoil(x);
            due("image(false)", x.image(false), true);
            same("image(false)", picture(x), before);
            due("side 2 FAILS", x.fails(3, 0), 1);
            due("one does not", x.fails(1, 0), 0);
        });
        edge("4: all that was told: WEAK and PRICE of each SORT", () -> {
            NoTwoTogether x = bridge(2, "go weak;", "");
            for (int k = 0; k < 6; k++) {
                x.sort(k, 60 + k, 30 + k);
            }
            x.image(true);
            for (int k = 0; k < 6; k++) {
                x.sort(k, 1, 2);
            }
            x.image(false);
            for (int k = 0; k < 6; k++) {
                x.place(0, k, 0, false);
                due("WEAK of " + k, x.of(0, 5), 60 + k);
            }
            good(x, 0, "");
            for (int k = 0; k < 6; k++) {
                due("PRICE of " + k, costOfSlat(x, k), 30 + k);
            }
        });
        edge("4: all that is: SEEN, how it was then, how often CHANGED", () -> {
            NoTwoTogether x = bridge(3);
            good(x, 1, "change 1 when place=0;");
            x.days(2);
            x.place(2, 0, 0, true);
            x.see(2);
            x.days(1);
            x.image(true);
            x.place(2, 0, 0, false);
            x.days(3);
            x.image(false);
            int[][] wanted = {{3, 0, 3}, {3, 0, 0}, {3, 1, 0}};
            for (int p = 0; p < 3; p++) {
                due("SEEN of " + p, x.of(p, 3), wanted[p][0]);
                due("GONE then of " + p, x.of(p, 4), wanted[p][1]);
                due("CHANGED of " + p, x.of(p, 9), wanted[p][2]);
            }
        });
        edge("4: all that was told: each of the TEXTS", () -> {
            NoTwoTogether x = bridge(3, "go 5;", "side 1;");
            good(x, 1, "change 6;");
            good(x, 2, "change 7;");
            x.image(true);
            for (int k = 0; k <= 3; k++) {
                good(x, k, "");
            }
            x.image(false);
            due("GOES", x.of(0, 5), 5);
            due("URGE by RULE 1", x.of(0, 7), 6);
            due("URGE by RULE 2", x.of(0, 8), 7);
            due("FAILS", x.fails(4, 0), 1);
        });
        edge("4: gone back to it may be more than once", () -> {
            NoTwoTogether x = used();
            String before = picture(x);
            x.image(true);
            for (int i = 0; i < 2; i++) {
                spoil(x);
                due("image(false)", x.image(false), true);
                same("image(false)", picture(x), before);
            }
            due("image(false)", x.image(false), true);
            same("image(false) with nothing changed", picture(x), before);
        });
        edge("4: as it was when it was taken: the later one", () -> {
            NoTwoTogether x = used();
            x.image(true);
            spoil(x);
            String later = picture(x);
            due("image(true)", x.image(true), true);
            x.row(3);
            x.sort(0, 77, 7);
            x.set(7, 1);
            x.image(false);
            same("image(false)", picture(x), later);
        });
        edge("4: THE IMAGE is but the TAPE", () -> {
            NoTwoTogether x = used();
            write(x, "go 1;");
            x.image(true);
            write(x, "go 1;go 2;");
            x.image(false);
            due("end(11)", x.end(11), false);
            due("end(10)", x.end(10), true);
            due("text(0)", x.text(0), 2);
        });
        edge("4: THE IMAGE is but fault()", () -> {
            NoTwoTogether x = used();
            x.image(true);
            tell(x, 0, "go 1/0;");
            x.image(false);
            due("fault(0)", x.fault(0), 2);
            due("fault(1)", x.fault(1), 5);
        });
        edge("4: STATE goes back, too", () -> {
            NoTwoTogether x = new NoTwoTogether();
            x.state(31);
            x.image(true);
            x.days(3);
            x.image(false);
            due("STATE", x.state(0), 31);
        });
        edge("4: back from sixty PLACES to two and the other way", () -> {
            NoTwoTogether x = bridge(60);
            x.place(59, 5, 99, true);
            x.image(true);
            x.row(2);
            x.image(false);
            due("n", x.look(0), 60);
            due("GONE", x.of(59, 2), 1);
            due("SORT", x.of(59, 0), 5);
            x.row(2);
            x.place(1, 3, 0, false);
            x.image(true);
            x.row(60);
            x.image(false);
            due("n", x.look(0), 2);
            due("SORT", x.of(1, 0), 3);
            due("behind the last", x.of(2, 0), NO_SUCH);
        });
    }

    private static void spoil(NoTwoTogether x) {
        tell(x, 0, "go 900 when place=0;");
        tell(x, 1, "change 1;");
        tell(x, 2, "");
        tell(x, 3, "side 1;");
        x.sort(0, 3, 3);
        x.sort(1, 3, 3);
        for (int what = 0; what < 8; what++) {
            x.set(what, 1 + what);
        }
        x.row(2);
        x.place(0, 4, 4, true);
        x.see(0);
        x.days(5);
        x.state(1);
    }
}
