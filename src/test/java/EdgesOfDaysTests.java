/** The edges of a DAY: DRAWS, what goes, what FAILS, the man who comes, the LONGEST STAY: sections 1, 3 and 4, promise 14. */
public final class EdgesOfDaysTests extends Edge {
    public static void main(String[] args) {
        if (run() != 0) {
            System.exit(1);
        }
    }

    static int run() {
        draws();
        whatGoes();
        whatFails();
        days();
        hisComing();
        whatHeChanges();
        stock();
        cost();
        longestStay();
        return wrongAnswers();
    }

    /** Whether the one slat that there is goes on a DAY, by a STATE. */
    private static int goneBy(int state, int goes) {
        NoTwoTogether x = bridge(2, "go " + goes + ";", "");
        x.place(1, 0, 0, true);
        x.set(3, 99);
        x.state(state);
        x.days(1);
        return x.of(0, 2);
    }

    private static void drawIs(int state, int draw) {
        due("GONE by GOES " + draw + ", STATE " + state, goneBy(state, draw), 0);
        due("GONE by GOES " + (draw + 1) + ", STATE " + state, goneBy(state, draw + 1), 1);
    }

    private static void draws() {
        edge("3: a DRAW of 1000 below its GOES: it is GONE; alike is not below", () -> {
            for (int draw : new int[] {0, 1, 2, 499, 500, 998, 999}) {
                drawIs(stateForDraw(draw), draw);
            }
        });
        edge("3: GOES 0: never, GOES 1000: always", () -> {
            due("GOES 0, DRAW 0", goneBy(stateForDraw(0), 0), 0);
            due("GOES 1000, DRAW 999", goneBy(stateForDraw(999), 1000), 1);
        });
        edge("1: its highest 24 bits (without sign) modulo m: the lowest eight are no matter", () -> {
            drawIs(stateAhead(5 << 8 | 255), 5);
            drawIs(stateAhead(999 << 8 | 255), 999);
            drawIs(stateAhead(255), 0);
            drawIs(stateAhead(1000 << 8), 0);
        });
        edge("1: its highest 24 bits (without sign): of a STATE below 0", () -> {
            drawIs(stateAhead(-1), 215);
            drawIs(stateAhead(LEAST), 608);
            drawIs(stateAhead(MOST), 607);
        });
        edge("1: STATE becomes 1664525 STATE + 1013904223 (ints, which wrap)", () -> {
            stateBehind(0, 1013904223);
            stateBehind(1013904223, 1196435762);
            stateBehind(MOST, -1135243950);
            stateBehind(LEAST, -1133579425);
            stateBehind(-1, 1012239698);
            drawIs(MOST, 669);
            drawIs(LEAST, 171);
        });
        edge("3: PLACE by PLACE, 0 first, that is not GONE: no DRAW for one that is", () -> {
            for (int set = 0; set < 8; set++) {
                NoTwoTogether x = bridge(3);
                x.set(3, 99);
                int state = 77;
                for (int p = 0; p < 3; p++) {
                    boolean gone = (set >> p & 1) == 1;
                    x.place(p, 0, 0, gone);
                    state = gone ? state : 1664525 * state + 1013904223;
                }
                x.state(77);
                x.days(1);
                due("STATE behind a DAY of " + set, x.state(0), state);
            }
        });
        edge("3: a DRAW, whatever GOES is, 0 and 1000 too", () -> {
            for (String law : new String[] {"", "go 0;", "go 1000;"}) {
                NoTwoTogether x = bridge(2, law, "");
                x.days(1);
                due("STATE behind two DRAWS by <" + law + ">", x.state(0), 1196435762);
            }
        });
    }

    private static void stateBehind(int state, int want) {
        NoTwoTogether x = bridge(2);
        x.place(1, 0, 0, true);
        x.state(state);
        x.days(1);
        due("STATE behind " + state, x.state(0), want);
    }

    private static void gone(NoTwoTogether x, int... wanted) {
        for (int p = 0; p < wanted.length; p++) {
            due("GONE of " + p, x.of(p, 2), wanted[p]);
        }
    }

    private static void whatGoes() {
        edge("3: GOES of all PLACES is asked ahead", () -> {
            NoTwoTogether x = bridge(4, "go 1000 when place=0;go 1000 when beside>0;", "");
            x.days(1);
            gone(x, 1, 0, 0, 0);
            x.days(1);
            gone(x, 1, 1, 0, 0);
            x.days(2);
            gone(x, 1, 1, 1, 1);
        });
        edge("3: it is GONE; else AGE is one more", () -> {
            NoTwoTogether x = bridge(3, "go 1000 when place=0;", "");
            x.place(0, 0, 5, false);
            x.place(1, 0, 999, false);
            x.place(2, 0, 7, true);
            x.days(1);
            due("AGE of the one that went", x.of(0, 1), 5);
            due("AGE of the one that stays: above 999", x.of(1, 1), 1000);
            due("AGE of the one that was GONE", x.of(2, 1), 7);
            gone(x, 1, 0, 1);
        });
        edge("3: DAY is one more: GOES is asked ahead of it", () -> {
            NoTwoTogether x = bridge(2, "go 1000 when day=1;", "");
            x.days(1);
            due("DAY", x.look(1), 1);
            gone(x, 0, 0);
            x.days(1);
            due("DAY", x.look(1), 2);
            gone(x, 1, 1);
        });
        edge("3: a row all GONE: DAYS go by all the same", () -> {
            NoTwoTogether x = bridge(2, "go 1000;", "side 2;");
            x.set(3, 99);
            due("days(2)", x.days(2), 2);
            x.state(5);
            due("days(9)", x.days(9), 9);
            due("DAY", x.look(1), 11);
            due("no DRAW", x.state(0), 5);
        });
        edge("3: sixty PLACES, the first and the last go", () -> {
            NoTwoTogether x = bridge(60, "go 1000 when mid=59;", "");
            x.days(1);
            due("GONE are", x.look(5), 2);
            due("the first", x.of(0, 2), 1);
            due("the last", x.of(59, 2), 1);
        });
    }

    private static void whatFails() {
        edge("3: FAILURES are one more, COST HARM more: HARM 0, 9999", () -> {
            for (int harm : new int[] {0, 1, 9999}) {
                NoTwoTogether x = bridge(2, "", "shape all;");
                x.set(5, harm);
                due("days(3)", x.days(3), 3);
                due("FAILURES", x.look(2), 3);
                due("COST", x.look(3), 3 * harm);
            }
        });
        edge("3: it does not FAIL: no more", () -> {
            NoTwoTogether x = bridge(2, "", "side 1;");
            due("days(3)", x.days(3), 0);
            due("FAILURES", x.look(2), 0);
            due("COST", x.look(3), 0);
        });
        edge("3: the row as it is behind the DAY, ahead of his coming", () -> {
            NoTwoTogether x = bridge(2, "go 1000 when day=1;", "side 2;");
            good(x, 1, "change gone;");
            x.set(4, 0);
            due("not yet", x.days(1), 0);
            due("on that DAY", x.days(1), 1);
            due("it is mended by then", x.look(6), 0);
            due("COST: HARM and two slats", x.look(3), 102);
            due("no more", x.days(1), 0);
        });
        edge("Promise 14: how many FAILURES on these: not those ahead", () -> {
            NoTwoTogether x = bridge(2, "", "shape all;");
            due("days(2)", x.days(2), 2);
            due("days(1)", x.days(1), 1);
            due("FAILURES", x.look(2), 3);
        });
    }

    private static void refusedDays(NoTwoTogether x, int... many) {
        String before = picture(x);
        for (int n : many) {
            due("days(" + n + ")", x.days(n), -1);
        }
        same("days", picture(x), before);
    }

    /** DAY 99 times so many. */
    private static NoTwoTogether behind(int times) {
        NoTwoTogether x = bridge(2, "", "shape all;");
        x.set(3, 99);
        for (int i = 0; i < times; i++) {
            x.days(99);
        }
        due("DAY", x.look(1), 99 * times);
        return x;
    }

    private static void days() {
        edge("Promise 14: 1 .. 99", () -> {
            NoTwoTogether x = bridge(2, "", "shape all;");
            due("days(1)", x.days(1), 1);
            due("DAY", x.look(1), 1);
            due("days(99)", x.days(99), 99);
            due("DAY", x.look(1), 100);
        });
        edge("Promise 14: NONE, and nothing is done, if one can't be", () -> refusedDays(used(), 0, 100, -1, 101, LEAST, MOST));
        edge("Promise 14: DAY 9999 itself can be", () -> {
            NoTwoTogether x = behind(100);
            due("days(99)", x.days(99), 99);
            due("DAY", x.look(1), 9999);
        });
        edge("Promise 14: NONE, and nothing is done, beyond DAY 9999: not one more", () -> {
            NoTwoTogether x = behind(101);
            refusedDays(x, 1, 2, 99);
        });
        edge("Promise 14: NONE, and nothing is done, beyond DAY 9999: not a part of them", () -> {
            NoTwoTogether x = behind(100);
            x.days(1);
            refusedDays(x, 99);
            due("as many as there are", x.days(98), 98);
            due("DAY", x.look(1), 9999);
        });
    }

    private static void changed(NoTwoTogether x, int... wanted) {
        for (int p = 0; p < wanted.length; p++) {
            due("CHANGED of " + p, x.of(p, 9), wanted[p]);
        }
    }

    private static NoTwoTogether ruled(int n, String rule) {
        NoTwoTogether x = bridge(n);
        good(x, 1, rule);
        return x;
    }

    private static void hisComing() {
        edge("3: if EVERY divides DAY, he comes: EVERY 1", () -> {
            NoTwoTogether x = bridge(2);
            for (int day = 1; day <= 3; day++) {
                x.days(1);
                due("SEEN", x.of(0, 3), day);
            }
        });
        edge("3: if EVERY divides DAY, he comes: EVERY 2, 3", () -> {
            for (int every = 2; every <= 3; every++) {
                NoTwoTogether x = bridge(2);
                x.set(3, every);
                for (int day = 1; day <= 7; day++) {
                    x.days(1);
                    due("SEEN, EVERY " + every + ", DAY " + day, x.of(1, 3), day < every ? -1 : day / every * every);
                }
            }
        });
        edge("3: if EVERY divides DAY, he comes: EVERY 99", () -> {
            NoTwoTogether x = bridge(2);
            x.set(3, 99);
            x.days(98);
            due("SEEN, DAY 98", x.of(0, 3), -1);
            x.days(1);
            due("SEEN, DAY 99", x.of(0, 3), 99);
            x.days(98);
            due("SEEN, DAY 197", x.of(0, 3), 99);
            x.days(1);
            due("SEEN, DAY 198", x.of(0, 3), 198);
        });
        edge("3: then all are SEEN: with nothing on his back, no STOCK, no line", () -> {
            NoTwoTogether x = bridge(60, "go 1000 when place=59;", "");
            x.set(2, 0);
            x.set(6, 0);
            x.set(7, 0);
            x.days(1);
            for (int p = 0; p < 60; p++) {
                due("SEEN of " + p, x.of(p, 3), 1);
                due("GONE then of " + p, x.of(p, 4), p == 59 ? 1 : 0);
            }
        });
        edge("3: URGE is asked, then all are SEEN", () -> {
            NoTwoTogether x = ruled(2, "change 1 when since=2;");
            x.days(1);
            changed(x, 1, 1);
            good(x, 1, "change 1 when since=0;");
            x.days(1);
            changed(x, 1, 1);
            good(x, 1, "change 1 when since=1;");
            x.days(1);
            changed(x, 2, 2);
        });
        edge("3: URGE of all PLACES is asked ahead of what he changes", () -> {
            NoTwoTogether x = ruled(3, "change beside;");
            x.place(1, 0, 0, true);
            x.days(1);
            changed(x, 1, 0, 1);
            x = ruled(3, "change beside;");
            x.place(0, 0, 0, true);
            x.place(1, 0, 0, true);
            x.set(2, 2);
            x.days(1);
            changed(x, 1, 1, 0);
        });
        edge("3: URGE by the DAY that is one more", () -> {
            NoTwoTogether x = ruled(2, "change 1 when day=1;");
            x.days(1);
            changed(x, 1, 1);
            x.days(1);
            changed(x, 1, 1);
        });
        edge("3: URGE by RULE 1, not by RULE 2", () -> {
            NoTwoTogether x = bridge(2);
            good(x, 2, "change 1;");
            x.days(3);
            changed(x, 0, 0);
            good(x, 1, "change 1 when place=1;");
            x.days(3);
            changed(x, 0, 3);
        });
    }

    private static void whatHeChanges() {
        edge("3: of those with URGE above 0", () -> {
            NoTwoTogether x = ruled(4, "change place-2;");
            x.days(1);
            changed(x, 0, 0, 0, 1);
            good(x, 1, "change 0-9999*place;");
            x.days(1);
            changed(x, 0, 0, 0, 1);
            good(x, 1, "change 9999*9999*30;");
            x.days(1);
            changed(x, 0, 0, 0, 1);
        });
        edge("3: as long as it are fewer than BACK: BACK 0", () -> {
            NoTwoTogether x = ruled(3, "change 1;");
            x.set(2, 0);
            x.days(5);
            due("CHANGED", x.look(4), 0);
        });
        edge("3: as long as it are fewer than BACK: BACK 1, on each DAY anew", () -> {
            NoTwoTogether x = ruled(3, "change 1;");
            x.set(2, 1);
            x.days(1);
            due("CHANGED", x.look(4), 1);
            x.days(4);
            due("CHANGED", x.look(4), 5);
        });
        edge("3: as long as it are fewer than BACK: BACK 20 of sixty, 11 at first", () -> {
            NoTwoTogether x = ruled(60, "change 1;");
            x.days(1);
            due("CHANGED", x.look(4), 11);
            x.set(2, 20);
            x.days(1);
            due("CHANGED", x.look(4), 31);
            due("the last of them", x.of(19, 9), 1);
            due("the next", x.of(20, 9), 0);
        });
        edge("3: that with the greatest", () -> {
            NoTwoTogether x = ruled(4, "change 5 when place=2;change 4 when place=3;change 1;");
            x.set(2, 2);
            x.days(1);
            changed(x, 0, 0, 1, 1);
            good(x, 1, "change place+1;");
            x.set(2, 1);
            x.days(1);
            changed(x, 0, 0, 1, 2);
        });
        edge("3: of several the first", () -> {
            NoTwoTogether x = ruled(4, "change 7 when place>0;change 1;");
            x.set(2, 2);
            x.days(1);
            changed(x, 0, 1, 1, 0);
        });
        edge("3: that he did not change yet: each once in a DAY", () -> {
            NoTwoTogether x = ruled(2, "change 9 when place=0;");
            x.days(1);
            changed(x, 1, 0);
            due("CHANGED", x.look(4), 1);
        });
        edge("3: a new slat (of its SORT, AGE 0, not GONE; SEEN so)", () -> {
            NoTwoTogether x = ruled(3, "change 1 when place<2;");
            x.place(0, 5, 999, true);
            x.place(1, 4, 999, false);
            x.place(2, 3, 999, true);
            x.days(1);
            int[][] wanted = {{5, 0, 0, 1, 0}, {4, 0, 0, 1, 0}, {3, 999, 1, 1, 1}};
            for (int p = 0; p < 3; p++) {
                for (int what = 0; what < 5; what++) {
                    due("of(" + p + ", " + what + ")", x.of(p, what), wanted[p][what]);
                }
            }
        });
        edge("3: a new slat is not GONE: at each PLACE, the last of sixty too", () -> {
            NoTwoTogether x = ruled(60, "change 1 when place>54 or place=29 or place=30;");
            for (int p = 0; p < 60; p++) {
                x.place(p, 0, 9, true);
            }
            x.days(1);
            due("GONE are", x.look(5), 53);
            for (int p = 0; p < 60; p++) {
                boolean isNew = p > 54 || p == 29 || p == 30;
                due("GONE of " + p, x.of(p, 2), isNew ? 0 : 1);
                due("GONE then of " + p, x.of(p, 4), isNew ? 0 : 1);
                due("AGE of " + p, x.of(p, 1), isNew ? 0 : 9);
            }
        });
        edge("3: CHANGED one more: of the PLACE, of all", () -> {
            NoTwoTogether x = ruled(2, "change 1;");
            x.days(4);
            changed(x, 4, 4);
            due("CHANGED", x.look(4), 8);
        });
    }

    private static void stocks(NoTwoTogether x, int left, int right) {
        due("left STOCK", x.look(15), left);
        due("right STOCK", x.look(16), right);
    }

    private static void stock() {
        edge("3: as long as STOCK is left: none", () -> {
            NoTwoTogether x = ruled(3, "change 1;");
            x.set(6, 0);
            x.set(7, 0);
            x.days(2);
            due("CHANGED", x.look(4), 0);
            due("COST", x.look(3), 0);
            stocks(x, 0, 0);
        });
        edge("3: as long as STOCK is left: one, at either end", () -> {
            for (int end = 6; end <= 7; end++) {
                NoTwoTogether x = ruled(3, "change 1;");
                x.set(6, 0);
                x.set(7, 0);
                x.set(end, 1);
                x.days(2);
                changed(x, 1, 0, 0);
                stocks(x, 0, 0);
            }
        });
        edge("3: as long as STOCK is left: until there is none", () -> {
            NoTwoTogether x = ruled(5, "change 1;");
            x.set(6, 2);
            x.set(7, 1);
            x.days(1);
            changed(x, 1, 1, 1, 0, 0);
            stocks(x, 0, 0);
        });
        edge("3: from the nearer end (left: place and 1, right: n less place; alike: the left)", () -> {
            int[][] lefts = {{1, 0}, {1, 1, 0}, {1, 1, 0, 0}, {1, 1, 1, 0, 0}};
            for (int[] isLeft : lefts) {
                for (int p = 0; p < isLeft.length; p++) {
                    NoTwoTogether x = ruled(isLeft.length, "change 1 when place=" + p + ";");
                    x.days(1);
                    stocks(x, 99 - isLeft[p], 98 + isLeft[p]);
                }
            }
        });
        edge("3: the nearer end, of sixty", () -> {
            for (int p : new int[] {0, 29, 30, 59}) {
                NoTwoTogether x = ruled(60, "change 1 when place=" + p + ";");
                x.set(4, 10);
                x.days(1);
                stocks(x, p < 30 ? 98 : 99, p < 30 ? 99 : 98);
                due("COST", x.look(3), 1 + 10 * (p < 30 ? p + 1 : 60 - p));
            }
        });
        edge("3: the nearer end that has STOCK: the other one", () -> {
            NoTwoTogether x = ruled(5, "change 1 when place=0;");
            x.set(6, 0);
            x.days(1);
            stocks(x, 0, 98);
            due("COST", x.look(3), 1 + 5);
            x = ruled(5, "change 1 when place=4;");
            x.set(7, 0);
            x.days(1);
            stocks(x, 98, 0);
            due("COST", x.look(3), 1 + 5);
            x = ruled(5, "change 1 when place=2;");
            x.set(6, 0);
            x.days(1);
            stocks(x, 0, 98);
            due("COST", x.look(3), 1 + 3);
        });
        edge("3: the nearer end that has STOCK: its last one, then the other", () -> {
            NoTwoTogether x = ruled(5, "change 1 when place<2;");
            x.set(6, 1);
            x.set(4, 10);
            x.days(1);
            stocks(x, 0, 98);
            due("COST", x.look(3), 1 + 10 + 1 + 40);
            x = ruled(5, "change 1 when place>2;");
            x.set(7, 1);
            x.set(4, 10);
            x.days(1);
            stocks(x, 98, 0);
            due("COST", x.look(3), 1 + 20 + 1 + 50);
            x = ruled(5, "change 1 when place=4;");
            x.set(7, 1);
            x.days(1);
            stocks(x, 99, 0);
            x = ruled(5, "change 1 when place=0;");
            x.set(6, 1);
            x.days(1);
            stocks(x, 0, 99);
        });
        edge("1: STOCK 999: the most", () -> {
            NoTwoTogether x = ruled(2, "change 1;");
            x.set(6, 999);
            x.set(7, 999);
            x.days(99);
            stocks(x, 900, 900);
        });
    }

    private static void cost() {
        edge("3: COST is PRICE and WALK times how far more: WALK 0, PRICE 0", () -> {
            NoTwoTogether x = ruled(3, "change 1;");
            x.set(4, 0);
            x.days(1);
            due("COST of three", x.look(3), 3);
            x.sort(0, 0, 0);
            x.days(1);
            due("COST of three", x.look(3), 3);
            x.set(4, 1);
            x.days(1);
            due("COST of three", x.look(3), 3 + 1 + 2 + 1);
        });
        edge("3: COST is PRICE and WALK times how far more: the most", () -> {
            NoTwoTogether x = ruled(60, "change 1 when place=59;");
            x.sort(3, 0, 99);
            x.place(59, 3, 0, true);
            x.set(7, 0);
            x.set(4, 99);
            x.days(1);
            due("COST", x.look(3), 99 + 99 * 60);
        });
        edge("3: PRICE of its SORT", () -> {
            NoTwoTogether x = ruled(6, "change 1;");
            for (int p = 0; p < 6; p++) {
                x.sort(p, 0, 10 + p);
                x.place(p, p, 0, false);
            }
            x.set(4, 0);
            x.days(1);
            due("COST", x.look(3), 10 + 11 + 12 + 13 + 14 + 15);
        });
    }

    private static void stay(NoTwoTogether x, int stay, int place) {
        due("LONGEST STAY", x.look(7), stay);
        due("its PLACE", x.look(8), place);
    }

    private static void longestStay() {
        edge("4: LONGEST STAY: 0 and NONE at first, and without a DAY", () -> {
            NoTwoTogether x = bridge(3);
            stay(x, 0, -1);
            x.place(1, 0, 999, false);
            stay(x, 0, -1);
        });
        edge("4: as its AGE becomes one more on a DAY", () -> {
            NoTwoTogether x = bridge(3);
            x.place(1, 0, 999, false);
            x.days(1);
            stay(x, 1000, 1);
            x.days(2);
            stay(x, 1002, 1);
        });
        edge("4: of a slat that goes, or is GONE, AGE is not one more", () -> {
            NoTwoTogether x = bridge(3, "go 1000 when place=0;", "");
            x.place(0, 0, 500, false);
            x.place(1, 0, 600, true);
            x.days(1);
            stay(x, 1, 2);
        });
        edge("4: the first one that had it: of one DAY", () -> {
            NoTwoTogether x = bridge(4);
            x.place(1, 0, 8, false);
            x.place(3, 0, 8, false);
            x.days(1);
            stay(x, 9, 1);
        });
        edge("4: the first one that had it: of two DAYS", () -> {
            NoTwoTogether x = bridge(3);
            x.place(2, 0, 5, false);
            x.days(1);
            stay(x, 6, 2);
            x.place(2, 0, 0, true);
            x.place(0, 0, 5, false);
            x.days(1);
            stay(x, 6, 2);
            x.days(1);
            stay(x, 7, 0);
        });
        edge("4: ahead of his coming", () -> {
            NoTwoTogether x = ruled(2, "change 1;");
            x.days(1);
            stay(x, 1, 0);
            x.place(1, 0, 40, false);
            x.days(1);
            stay(x, 41, 1);
            due("AGE", x.of(1, 1), 0);
        });
        edge("4: a slat that had it may be GONE since", () -> {
            NoTwoTogether x = bridge(2);
            x.days(5);
            x.place(0, 0, 0, true);
            stay(x, 5, 0);
            x.days(1);
            stay(x, 6, 1);
        });
        edge("4: the last of sixty", () -> {
            NoTwoTogether x = bridge(60);
            x.place(59, 0, 1, false);
            x.days(1);
            stay(x, 2, 59);
        });
    }
}
