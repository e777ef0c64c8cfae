/** The edges of what is found by trying: WHICH, WHERE, STOCKS, IN THOUGHT, OFTEN, BETTER, and any numbers at all: promises 19 to 23. */
public final class EdgesOfTriesTests extends Edge {
    public static void main(String[] args) {
        if (run() != 0) {
            System.exit(1);
        }
    }

    static int run() {
        which();
        whichOfSeveral();
        where();
        stocks();
        stocksShort();
        thoughtCalls();
        thought();
        often();
        better();
        anyNumbers();
        return wrongAnswers();
    }

    private static void changed(NoTwoTogether x, int k, int want) {
        due("which(" + k + ")", x.which(k), want);
    }

    private static void which() {
        edge("4: k 0 .. 4", () -> {
            NoTwoTogether x = old(12, "go age;", "side 1;");
            changed(x, 0, 0);
            changed(x, 1, 1);
            changed(x, 2, 3);
            changed(x, 3, 7);
            changed(x, 4, 15);
        });
        edge("Promise 19: NONE if one can't be", () -> {
            NoTwoTogether x = old(12, "go age;", "side 1;");
            for (int k : new int[] {-1, 5, LEAST, MOST}) {
                changed(x, k, -1);
            }
        });
        edge("4: WHICH (n up to 12)", () -> {
            NoTwoTogether x = bridge(12, "go age;", "side 1;");
            x.place(11, 0, 0, true);
            changed(x, 1, 2048);
            for (int n : new int[] {13, 60}) {
                x.row(n);
                changed(x, 0, -1);
                changed(x, 1, -1);
            }
        });
        edge("4: of all sets of up to k PLACES: of fewer than k", () -> {
            NoTwoTogether x = old(2, "go age;", "side 1;");
            for (int k = 2; k <= 4; k++) {
                changed(x, k, 3);
            }
        });
        edge("4: new slats: not GONE, AGE 0", () -> {
            NoTwoTogether x = bridge(4, "go age;", "side 1;");
            x.place(2, 0, 0, true);
            changed(x, 1, 4);
            x.place(2, 0, 100, false);
            changed(x, 1, 4);
            x.place(2, 0, 100, true);
            x.place(1, 0, 999, false);
            changed(x, 1, 4);
            changed(x, 2, 6);
        });
        edge("4: new slats: AGE 0 and no other", () -> {
            NoTwoTogether x = bridge(2, "go 1000 when not age=0;", "side 1;");
            x.place(0, 0, 1, false);
            changed(x, 1, 1);
            x.place(0, 0, 0, false);
            changed(x, 2, 0);
        });
        edge("4: CHANCE (NOW) of the row so changed: beside, too", () -> {
            NoTwoTogether x = bridge(5, "go beside*400+age;", "side 3;");
            x.place(2, 0, 0, true);
            x.place(0, 0, 500, false);
            changed(x, 1, 4);
        });
        edge("Promise 19: nothing is done", () -> {
            NoTwoTogether x = used();
            x.place(2, 0, 5, true);
            String before = picture(x);
            due("which(4)", x.which(4) >= 0, true);
            same("which", picture(x), before);
        });
        edge("4: BACK and STOCK do not bind it", () -> {
            NoTwoTogether x = old(4, "go age;", "side 1;");
            x.set(2, 0);
            x.set(6, 0);
            x.set(7, 0);
            changed(x, 2, 3);
        });
    }

    /** All slats are of AGE 100. */
    private static NoTwoTogether old(int n, String law, String fails) {
        NoTwoTogether x = bridge(n, law, fails);
        for (int p = 0; p < n; p++) {
            x.place(p, 0, 100, false);
        }
        return x;
    }

    private static void whichOfSeveral() {
        edge("4: of several the one with fewest: none", () -> {
            changed(old(12, "", "side 1;"), 4, 0);
            changed(old(12, "go age;", ""), 4, 0);
            changed(old(12, "go age;", "shape all;"), 4, 0);
        });
        edge("4: of several the one with fewest: one of the last rather than two of the first", () -> {
            NoTwoTogether x = bridge(6, "", "any 3 in 8;shape gone gone all all all all;");
            x.place(0, 0, 0, true);
            x.place(1, 0, 0, true);
            changed(x, 4, 1);
            NoTwoTogether y = bridge(4, "", "shape gone all all gone;shape all gone all gone;");
            y.place(0, 0, 0, true);
            y.place(1, 0, 0, true);
            y.place(3, 0, 0, true);
            changed(y, 4, 8);
        });
        edge("4: then the least as a number (PLACE p counts 2 to the p)", () -> {
            NoTwoTogether x = bridge(12, "", "side 2;");
            x.place(10, 0, 0, true);
            x.place(11, 0, 0, true);
            changed(x, 4, 1024);
            x.place(0, 0, 0, true);
            x.place(1, 0, 0, true);
            changed(x, 1, 0);
            changed(x, 2, 1025);
        });
    }

    private static void order(NoTwoTogether x, int... sorts) {
        for (int p = 0; p < sorts.length; p++) {
            due("where(" + p + ")", x.where(p), sorts[p]);
        }
    }

    private static NoTwoTogether sorted(String law, String fails, int... sorts) {
        NoTwoTogether x = bridge(sorts.length, law, fails);
        for (int p = 0; p < sorts.length; p++) {
            x.place(p, sorts[p], 0, false);
        }
        for (int k = 0; k < 6; k++) {
            x.sort(k, 100 * k, 1);
        }
        return x;
    }

    private static void where() {
        edge("Promise 20: NONE if one can't be: no such PLACE", () -> {
            NoTwoTogether x = bridge(7);
            due("where(6)", x.where(6), 0);
            for (int p : new int[] {-1, 7, LEAST, MOST}) {
                due("where(" + p + ")", x.where(p), -1);
            }
            x.row(2);
            due("where(1) of 2", x.where(1), 0);
            due("where(2) of 2", x.where(2), -1);
        });
        edge("4: WHERE (n up to 7)", () -> {
            NoTwoTogether x = bridge(7);
            due("of 7", x.where(0), 0);
            for (int n : new int[] {8, 60}) {
                x.row(n);
                due("of " + n, x.where(0), -1);
            }
        });
        edge("4: of several the first by SORTS, PLACE 0 first", () -> {
            order(sorted("", "side 1;", 5, 4, 3, 2, 1, 0, 0), 0, 0, 1, 2, 3, 4, 5);
            order(sorted("go weak;", "", 3, 1), 1, 3);
            order(sorted("go weak;", "shape all;", 2, 5, 0), 0, 2, 5);
            order(sorted("go weak;", "side 3;", 2, 5, 1), 1, 2, 5);
            order(sorted("go weak;", "shape all gone;", 5, 0, 1), 5, 0, 1);
        });
        edge("4: the last of all orders", () -> order(sorted("go weak*place;", "shape gone;", 0, 1, 2), 2, 1, 0));
        edge("4: the last of the most orders that there are", () ->
            order(sorted("go weak*place/9;", "shape gone;", 0, 1, 2, 3, 4, 5, 5), 5, 5, 4, 3, 2, 1, 0));
        edge("4: all orders, with SORTS that are alike", () -> {
            order(sorted("go weak*place/9;", "shape gone;", 0, 0, 1), 1, 0, 0);
            order(sorted("go weak*place/9;", "shape gone;", 1, 0, 1, 0), 1, 1, 0, 0);
            order(sorted("go weak*place/9;", "shape gone;", 0, 1, 5, 0, 5, 1, 5), 5, 5, 5, 1, 1, 0, 0);
        });
        edge("4: of the SORTS that there are: one alone", () -> order(sorted("go weak;", "side 1;", 4, 4, 4), 4, 4, 4));
        edge("4: AGES 0, none GONE", () -> {
            NoTwoTogether x = sorted("go weak+age;", "side 2;", 5, 0, 1);
            x.place(0, 5, 999, true);
            x.place(1, 0, 999, true);
            x.place(2, 1, 999, true);
            order(x, 1, 0, 5);
            x = sorted("go weak*place when age=0;go 1000;", "shape gone;", 0, 1, 2);
            x.place(0, 0, 1, false);
            x.place(2, 2, 3, false);
            order(x, 2, 1, 0);
            NoTwoTogether y = sorted("go weak+beside*300;", "side 2;", 1, 0, 5);
            y.place(1, 0, 0, true);
            order(y, 1, 0, 5);
        });
        edge("Promise 20: nothing is done", () -> {
            NoTwoTogether x = used();
            String before = picture(x);
            due("where(0)", x.where(0) >= 0, true);
            same("where", picture(x), before);
        });
    }

    private static void way(NoTwoTogether x, int set, int way, int fromLeft) {
        due("stocks(" + set + ", 0)", x.stocks(set, 0), way);
        due("stocks(" + set + ", 1)", x.stocks(set, 1), fromLeft);
    }

    private static NoTwoTogether stocked(int n, int left, int right) {
        NoTwoTogether x = bridge(n);
        x.set(6, left);
        x.set(7, right);
        return x;
    }

    private static void stocks() {
        edge("4: told PLACES (a set, n up to 30)", () -> {
            NoTwoTogether x = bridge(30);
            way(x, 1 << 29, 1, 0);
            way(x, 0x3FFFFFFF, 240, 15);
            for (int n : new int[] {31, 32, 33, 60}) {
                x.row(n);
                way(x, 1, -1, -1);
                way(x, 0, -1, -1);
            }
        });
        edge("Promise 21: NONE if one can't be: PLACES beyond n", () -> {
            for (int n : new int[] {2, 8, 29, 30}) {
                NoTwoTogether x = bridge(n);
                way(x, 1 << n - 1, 1, 0);
                way(x, 1 << n, -1, -1);
                way(x, 1 | 1 << n, -1, -1);
                way(x, LEAST, -1, -1);
                way(x, -1, -1, -1);
                way(x, MOST, -1, -1);
            }
        });
        edge("Promise 21: NONE for another what", () -> {
            NoTwoTogether x = bridge(8);
            for (int what : new int[] {-1, 2, LEAST, MOST}) {
                due("stocks(1, " + what + ")", x.stocks(1, what), -1);
                due("stocks(0, " + what + ")", x.stocks(0, what), -1);
            }
        });
        edge("4: STOCKS: no PLACE at all, with STOCK and without", () -> {
            way(bridge(8), 0, 0, 0);
            way(stocked(8, 0, 0), 0, 0, 0);
        });
        edge("4: how many from the left then (the fewest): alike from either end", () -> {
            way(bridge(3), 2, 2, 0);
            way(bridge(3), 7, 4, 1);
            way(bridge(5), 31, 9, 2);
            way(bridge(4), 15, 6, 2);
        });
        edge("4: the least way: each from its nearer end", () -> {
            way(bridge(8), 1, 1, 1);
            way(bridge(8), 128, 1, 0);
            way(bridge(8), 129, 2, 1);
            way(bridge(8), 255, 20, 4);
        });
        edge("4: STOCKS: the way alone: WALK, PRICE and BACK are no matter", () -> {
            NoTwoTogether x = bridge(8);
            x.set(4, 99);
            x.sort(0, 0, 99);
            x.set(2, 1);
            way(x, 255, 20, 4);
        });
        edge("Promise 21: nothing is done, STOCK stays", () -> {
            NoTwoTogether x = used();
            String before = picture(x);
            way(x, 7, 4, 1);
            same("stocks", picture(x), before);
        });
        edge("4: STOCKS: whatever the PLACES are, GONE or not", () -> {
            NoTwoTogether x = bridge(3);
            x.place(0, 0, 0, true);
            way(x, 3, 3, 1);
        });
    }

    private static void stocksShort() {
        edge("4: as long as there is STOCK there: none at the left", () -> {
            way(stocked(8, 0, 8), 255, 36, 0);
            way(stocked(8, 0, 1), 1, 8, 0);
        });
        edge("4: as long as there is STOCK there: none at the right", () -> {
            way(stocked(8, 8, 0), 255, 36, 8);
            way(stocked(8, 1, 0), 128, 8, 1);
        });
        edge("4: as long as there is STOCK there: less than would be taken", () -> {
            way(stocked(8, 1, 99), 15, 1 + 7 + 6 + 5, 1);
            way(stocked(8, 99, 1), 240, 5 + 6 + 7 + 1, 3);
            way(stocked(3, 1, 2), 7, 4, 1);
            way(stocked(3, 2, 1), 7, 4, 2);
        });
        edge("Promise 21: just as much as there is", () -> {
            way(stocked(5, 3, 2), 31, 1 + 2 + 3 + 2 + 1, 3);
            way(stocked(5, 5, 0), 31, 15, 5);
            way(stocked(5, 0, 5), 31, 15, 0);
        });
        edge("Promise 21: NONE if there is not as much", () -> {
            way(stocked(5, 2, 2), 31, -1, -1);
            way(stocked(5, 4, 0), 31, -1, -1);
            way(stocked(5, 0, 4), 31, -1, -1);
            way(stocked(5, 0, 0), 16, -1, -1);
        });
        edge("4: STOCKS: the most STOCK", () -> way(stocked(30, 999, 999), 0x3FFFFFFF, 240, 15));
    }

    private static void thoughtIs(NoTwoTogether x, int rule, int every, int d, int cost, int failures, int changed) {
        String call = "thought(" + rule + ", " + every + ", " + d + ", ";
        due(call + "0)", x.thought(rule, every, d, 0), cost);
        due(call + "1)", x.thought(rule, every, d, 1), failures);
        due(call + "2)", x.thought(rule, every, d, 2), changed);
    }

    /** A row of two that always FAILS; RULE 1 changes the first slat each time, RULE 2 both. */
    private static NoTwoTogether twoRules() {
        NoTwoTogether x = bridge(2, "", "shape all;");
        good(x, 1, "change 1 when place=0;");
        good(x, 2, "change 1;");
        x.set(5, 10);
        return x;
    }

    private static void thoughtCalls() {
        edge("Promise 22: a RULE (1, 2)", () -> {
            NoTwoTogether x = twoRules();
            thoughtIs(x, 1, 1, 1, 12, 1, 1);
            thoughtIs(x, 2, 1, 1, 14, 1, 2);
            for (int rule : new int[] {0, 3, -1, LEAST, MOST}) {
                thoughtIs(x, rule, 1, 1, -1, -1, -1);
            }
        });
        edge("Promise 22: an EVERY (1 .. 99)", () -> {
            NoTwoTogether x = twoRules();
            thoughtIs(x, 1, 1, 99, 990 + 198, 99, 99);
            thoughtIs(x, 1, 99, 99, 992, 99, 1);
            thoughtIs(x, 1, 98, 99, 992, 99, 1);
            thoughtIs(x, 1, 50, 99, 992, 99, 1);
            thoughtIs(x, 1, 49, 99, 994, 99, 2);
            for (int every : new int[] {0, 100, -1, LEAST, MOST}) {
                thoughtIs(x, 1, every, 1, -1, -1, -1);
            }
        });
        edge("4: d DAYS (1 .. 99)", () -> {
            NoTwoTogether x = twoRules();
            thoughtIs(x, 2, 99, 1, 10, 1, 0);
            thoughtIs(x, 2, 99, 98, 980, 98, 0);
            thoughtIs(x, 2, 99, 99, 994, 99, 2);
            for (int d : new int[] {0, 100, -1, LEAST, MOST}) {
                thoughtIs(x, 1, 1, d, -1, -1, -1);
            }
        });
        edge("Promise 22: NONE for another what", () -> {
            NoTwoTogether x = twoRules();
            for (int what : new int[] {-1, 3, LEAST, MOST}) {
                due("thought(1, 1, 1, " + what + ")", x.thought(1, 1, 1, what), -1);
            }
        });
    }

    private static void thought() {
        edge("4: nothing of it stays, STATE too", () -> {
            NoTwoTogether x = used();
            String before = picture(x);
            for (int what = 0; what <= 2; what++) {
                due("thought", x.thought(1, 1, 99, what) >= 0, true);
                due("thought", x.thought(2, 3, 99, what) >= 0, true);
            }
            same("thought", picture(x), before);
        });
        edge("4: nothing of it stays: the same again", () -> {
            NoTwoTogether x = bridge(6, "go 200;", "side 2;");
            good(x, 1, "change gone;");
            int once = x.thought(1, 2, 50, 0);
            due("again", x.thought(1, 2, 50, 0), once);
            due("by another RULE between", x.thought(2, 2, 50, 0) >= 0, true);
            due("again", x.thought(1, 2, 50, 0), once);
            x.set(3, 2);
            int failures = x.thought(1, 2, 50, 1);
            due("as it comes to be: FAILURES", x.days(50), failures);
            due("as it comes to be: COST", x.look(3), once);
        });
        edge("4: DAY may be above 9999", () -> {
            NoTwoTogether x = twoRules();
            x.set(3, 99);
            for (int i = 0; i < 101; i++) {
                x.days(99);
            }
            due("DAY", x.look(1), 9999);
            x.set(6, 999);
            x.set(7, 999);
            thoughtIs(x, 2, 1, 99, 990 + 4 * 99, 99, 198);
            thoughtIs(x, 2, 50, 99, 990 + 4 * 2, 99, 4);
            good(x, 2, "change 1 when day>9999;");
            thoughtIs(x, 2, 1, 99, 990 + 4 * 99, 99, 198);
            thoughtIs(x, 2, 5000, 2, -1, -1, -1);
            thoughtIs(x, 2, 99, 99, 994, 99, 2);
            due("DAY", x.look(1), 9999);
            due("days(1)", x.days(1), -1);
        });
        edge("4: COST, FAILURES, CHANGED that come to it: without those there are", () -> {
            NoTwoTogether x = twoRules();
            x.days(5);
            thoughtIs(x, 1, 1, 1, 12, 1, 1);
        });
        edge("4: with another EVERY: what was told stays", () -> {
            NoTwoTogether x = twoRules();
            x.set(3, 99);
            thoughtIs(x, 1, 1, 2, 24, 2, 2);
            due("EVERY", x.look(12), 99);
        });
        edge("4: as long as STOCK is left, in thought too", () -> {
            NoTwoTogether x = twoRules();
            x.set(6, 3);
            x.set(7, 0);
            thoughtIs(x, 2, 1, 9, 90 + 2 + 3 + 2, 9, 3);
            due("STOCK", x.look(15), 3);
        });
    }

    private static void oftenIs(NoTwoTogether x, int d, int want) {
        due("often(" + d + ", 0)", x.often(d, 0), want);
    }

    private static void often() {
        edge("Promise 23: d DAYS (1 .. 99)", () -> {
            NoTwoTogether x = twoRules();
            oftenIs(x, 1, 9);
            oftenIs(x, 99, 9);
            for (int d : new int[] {0, 100, -1, LEAST, MOST}) {
                oftenIs(x, d, -1);
                due("often(" + d + ", 1)", x.often(d, 1), -1);
            }
        });
        edge("Promise 23: NONE for another what", () -> {
            NoTwoTogether x = twoRules();
            for (int what : new int[] {-1, 2, LEAST, MOST}) {
                due("often(1, " + what + ")", x.often(1, what), -1);
            }
        });
        edge("4: OFTEN: of several the greatest", () -> {
            oftenIs(bridge(2), 99, 9);
            oftenIs(bridge(2, "", "shape all;"), 50, 9);
        });
        edge("4: of EVERY 1 .. 9: 1 is the best", () -> {
            NoTwoTogether x = bridge(2, "go 1000 when age>0;", "side 1;");
            good(x, 1, "change 1;");
            x.set(6, 999);
            x.set(7, 999);
            oftenIs(x, 50, 1);
            oftenIs(x, 1, 9);
        });
        edge("4: of EVERY 1 .. 9: each may be the best", () -> {
            for (int every = 2; every <= 9; every++) {
                NoTwoTogether x = bridge(2, "go 1000 when age>" + (every - 1) + ";", "side 1;");
                good(x, 1, "change 1;");
                x.set(3, 7);
                oftenIs(x, every * 4 + 1, every);
                due("EVERY stays", x.look(12), 7);
            }
        });
        edge("4: OFTEN: by RULE 1 as it is", () -> {
            NoTwoTogether x = bridge(2, "go 1000 when age>3;", "side 1;");
            good(x, 2, "change 1;");
            oftenIs(x, 30, 9);
            good(x, 1, "change 1;");
            good(x, 2, "");
            oftenIs(x, 30, 4);
        });
        edge("4: OFTEN: nothing of it stays", () -> {
            NoTwoTogether x = used();
            String before = picture(x);
            due("often(99, 0)", x.often(99, 0) > 0, true);
            due("often(99, 1)", x.often(99, 1) > 0, true);
            same("often", picture(x), before);
        });
    }

    private static void betterIs(NoTwoTogether x, int d, int want) {
        due("often(" + d + ", 1)", x.often(d, 1), want);
    }

    private static void better() {
        edge("4: BETTER: of both 1", () -> {
            betterIs(bridge(2), 99, 1);
            NoTwoTogether x = bridge(2);
            good(x, 1, "change 1 when place=0;");
            good(x, 2, "change 1 when place=1;");
            betterIs(x, 5, 1);
        });
        edge("4: BETTER: RULE 1 or 2 by less COST: by one", () -> {
            NoTwoTogether x = bridge(3);
            good(x, 1, "change 1 when place=1 and day=1;");
            good(x, 2, "change 1 when place=0 and day=1;");
            betterIs(x, 1, 2);
            good(x, 1, "change 1 when place=0 and day=1;");
            good(x, 2, "change 1 when place=1 and day=1;");
            betterIs(x, 1, 1);
        });
        edge("4: BETTER: COST that there is by now is no matter", () -> {
            NoTwoTogether x = twoRules();
            x.days(3);
            due("COST", x.look(3), 36);
            betterIs(x, 1, 1);
            good(x, 2, "");
            betterIs(x, 1, 2);
        });
        edge("4: BETTER: with EVERY as it was told", () -> {
            NoTwoTogether x = bridge(2);
            good(x, 1, "change 1;");
            betterIs(x, 4, 2);
            x.set(3, 5);
            betterIs(x, 4, 1);
            betterIs(x, 5, 2);
        });
    }

    /** No numbers may make a call throw; what is answered to most of them is told above. */
    private static void anyNumbers() {
        edge("any arguments, of a new row, of the shortest and of the longest", () -> {
            int[] numbers = {LEAST, LEAST + 1, -1, 0, 1, 30, 31, 32, 60, 61, MOST - 1, MOST};
            for (int n : new int[] {2, 8, 60}) {
                for (int a : numbers) {
                    NoTwoTogether x = bridge(n, "go 1;", "side 2;");
                    for (int b : numbers) {
                        call(x, a, b);
                    }
                    due("n or another one told", x.look(0) >= 2 && x.look(0) <= 60, true);
                }
            }
        });
    }

    private static void call(NoTwoTogether x, int a, int b) {
        x.row(a);
        x.place(a, b, a, true);
        x.place(b, a, b, false);
        x.sort(a, b, b);
        x.set(a, b);
        x.feed(a, b, a, b, a);
        x.end(b);
        x.text(a);
        x.fault(a);
        x.of(a, b);
        x.see(a);
        x.fails(a, b);
        x.days(a);
        x.chance(a);
        x.left(a);
        x.ahead(a, b);
        x.hold(a);
        x.which(a);
        x.where(a);
        x.stocks(a, b);
        x.thought(a, b, a, b);
        x.often(a, b);
        x.nine(a);
        x.image((a ^ b) % 3 == 0);
        x.look(a);
        x.state(a ^ b);
    }
}
