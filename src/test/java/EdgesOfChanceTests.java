/** The edges of what is likely: CHANCE, GUESS, the days AHEAD, HOLD and NINE: sections 3 and 4, promises 11, 15 to 18 and 24. */
public final class EdgesOfChanceTests extends Edge {
    public static void main(String[] args) {
        if (run() != 0) {
            System.exit(1);
        }
    }

    static int run() {
        chanceNow();
        lastSeven();
        chanceThought();
        guess();
        left();
        goesAhead();
        lasts();
        mostLikely();
        hold();
        nine();
        return wrongAnswers();
    }

    private static void now(NoTwoTogether x, long want) {
        due("chance(0)", x.chance(0), want);
    }

    private static void chanceNow() {
        edge("Promise 15: NONE for another what", () -> {
            NoTwoTogether x = bridge(2, "go 500;", "side 1;");
            for (int what : new int[] {-1, 2, LEAST, MOST}) {
                due("chance(" + what + ")", x.chance(what), -1);
            }
        });
        edge("3: CHANCE is all that is out: nothing FAILS", () -> {
            for (int n : new int[] {2, 60}) {
                now(bridge(n, "go 1000;", ""), 0);
                now(bridge(n, "go 0;", "side 1;"), 0);
            }
        });
        edge("3: CHANCE is all that is out: all FAILS", () -> {
            for (int n : new int[] {2, 60}) {
                now(bridge(n, "go 1000;", "side 1;"), ALL);
                now(bridge(n, "go 500;", "shape all;"), ALL);
                now(bridge(n, "go 0;", "shape there there;"), ALL);
            }
        });
        edge("3: c is 1000 for one that is GONE, else its GOES", () -> {
            NoTwoTogether x = bridge(2, "go 0;", "side 2;");
            x.place(0, 0, 0, true);
            now(x, 0);
            x.place(1, 0, 0, true);
            now(x, ALL);
            good(x, 0, "go 250;");
            now(x, ALL);
            x.place(0, 0, 0, false);
            now(x, ALL / 4);
            x.place(1, 0, 0, false);
            now(x, ALL / 16);
        });
        edge("3: GOES as the row is now: AGE and DAY", () -> {
            NoTwoTogether x = bridge(2, "go 1000 when age=7;", "side 1;");
            for (int age = 6; age <= 8; age++) {
                x.place(1, 0, age, false);
                now(x, age == 7 ? ALL : 0);
            }
            good(x, 0, "");
            x.days(3);
            for (int day = 2; day <= 4; day++) {
                good(x, 0, "go 1000 when day=" + day + ";");
                now(x, day == 3 ? ALL : 0);
            }
        });
        edge("3: GOES as the row is now: beside one that is GONE", () -> {
            NoTwoTogether x = bridge(3, "go 100+beside*200;", "side 2;");
            x.place(1, 0, 0, true);
            now(x, 300000000000L + 210000000000L);
        });
        edge("3: weight times c by 1000 downwards is for GONE, the rest for not", () -> {
            now(bridge(5, "go 333;", "side 5;"), 4094691316L);
            now(bridge(6, "go 333;", "side 6;"), 1363532208L);
            now(bridge(5, "go 333;", "shape gone gone gone gone there;"), 12296370321L - 4094691316L);
            now(bridge(8, "go 1;", "side 4;"), 1L);
            now(bridge(4, "go 1;", "side 4;"), 1L);
            now(bridge(5, "go 1;", "side 5;"), 0L);
        });
        edge("3: a weight of one part of ALL", () -> {
            now(bridge(5, "go 1 when place<4;", "shape gone gone gone gone there;"), 1);
            now(bridge(5, "go 1 when place<4;go 1000;", "side 5;"), 1);
            now(bridge(5, "go 1 when place<4;go 999;", "side 5;"), 0);
            now(bridge(5, "go 1 when place<4;go 999;", "shape gone gone gone gone there;"), 1);
        });
        edge("3: GOES 1000 and 0: all of a weight, none of it", () -> {
            NoTwoTogether x = bridge(3, "go 1000 when place=1;go 0;", "shape there gone there;");
            now(x, ALL);
            good(x, 3, "shape gone;");
            now(x, ALL);
            good(x, 3, "side 2;");
            now(x, 0);
        });
        edge("3: what FAILS by then is out, and counts once", () -> {
            NoTwoTogether x = bridge(3, "go 500;", "side 1;side 2;any 1 in 3;shape gone all;");
            now(x, ALL / 8 * 7);
        });
    }

    private static void lastSeven() {
        edge("3: by which of the seven last PLACES: those eight apart", () -> {
            String ends = "shape gone all all all all all all gone;";
            now(bridge(7, "go 500;", ends), 0);
            now(bridge(8, "go 500;", ends), ALL / 4);
            now(bridge(9, "go 500;", ends), ALL / 16 * 7);
            now(bridge(10, "go 500;", ends), ALL / 64 * 37);
        });
        edge("3: of the seven last: the first of eight is not forgotten too soon, nor kept too long", () -> {
            NoTwoTogether x = bridge(9, "go 1000 when place=0 or place=8;", "any 2 in 8;");
            now(x, 0);
            good(x, 0, "go 1000 when place=1 or place=8;");
            now(x, ALL);
            good(x, 0, "go 1000 when place=0 or place=7;");
            now(x, ALL);
        });
        edge("3: (0 first: fewer): what is not there beyond the left end meets no line", () -> {
            now(bridge(2, "go 0;", "shape there there there;"), 0);
            now(bridge(3, "go 0;", "shape there there there;"), ALL);
            now(bridge(7, "go 0;", "shape" + many(" there", 8) + ";"), 0);
            now(bridge(8, "go 0;", "shape" + many(" there", 8) + ";"), ALL);
            now(bridge(7, "go 1000;", "side 8;"), 0);
            now(bridge(8, "go 1000;", "side 8;"), ALL);
            now(bridge(2, "go 1000 when place=0;", "shape there gone;"), 0);
        });
        edge("3: the last PLACES of sixty", () -> {
            now(bridge(60, "go 1000 when place>51;", "side 8;"), ALL);
            now(bridge(60, "go 1000 when place>52;", "side 8;"), 0);
            now(bridge(60, "go 999 when place=59;go 1000 when place>51;", "side 8;"), ALL / 1000 * 999);
            now(bridge(60, "go 1000 when place=59;", "shape there there gone;"), ALL);
        });
        edge("3: those whose seven last PLACES are alike then are added", () -> {
            now(bridge(9, "go 500 when place=0;go 1 when place<4 or place=8;", "shape gone gone gone there there there there gone;"), 1);
        });
        edge("3: those whose seven last PLACES are alike then are added: the last of these GONE", () -> {
            String law = "go 500 when place=0;go 1 when place=1 or place=2 or place>6;";
            now(bridge(9, law, "shape gone gone there there there there gone gone;"), 1);
        });
        edge("3: those whose seven last PLACES are not alike are not added", () -> {
            now(bridge(8, "go 500 when place=0;go 1 when place<4 or place=7;", "shape gone gone gone there there there gone;"), 0);
        });
    }

    private static void chanceThought() {
        edge("3: (THOUGHT) its GUESS, GONE or not: never SEEN", () -> {
            NoTwoTogether x = bridge(2, "go 1000;", "side 2;");
            due("chance(1)", x.chance(1), ALL / 4);
            x.place(0, 0, 0, true);
            x.place(1, 0, 0, true);
            due("chance(1)", x.chance(1), ALL / 4);
        });
        edge("3: (THOUGHT) its GUESS, GONE or not: SEEN GONE, and it is not; SEEN not GONE, and it is", () -> {
            NoTwoTogether x = bridge(2, "go 1000;", "side 2;");
            x.place(0, 0, 0, true);
            x.see(0);
            x.place(0, 0, 0, false);
            due("chance(1)", x.chance(1), ALL / 2);
            x.see(1);
            x.place(1, 0, 0, true);
            due("chance(1)", x.chance(1), 0);
        });
        edge("3: CHANCE (THOUGHT) of sixty never SEEN", () -> {
            due("all FAILS", bridge(60, "", "shape all;").chance(1), ALL);
            due("nothing FAILS", bridge(60, "", "").chance(1), 0);
        });
    }

    private static void guessed(NoTwoTogether x, int p, int want) {
        due("GUESS of " + p, x.of(p, 6), want);
    }

    private static void guess() {
        edge("3: GUESS: of one never SEEN 500", () -> {
            NoTwoTogether x = bridge(60, "go 1000;", "");
            x.set(3, 99);
            guessed(x, 0, 500);
            guessed(x, 59, 500);
            x.days(3);
            guessed(x, 0, 500);
        });
        edge("3: GUESS: SEEN GONE 1000", () -> {
            NoTwoTogether x = bridge(2, "", "");
            x.set(3, 99);
            x.place(0, 0, 0, true);
            x.see(0);
            guessed(x, 0, 1000);
            x.days(9);
            guessed(x, 0, 1000);
            x.place(0, 0, 0, false);
            guessed(x, 0, 1000);
        });
        edge("3: GUESS: behind no DAY nothing of 1000 is lost", () -> {
            NoTwoTogether x = bridge(2, "go 1000;", "");
            x.see(0);
            guessed(x, 0, 0);
            x.place(0, 0, 0, true);
            guessed(x, 0, 0);
        });
        edge("3: GUESS: each day times (1000 less GOES) by 1000, downwards", () -> {
            NoTwoTogether x = bridge(2, "go 333;", "");
            x.set(3, 99);
            x.see(0);
            int[] wanted = {333, 556, 704, 803, 869};
            for (int want : wanted) {
                x.days(1);
                guessed(x, 0, want);
            }
        });
        edge("3: GUESS: GOES 0, GOES 1000", () -> {
            NoTwoTogether x = bridge(2, "", "");
            x.set(3, 99);
            x.see(0);
            x.days(99);
            x.see(0);
            x.days(98);
            guessed(x, 0, 0);
            good(x, 0, "go 1000;");
            guessed(x, 0, 1000);
            good(x, 0, "go 1;");
            x.see(0);
            guessed(x, 0, 0);
        });
        edge("3: GUESS: behind many DAYS, each time downwards", () -> {
            NoTwoTogether x = bridge(2, "", "");
            x.set(3, 99);
            x.see(1);
            x.days(98);
            good(x, 0, "go 1;");
            guessed(x, 1, 98);
            good(x, 0, "go 999;");
            guessed(x, 1, 1000);
        });
        edge("3: GUESS: GOES, as it is: by AGE and DAY of today", () -> {
            NoTwoTogether x = bridge(2, "", "");
            x.set(3, 99);
            x.see(1);
            x.days(3);
            x.place(1, 0, 7, false);
            for (int age = 6; age <= 8; age++) {
                good(x, 0, "go 500 when age=" + age + ";");
                guessed(x, 1, age == 7 ? 875 : 0);
            }
            for (int day = 2; day <= 4; day++) {
                good(x, 0, "go 500 when day=" + day + ";");
                guessed(x, 1, day == 3 ? 875 : 0);
            }
        });
        edge("3: GUESS: GOES, as it is but with beside 0", () -> {
            NoTwoTogether x = bridge(3, "go 100+beside*300;", "");
            x.set(3, 99);
            x.see(1);
            x.days(1);
            x.place(0, 0, 0, true);
            x.place(2, 0, 0, true);
            guessed(x, 1, 100);
            good(x, 0, "go 1000 when beside=0;go 1;");
            guessed(x, 1, 1000);
        });
    }

    private static void behind(NoTwoTogether x, int d, long want) {
        due("left(" + d + ")", x.left(d), want);
    }

    private static void left() {
        edge("Promise 16: d 0 .. 60", () -> {
            NoTwoTogether x = bridge(2, "go 1000 when day=60;", "side 1;");
            behind(x, 0, ALL);
            behind(x, 60, ALL);
            for (int d : new int[] {-1, 61, LEAST, MOST}) {
                behind(x, d, -1);
            }
            good(x, 0, "go 1000 when day=59;");
            behind(x, 60, 0);
            behind(x, 59, ALL);
        });
        edge("3: AHEAD (n up to 10)", () -> {
            NoTwoTogether x = bridge(10, "go 1000 when place=9;", "shape gone;");
            behind(x, 0, ALL);
            behind(x, 1, 0);
            x.row(11);
            behind(x, 0, -1);
            behind(x, 1, -1);
            x.row(60);
            behind(x, 0, -1);
            x.row(2);
            behind(x, 60, ALL);
        });
        edge("3: the row as it is first, all that do not FAIL", () -> {
            NoTwoTogether x = bridge(3, "", "side 2;");
            behind(x, 0, ALL);
            x.place(2, 0, 0, true);
            behind(x, 0, ALL);
            x.place(1, 0, 0, true);
            behind(x, 0, 0);
            behind(x, 60, 0);
        });
        edge("3: what is not out: all are out, none is", () -> {
            NoTwoTogether x = bridge(2, "go 1000;", "side 1;");
            behind(x, 1, 0);
            behind(x, 60, 0);
            good(x, 3, "");
            behind(x, 60, ALL);
        });
        edge("Promise 16: beyond DAY 9999, too", () -> {
            NoTwoTogether x = bridge(2, "", "side 1;");
            x.set(3, 99);
            for (int i = 0; i < 101; i++) {
                x.days(99);
            }
            good(x, 0, "go 1000 when day=9999+1;");
            behind(x, 1, ALL);
            behind(x, 2, 0);
        });
        edge("Promise 16: nothing of it stays", () -> {
            NoTwoTogether x = used();
            String before = picture(x);
            due("left(60)", x.left(60) >= 0, true);
            due("ahead(0, 0)", x.ahead(0, 0) >= 0, true);
            due("ahead(1, 9)", x.ahead(1, 9) >= -1, true);
            same("left and ahead", picture(x), before);
        });
    }

    private static void goesAhead() {
        edge("3: of each set GOES is asked (by it): beside", () -> {
            NoTwoTogether x = bridge(3, "go 1000 when place=0;go 1000 when beside>0;", "side 2;");
            behind(x, 1, ALL);
            behind(x, 2, 0);
            good(x, 3, "side 3;");
            behind(x, 2, ALL);
            behind(x, 3, 0);
        });
        edge("3: of each set GOES is asked (by it): beside none, one, two", () -> {
            NoTwoTogether x = bridge(3, "go 1000 when beside=2;go 1 when beside=1;", "side 3;");
            behind(x, 60, ALL);
            x.place(0, 0, 0, true);
            behind(x, 1, ALL);
            x.place(2, 0, 0, true);
            behind(x, 1, 0);
            good(x, 0, "go 250 when beside=2;go 1000;");
            behind(x, 1, ALL / 4 * 3);
        });
        edge("3: weights by sets of GONE: what comes to be the same set is added", () -> {
            NoTwoTogether x = bridge(2, "go 500 when place=0;", "");
            for (int d = 0; d <= 3; d++) {
                behind(x, d, ALL);
            }
            likely(x, 1, 0);
            likely(x, 2, 1);
            good(x, 3, "shape there;");
            x.place(1, 0, 0, true);
            behind(x, 0, 0);
        });
        edge("3: one part of ALL is never split: the rest stays", () -> {
            NoTwoTogether x = bridge(2, "go 999;", "side 1;");
            behind(x, 1, 1000000);
            behind(x, 2, 1);
            behind(x, 60, 1);
            likely(x, 2, 0);
            likely(x, 60, 0);
        });
        edge("3: PLACE by PLACE, not GONE: a weight is not split by one that is GONE", () -> {
            NoTwoTogether x = bridge(5, "go 500 when place=0;go 1;", "side 5;");
            x.place(0, 0, 0, true);
            behind(x, 1, ALL - 1);
        });
        edge("3: AGES as many DAYS more", () -> {
            NoTwoTogether x = bridge(2, "go 1000 when age=7;", "side 1;");
            x.place(1, 0, 5, false);
            behind(x, 2, ALL);
            behind(x, 3, 0);
            x.place(1, 0, 7, false);
            behind(x, 0, ALL);
            behind(x, 1, 0);
            x.place(1, 0, 8, false);
            behind(x, 7, ALL);
            behind(x, 8, 0);
        });
        edge("3: day likewise", () -> {
            NoTwoTogether x = bridge(2, "go 1000 when day=3;", "side 1;");
            behind(x, 3, ALL);
            behind(x, 4, 0);
            good(x, 0, "");
            x.days(2);
            good(x, 0, "go 1000 when day=3;");
            behind(x, 1, ALL);
            behind(x, 2, 0);
        });
        edge("3: PLACE by PLACE, not GONE: one that is GONE stays so", () -> {
            NoTwoTogether x = bridge(3, "go 500;", "side 3;");
            x.place(0, 0, 0, true);
            x.place(1, 0, 0, true);
            behind(x, 1, ALL / 2);
            behind(x, 2, ALL / 4);
        });
        edge("3: weight times GOES by 1000 downwards is GONE, the rest not", () -> {
            NoTwoTogether x = bridge(5, "go 333;", "side 5;");
            behind(x, 1, ALL - 4094691316L);
            x = bridge(4, "go 1;", "side 4;");
            behind(x, 1, ALL - 1);
            x = bridge(5, "go 1;", "side 5;");
            behind(x, 1, ALL);
        });
        edge("3: GOES 0 and 1000: nothing of a weight, all of it", () -> {
            NoTwoTogether x = bridge(2, "go 1000 when place=0;go 0;", "shape gone there;");
            behind(x, 1, 0);
            good(x, 3, "shape gone gone;");
            behind(x, 60, ALL);
        });
        edge("3: sets that FAIL behind the DAY are out: not within it", () -> {
            NoTwoTogether x = bridge(3, "go 1000;", "shape gone there;");
            behind(x, 1, ALL);
            good(x, 0, "go 1000 when place=0;go 500;");
            behind(x, 1, ALL / 4);
        });
    }

    private static void lastsFor(NoTwoTogether x, int want) {
        due("ahead(0, 0)", x.ahead(0, 0), want);
    }

    private static void lasts() {
        edge("3: LASTS: over d 0 .. 59 LEFT added: the most", () -> lastsFor(bridge(10, "", "side 1;"), 60000));
        edge("3: LASTS: the least: all out at first", () -> lastsFor(bridge(10, "", "shape all;"), 0));
        edge("3: LASTS: d 0 counts, d 59 counts, d 60 does not", () -> {
            lastsFor(bridge(2, "go 1000;", "side 1;"), 1000);
            lastsFor(bridge(2, "go 1000 when day=58;", "side 1;"), 59000);
            lastsFor(bridge(2, "go 1000 when day=59;", "side 1;"), 60000);
        });
        edge("3: LASTS: times 1000 by ALL, downwards", () -> {
            lastsFor(bridge(2, "go 500;", "side 1;"), 1333);
            lastsFor(bridge(2, "go 900 when place=0;", "side 1;"), 1111);
        });
        edge("Promise 17: LASTS (what 0), whatever d is", () -> {
            NoTwoTogether x = bridge(2, "go 1000;", "side 1;");
            for (int d : new int[] {-1, 0, 60, 61, 99, LEAST, MOST}) {
                due("ahead(0, " + d + ")", x.ahead(0, d), 1000);
            }
        });
        edge("Promise 17: NONE if one can't be (n above 10)", () -> {
            NoTwoTogether x = bridge(10, "", "");
            due("ahead(0, 0) of 10", x.ahead(0, 0), 60000);
            due("ahead(1, 0) of 10", x.ahead(1, 0), 0);
            for (int n : new int[] {11, 60}) {
                x.row(n);
                due("ahead(0, 0) of " + n, x.ahead(0, 0), -1);
                due("ahead(1, 0) of " + n, x.ahead(1, 0), -1);
            }
        });
        edge("Promise 17: NONE for another what", () -> {
            NoTwoTogether x = bridge(2);
            for (int what : new int[] {-1, 2, LEAST, MOST}) {
                due("ahead(" + what + ", 0)", x.ahead(what, 0), -1);
            }
        });
    }

    private static void likely(NoTwoTogether x, int d, int want) {
        due("ahead(1, " + d + ")", x.ahead(1, d), want);
    }

    private static void mostLikely() {
        edge("Promise 17: MOST LIKELY behind d DAYS (1, d 0 .. 60)", () -> {
            NoTwoTogether x = bridge(2, "go 1000 when day=59;", "");
            likely(x, 0, 0);
            likely(x, 59, 0);
            likely(x, 60, 3);
            for (int d : new int[] {-1, 61, LEAST, MOST}) {
                likely(x, d, -1);
            }
        });
        edge("3: the set with the greatest weight", () -> {
            NoTwoTogether x = bridge(2, "go 501 when place=0;go 499;", "");
            likely(x, 1, 1);
            good(x, 0, "go 499 when place=0;go 501;");
            likely(x, 1, 2);
            good(x, 0, "go 501;");
            likely(x, 1, 3);
        });
        edge("3: the least of several", () -> {
            NoTwoTogether x = bridge(2, "go 500;", "");
            likely(x, 1, 0);
            good(x, 3, "shape there there;");
            x.place(0, 0, 0, true);
            likely(x, 1, 1);
            x.place(0, 0, 0, false);
            likely(x, 1, -1);
        });
        edge("3: the least of several, the first of them out", () -> {
            NoTwoTogether x = bridge(3, "go 500 when place<2;", "shape there there gone;");
            likely(x, 1, 0);
            x.place(2, 0, 0, true);
            likely(x, 1, -1);
            x.place(0, 0, 0, true);
            likely(x, 1, 5);
        });
        edge("3: NONE if all are out: at first, on a DAY", () -> {
            NoTwoTogether x = bridge(2, "go 1000;", "side 2;");
            likely(x, 0, 0);
            likely(x, 1, -1);
            likely(x, 60, -1);
            x.place(0, 0, 0, true);
            x.place(1, 0, 0, true);
            likely(x, 0, -1);
        });
        edge("3: sets of GONE, the row as it is first: all ten GONE", () -> {
            NoTwoTogether x = bridge(10);
            for (int p = 0; p < 10; p++) {
                x.place(p, 0, 0, true);
            }
            likely(x, 0, 1023);
            likely(x, 60, 1023);
            behind(x, 60, ALL);
            x.place(0, 0, 0, false);
            likely(x, 0, 1022);
        });
    }

    private static void held(NoTwoTogether x, int k, long want) {
        due("hold(" + k + ")", x.hold(k), want);
    }

    private static void hold() {
        edge("Promise 18: k 0 .. n", () -> {
            for (int n : new int[] {2, 8, 60}) {
                NoTwoTogether x = bridge(n);
                held(x, 0, 1);
                held(x, 1, n);
                held(x, n - 1, n);
                held(x, n, 1);
            }
        });
        edge("Promise 18: NONE if one can't be", () -> {
            for (int n : new int[] {2, 8, 60}) {
                NoTwoTogether x = bridge(n);
                for (int k : new int[] {-1, n + 1, LEAST, MOST}) {
                    held(x, k, -1);
                }
            }
        });
        edge("3: HOLD: a long: the most there are", () -> held(bridge(60), 30, 118264581564861424L));
        edge("3: HOLD: rows that do not FAIL: none, all", () -> {
            NoTwoTogether x = bridge(9, "", "shape all;");
            for (int k = 0; k <= 9; k++) {
                held(x, k, 0);
            }
            good(x, 3, "side 1;");
            held(x, 0, 1);
            held(x, 1, 0);
            good(x, 3, "shape there;");
            held(x, 8, 0);
            held(x, 9, 1);
        });
        edge("3: HOLD: with just k GONE, no two together", () -> {
            NoTwoTogether x = bridge(6, "", "side 2;");
            int[] wanted = {1, 6, 10, 4, 0, 0, 0};
            for (int k = 0; k <= 6; k++) {
                held(x, k, wanted[k]);
            }
            x.row(60);
            held(x, 30, 31);
            held(x, 31, 0);
            held(x, 29, 4960);
        });
        edge("3: HOLD: a line over eight PLACES", () -> {
            NoTwoTogether x = bridge(9, "", "any 2 in 8;");
            held(x, 2, 1);
            held(x, 3, 0);
            good(x, 3, "shape gone all all all all all all gone;");
            held(x, 2, 34);
            held(x, 9, 0);
            good(x, 3, "side 8;");
            held(x, 9, 0);
            held(x, 8, 7);
            x.row(7);
            held(x, 7, 1);
        });
        edge("3: HOLD: what is not there beyond the left end meets no line", () -> {
            NoTwoTogether x = bridge(2, "", "shape there gone;");
            held(x, 0, 1);
            held(x, 1, 1);
            held(x, 2, 1);
            good(x, 3, "shape there there there;");
            held(x, 0, 1);
            x.row(3);
            held(x, 0, 0);
            good(x, 3, "shape" + many(" there", 7) + " gone;");
            x.row(7);
            held(x, 1, 7);
            x.row(8);
            held(x, 1, 7);
        });
        edge("3: HOLD: one row behind another, longer or shorter", () -> {
            NoTwoTogether x = bridge(3);
            held(x, 1, 3);
            x.row(60);
            held(x, 60, 1);
            held(x, 59, 60);
            x.row(59);
            held(x, 59, 1);
            x.row(60);
            held(x, 60, 1);
            held(x, 0, 1);
            x.row(2);
            held(x, 1, 2);
        });
        edge("3: HOLD: whatever the row is, GONE or not", () -> {
            NoTwoTogether x = bridge(6, "go 1000;", "side 2;");
            for (int p = 0; p < 6; p++) {
                x.place(p, 0, 0, true);
            }
            held(x, 3, 4);
            held(x, 0, 1);
        });
    }

    private static void nine() {
        edge("Promise 24: m 1 .. 99", () -> {
            NoTwoTogether x = bridge(2, "go 500 when place=0;", "side 1;");
            due("nine(1)", x.nine(1), 500000);
            due("nine(2)", x.nine(2), 250000);
            due("nine(19)", x.nine(19), 1);
            due("nine(20)", x.nine(20), 0);
            due("nine(99)", x.nine(99), 0);
        });
        edge("Promise 24: NONE if one can't be", () -> {
            NoTwoTogether x = bridge(2);
            for (int m : new int[] {0, 100, -1, LEAST, MOST}) {
                due("nine(" + m + ")", x.nine(m), -1);
            }
        });
        edge("4: NINE: nothing FAILS, all FAILS", () -> {
            due("nine(99)", bridge(2, "go 1000;", "").nine(99), 1000000);
            due("nine(1)", bridge(2, "", "shape all;").nine(1), 0);
            due("nine(99)", bridge(2, "", "shape all;").nine(99), 0);
        });
        edge("4: NINE: downwards: CHANCE by 1000000, then each time by 1000000", () -> {
            NoTwoTogether x = bridge(3, "go 333;", "side 3;");
            due("CHANCE 36926037000", x.chance(0), 36926037000L);
            due("nine(1)", x.nine(1), 963074);
            due("nine(2)", x.nine(2), 927511);
            due("nine(3)", x.nine(3), 893261);
            x = bridge(5, "go 1;", "side 2;");
            due("CHANCE below 1000000 times five", x.chance(0), 3996998L);
            due("nine(1)", x.nine(1), 999997);
            x = bridge(3, "go 1;", "side 3;");
            due("CHANCE 1000", x.chance(0), 1000);
            due("nine(99)", x.nine(99), 1000000);
        });
    }
}
