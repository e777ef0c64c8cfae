/** What the tests of the edges have in common: each edge that the document names has a test of its own, on its own objects. */
abstract class Edge {
    static final int NO_SUCH = -1000000;
    static final long ALL = 1000000000000L;
    static final int LEAST = Integer.MIN_VALUE;
    static final int MOST = Integer.MAX_VALUE;
    private static final int MULTIPLIER_BACK = -18851643;

    private static int wrong = 0;
    private static int asked = 0;
    private static int edges = 0;
    private static String sentence = "";

    interface Test {
        void ask();
    }

    /** The words are those of the document that name the edge; a test that asks nothing is a wrong one. */
    static void edge(String words, Test test) {
        sentence = words;
        int before = asked;
        test.ask();
        edges++;
        due("something is asked", asked > before, true);
    }

    static void due(String call, long got, long want) {
        asked++;
        if (got != want) {
            wrong++;
            System.out.println("<" + sentence + ">: " + call + " answered " + got + ", due is " + want);
        }
    }

    static void due(String call, boolean got, boolean want) {
        due(call, got ? 1L : 0L, want ? 1L : 0L);
    }

    static void same(String call, String got, String want) {
        asked++;
        if (!got.equals(want)) {
            wrong++;
            System.out.println("<" + sentence + ">: " + call + " left\n" + got + " where due is\n" + want);
        }
    }

    /** How many answers were wrong, told and forgotten. */
    static int wrongAnswers() {
        int told = wrong;
        System.out.println(wrong == 0 ? edges + " edges hold" : wrong + " answers are not as due");
        wrong = 0;
        asked = 0;
        edges = 0;
        return told;
    }

    static NoTwoTogether bridge(int n) {
        NoTwoTogether x = new NoTwoTogether();
        due("row(" + n + ")", x.row(n), true);
        return x;
    }

    static NoTwoTogether bridge(int n, String law, String fails) {
        NoTwoTogether x = bridge(n);
        good(x, 0, law);
        good(x, 3, fails);
        return x;
    }

    static void good(NoTwoTogether x, int k, String text) {
        due("whether <" + text + "> is a text", tell(x, k, text) >= 0, true);
    }

    static int tell(NoTwoTogether x, int k, String text) {
        write(x, text);
        return x.text(k);
    }

    /** The text alone is on the TAPE then. */
    static void write(NoTwoTogether x, String text) {
        x.end(0);
        for (int from = 0; from < text.length(); from += 20) {
            int[] n = new int[5];
            for (int i = 0; i < 20; i++) {
                n[i / 4] = n[i / 4] << 8 | (from + i < text.length() ? text.charAt(from + i) : ' ');
            }
            x.feed(n[0], n[1], n[2], n[3], n[4]);
        }
        x.end(text.length());
    }

    static void lines(int k, String text, int lines) {
        NoTwoTogether x = new NoTwoTogether();
        due("text(" + k + ") of <" + text + ">", tell(x, k, text), lines);
        due("fault(0) of <" + text + ">", x.fault(0), 0);
        due("fault(1) of <" + text + ">", x.fault(1), -1);
    }

    static void faulty(int k, String text, int fault, int place) {
        NoTwoTogether x = new NoTwoTogether();
        due("text(" + k + ") of <" + text + ">", tell(x, k, text), -1);
        due("fault(0) of <" + text + ">", x.fault(0), fault);
        due("fault(1) of <" + text + ">", x.fault(1), place);
    }

    /** All that can be seen of a short row, its STATE too; nothing is changed by it. */
    static String picture(NoTwoTogether x) {
        StringBuilder b = new StringBuilder();
        int state = x.state(0);
        x.state(state);
        b.append("STATE ").append(state).append("\nlook");
        for (int what = 0; what <= 16; what++) {
            b.append(' ').append(x.look(what));
        }
        for (int p = 0; p < x.look(0); p++) {
            b.append("\nPLACE ").append(p).append(':');
            for (int what = 0; what <= 9; what++) {
                b.append(' ').append(x.of(p, what));
            }
        }
        return b.append("\nCHANCE ").append(x.chance(0)).append(' ').append(x.chance(1)).append('\n').toString();
    }

    /** A row of three on which something of each kind was told and was done, all of it seen in its picture. */
    static NoTwoTogether used() {
        NoTwoTogether x = bridge(3, "go weak+load;", "side 2;");
        good(x, 1, "change gone;");
        good(x, 2, "change 2+age;");
        x.sort(1, 40, 6);
        x.set(3, 2);
        x.place(2, 1, 7, true);
        x.days(3);
        x.place(0, 1, 30, false);
        x.place(1, 2, 31, true);
        x.see(1);
        x.state(4321);
        return x;
    }

    /** The STATE of which the next one is this. */
    static int stateAhead(int next) {
        return (next - 1013904223) * MULTIPLIER_BACK;
    }

    /** The STATE of which a DRAW of 1000 is this (0 .. 999). */
    static int stateForDraw(int draw) {
        return stateAhead(draw << 8);
    }

    static String many(String part, int times) {
        return part.repeat(times);
    }
}
