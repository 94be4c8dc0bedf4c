/** For each promise its ordinary answers, the edges that the document names, and wrong arguments, worked out by hand. */
public final class Promises extends Check {
    private static void is(int promise, String call, long got, long want) {
        about("promise " + promise);
        is(call, got, want);
    }

    private static void is(int promise, String call, boolean got, boolean want) {
        is(promise, call, got ? 1 : 0, want ? 1 : 0);
    }

    private static void fails(int promise, String call, Class<?> want, Call c) {
        about("promise " + promise);
        fails(call, want, c);
    }

    private static String times(String s, int n) {
        return s.repeat(n);
    }

    public static void main(String[] args) {
        newObject();
        feeding();
        chapels();
        faults();
        faultsOfExprs();
        rules();
        counts();
        cardsAndFigures();
        snarls();
        acts();
        undoing();
        sundaysGoingBy();
        lookingAtCloth();
        orders();
        punchings();
        seeing();
        toCut();
        coats();
        games();
        seeds();
        section5();
        images();
        finish("promises");
    }

    private static void newObject() {
        PunchCards x = new PunchCards();
        int[] due = {8, 0, 0, 0, 0, 0, 0, 255, 0, 0, 0, 0, 0, 0, 0, 0};
        for (int i = 0; i < 16; i++) is(1, "count(" + i + ")", x.count(i), due[i]);
        is(1, "fault()", x.fault(), NONE);
        is(1, "NONE", PunchCards.NONE, -1);
        fails(1, "card(0, 0)", NSE, () -> x.card(0, 0));
        fails(1, "figure(0, 0)", NSE, () -> x.figure(0, 0));
        fails(1, "lace(0)", NSE, () -> x.lace(0));
    }

    private static void feeding() {
        PunchCards x = new PunchCards();
        for (int i = 1; i <= 35; i++) is(2, "feed " + i, x.feed(538976288, 538976288, 538976288, 538976288, 538976288), 20 * i);
        is(2, "feed 36", x.feed(0, 0, 0, 0, 0), NONE);
        is(2, "count(12)", x.count(12), 700);
        is(2, "chapel(700) of blanks", x.chapel(700), 0);
        is(2, "count(12)", x.count(12), 0);
        // The highest byte first: "thre" "ads " "3;  ".
        x.feed(0x74687265, 0x61647320, 0x333b2020, 0x20202020, 0x20202020);
        is(2, "chapel(10)", x.chapel(10), 0);
        is(2, "count(0)", x.count(0), 3);
        x.feed(0xff202020, 0, 0, 0, 0);
        is(2, "a byte of 255", x.chapel(1), 1);
    }

    private static void chapels() {
        PunchCards x = of("threads 4;card 5 1 0;card 3 1 8;lace 0 1;figure 1 1 1;");
        x.sundays(2);
        x.see(0, 0, 0, true);
        x.image();
        is(3, "sundays(0)", x.sundays(0), NONE);
        is(3, "see(0, 0, 21, true)", x.see(0, 0, 21, true), NONE);
        feed(x, "threads 5;");
        fails(3, "chapel(-1)", IAE, () -> x.chapel(-1));
        fails(3, "chapel(21)", IAE, () -> x.chapel(21));
        is(3, "count(12) behind it", x.count(12), 20);
        is(3, "count(0) behind it", x.count(0), 4);
        is(3, "chapel(9): no end", x.chapel(9), 1);
        is(4, "fault()", x.fault(), 9);
        is(3, "the tape is empty", x.count(12), 0);
        is(3, "THREADS stay", x.count(0), 4);
        is(3, "CARDS stay", x.count(1), 2);
        is(3, "the SUNDAY stays", x.count(4), 2);
        is(3, "ACTS stay", x.count(10), 1);
        is(3, "SEEN stays", x.count(11), 1);
        fails(3, "chapel(1)", IAE, () -> x.chapel(1));
        is(4, "fault() stays behind a wrong argument", x.fault(), 9);
        is(3, "the image stays", x.restore(), true);
        is(3, "all anew", tell(x, "threads 5;"), 0);
        is(4, "fault()", x.fault(), NONE);
        int[] due = {5, 0, 0, 0, 0, 0, 0, 31, 0, 0, 0, 0, 0, 1, 1, 1};
        for (int i = 0; i < 16; i++) is(3, "count(" + i + ") anew", x.count(i), due[i]);
        is(3, "no image", x.restore(), false);
        is(3, "chapel(0)", x.chapel(0), 0);
        is(3, "8 THREADS without", x.count(0), 8);
        PunchCards y = of("card 4095 0 0;lace0;threads\n3;");
        is(3, "HOLES beyond THREADS are none", y.card(0, 0), 7);
        is(3, "then(0, 0)", y.then(0, 0), 7);
        PunchCards z = of("threads 3;card 1 0 0;up hole;harm 5;lace 0;figure 0 1 1;");
        is(3, "chapel without rules", tell(z, "threads 3;card 1 0 0;card 2 0 0;lace 1;"), 0);
        is(3, "no HARM is left", z.snarl(0, 1), 0);
        is(3, "no FIGURE is left", z.count(3), 0);
        is(3, "the new LACE", z.then(0, 0), 2);
    }

    private static void faults() {
        faulty("threads 1;", 2, 8);
        faulty("threads 13;", 2, 8);
        faulty("threads 00012;", 2, 8);
        faulty("threads;", 1, 7);
        faulty("threads 8", 1, 9);
        faulty("threads 8  ", 1, 11);
        faulty("threads 8;threads", 5, 10);
        faulty("thread 8;", 1, 0);
        faulty("Threads 8;", 1, 0);
        faulty("dard 0 0 0;", 1, 0);
        faulty("care 0 0 0;", 1, 0);
        faulty("8;", 1, 0);
        faulty(";", 1, 0);
        faulty("12345;", 1, 0);
        faulty("threads 8 8;", 1, 10);
        faulty("threads\t8;", 1, 7);
        faulty("threads 8;\u00e9", 1, 10);
        faulty("card 4096 0 0;", 2, 5);
        faulty("card 0 10 0;", 2, 7);
        faulty("card 0 0 10;", 2, 9);
        faulty("card 0 0 0 0;", 1, 11);
        faulty("card 0 0;", 1, 8);
        faulty(times("card 0 0 0;", 10) + "card;", 2, 110);
        faulty("lace 0;", 3, 5);
        faulty("lace 12345;", 2, 5);
        faulty("lace;", 1, 4);
        faulty("card 0 0 0;lace 0 1;card 0 0 0;", 3, 18);
        faulty("card 0 0 0;lace 0;lace;", 5, 18);
        faulty("card 0 0 0;lace" + times(" 0", 12) + " 7;", 2, 40);
        faulty("card 0 0 0;lace 0 a;", 1, 18);
        faulty("figure 10 1 0;", 2, 7);
        faulty("figure 0 0 0;", 2, 9);
        faulty("figure 0 5 0;", 2, 9);
        faulty("figure 0 1 2;", 2, 11);
        faulty("figure 0 4 15 16;", 2, 14);
        faulty("figure 0 2 1;figure 0 2 3 3 4;", 2, 28);
        faulty("figure 0 1;", 1, 10);
        faulty("figure 0 1 0 0 0 0;", 1, 17);
        faulty("figure 0 1 0 0 0 12345;", 1, 17);
        faulty(times("figure 0 1 0;", 5) + "figure", 2, 65);
        PunchCards most = of(times("card 0 0 0;", 10) + "lace" + times(" 9", 12) + ";" + times("figure 0 1 0;", 5));
        is(3, "10 CARDS", most.count(1), 10);
        is(3, "12 PICKS", most.count(2), 12);
        is(3, "5 FIGURES", most.count(3), 5);
    }

    private static void faultsOfExprs() {
        faulty("up;", 1, 2);
        faulty("up 1", 1, 4);
        faulty("up", 1, 2);
        faulty("up 12345;", 2, 3);
        faulty("up 1 12345;", 1, 5);
        faulty("up first;", 3, 3);
        faulty("up dole;", 3, 3);
        faulty("up holey;", 3, 3);
        faulty("harm hole;", 3, 5);
        faulty("harm wear;", 3, 5);
        faulty("up or;", 3, 3);
        faulty("up 1 + not 1;", 3, 7);
        faulty("up 1 < not 1;", 3, 7);
        faulty("up 1 and threads;", 3, 9);
        faulty("up not zebra;", 3, 7);
        faulty("up 1 zebra;", 1, 5);
        faulty("up 1 not;", 1, 5);
        faulty("up 1 < 2 < 3;", 1, 9);
        faulty("up 1 = 2 < 3;", 1, 9);
        faulty("up 1 + ;", 1, 7);
        faulty("up - 1;", 1, 3);
        faulty("up (1;", 1, 5);
        faulty("up 1);", 1, 4);
        faulty("up ();", 1, 4);
        faulty("up 1;up", 5, 5);
        faulty("harm 1;harm", 5, 7);
        faulty("up " + times("not ", 7) + "1;", 2, 27);
        faulty("up 1 or " + times("not\n", 7) + "1;", 2, 32);
        faulty("up ((((((1))))));", 2, 9);
        faulty("up ((((((zebra", 2, 9);
        faulty("up ((((((not", 2, 9);
        faulty("up (((((((", 2, 9);
        faulty("up ((((((12345", 2, 9);
        faulty("up (((((()", 1, 9);
        faulty("up ((((((+", 1, 9);
        faulty("up ((((((", 1, 9);
        faulty("harm 1+((((((1))))));", 2, 13);
        of("up (((((1)))))+(((((2)))));");
        of("up " + times("not ", 6) + "(" + times("not ", 6) + "1);");
        of("up not not not not not not 1 and not not not not not not 1;");
        of("up1<2;harm1=2;");
        of("up hole or beside or ahead or pick or thread or wear;harm holes+alike+first+second;");
    }

    /** HARM is what an EXPR gives, kept to 0 to 99: by it an EXPR is worked out. */
    private static int harm(String expr) {
        return of("card 7 4 0;card 14 6 0;harm " + expr + ";").snarl(0, 1);
    }

    private static void rules() {
        is(3, "from the left", harm("50-20-7"), 23);
        is(3, "products first", harm("2+3*4"), 14);
        is(3, "parts", harm("(2+3)*4"), 20);
        is(3, "/ from the left", harm("90/7/2"), 6);
        is(3, "/ cut down to 0", harm("10+(0-7)/2"), 7);
        is(3, "by 0", harm("7+5/0"), 7);
        is(3, "ints that wrap", harm("9999*9999*9999*9999/9999"), 99);
        is(3, "an int that wraps below 0", harm("9999*9999*22"), 0);
        is(3, "a test", harm("5*(3<4)+7*(3=4)"), 5);
        is(3, "a test of sums", harm("1+1<3"), 1);
        is(3, "not", harm("not 5"), 0);
        is(3, "not binds a test", harm("not 1<0"), 1);
        is(3, "not not is 1 or 0", harm("not not 5"), 1);
        is(3, "and is 1 or 0", harm("5 and 6"), 1);
        is(3, "or is 1 or 0", harm("0 or 6"), 1);
        is(3, "and ahead of or", harm("1 or 1 and 0"), 1);
        is(3, "what is below 0 holds", harm("(0-1) and 1"), 1);
        is(3, "a NUMBER alone stays", harm("42"), 42);
        is(3, "a parenthesis alone stays", harm("(42)"), 42);
        is(3, "holes", harm("holes"), 2);
        is(3, "alike", harm("10+alike"), 10);
        is(3, "first, second", harm("first*10+second"), 46);
        PunchCards x = of("threads 5;card 22 0 4;card 9 0 0;lace 0 1 0;up beside=2;");
        is(3, "beside", x.then(0, 0), 8);
        is(3, "beside at both ends", of("threads 5;card 31 0 0;lace 0;up beside=1;").then(0, 0), 17);
        is(3, "ahead", of("threads 3;card 1 0 0;card 2 0 0;lace 0 1;up hole or ahead;").then(1, 0), 3);
        is(3, "ahead of PICK 0", of("threads 3;card 1 0 0;lace 0;up not ahead;").then(0, 0), 7);
        is(3, "pick", of("threads 3;card 1 0 0;lace 0 0 0;up pick=2;").then(2, 0), 7);
        is(3, "thread", of("threads 3;card 1 0 0;lace 0;up thread;").then(0, 0), 6);
        is(3, "wear", of("threads 3;card 1 0 4;lace 0;up wear=5;").then(0, 1), 7);
        is(3, "worn smooth", of("threads 3;card 1 0 9;lace 0;up hole;").then(0, 0), 7);
        is(3, "beside, worn smooth", of("threads 3;card 0 0 9;lace 0;up beside=2;").then(0, 0), 2);
    }

    private static void counts() {
        PunchCards x = of("threads 4;card 5 1 0;card 3 1 8;card 0 2 0;lace 0 1 0 2;figure 1 2 1 3;figure 2 1 0 0;figure 2 4 15;");
        int[] due = {4, 3, 4, 3, 0, 0, 2, 8, 4, 3, 0, 0, 0, 0, 0, 0};
        for (int i = 0; i < 16; i++) is(5, "count(" + i + ")", x.count(i), due[i]);
        fails(5, "count(16)", NSE, () -> x.count(16));
        fails(5, "count(-1)", NSE, () -> x.count(-1));
        x.feed(0, 0, 0, 0, 0);
        is(5, "count(12)", x.count(12), 20);
        is(5, "REPEAT of two and a half", of("card 1 0 0;card 2 0 0;lace 0 1 0 1 0;").count(8), 2);
        is(5, "REPEAT of one", of("card 1 0 0;lace 0 0 0;").count(8), 1);
        is(5, "REPEAT with like ends", of("card 1 0 0;card 2 0 0;lace 0 1 1 0;").count(8), 3);
        is(5, "REPEAT of one PICK", of("card 1 0 0;lace 0;").count(8), 1);
        is(5, "SNARL of one PICK", of("card 1 0 0;lace 0;harm 9;").count(6), 0);
        is(5, "SNARL, the first one first", of("card 1 1 0;card 1 2 0;lace 0 1 0;harm first;").count(6), 3);
        is(5, "a FIGURE wider than CLOTH", of("threads 2;card 3 0 0;lace 0;figure 0 3 3;").count(9), 0);
        is(5, "a FIGURE longer than CLOTH", of("threads 2;card 3 0 0;lace 0 0;figure 0 1 1 1 1;").count(9), 0);
        is(5, "a FIGURE at the last places", of("threads 3;card 3 0 0;card 5 0 0;lace 0 1;figure 0 2 1 2;").count(9), 1);
    }

    private static void cardsAndFigures() {
        PunchCards x = of("threads 4;card 5 1 0;card 3 7 9;card 8 2 3;lace 0 1 0 0;figure 4 2 1 3;figure 2 1 0 1 1;");
        is(6, "card(0, 0)", x.card(0, 0), 5);
        is(6, "card(1, 0)", x.card(1, 0), 3);
        is(6, "card(1, 1)", x.card(1, 1), 7);
        is(6, "card(2, 2)", x.card(2, 2), 3);
        is(6, "card(1, 3)", x.card(1, 3), 15);
        is(6, "card(2, 3)", x.card(2, 3), 8);
        is(6, "card(0, 4)", x.card(0, 4), 13);
        is(6, "card(2, 4)", x.card(2, 4), 0);
        fails(6, "card(3, 0)", NSE, () -> x.card(3, 0));
        fails(6, "card(-1, 0)", NSE, () -> x.card(-1, 0));
        fails(6, "card(0, 5)", NSE, () -> x.card(0, 5));
        fails(6, "card(0, -1)", NSE, () -> x.card(0, -1));
        is(7, "lace(1)", x.lace(1), 1);
        is(7, "lace(3)", x.lace(3), 0);
        fails(7, "lace(4)", NSE, () -> x.lace(4));
        fails(7, "lace(-1)", NSE, () -> x.lace(-1));
        int[] first = {4, 2, 2, 1, 3, 0};
        int[] second = {2, 1, 3, 0, 1, 1};
        for (int i = 0; i < 6; i++) {
            is(8, "figure(0, " + i + ")", x.figure(0, i), first[i]);
            is(8, "figure(1, " + i + ")", x.figure(1, i), second[i]);
        }
        fails(8, "figure(2, 0)", NSE, () -> x.figure(2, 0));
        fails(8, "figure(-1, 0)", NSE, () -> x.figure(-1, 0));
        fails(8, "figure(0, 6)", NSE, () -> x.figure(0, 6));
        fails(8, "figure(0, -1)", NSE, () -> x.figure(0, -1));
    }

    private static void snarls() {
        PunchCards x = of("threads 4;card 7 1 0;card 14 1 0;card 15 2 0;card 0 1 9;");
        is(9, "snarl(0, 1)", x.snarl(0, 1), 2);
        is(9, "snarl(0, 0)", x.snarl(0, 0), 3);
        is(9, "snarl(0, 2): not alike", x.snarl(0, 2), 0);
        is(9, "snarl(0, 3): worn smooth", x.snarl(0, 3), 3);
        fails(9, "snarl(4, 0)", NSE, () -> x.snarl(4, 0));
        fails(9, "snarl(0, -1)", NSE, () -> x.snarl(0, -1));
        is(9, "kept to 99", harm("9999"), 99);
        is(9, "kept to 0", harm("0-5"), 0);
        PunchCards y = of("card 1 3 0;card 2 5 0;harm first*10+second;");
        is(9, "snarl(0, 1)", y.snarl(0, 1), 35);
        is(9, "snarl(1, 0)", y.snarl(1, 0), 53);
    }

    private static void acts() {
        PunchCards x = of("threads 4;card 1 1 7;card 3 1 0;card 8 2 0;lace 0 1 0;figure 1 4 1;figure 1 4 15;");
        is(10, "sundays(2)", x.sundays(2), 2);
        is(10, "GRANTED", x.count(5), 2);
        is(10, "WEAR of a CARD laced twice", x.card(0, 2), 9);
        is(10, "WEAR of one", x.card(1, 2), 2);
        is(10, "WEAR of one not laced", x.card(2, 2), 0);
        is(10, "sundays(1)", x.sundays(1), 3);
        is(10, "GRANTED, worn smooth", x.count(5), 3);
        is(10, "WEAR 9 at most", x.card(0, 2), 9);
        is(10, "sundays(0)", x.sundays(0), NONE);
        is(10, "sundays(21)", x.sundays(21), NONE);
        is(10, "sundays(-1)", x.sundays(-1), NONE);
        is(10, "STATUS 1", x.count(14), 3);
        is(10, "the SUNDAY", x.count(4), 3);
        PunchCards late = new PunchCards();
        for (int i = 1; i <= 49; i++) is(10, "sundays(20)", late.sundays(20), 20 * i);
        is(10, "sundays(20) to 1000", late.sundays(20), NONE);
        is(10, "sundays(19) to 999", late.sundays(19), 999);
        is(10, "sundays(1) to 1000", late.sundays(1), NONE);
        is(10, "STATUS 1", late.count(14), 2);

        PunchCards y = of(LOOM);
        is(11, "punch(0, 15)", y.punch(0, 15), 5);
        is(11, "card(0, 0)", y.card(0, 0), 15);
        is(11, "punch(0, 16)", y.punch(0, 16), NONE);
        is(11, "punch(0, -1)", y.punch(0, -1), NONE);
        is(11, "STATUS 1", y.count(14), 2);
        is(11, "ACTS", y.count(10), 1);
        is(11, "punch(0, 15) again", y.punch(0, 15), 15);
        is(11, "ACTS", y.count(10), 2);
        fails(11, "punch(3, 0)", NSE, () -> y.punch(3, 0));
        fails(11, "punch(-1, 99)", NSE, () -> y.punch(-1, 99));
        is(11, "STATUS 1 stays", y.count(14), 2);

        is(12, "turn(1)", y.turn(1), 12);
        is(12, "card(1, 0)", y.card(1, 0), 12);
        is(12, "turn(2)", y.turn(2), 0);
        is(12, "ACTS", y.count(10), 4);
        fails(12, "turn(3)", NSE, () -> y.turn(3));
        fails(12, "turn(-1)", NSE, () -> y.turn(-1));
        PunchCards smooth = of("threads 3;card 1 0 9;");
        is(12, "turn(0), worn smooth", smooth.turn(0), 4);
        is(12, "card(0, 0), worn smooth", smooth.card(0, 0), 4);

        is(13, "cut(1)", y.cut(1), 8);
        is(13, "card(1, 2)", y.card(1, 2), 0);
        is(13, "cut(1) again", y.cut(1), NONE);
        is(13, "STATUS 1", y.count(14), 3);
        is(13, "ACTS", y.count(10), 5);
        fails(13, "cut(3)", NSE, () -> y.cut(3));
        fails(13, "cut(-1)", NSE, () -> y.cut(-1));

        is(14, "change(0, 3)", y.change(0, 3), true);
        is(14, "lace(0)", y.lace(0), 2);
        is(14, "lace(3)", y.lace(3), 0);
        is(14, "change(2, 3): one CARD", y.change(2, 3), true);
        is(14, "ACTS", y.count(10), 7);
        is(14, "change(1, 1)", y.change(1, 1), false);
        is(14, "change(0, 4)", y.change(0, 4), false);
        is(14, "change(-1, 0)", y.change(-1, 0), false);
        is(14, "change(7, 7)", y.change(7, 7), false);
        is(14, "STATUS 1", y.count(14), 7);
        is(14, "ACTS", y.count(10), 7);
    }

    private static void undoing() {
        PunchCards x = of(LOOM);
        is(15, "undo() of none", x.undo(), NONE);
        is(15, "STATUS 1", x.count(14), 0);
        x.sundays(3);
        x.punch(0, 9);
        x.turn(0);
        x.punch(1, 1);
        x.turn(1);
        x.cut(1);
        x.change(0, 1);
        is(15, "undo() of change", x.undo(), 6);
        is(15, "lace(0)", x.lace(0), 0);
        is(15, "undo() of cut", x.undo(), 5);
        is(15, "card(1, 2)", x.card(1, 2), 9);
        is(15, "undo() of turn", x.undo(), 4);
        is(15, "card(1, 0)", x.card(1, 0), 1);
        is(15, "undo() of punch", x.undo(), 3);
        is(15, "card(1, 0)", x.card(1, 0), 3);
        x.undo();
        x.undo();
        is(15, "card(0, 0)", x.card(0, 0), 5);
        is(15, "undo() of sundays", x.undo(), 0);
        is(15, "the SUNDAY", x.count(4), 0);
        is(15, "GRANTED", x.count(5), 0);
        is(15, "card(0, 2)", x.card(0, 2), 0);
        is(15, "card(1, 2)", x.card(1, 2), 8);
        is(15, "card(2, 2)", x.card(2, 2), 0);
        x.see(0, 0, 0, true);
        for (int i = 0; i < 45; i++) x.punch(0, i % 16);
        is(15, "40 ACTS are kept", x.count(10), 40);
        for (int i = 39; i >= 0; i--) is(15, "undo()", x.undo(), i);
        is(15, "undo() of none", x.undo(), NONE);
        is(15, "the sixth is the first that is kept", x.card(0, 0), 4);
        is(15, "SEEN stays", x.count(11), 1);
    }

    private static void sundaysGoingBy() {
        PunchCards x = of(LOOM);
        is(16, "then(0, 0)", x.then(0, 0), 5);
        is(16, "then(1, 0)", x.then(1, 0), 3);
        is(16, "then(1, 1)", x.then(1, 1), 15);
        is(16, "then(3, 8)", x.then(3, 8), 0);
        is(16, "then(3, 9)", x.then(3, 9), 15);
        is(16, "then(3, 30)", x.then(3, 30), 15);
        is(16, "WEAR stays", x.card(1, 2), 8);
        fails(16, "then(4, 0)", NSE, () -> x.then(4, 0));
        fails(16, "then(-1, 31)", NSE, () -> x.then(-1, 31));
        fails(16, "then(0, 31)", IAE, () -> x.then(0, 31));
        fails(16, "then(0, -1)", IAE, () -> x.then(0, -1));

        PunchCards y = of("threads 2;card 1 0 7;lace 0;figure 0 2 1;figure 0 1 1;");
        is(17, "granted(0)", y.granted(0), 0);
        is(17, "granted(1)", y.granted(1), 2);
        is(17, "granted(2)", y.granted(2), 4);
        is(17, "granted(3): worn smooth", y.granted(3), 5);
        is(17, "granted(30)", y.granted(30), 32);
        y.sundays(1);
        is(17, "granted(0) behind a SUNDAY", y.granted(0), 2);
        is(17, "granted(29) behind a SUNDAY", y.granted(29), 32);
        is(17, "granted(11), worn smooth behind 9", of("threads 2;card 1 0 0;lace 0;figure 0 2 3;").granted(11), 2);
        fails(17, "granted(31)", IAE, () -> y.granted(31));
        fails(17, "granted(-1)", IAE, () -> y.granted(-1));

        PunchCards z = of("card 1 0 9;card 1 0 3;card 1 0 3;lace 1;");
        is(18, "worn(0): worn smooth, not laced", z.worn(0), 0);
        is(18, "worn(1)", z.worn(1), 6);
        is(18, "worn(2): not laced", z.worn(2), NONE);
        fails(18, "worn(3)", NSE, () -> z.worn(3));
        fails(18, "worn(-1)", NSE, () -> z.worn(-1));

        is(19, "changes()", x.changes(), 1);
        is(19, "changes() at the last WEAR", of("threads 2;card 1 0 0;lace 0;").changes(), 9);
        is(19, "changes(): all HOLES", of("threads 2;card 3 0 0;lace 0;").changes(), NONE);
        is(19, "changes(): worn smooth", of("threads 2;card 1 0 9;lace 0;").changes(), NONE);
        is(19, "changes() without a LACE", new PunchCards().changes(), NONE);
        is(19, "changes() by WEAR", of("threads 2;card 1 0 0;lace 0;up wear=4 or wear=6;").changes(), 4);
    }

    private static void lookingAtCloth() {
        PunchCards x = of("threads 3;card 1 0 0;card 2 0 0;lace 0 0 1 1 1 0;figure 0 2 1 1;figure 0 1 0;figure 0 3 7;figure 0 2 2;");
        is(20, "floats(0)", x.floats(0), 3);
        is(20, "floats(1)", x.floats(1), 3);
        is(20, "floats(2): never up", x.floats(2), 6);
        is(20, "floats(NONE)", x.floats(NONE), 2);
        is(20, "floats(NONE) of like ones", of("threads 3;card 7 0 0;lace 0;").floats(NONE), 0);
        fails(20, "floats(3)", NSE, () -> x.floats(3));
        fails(20, "floats(-2)", NSE, () -> x.floats(-2));
        is(21, "stands(0, 0)", x.stands(0, 0), 0);
        is(21, "stands(0, 1)", x.stands(0, 1), 3);
        is(21, "stands(1, 0)", x.stands(1, 0), 1);
        is(21, "stands(1, 1)", x.stands(1, 1), 12);
        is(21, "stands(2, 0)", x.stands(2, 0), NONE);
        is(21, "stands(2, 1)", x.stands(2, 1), 0);
        is(21, "stands(3, 0)", x.stands(3, 0), 200);
        is(21, "stands(3, 1)", x.stands(3, 1), 3);
        fails(21, "stands(4, 0)", NSE, () -> x.stands(4, 0));
        fails(21, "stands(-1, 0)", NSE, () -> x.stands(-1, 0));
        fails(21, "stands(0, 2)", NSE, () -> x.stands(0, 2));
        fails(21, "stands(0, -1)", NSE, () -> x.stands(0, -1));
    }

    private static void orders() {
        PunchCards x = of("card 1 1 0;card 1 2 0;lace 0 0 1 1;harm alike*9+second;");
        is(22, "order(NONE)", x.order(NONE), 4);
        int[] due = {2, 0, 3, 1};
        for (int i = 0; i < 4; i++) is(22, "order(" + i + ")", x.order(i), due[i]);
        fails(22, "order(4)", NSE, () -> x.order(4));
        fails(22, "order(-2)", NSE, () -> x.order(-2));
        PunchCards like = of("card 1 1 0;lace 0 0 0 0 0 0 0 0 0;");
        is(22, "order(NONE) of nine", like.order(NONE), 8);
        for (int i = 0; i < 9; i++) is(22, "order(" + i + ") of like ones", like.order(i), i);
        PunchCards ten = of("card 1 1 0;lace 0 0 0 0 0 0 0 0 0 0;");
        is(22, "order(NONE) of ten", ten.order(NONE), -2);
        is(22, "order(9) of ten", ten.order(9), -2);
        fails(22, "order(10) of ten", NSE, () -> ten.order(10));
        is(22, "order(NONE) without a LACE", new PunchCards().order(NONE), 0);
        fails(22, "order(0) without a LACE", NSE, () -> new PunchCards().order(0));

        is(41, "swap()", x.swap(), 3);
        is(41, "swap() of like ones", like.swap(), NONE);
        is(41, "swap() without a LACE", new PunchCards().swap(), NONE);
        PunchCards y = of("threads 2;card 1 1 0;card 2 1 0;card 3 2 0;lace 0 0 1 1 2;");
        is(41, "SNARL ahead", y.count(6), 2);
        is(41, "swap(), the first of like ones", y.swap(), 3);
        y.change(1, 2);
        is(41, "SNARL behind", y.count(6), 0);
        is(41, "swap(): none is less", y.swap(), NONE);
        PunchCards long12 = of("card 1 1 0;card 2 2 0;lace 1 1 1 1 1 1 1 1 1 1 0 0;harm (first=1)*(second=1);");
        is(41, "swap() by the last place", long12.swap(), 10);
    }

    private static void punchings() {
        PunchCards x = of("threads 6;card 33 0 0;card 0 0 0;card 0 0 9;lace 0 1;figure 0 3 7;figure 0 1 1 1;figure 0 1 1 1 1;");
        is(23, "punching(0, 0, 0)", x.punching(0, 0, 0), 2);
        is(23, "punching(0, 0, 1): the least", x.punching(0, 0, 1), 39);
        is(23, "punching(1, 1, 0)", x.punching(1, 1, 0), 1);
        is(23, "punching(1, 1, 1)", x.punching(1, 1, 1), 1);
        is(23, "punching(0, 1, 0)", x.punching(0, 1, 0), NONE);
        is(23, "punching(0, 1, 1)", x.punching(0, 1, 1), NONE);
        is(23, "punching(0, 2, 0): too long", x.punching(0, 2, 0), NONE);
        is(23, "punching(2, 0, 0): not laced", x.punching(2, 0, 0), NONE);
        is(23, "HOLES stay", x.card(0, 0), 33);
        fails(23, "punching(3, 0, 0)", NSE, () -> x.punching(3, 0, 0));
        fails(23, "punching(-1, 0, 0)", NSE, () -> x.punching(-1, 0, 0));
        fails(23, "punching(0, 3, 0)", NSE, () -> x.punching(0, 3, 0));
        fails(23, "punching(0, -1, 0)", NSE, () -> x.punching(0, -1, 0));
        fails(23, "punching(0, 0, 2)", NSE, () -> x.punching(0, 0, 2));
        fails(23, "punching(0, 0, -1)", NSE, () -> x.punching(0, 0, -1));
        PunchCards stands = of("threads 4;card 12 0 0;card 5 0 9;lace 0 1;figure 0 2 3;figure 0 4 15;");
        is(23, "punching(0, 0, 0): it stands", stands.punching(0, 0, 0), 0);
        is(23, "punching(0, 0, 1): as it is", stands.punching(0, 0, 1), 12);
        is(23, "punching(1, 1, 1): worn smooth", stands.punching(1, 1, 1), 5);
        is(23, "punching to all HOLES", of("threads 2;card 0 0 0;lace 0;figure 0 2 3;").punching(0, 0, 1), 3);
        is(23, "punching to none", of("threads 2;card 3 0 0;lace 0;figure 0 2 0;").punching(0, 0, 1), 0);
        PunchCards beside = of("threads 12;card 0 0 0;lace 0;figure 0 4 15;up beside=2;");
        is(23, "punching by THREADS beside", beside.punching(0, 0, 0), 6);
        is(23, "HOLES by THREADS beside", beside.punching(0, 0, 1), 63);

        PunchCards y = of("threads 4;card 5 0 0;card 3 0 9;card 1 0 0;lace 0 1;up hole and thread<3;");
        is(24, "same(0): a THREAD that is never up", y.same(0), 2);
        is(24, "same(1): worn smooth", y.same(1), 16);
        is(24, "same(2): not laced", y.same(2), 16);
        fails(24, "same(3)", NSE, () -> y.same(3));
        fails(24, "same(-1)", NSE, () -> y.same(-1));
        is(24, "same(0) of 12 THREADS", of("threads 12;card 5 0 0;lace 0;").same(0), 1);
        is(24, "same(0), all down", of("threads 12;card 5 0 0;lace 0;up 0;").same(0), 4096);
        // No two THREADS next to one that have a HOLE on both sides: 3 THREADS, only 101 and 111 lift one.
        is(24, "same(0) by THREADS beside", of("threads 3;card 0 0 0;lace 0;up beside=2;").same(0), 6);
    }

    private static void seeing() {
        PunchCards x = of("threads 4;card 1 0 8;card 3 0 0;card 6 0 0;lace 0 1 0;");
        is(27, "backwards(0): nothing SEEN", x.backwards(0), 3);
        is(27, "backwards(2): nothing SEEN", x.backwards(2), 1);
        is(28, "punched(0, 0): nothing SEEN", x.punched(0, 0), 16);
        is(28, "punched(0, 1): nothing SEEN", x.punched(0, 1), 0);
        is(29, "next(0): nothing SEEN", x.next(0), 0);
        is(29, "next(1): nothing SEEN", x.next(1), 2);
        is(25, "see(0, 3, 0, true)", x.see(0, 3, 0, true), 1);
        is(27, "backwards(0)", x.backwards(0), 1);
        is(27, "backwards(1)", x.backwards(1), 0);
        is(27, "backwards(2)", x.backwards(2), 0);
        is(28, "punched(0, 0)", x.punched(0, 0), 8);
        is(28, "punched(0, 1)", x.punched(0, 1), 8);
        is(28, "punched(1, 0)", x.punched(1, 0), 0);
        is(28, "punched(1, 1)", x.punched(1, 1), NONE);
        is(28, "punched(2, 0): not laced", x.punched(2, 0), 0);
        PunchCards only = of("threads 2;card 0 0 0;lace 0;");
        only.see(0, 0, 0, true);
        only.see(0, 1, 0, true);
        is(28, "punched(0, 0): all alone", only.punched(0, 0), 1);
        is(28, "punched(0, 1): all alone", only.punched(0, 1), 3);
        is(29, "next(0): one CARD", x.next(0), 0);
        is(29, "next(1): one CARD", x.next(1), 1);
        is(25, "see(1, 3, 0, true)", x.see(1, 3, 0, true), 2);
        is(27, "backwards(0): none", x.backwards(0), 0);
        is(27, "backwards(1): none", x.backwards(1), NONE);
        is(29, "next(0): none", x.next(0), NONE);
        is(29, "next(1): none", x.next(1), 0);
        x.forget();
        is(26, "SEEN behind forget()", x.count(11), 0);
        is(25, "see(0, 3, 1, true): worn smooth then", x.see(0, 3, 1, true), 1);
        is(27, "backwards(0): worn smooth then", x.backwards(0), 3);
        is(27, "backwards(2): worn smooth then", x.backwards(2), 1);
        is(28, "punched(0, 0): worn smooth then", x.punched(0, 0), 16);
        x.forget();
        is(25, "see(1, 0, 0, false)", x.see(1, 0, 0, false), 1);
        is(25, "see(1, 0, 20, true)", x.see(1, 0, 20, true), 2);
        is(25, "see(1, 0, 8, false)", x.see(1, 0, 8, false), 3);
        is(27, "backwards(1): on three SUNDAYS", x.backwards(1), 1);
        is(27, "backwards(0): on three SUNDAYS", x.backwards(0), 1);
        is(28, "punched(1, 0): on three SUNDAYS", x.punched(1, 0), 8);
        x.sundays(1);
        is(27, "backwards(2): SUNDAYS count from now", x.backwards(0), 0);
        x.undo();
        for (int i = 4; i <= 8; i++) is(25, "see again", x.see(1, 0, 0, false), i);
        is(25, "see, a ninth", x.see(1, 0, 0, false), NONE);
        is(25, "STATUS 2", x.count(15), 1);
        x.forget();
        is(25, "see(0, 0, 21, true)", x.see(0, 0, 21, true), NONE);
        is(25, "see(0, 0, -1, true)", x.see(0, 0, -1, true), NONE);
        is(25, "STATUS 2", x.count(15), 3);
        is(25, "see(2, 3, 20, true)", x.see(2, 3, 20, true), 1);
        fails(25, "see(3, 0, 0, true)", NSE, () -> x.see(3, 0, 0, true));
        fails(25, "see(-1, 0, 21, true)", NSE, () -> x.see(-1, 0, 21, true));
        fails(25, "see(0, 4, 21, true)", NSE, () -> x.see(0, 4, 21, true));
        fails(25, "see(0, -1, 0, true)", NSE, () -> x.see(0, -1, 0, true));
        is(25, "STATUS 2 stays", x.count(15), 3);
        fails(27, "backwards(3)", NSE, () -> x.backwards(3));
        fails(27, "backwards(-1)", NSE, () -> x.backwards(-1));
        fails(28, "punched(3, 0)", NSE, () -> x.punched(3, 0));
        fails(28, "punched(-1, 0)", NSE, () -> x.punched(-1, 0));
        fails(28, "punched(0, 2)", NSE, () -> x.punched(0, 2));
        fails(28, "punched(0, -1)", NSE, () -> x.punched(0, -1));
        fails(29, "next(2)", NSE, () -> x.next(2));
        fails(29, "next(-1)", NSE, () -> x.next(-1));
        PunchCards y = of("threads 4;card 1 0 0;card 3 0 0;card 6 0 0;lace 2 0 1 1;up hole or ahead;");
        is(29, "next(0), the most unlike", y.next(0), 1);
        is(29, "next(1), the most unlike", y.next(1), 2);
        PunchCards z = of("threads 4;card 1 0 0;card 3 0 0;lace 0 0 1;up (pick=2 and (hole or ahead)) or (hole and pick<2);");
        is(29, "next(0)", z.next(0), 0);
        is(29, "next(0) without a LACE", of("card 1 0 0;").next(0), NONE);
        is(29, "next(1) without a LACE", of("card 1 0 0;").next(1), 0);
        PunchCards three = of("threads 4;card 1 0 0;card 3 0 0;card 0 0 0;lace 0 1;up hole or ahead;");
        is(29, "next(0): three unlike", three.next(0), 1);
        is(29, "next(1): three unlike", three.next(1), 3);
    }

    private static void toCut() {
        PunchCards x = new PunchCards();
        is(30, "toCut(1, 9, 50, 0)", x.toCut(1, 9, 50, 0), 9);
        is(30, "toCut(1, 9, 8, 0)", x.toCut(1, 9, 8, 0), 8);
        is(30, "toCut(1, 9, 8, 1)", x.toCut(1, 9, 8, 1), 1);
        is(30, "toCut(1, 9, 9, 1): as good", x.toCut(1, 9, 9, 1), 0);
        is(30, "toCut(30, 9, 50, 0): never", x.toCut(30, 9, 50, 0), 270);
        is(30, "toCut(30, 9, 40, 0): every 10 SUNDAYS", x.toCut(30, 9, 40, 0), 255);
        is(30, "toCut(30, 9, 40, 1): a SUNDAY later is as good", x.toCut(30, 9, 40, 1), 0);
        is(30, "toCut(10, 9, 40, 0)", x.toCut(10, 9, 40, 0), 85);
        is(30, "toCut(10, 9, 40, 1): not, if a SUNDAY later is as good", x.toCut(10, 9, 40, 1), 0);
        is(30, "toCut(5, 9, 9, 1)", x.toCut(5, 9, 9, 1), 1);
        is(30, "toCut(30, 0, 0, 0)", x.toCut(30, 0, 0, 0), 0);
        is(30, "toCut(30, 0, 0, 1)", x.toCut(30, 0, 0, 1), 0);
        is(30, "toCut(3, 8, 50, 0): 9 at most", x.toCut(3, 8, 50, 0), 26);
        is(30, "toCut(4, 0, 2, 0)", x.toCut(4, 0, 2, 0), 4);
        fails(30, "toCut(0, 0, 0, 2)", NSE, () -> x.toCut(0, 0, 0, 2));
        fails(30, "toCut(1, 0, 0, -1)", NSE, () -> x.toCut(1, 0, 0, -1));
        fails(30, "toCut(0, 0, 0, 0)", IAE, () -> x.toCut(0, 0, 0, 0));
        fails(30, "toCut(31, 0, 0, 0)", IAE, () -> x.toCut(31, 0, 0, 0));
        fails(30, "toCut(1, -1, 0, 0)", IAE, () -> x.toCut(1, -1, 0, 0));
        fails(30, "toCut(1, 10, 0, 0)", IAE, () -> x.toCut(1, 10, 0, 0));
        fails(30, "toCut(1, 0, -1, 1)", IAE, () -> x.toCut(1, 0, -1, 1));
        fails(30, "toCut(1, 0, 51, 1)", IAE, () -> x.toCut(1, 0, 51, 1));
    }

    private static void coats() {
        PunchCards x = of("threads 4;card 15 0 0;card 1 0 0;card 0 0 9;card 2 0 0;lace 1 1 3 0;");
        is(31, "coats(NONE)", x.coats(NONE), 4);
        is(31, "coats(0)", x.coats(0), 0);
        is(31, "coats(1)", x.coats(1), 1);
        is(31, "coats(2): worn smooth, any", x.coats(2), 3);
        is(31, "coats(3)", x.coats(3), 2);
        fails(31, "coats(4)", NSE, () -> x.coats(4));
        fails(31, "coats(-2)", NSE, () -> x.coats(-2));
        // Two cards for one pick: the row with that pick first comes first, none behind all.
        PunchCards y = of("threads 2;card 3 0 0;card 1 0 0;card 1 0 0;lace 1;");
        is(31, "coats(NONE) of one PICK", y.coats(NONE), 1);
        is(31, "coats(0) of one PICK", y.coats(0), 0);
        is(31, "coats(1) of one PICK", y.coats(1), NONE);
        // Card 0 gives way where only so all get one.
        PunchCards z = of("threads 2;card 3 0 0;card 1 0 0;lace 1 0;");
        is(31, "coats(NONE)", z.coats(NONE), 2);
        is(31, "coats(0)", z.coats(0), 1);
        is(31, "coats(1)", z.coats(1), 0);
        is(31, "coats(NONE) without a LACE", of("card 1 0 0;").coats(NONE), 0);
        is(31, "coats(0) without a LACE", of("card 1 0 0;").coats(0), NONE);
    }

    private static void games() {
        // 0011 and 0011: apart is worth 2, less 2 for turning: both ways as good.
        PunchCards x = of("threads 4;card 3 0 0;card 3 1 0;card 3 0 0;card 1 0 9;");
        is(32, "game(0, 1, 0)", x.game(0, 1, 0), 3);
        is(32, "game(0, 1, 1)", x.game(0, 1, 1), 0);
        // Alike: a snarl of 2 side by side, none if one is turned.
        is(32, "game(0, 2, 0)", x.game(0, 2, 0), 2);
        is(32, "game(0, 2, 1)", x.game(0, 2, 1), 1);
        is(32, "game(0, 3, 0): worn smooth", x.game(0, 3, 0), 1);
        is(32, "game(0, 3, 1)", x.game(0, 3, 1), 0);
        // One wants to be alike (else its snarl), the other one not: none rests.
        PunchCards y = of("threads 3;card 1 0 0;card 1 1 0;harm 0;");
        is(32, "game(0, 1, 0)", y.game(0, 1, 0), 1);
        fails(32, "game(4, 0, 0)", NSE, () -> x.game(4, 0, 0));
        fails(32, "game(0, -1, 0)", NSE, () -> x.game(0, -1, 0));
        fails(32, "game(0, 0, 2)", NSE, () -> x.game(0, 0, 2));
        fails(32, "game(0, 1, -1)", NSE, () -> x.game(0, 1, -1));
        fails(32, "game(0, 0, 0)", IAE, () -> x.game(0, 0, 0));
        fails(32, "game(4, 4, 0)", NSE, () -> x.game(4, 4, 0));
        PunchCards first = of("threads 4;card 3 2 0;card 3 7 0;harm (first=2)*holes*3;");
        is(32, "game(0, 1, 1): the first one first", first.game(0, 1, 1), 1);
        is(32, "game(1, 0, 1): the first one first", first.game(1, 0, 1), 0);
    }

    private static void seeds() {
        PunchCards x = of(LOOM);
        is(33, "drawn(5, 0, 0)", x.drawn(5, 0, 0), 0);
        is(33, "drawn(5, 0, 1)", x.drawn(5, 0, 1), 8);
        is(33, "drawn(5, 0, 2)", x.drawn(5, 0, 2), 6);
        x.sundays(1);
        is(33, "drawn(5, 0, 0) behind a SUNDAY", x.drawn(5, 0, 0), 2);
        fails(33, "drawn(5, 0, 3)", NSE, () -> x.drawn(5, 0, 3));
        fails(33, "drawn(5, 31, -1)", NSE, () -> x.drawn(5, 31, -1));
        fails(33, "drawn(5, 31, 0)", IAE, () -> x.drawn(5, 31, 0));
        fails(33, "drawn(5, -1, 2)", IAE, () -> x.drawn(5, -1, 2));
        is(33, "drawn without CARDS", new PunchCards().drawn(7, 30, 2), 0);
        // One card (its draw is always 0): seeds by what the draw of 4 gives.
        for (int fate = 0; fate < 4; fate++) {
            int seed = 0;
            while (draw(step(step(seed)), 4) != fate) seed++;
            PunchCards y = of("threads 3;card 1 0 5;lace 0;figure 0 3 1;");
            int toggled = 1 ^ 1 << draw(step(step(step(seed))), 3);
            int holes = fate == 0 ? toggled : fate == 1 ? 4 : 1;
            is(33, "GRANTED of fate " + fate, y.drawn(seed, 1, 0), holes == 1 ? 1 : 0);
            is(33, "WEAR of fate " + fate, y.drawn(seed, 1, 1), fate == 2 ? 1 : 6);
            is(33, "up of fate " + fate, y.drawn(seed, 1, 2), Integer.bitCount(holes));
            is(33, "HOLES stay", y.card(0, 0), 1);
            is(33, "WEAR stays", y.card(0, 2), 5);
            is(33, "the SUNDAY stays", y.count(4), 0);
        }
    }

    private static int step(int seed) {
        return seed * 1103515245 + 12345;
    }

    private static int draw(int seed, int n) {
        return (seed >> 16 & 32767) % n;
    }

    private static void section5() {
        PunchCards x = of("threads 6;card 9 0 0;card 63 0 0;card 0 0 0;card 36 0 0;card 7 0 9;card 8 0 0;lace 0 1 2;");
        is(34, "gap(0, 0)", x.gap(0, 0), 2);
        is(34, "gap(0, 1): the least of like ones", x.gap(0, 1), 1);
        is(34, "gap(1, 0): all are up", x.gap(1, 0), 0);
        is(34, "gap(1, 1): all are up", x.gap(1, 1), NONE);
        is(34, "gap(2, 0)", x.gap(2, 0), 6);
        is(34, "gap(2, 1)", x.gap(2, 1), 0);
        fails(34, "gap(3, 0)", NSE, () -> x.gap(3, 0));
        fails(34, "gap(-1, 0)", NSE, () -> x.gap(-1, 0));
        fails(34, "gap(0, 2)", NSE, () -> x.gap(0, 2));
        fails(34, "gap(0, -1)", NSE, () -> x.gap(0, -1));

        is(35, "unlike(0, 3): one TURNED", x.unlike(0, 3), 0);
        is(35, "unlike(0, 2)", x.unlike(0, 2), 2);
        is(35, "unlike(0, 5)", x.unlike(0, 5), 1);
        is(35, "unlike(3, 5)", x.unlike(3, 5), 1);
        is(35, "unlike(1, 4): worn smooth", x.unlike(1, 4), 0);
        is(35, "unlike(2, 4)", x.unlike(2, 4), 6);
        fails(35, "unlike(6, 0)", NSE, () -> x.unlike(6, 0));
        fails(35, "unlike(0, -1)", NSE, () -> x.unlike(0, -1));

        is(36, "family(0)", x.family(0), 9);
        is(36, "family(1): one is worn smooth", x.family(1), 18);
        is(36, "family(4)", x.family(4), 18);
        is(36, "family(2)", x.family(2), 4);
        fails(36, "family(6)", NSE, () -> x.family(6));
        fails(36, "family(-1)", NSE, () -> x.family(-1));

        PunchCards y = of("threads 3;card 1 0 0;card 3 0 0;card 2 0 0;lace 0 1;figure 0 1 1 1;figure 0 3 4;figure 0 3 7;figure 0 1 0;");
        is(37, "turning(0): it stands but by CARD 0 or 1", y.turning(0), 4);
        is(37, "turning(1)", y.turning(1), 1);
        is(37, "turning(2)", y.turning(2), 0);
        is(37, "turning(3)", y.turning(3), 7);
        fails(37, "turning(4)", NSE, () -> y.turning(4));
        fails(37, "turning(-1)", NSE, () -> y.turning(-1));

        PunchCards z = of("threads 2;card 1 0 0;card 2 0 0;lace 0 1 0;figure 0 2 1 1;figure 0 2 2;figure 0 1 1;figure 0 1 1 1 1;");
        is(38, "leftOut(1)", z.leftOut(1), 5);
        is(38, "leftOut(0)", z.leftOut(0), 6);
        is(38, "leftOut(2)", z.leftOut(2), 6);
        is(38, "THE LACE stays", z.count(2), 3);
        is(38, "leftOut(0) of one PICK", of("card 1 0 0;lace 0;figure 0 1 1;").leftOut(0), 0);
        is(38, "PICKS behind it come one ahead", of("card 1 0 0;lace 0 0 0;up pick=2;figure 0 1 1;").leftOut(0), 0);
        fails(38, "leftOut(3)", NSE, () -> z.leftOut(3));
        fails(38, "leftOut(-1)", NSE, () -> z.leftOut(-1));

        PunchCards cut = of("threads 2;card 1 0 9;card 1 0 8;card 1 0 5;lace 0 1 2;figure 0 2 1 1 1;");
        is(39, "cutting(1)", cut.cutting(1), 0);
        is(39, "cutting(30)", cut.cutting(30), 0);
        is(39, "WEAR stays", cut.card(0, 2), 9);
        PunchCards cut2 = of("threads 2;card 1 0 0;card 1 0 8;lace 0 1;figure 0 2 1 1;");
        is(39, "cutting(1): none is more", cut2.cutting(1), NONE);
        is(39, "cutting(2)", cut2.cutting(2), 1);
        is(39, "cutting of like ones", of("threads 2;card 1 0 9;card 1 0 9;lace 0 1;figure 0 2 1;").cutting(3), 0);
        is(39, "cutting without CARDS", new PunchCards().cutting(30), NONE);
        is(39, "cutting to WEAR 0", of("threads 2;card 1 0 9;lace 0;up wear=0;figure 0 1 1;").cutting(1), 0);
        fails(39, "cutting(0)", IAE, () -> cut.cutting(0));
        fails(39, "cutting(31)", IAE, () -> cut.cutting(31));

        PunchCards m = of("threads 3;card 1 0 0;card 5 0 0;lace 0 1 0;");
        is(40, "mirrored(0)", m.mirrored(0), true);
        is(40, "mirrored(1)", m.mirrored(1), false);
        PunchCards m2 = of("threads 3;card 2 0 0;card 5 0 0;lace 0 1;");
        is(40, "mirrored(0)", m2.mirrored(0), false);
        is(40, "mirrored(1)", m2.mirrored(1), true);
        is(40, "mirrored(0) without a LACE", new PunchCards().mirrored(0), true);
        is(40, "mirrored(1) without a LACE", new PunchCards().mirrored(1), true);
        fails(40, "mirrored(2)", NSE, () -> m.mirrored(2) ? 1 : 0);
        fails(40, "mirrored(-1)", NSE, () -> m.mirrored(-1) ? 1 : 0);
    }

    private static void images() {
        PunchCards x = of(LOOM);
        is(43, "restore() without an image", x.restore(), false);
        x.punch(0, 9);
        x.sundays(1);
        x.change(0, 3);
        x.see(0, 0, 0, true);
        x.image();
        x.sundays(2);
        x.punch(0, 1);
        x.cut(1);
        x.change(0, 1);
        x.undo();
        x.undo();
        x.see(1, 1, 3, false);
        x.sundays(0);
        feed(x, "threads 5;");
        is(43, "restore()", x.restore(), true);
        is(42, "the SUNDAY", x.count(4), 1);
        is(42, "GRANTED", x.count(5), x.granted(0));
        is(42, "HOLES", x.card(0, 0), 9);
        is(42, "WEAR", x.card(1, 2), 9);
        is(42, "THE LACE", x.lace(0), 2);
        is(42, "ACTS", x.count(10), 3);
        is(42, "SEEN", x.count(11), 1);
        is(43, "the tape is not of the image", x.count(12), 20);
        is(43, "STATUS is not of the image", x.count(14), 1);
        is(42, "undo()", x.undo(), 2);
        is(42, "THE LACE ahead of it", x.lace(0), 0);
        is(42, "undo()", x.undo(), 1);
        is(42, "WEAR ahead of it", x.card(1, 2), 8);
        is(42, "undo()", x.undo(), 0);
        is(42, "HOLES ahead of it", x.card(0, 0), 5);
        is(43, "restore() again", x.restore(), true);
        is(42, "ACTS again", x.count(10), 3);
        x.forget();
        x.image();
        x.restore();
        is(42, "in place of another one", x.count(11), 0);
    }
}
