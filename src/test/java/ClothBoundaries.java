/** Sentences on CLOTH that name a boundary (promises 16 to 24, 34, 37, 38, 40), each with a test of its own. */
public final class ClothBoundaries extends Check {
    private static final String TWELVE = "lace" + " 0".repeat(11) + " 1;";

    public static void main(String[] args) {
        thens();
        grants();
        wornSmooth();
        changes();
        wornNow();
        floats();
        stands();
        orders();
        punchings();
        punchingNone();
        sames();
        gaps();
        turnings();
        leavingOut();
        mirrors();
        finish("cloth boundaries");
    }

    // ---- promises 16 to 19 -----------------------------------------------

    private static void thens() {
        says("NoSuchElementException: no such PICK (as everywhere). IllegalArgumentException (behind that): not 0 to 30.", () -> {
            PunchCards x = of("threads 12;card 1 0 0;card 2048 0 0;" + TWELVE);
            is("then(0, 0)", x.then(0, 0), 1);
            is("then(11, 0)", x.then(11, 0), 2048);
            is("then(11, 30)", x.then(11, 30), 4095);
            outside("then(., 0)", NSE, 0, 11, n -> x.then(n, 0));
            outside("then(0, .)", IAE, 0, 30, n -> x.then(0, n));
            outside("no such PICK ahead", NSE, 0, 11, n -> x.then(n, 31));
            outside("without a LACE", NSE, 0, -1, n -> of("card 1 0 0;").then(n, -1));
        });
        says("THEN: CLOTH at a PICK behind so many SUNDAYS (0 to 30).", () -> {
            PunchCards x = of("threads 2;card 1 0 0;card 1 0 8;lace 0 1;up hole and wear<9 or wear=9 and thread=1;");
            is("then(0, 8)", x.then(0, 8), 1);
            is("then(0, 9)", x.then(0, 9), 2);
            is("then(0, 10)", x.then(0, 10), 2);
            is("then(1, 0)", x.then(1, 0), 1);
            is("then(1, 1)", x.then(1, 1), 2);
            is("WEAR stays", x.card(0, 2), 0);
            is("the SUNDAY stays", x.count(4), 0);
            is("ACTS stay", x.count(10), 0);
        });
        says("(If only SUNDAYS go by, from now on:)", () -> {
            PunchCards late = of("threads 2;card 1 0 0;lace 0;figure 0 2 3;");
            for (int i = 0; i < 49; i++) {
                late.sundays(20);
            }
            late.sundays(19);
            is("the last SUNDAY", late.count(4), 999);
            is("then(0, 30)", late.then(0, 30), 3);
            is("granted(30)", late.granted(30), 1020);
            late.cut(0);
            is("then(0, 8)", late.then(0, 8), 1);
            is("granted(9)", late.granted(9), 990);
            is("granted(10)", late.granted(10), 991);
        });
    }

    private static void grants() {
        says("`int granted(int sundays) throws IllegalArgumentException`: GRANTED. IllegalArgumentException: not 0 to 30.", () -> {
            PunchCards x = of("threads 2;card 1 0 0;lace 0;figure 0 1 1;figure 0 2 3;");
            is("granted(0)", x.granted(0), 0);
            is("granted(1)", x.granted(1), 1);
            is("granted(9)", x.granted(9), 9);
            is("granted(10)", x.granted(10), 11);
            is("granted(11)", x.granted(11), 13);
            is("granted(30)", x.granted(30), 51);
            outside("granted", IAE, 0, 30, x::granted);
            is("GRANTED stays", x.count(5), 0);
            x.sundays(10);
            is("granted(0) is what it is", x.granted(0), 11);
            is("granted(20)", x.granted(20), 51);
            is("without a LACE", of("card 1 0 0;figure 0 1 0;").granted(30), 0);
            outside("of a new object", IAE, 0, 30, new PunchCards()::granted);
        });
    }

    private static void wornSmooth() {
        says("GRANTED behind so many (0 to 30)", () -> {
            PunchCards x = of("threads 2;card 0 0 9;lace 0;" + "figure 0 1 1;".repeat(5));
            for (int n = 0; n <= 30; n++) {
                is("granted(" + n + ")", x.granted(n), 5 * n);
            }
        });
        says("WORN: behind how many SUNDAYS (0 to 9) a CARD is worn smooth; none.", () -> {
            PunchCards x = of("card 0 0 0;card 0 0 1;card 0 0 8;card 0 0 9;lace 0 1 2 3 0;");
            is("of WEAR 0", x.worn(0), 9);
            is("of WEAR 1", x.worn(1), 8);
            is("of WEAR 8", x.worn(2), 1);
            is("of WEAR 9", x.worn(3), 0);
            x.sundays(1);
            is("behind a SUNDAY", x.worn(0), 8);
            is("just worn smooth", x.worn(2), 0);
        });
        says("WORN; NONE: none, it isn't in THE LACE (and not worn smooth).", () -> {
            PunchCards x = of("card 0 0 8;card 0 0 9;card 0 0 0;lace 2;");
            is("not laced", x.worn(0), NONE);
            is("not laced, worn smooth", x.worn(1), 0);
            outside("worn", NSE, 0, 2, x::worn);
        });
    }

    private static void changes() {
        says("CHANGES: behind how many SUNDAYS (1 to 30) CLOTH isn't what it is now first; none.", () -> {
            is("the next SUNDAY", of("threads 2;card 1 0 8;lace 0;").changes(), 1);
            is("nine on", of("threads 2;card 1 0 0;lace 0;").changes(), 9);
            is("the first of two", of("threads 2;card 0 0 0;lace 0;up wear=3 or wear=5;").changes(), 3);
            is("at the last PICK and THREAD", of("threads 12;card 4095 0 0;card 2047 0 5;" + TWELVE).changes(), 4);
            is("worn smooth already", of("threads 2;card 1 0 9;lace 0;").changes(), NONE);
            is("all HOLES", of("threads 2;card 3 0 0;lace 0;").changes(), NONE);
            is("no CARD that is laced", of("threads 2;card 3 0 0;card 1 0 0;lace 0;").changes(), NONE);
            is("without a LACE", of("card 1 0 0;").changes(), NONE);
            is("a new object", new PunchCards().changes(), NONE);
        });
    }

    /** What each question answers of CLOTH as it is now, with CARD 0 of this WEAR. */
    private static int[] questions(int wear) {
        PunchCards x = of("threads 3;card 1 0 " + wear + ";card 7 0 0;card 1 0 0;lace 0 1;figure 0 3 7;figure 0 3 1;figure 0 3 4;");
        return new int[] {x.count(7), x.count(8), x.count(9), x.floats(1), x.stands(1, 0), x.stands(0, 1), x.punching(0, 2, 0), x.same(0),
            x.coats(2), x.gap(0, 0), x.gap(0, 1), x.turning(2), x.leftOut(1), x.mirrored(0) ? 1 : 0, x.mirrored(1) ? 1 : 0, x.next(1),
            x.then(0, 0), x.granted(1), x.backwards(2), x.drawn(1, 0, 2), x.card(0, 3), x.snarl(0, 0), x.unlike(0, 1), x.family(0)};
    }

    private static void wornNow() {
        says("A CARD of WEAR 9 is worn smooth", () -> {
            int[] not = {0, 2, 3, 1, 0, 1, 2, 1, NONE, 2, 1, 1, 2, 0, 0, 2, 1, 2, 1, 4, 1, 1, 2, 5};
            int[] smooth = {0, 1, 1, 2, NONE, 2, NONE, 8, NONE, 0, NONE, 0, 1, 1, 1, 1, 7, 1, 1, 6, 7, 3, 0, 3};
            int[] of8 = questions(8);
            int[] of9 = questions(9);
            for (int i = 0; i < not.length; i++) {
                is("question " + i + ", WEAR 8", of8[i], not[i]);
                is("question " + i + ", WEAR 9", of9[i], smooth[i]);
            }
            is("PLAIN, WEAR 8", of("threads 3;card 1 0 8;lace 0;").count(7), 6);
            is("PLAIN, WEAR 9", of("threads 3;card 1 0 9;lace 0;").count(7), 0);
            is("COATS, WEAR 8", of("threads 3;card 1 0 8;card 3 0 0;lace 0 0;").coats(NONE), 2);
            is("COATS, WEAR 9", of("threads 3;card 1 0 9;card 3 0 0;lace 0 0;").coats(NONE), 1);
        });
    }

    // ---- promises 20 to 22 -----------------------------------------------

    private static void floats() {
        says("the THREAD with the longest one (thread NONE). NoSuchElementException: no such THREAD.", () -> {
            PunchCards x = of("threads 12;card 2047 0 0;card 2048 0 0;lace 0 0 1 1 1 1 1;");
            is("floats(0)", x.floats(0), 5);
            is("floats(11)", x.floats(11), 5);
            for (int n : new int[] {-2, 12, LEAST, MOST}) {
                fails("floats(" + n + ")", NSE, () -> x.floats(n));
            }
            for (int n : new int[] {-2, 2, 8}) {
                fails("floats(" + n + ") of two THREADS", NSE, () -> of("threads 2;").floats(n));
            }
        });
        says("the most PICKS one behind the other at which it is up, or at which it isn't", () -> {
            PunchCards x = of("threads 3;card 1 0 0;card 2 0 0;lace 0 1 1 0 0 0 1 0;");
            is("up", x.floats(0), 3);
            is("not up", x.floats(1), 3);
            is("never up", x.floats(2), 8);
            is("one PICK", of("card 1 0 0;lace 0;").floats(0), 1);
            is("twelve PICKS", of("card 1 0 0;lace" + " 0".repeat(12) + ";").floats(7), 12);
            is("at the end", of("card 1 0 0;card 0 0 0;lace 0 1 0 0 0;").floats(0), 3);
            is("without a LACE", of("card 1 0 0;").floats(0), 0);
        });
        says("of all THREADS the longest one (of like ones the least THREAD)", () -> {
            is("all alike", of("threads 12;card 4095 0 0;lace 0 0;").floats(NONE), 0);
            is("all alike, none as long as CLOTH", of("threads 2;card 1 0 0;card 2 0 0;lace 0 1;").floats(NONE), 0);
            is("the last one", of("threads 3;card 3 0 0;card 0 0 0;lace 0 1 0;").floats(NONE), 2);
            is("the second of three", of("threads 4;card 1 0 0;card 0 0 0;lace 0 1 0;").floats(NONE), 1);
            is("without a LACE", of("card 1 0 0;").floats(NONE), 0);
        });
    }

    private static void stands() {
        says("STANDS: 100 by the PICK and the THREAD (what 0; NONE: nowhere), how many places (1). NoSuchElementException: also another what.", () -> {
            PunchCards x = of("threads 12;card 0 0 0;card 2048 0 0;" + TWELVE + "figure 0 1 1;figure 0 1 0;figure 0 2 3;figure 0 2 2;figure 0 4 0 0 0;");
            is("the last place", x.stands(0, 0), 1111);
            is("one place", x.stands(0, 1), 1);
            is("the first place", x.stands(1, 0), 0);
            is("all places but one", x.stands(1, 1), 143);
            is("nowhere", x.stands(2, 0), NONE);
            is("no place", x.stands(2, 1), 0);
            is("its last THREAD is the last one", x.stands(3, 0), 1110);
            is("places one over the other", x.stands(4, 1), 9 * 9 + 8);
            outside("stands(., 0)", NSE, 0, 4, n -> x.stands(n, 0));
            outside("stands(0, .)", NSE, 0, 1, n -> x.stands(0, n));
        });
        says("STANDS: where a FIGURE stands first (by PICKS, then THREADS); at how many places.", () -> {
            PunchCards x = of("threads 4;card 8 0 0;card 1 0 0;lace 0 1;figure 0 1 1;figure 0 4 15;");
            is("PICKS first", x.stands(0, 0), 3);
            is("then THREADS", of("threads 4;card 10 0 0;lace 0;figure 0 1 1;").stands(0, 0), 1);
            PunchCards none = of("threads 4;card 10 0 0;figure 0 1 0;");
            is("without a LACE", none.stands(0, 0), NONE);
            is("without a LACE", none.stands(0, 1), 0);
        });
    }

    private static void orders() {
        says("(With more than 9 CARDS in it none is sought.)", () -> {
            PunchCards nine = of("card 1 1 0;lace" + " 0".repeat(9) + ";");
            is("SNARL of nine", nine.order(NONE), 8);
            is("the last of nine", nine.order(8), 8);
            for (int picks = 10; picks <= 12; picks++) {
                PunchCards more = of("card 1 1 0;lace" + " 0".repeat(picks) + ";");
                is("order(NONE) of " + picks, more.order(NONE), -2);
                is("order(0) of " + picks, more.order(0), -2);
                is("the last of " + picks, more.order(picks - 1), -2);
            }
        });
        says("which place comes to the i-th; -2: more than 9. NoSuchElementException: no such place.", () -> {
            PunchCards x = of("card 0 3 0;card 0 2 0;card 0 1 0;lace 0 1 2;harm second<first;");
            for (int i = 0; i < 3; i++) {
                is("order(" + i + ")", x.order(i), 2 - i);
            }
            for (int n : new int[] {-2, 3, LEAST, MOST}) {
                fails("order(" + n + ")", NSE, () -> x.order(n));
            }
            PunchCards none = of("card 0 0 0;");
            is("SNARL without a LACE", none.order(NONE), 0);
            fails("order(0) without a LACE", NSE, () -> none.order(0));
            PunchCards ten = of("card 0 0 0;lace" + " 0".repeat(10) + ";");
            fails("order(10) of ten", NSE, () -> ten.order(10));
            is("SNARL of one", of("card 1 0 0;lace 0;harm 9;").order(NONE), 0);
            is("the place of one", of("card 1 0 0;lace 0;harm 9;").order(0), 0);
        });
        says("the first one (by places: which place of THE LACE as it is comes there)", () -> {
            PunchCards like = of("card 1 1 0;card 1 2 0;lace 0 1 0 1;");
            int[] due = {0, 1, 2, 3};
            for (int i = 0; i < 4; i++) {
                is("order(" + i + ") of like ones", like.order(i), due[i]);
            }
            StringBuilder cards = new StringBuilder();
            for (int want = 8; want >= 0; want--) {
                cards.append("card 0 ").append(want).append(" 0;");
            }
            PunchCards back = of(cards + "lace 0 1 2 3 4 5 6 7 8;harm second<first;");
            is("SNARL of the best of nine", back.order(NONE), 0);
            for (int i = 0; i < 9; i++) {
                is("order(" + i + ") of nine", back.order(i), 8 - i);
            }
            PunchCards between = of("card 0 0 0;card 0 2 0;card 0 3 0;card 0 1 0;lace 0 1 2 3;"
                + "harm 9-9*(first=0 and second=1 or first=1 and 1<second or first=2 and second=1)-4*(first=2 and second=3);");
            int[] way = {0, 3, 1, 2};
            for (int i = 0; i < 4; i++) {
                is("each place comes once: order(" + i + ")", between.order(i), way[i]);
            }
            is("THE LACE stays", back.lace(0), 0);
            back.change(0, 8);
            is("places as they are now", back.order(0), 0);
            is("a CARD laced twice", of("card 1 1 0;card 1 2 0;lace 0 0 1;").order(1), 2);
        });
        says("of all orders of THE LACE (place by place) that with least SNARL", () -> {
            is("each pair of nine is the most", of("card 0 0 0;lace" + " 0".repeat(9) + ";harm 99;").order(NONE), 792);
            is("HOLES that they have", of("threads 2;card 0 0 9;card 3 0 0;lace 0 1;").order(NONE), 2);
        });
    }

    // ---- promises 23 and 24 ----------------------------------------------

    private static void punchings() {
        says("how many (0: it stands); HOLES then (of like ones the least); none.", () -> {
            PunchCards x = of("threads 4;card 12 0 0;card 6 0 9;card 9 0 0;lace 0 1;figure 0 2 3;figure 0 4 15;");
            is("it stands", x.punching(0, 0, 0), 0);
            is("HOLES as they are", x.punching(0, 0, 1), 12);
            is("it stands, a CARD worn smooth", x.punching(1, 1, 0), 0);
            is("HOLES as punched", x.punching(1, 1, 1), 6);
            is("it stands, a CARD that is not laced", x.punching(2, 0, 0), 0);
            is("HOLES as they are", x.punching(2, 0, 1), 9);
        });
        says("(of like ones the least); none. THE SAME", () -> {
            is("one HOLE more", of("threads 12;card 0 0 0;lace 0;figure 0 1 1;").punching(0, 0, 1), 1);
            is("one HOLE less", of("threads 12;card 4095 0 0;lace 0;figure 0 1 0;").punching(0, 0, 1), 2047);
            PunchCards x = of("threads 5;card 17 0 0;lace 0;figure 0 2 3;");
            is("at one THREAD", x.punching(0, 0, 0), 1);
            is("the least of two", x.punching(0, 0, 1), 19);
            PunchCards moved = of("threads 4;card 1 0 0;lace 0;figure 0 2 0;figure 0 4 6;");
            is("none to patch", moved.punching(0, 0, 0), 0);
            is("three otherwise", moved.punching(0, 1, 0), 3);
            is("HOLES then", moved.punching(0, 1, 1), 6);
        });
        says("at how few THREADS what is punched in it must be otherwise, so that a FIGURE stands somewhere now", () -> {
            PunchCards all = of("threads 4;card 0 0 0;lace 0;figure 0 4 15;");
            is("all THREADS", all.punching(0, 0, 0), 4);
            is("all HOLES", all.punching(0, 0, 1), 15);
            PunchCards none = of("threads 4;card 15 0 0;lace 0;figure 0 4 0;");
            is("all THREADS", none.punching(0, 0, 0), 4);
            is("no HOLES", none.punching(0, 0, 1), 0);
            PunchCards wide = of("threads 12;card 0 0 0;lace 0;figure 0 4 15;up beside=2;");
            is("THREADS beside, too", wide.punching(0, 0, 0), 6);
            is("HOLES then", wide.punching(0, 0, 1), 63);
            PunchCards last = of("threads 12;card 0 0 0;lace 0;figure 0 2 2;up hole and thread=11;");
            is("at the last THREAD alone", last.punching(0, 0, 1), 2048);
            is("HOLES stay", last.card(0, 0), 0);
            is("ACTS stay", last.count(10), 0);
        });
    }

    private static void punchingNone() {
        says("PUNCHING: how many (what 0), HOLES (1); NONE: none. NoSuchElementException: also another what.", () -> {
            PunchCards x = of("threads 3;card 1 0 0;card 0 0 9;card 0 0 0;lace 0 1;figure 0 1 0 0;figure 0 4 0;figure 0 1 1 1 1;");
            for (int what = 0; what < 2; what++) {
                is("worn smooth ahead of it", x.punching(0, 0, what), NONE);
                is("worn smooth itself", x.punching(1, 0, what), NONE);
                is("not laced", x.punching(2, 0, what), NONE);
                is("wider than CLOTH", x.punching(0, 1, what), NONE);
                is("longer than CLOTH", x.punching(0, 2, what), NONE);
                is("without a LACE", of("card 0 0 0;figure 0 1 0;").punching(0, 0, what), NONE);
            }
            outside("punching(., 0, 0)", NSE, 0, 2, n -> x.punching(n, 0, 0));
            outside("punching(0, ., 0)", NSE, 0, 2, n -> x.punching(0, n, 0));
            outside("punching(0, 0, .)", NSE, 0, 1, n -> x.punching(0, 0, n));
        });
    }

    private static void sames() {
        says("(all sets of THREADS, its own ones, too)", () -> {
            is("its own ones alone, two THREADS", of("threads 2;card 1 0 0;lace 0;").same(0), 1);
            is("its own ones alone, twelve", of("threads 12;card 1 0 0;lace 0;").same(0), 1);
            is("all sets of two, not laced", of("threads 2;card 1 0 0;").same(0), 4);
            is("all sets of twelve, not laced", of("threads 12;card 1 0 0;card 2 0 0;lace 1;").same(0), 4096);
            is("all sets of twelve, worn smooth", of("threads 12;card 1 0 9;lace 0;").same(0), 4096);
            is("never up", of("threads 12;card 1 0 0;lace 0;up 0;").same(0), 4096);
            is("the last THREAD alone", of("threads 12;card 1 0 0;lace 0;up hole and thread=11;").same(0), 2048);
            is("no THREAD beside the ends", of("threads 2;card 0 0 0;lace 0;up beside=2;").same(0), 4);
            is("by one beside", of("threads 2;card 0 0 0;lace 0;up beside;").same(0), 1);
            is("at one PICK of two", of("threads 3;card 1 0 0;lace 0 0;up hole and pick=1;").same(0), 1);
        });
        says("CLOTH would be what it is now", () -> {
            PunchCards x = of("threads 3;card 1 0 8;lace 0;");
            is("not worn smooth", x.same(0), 1);
            is("not what it is a SUNDAY later", of("threads 3;card 1 0 8;lace 0;up hole and thread<2 or wear=9;").same(0), 2);
            is("HOLES stay", x.card(0, 0), 1);
            x.sundays(1);
            is("worn smooth now", x.same(0), 8);
            outside("same", NSE, 0, 0, x::same);
            outside("same without CARDS", NSE, 0, -1, new PunchCards()::same);
        });
    }

    // ---- promises 34, 37, 38, 40 -----------------------------------------

    private static void gaps() {
        says("A GAP of a PICK: the most THREADS next to each other that aren't up at it", () -> {
            for (int threads = 2; threads <= 12; threads++) {
                PunchCards x = of("threads " + threads + ";card 1 0 0;card " + (1 << threads - 1) + " 0 0;lace 0 1;");
                is("all but the first of " + threads, x.gap(0, 0), threads - 1);
                is("from the second on", x.gap(0, 1), 1);
                is("all but the last of " + threads, x.gap(1, 0), threads - 1);
                is("from the first on", x.gap(1, 1), 0);
            }
        });
        says("A GAP: how many (what 0), the first THREAD (1; NONE: all are up). NoSuchElementException: also another what.", () -> {
            PunchCards x = of("threads 12;card 4095 0 0;card 0 0 0;" + TWELVE);
            is("all are up", x.gap(0, 0), 0);
            is("all are up", x.gap(0, 1), NONE);
            is("none is up", x.gap(11, 0), 12);
            is("none is up", x.gap(11, 1), 0);
            outside("gap(., 0)", NSE, 0, 11, n -> x.gap(n, 0));
            outside("gap(0, .)", NSE, 0, 1, n -> x.gap(0, n));
            outside("without a LACE", NSE, 0, -1, n -> of("card 0 0 0;").gap(n, 0));
        });
        says("how many; the first one of them (of like ones the least)", () -> {
            is("the last THREAD", of("threads 12;card 2047 0 0;lace 0;").gap(0, 1), 11);
            is("one THREAD", of("threads 12;card 2047 0 0;lace 0;").gap(0, 0), 1);
            is("the first THREAD", of("threads 12;card 4094 0 0;lace 0;").gap(0, 1), 0);
            is("the least of like ones", of("threads 7;card 73 0 0;lace 0;").gap(0, 1), 1);
            is("how many of like ones", of("threads 7;card 73 0 0;lace 0;").gap(0, 0), 2);
            is("the longer one behind", of("threads 6;card 5 0 0;lace 0;").gap(0, 1), 3);
            is("not round the edge", of("threads 4;card 6 0 0;lace 0;").gap(0, 0), 1);
        });
    }

    private static void turnings() {
        says("BY TURNING: CARDS by each of which, were it TURNED now, alone, a FIGURE would stand, as bits.", () -> {
            PunchCards ten = of("threads 2;" + "card 1 0 0;".repeat(10) + "lace 0;figure 0 2 1;figure 0 2 2;figure 0 2 3;");
            is("it stands, but by the first one TURNED", ten.turning(0), 1022);
            is("the first one alone", ten.turning(1), 1);
            is("none", ten.turning(2), 0);
            is("HOLES stay", ten.card(0, 0), 1);
            is("ACTS stay", ten.count(10), 0);
            PunchCards smooth = of("threads 2;card 1 0 9;lace 0;figure 0 2 2;figure 0 2 3;");
            is("worn smooth", smooth.turning(0), 0);
            is("worn smooth, it stands", smooth.turning(1), 1);
            is("without CARDS", of("figure 0 1 0;").turning(0), 0);
            is("without a LACE", of("card 1 0 0;figure 0 1 0;").turning(0), 0);
            is("not two at once", of("threads 2;card 1 0 0;card 1 0 0;lace 0 1;figure 0 2 2 2;").turning(0), 0);
            outside("turning", NSE, 0, 2, ten::turning);
        });
    }

    private static void leavingOut() {
        says("LEFT OUT: FIGURES that would stand, were a place of THE LACE not there (those behind it one place ahead), as bits.", () -> {
            PunchCards x = of("threads 2;card 1 0 0;card 2 0 0;lace 0 1 0;figure 0 2 1 1;figure 0 2 2;figure 0 2 1;figure 0 1 1 1 1;");
            is("the first place", x.leftOut(0), 6);
            is("between two", x.leftOut(1), 5);
            is("the last place", x.leftOut(2), 6);
            is("THE LACE stays", x.count(2), 3);
            is("lace(2) stays", x.lace(2), 0);
            outside("leftOut", NSE, 0, 2, x::leftOut);
            PunchCards one = of("threads 2;card 0 0 0;lace 0;figure 0 1 0;");
            is("of one place", one.leftOut(0), 0);
            is("it stands still", one.count(9), 1);
            outside("leftOut without a LACE", NSE, 0, -1, of("card 0 0 0;figure 0 1 0;")::leftOut);
            is("without FIGURES", of("card 0 0 0;lace 0 0;").leftOut(0), 0);
            PunchCards twelve = of("threads 2;card 0 0 0;" + "lace" + " 0".repeat(12) + ";up pick=11;figure 0 1 1;figure 0 1 0;");
            is("no twelfth PICK is left", twelve.leftOut(11), 2);
            is("nor behind the first one", twelve.leftOut(0), 2);
            PunchCards five = of("threads 2;card 0 0 0;lace 0 0;" + "figure 0 1 0;".repeat(5));
            is("all five", five.leftOut(1), 31);
        });
    }

    private static void mirrors() {
        says("Whether MIRRORED (without a LACE it is). NoSuchElementException: what isn't 0, 1.", () -> {
            PunchCards none = of("card 1 0 0;");
            is("mirrored(0) without a LACE", none.mirrored(0), true);
            is("mirrored(1) without a LACE", none.mirrored(1), true);
            outside("mirrored without a LACE", NSE, 0, 1, n -> none.mirrored(n) ? 1 : 0);
            PunchCards x = of("threads 3;card 1 0 0;lace 0;");
            is("one PICK", x.mirrored(0), true);
            is("one PICK by THREADS", x.mirrored(1), false);
            outside("mirrored", NSE, 0, 1, n -> x.mirrored(n) ? 1 : 0);
        });
        says("if it is the same from its last PICK to its first one (0), or with THREADS from the last one to the first one (1)", () -> {
            PunchCards even = of("threads 2;card 1 0 0;card 2 0 0;lace 0 1 1 0;");
            is("an even number of PICKS", even.mirrored(0), true);
            is("by THREADS", even.mirrored(1), false);
            PunchCards odd = of("threads 3;card 2 0 0;card 5 0 0;card 0 0 0;lace 0 1 2;");
            is("unlike ends", odd.mirrored(0), false);
            is("an odd number of THREADS", odd.mirrored(1), true);
            is("the last PICK alone isn't", of("threads 12;card 0 0 0;card 1 0 0;" + TWELVE).mirrored(1), false);
            is("two PICKS in the middle aren't", of("threads 2;card 1 0 0;card 2 0 0;lace 0 1 0 0;").mirrored(0), false);
            is("by CLOTH, not by CARDS", of("threads 2;card 1 0 0;card 1 1 0;lace 0 1;").mirrored(0), true);
        });
    }
}
