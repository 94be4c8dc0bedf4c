/** Sentences on what is SEEN and on choices that name a boundary (promises 25 to 33, 35, 36, 39, 41), each with a test of its own. */
public final class ChoiceBoundaries extends Check {
    public static void main(String[] args) {
        seeing();
        whatIsSeen();
        inAnyOrder();
        forgetting();
        backwards();
        punchedOtherwise();
        nextPicks();
        toCut();
        toCutFirst();
        coats();
        rowsOfCoats();
        games();
        seeds();
        draws();
        fates();
        unlike();
        families();
        cuttings();
        swaps();
        finish("choice boundaries");
    }

    // ---- promises 25 and 26 ----------------------------------------------

    private static void seeing() {
        says("SEEN: how much is. NONE (STATUS 2): there are 8, not 0 to 20.", () -> {
            PunchCards x = of("threads 12;card 0 0 0;lace" + " 0".repeat(12) + ";");
            is("in 0 SUNDAYS", x.see(0, 0, 0, true), 1);
            is("in 20 SUNDAYS", x.see(11, 11, 20, false), 2);
            refused("see in SUNDAYS", 0, 20, n -> x.see(0, 0, n, true));
            is("STATUS 2", x.count(15), 4);
            is("SEEN stays", x.count(11), 2);
            for (int i = 3; i <= 8; i++) {
                is("one more", x.see(0, 0, 0, true), i);
            }
            is("a ninth", x.see(0, 0, 0, true), NONE);
            is("a ninth, not 0 to 20 either", x.see(0, 0, 21, true), NONE);
            is("STATUS 2", x.count(15), 6);
            is("SEEN", x.count(11), 8);
            is("STATUS 1", x.count(14), 0);
        });
        says("NoSuchElementException (ahead): no such PICK, THREAD.", () -> {
            PunchCards x = of("threads 3;card 0 0 0;lace 0 0;");
            for (int full = 0; full < 2; full++) {
                outside("no such PICK", NSE, 0, 1, n -> x.see(n, 0, 0, true));
                outside("no such THREAD", NSE, 0, 2, n -> x.see(0, n, 0, true));
                outside("no such PICK, not 0 to 20", NSE, 0, 1, n -> x.see(n, 0, 21, true));
                outside("no such THREAD, not 0 to 20", NSE, 0, 2, n -> x.see(0, n, -1, true));
                is("STATUS 2 behind throws", x.count(15), 0);
                is("SEEN behind throws", x.count(11), 8 * full);
                for (int i = 0; full == 0 && i < 8; i++) {
                    x.see(1, 2, 0, true);
                }
            }
            outside("without a LACE", NSE, 0, -1, n -> of("card 0 0 0;").see(n, 0, 0, true));
        });
    }

    private static void whatIsSeen() {
        says("SEEN (at most 8): that a THREAD is up, or isn't, at a PICK in so many SUNDAYS (0 to 20).", () -> {
            PunchCards x = of("threads 2;card 1 0 0;card 3 0 0;lace 0 1;");
            x.see(0, 1, 9, true);
            is("worn smooth then", x.backwards(2), 1);
            x.see(0, 1, 8, false);
            is("not yet a SUNDAY ahead", x.backwards(2), 1);
            x.see(0, 1, 20, true);
            is("worn smooth in 20", x.backwards(2), 1);
            x.see(0, 1, 0, false);
            is("now", x.backwards(2), 1);
            x.change(0, 1);
            is("another CARD at the PICK", x.backwards(2), 0);
            x.undo();
            is("and back", x.backwards(2), 1);
            x.see(0, 1, 8, true);
            is("one that is not so", x.backwards(2), 0);
            for (int last = 0; last < 8; last++) {
                PunchCards y = of("threads 8;card 255 0 0;lace 0;");
                for (int t = 0; t < 8; t++) {
                    y.see(0, t, 20 - t, t != last);
                }
                is("all eight but the " + last + "-th", y.backwards(2), 0);
            }
        });
    }

    private static final int[][] FACTS = {{0, 0, 0, 1}, {0, 1, 1, 1}, {1, 0, 3, 1}, {2, 2, 8, 1}, {1, 1, 4, 1}, {2, 1, 7, 1}, {0, 2, 3, 0}, {2, 0, 7, 0}};

    /** Eight that are SEEN from one of them on, forward or back, one of them otherwise than it is. */
    private static PunchCards sawFrom(int first, int by, int otherwise) {
        PunchCards x = of("threads 3;card 0 0 0;lace 0 0 0;up wear=pick*3+thread;");
        for (int i = 0; i < 8; i++) {
            int k = Math.floorMod(first + by * i, 8);
            int[] f = FACTS[k];
            x.see(f[0], f[1], f[2], f[3] == 1 != (k == otherwise));
        }
        return x;
    }

    private static void inAnyOrder() {
        says("SEEN (at most 8)", () -> {
            for (int first = 0; first < 8; first++) {
                for (int by : new int[] {1, -1, 3}) {
                    is("all eight from " + first + " by " + by, sawFrom(first, by, NONE).backwards(2), 1);
                    for (int otherwise = 0; otherwise < 8; otherwise++) {
                        is("but " + otherwise + ", from " + first + " by " + by, sawFrom(first, by, otherwise).backwards(2), 0);
                    }
                }
            }
        });
        says("what is SEEN are kept as an image", () -> {
            for (int otherwise = NONE; otherwise < 8; otherwise++) {
                PunchCards x = sawFrom(3, 1, otherwise);
                x.image();
                x.forget();
                for (int i = 0; i < 8; i++) {
                    x.see(0, 0, 1 + i, otherwise == NONE && i % 2 == 0);
                }
                x.restore();
                is("as the image, but " + otherwise, x.backwards(2), otherwise == NONE ? 1 : 0);
            }
        });
    }

    private static void forgetting() {
        says("All that is SEEN is forgotten.", () -> {
            PunchCards x = of("threads 2;card 1 0 0;lace 0;");
            x.forget();
            is("nothing was SEEN", x.count(11), 0);
            for (int i = 0; i < 9; i++) {
                x.see(0, 0, 0, false);
            }
            is("not so", x.backwards(2), 0);
            x.forget();
            is("SEEN", x.count(11), 0);
            is("so without any", x.backwards(2), 1);
            is("STATUS stays", x.count(15), 1);
            for (int i = 1; i <= 8; i++) {
                is("eight more", x.see(0, 0, 0, true), i);
            }
            is("no ACT", x.count(10), 0);
        });
    }

    // ---- promises 27 to 29 -----------------------------------------------

    private static void backwards() {
        says("BACKWARDS: how many (what 0), the first (1; NONE: none), whether without (2). NoSuchElementException: another what.", () -> {
            PunchCards x = of("threads 2;card 1 0 0;card 1 0 0;lace 0 1;");
            outside("backwards", NSE, 0, 2, x::backwards);
            x.see(1, 1, 0, true);
            is("how many", x.backwards(0), 1);
            is("the first", x.backwards(1), 1);
            is("without", x.backwards(2), 0);
            x.see(0, 1, 0, true);
            is("none", x.backwards(0), 0);
            is("none", x.backwards(1), NONE);
            is("HOLES stay", x.card(1, 0), 1);
            is("ACTS stay", x.count(10), 0);
        });
        says("BACKWARDS: CARDS by each of which, were it TURNED now, all SEEN would be so: how many; the first; whether it is so without (1).", () -> {
            PunchCards ten = of("threads 2;" + "card 1 0 0;".repeat(10) + "lace 9;");
            is("nothing SEEN", ten.backwards(0), 10);
            is("nothing SEEN", ten.backwards(1), 0);
            is("nothing SEEN", ten.backwards(2), 1);
            ten.see(0, 0, 0, true);
            is("all but the one that is laced", ten.backwards(0), 9);
            is("the first", ten.backwards(1), 0);
            ten.forget();
            ten.see(0, 0, 0, false);
            is("the last one", ten.backwards(0), 1);
            is("the last one", ten.backwards(1), 9);
            PunchCards none = new PunchCards();
            is("without CARDS", none.backwards(0), 0);
            is("without CARDS", none.backwards(1), NONE);
            is("without CARDS", none.backwards(2), 1);
            PunchCards smooth = of("threads 2;card 1 0 9;lace 0;");
            smooth.see(0, 0, 0, false);
            is("worn smooth", smooth.backwards(0), 0);
        });
    }

    private static void punchedOtherwise() {
        says("PUNCHED otherwise: how many (what 0), the least (1; NONE: none). NoSuchElementException: also another what.", () -> {
            PunchCards x = of("threads 12;card 0 0 0;card 0 0 9;lace 0 1;");
            is("all sets", x.punched(0, 0), 4096);
            is("the least of all", x.punched(0, 1), 0);
            for (int t = 0; t < 8; t++) {
                x.see(0, 11 - t, 0, true);
            }
            is("four THREADS free", x.punched(0, 0), 16);
            is("the least", x.punched(0, 1), 4080);
            is("another CARD", x.punched(1, 0), 0);
            is("another CARD", x.punched(1, 1), NONE);
            x.forget();
            x.see(0, 0, 0, true);
            x.see(0, 0, 0, false);
            is("never so", x.punched(0, 0), 0);
            is("never so", x.punched(0, 1), NONE);
            is("HOLES stay", x.card(0, 0), 0);
            outside("punched(., 0)", NSE, 0, 1, n -> x.punched(n, 0));
            outside("punched(0, .)", NSE, 0, 1, n -> x.punched(0, n));
        });
        says("HOLES of a told CARD (all sets of THREADS) by which, were they that now, all SEEN would be so: how many; the least; none.", () -> {
            PunchCards one = of("threads 2;card 0 0 0;lace 0;");
            is("all sets of two", one.punched(0, 0), 4);
            one.see(0, 0, 0, true);
            one.see(0, 1, 8, true);
            is("all HOLES alone", one.punched(0, 0), 1);
            is("all HOLES alone", one.punched(0, 1), 3);
            one.forget();
            one.see(0, 0, 0, false);
            one.see(0, 1, 0, false);
            is("no HOLES alone", one.punched(0, 0), 1);
            is("no HOLES alone", one.punched(0, 1), 0);
            one.forget();
            one.see(0, 0, 9, true);
            is("worn smooth then", one.punched(0, 0), 4);
            one.see(0, 0, 20, false);
            is("worn smooth then", one.punched(0, 0), 0);
            PunchCards beside = of("threads 12;card 0 0 0;lace 0;up beside=2;");
            beside.see(0, 11, 0, true);
            is("the last THREAD never has two beside", beside.punched(0, 0), 0);
            beside.forget();
            beside.see(0, 10, 0, true);
            is("the one ahead of it has", beside.punched(0, 0), 1024);
            is("the least", beside.punched(0, 1), 2560);
        });
    }

    private static void nextPicks() {
        says("THE NEXT PICK (what 0; NONE), how many (1; 0: none). NoSuchElementException: another what.", () -> {
            PunchCards none = new PunchCards();
            is("without CARDS", none.next(0), NONE);
            is("without CARDS", none.next(1), 0);
            outside("next of a new object", NSE, 0, 1, none::next);
            PunchCards unlaced = of("card 1 0 0;");
            is("without a LACE", unlaced.next(0), NONE);
            is("without a LACE", unlaced.next(1), 0);
            PunchCards x = of("threads 2;card 1 0 0;lace 0;");
            is("one CARD", x.next(0), 0);
            is("one CARD", x.next(1), 1);
            x.see(0, 0, 0, true);
            is("none without any", x.next(0), NONE);
            is("none without any", x.next(1), 0);
            outside("next", NSE, 0, 1, x::next);
        });
        says("THE NEXT PICK: the PICK (of like ones the first) at which CLOTH now would be most unlike by CARDS TURNED as above: how many; none without any.", () -> {
            PunchCards x = of("threads 4;card 1 0 0;card 3 0 0;card 0 0 0;lace 0 1;up hole or ahead;");
            is("the last PICK", x.next(0), 1);
            is("three unlike", x.next(1), 3);
            PunchCards like = of("threads 2;card 1 0 0;card 1 0 0;lace 1 0;");
            is("the first of like ones", like.next(0), 0);
            is("two unlike", like.next(1), 2);
            like.see(0, 0, 0, true);
            is("one CARD is left", like.next(0), 0);
            is("one CARD is left", like.next(1), 1);
            PunchCards behind = of("threads 2;card 3 0 0;card 1 0 0;lace 0 0 0 0 0 0 0 0 0 0 0 1;");
            is("at the twelfth PICK", behind.next(0), 11);
            is("two unlike", behind.next(1), 2);
            PunchCards ten = of("threads 12;card 1 0 0;card 2 0 0;card 4 0 0;card 8 0 0;card 16 0 0;card 32 0 0;card 3 0 0;card 5 0 0;card 9 0 0;"
                + "card 0 0 0;lace 0 1 2 3 4 5 6 7 8;up (hole*2+ahead*(pick<9)) and 1;");
            is("all ten unlike", ten.next(1), 10);
            is("all ten unlike behind all that is laced", ten.next(0), 8);
        });
    }

    // ---- promise 30 ------------------------------------------------------

    private static void toCut() {
        says("whether ahead of the first (1). NoSuchElementException: another what. IllegalArgumentException (behind that): sundays, wear, cost.", () -> {
            PunchCards x = new PunchCards();
            outside("toCut(1, 1, 1, .)", NSE, 0, 1, n -> x.toCut(1, 1, 1, n));
            outside("another what ahead of sundays", NSE, 0, 1, n -> x.toCut(0, 1, 1, n));
            outside("another what ahead of wear", NSE, 0, 1, n -> x.toCut(1, 10, 1, n));
            outside("another what ahead of cost", NSE, 0, 1, n -> x.toCut(1, 1, 51, n));
            for (int w = 0; w < 2; w++) {
                int what = w;
                outside("sundays", IAE, 1, 30, n -> x.toCut(n, 1, 1, what));
                outside("wear", IAE, 0, 9, n -> x.toCut(1, n, 1, what));
                outside("cost", IAE, 0, 50, n -> x.toCut(1, 1, n, what));
            }
        });
        says("in so many SUNDAYS (1 to 30) a CARD of so much WEAR (0 to 9) costs its WEAR each SUNDAY, and is 1 more worn behind it (9 at most)", () -> {
            PunchCards x = new PunchCards();
            is("one SUNDAY of WEAR 0", x.toCut(1, 0, 50, 0), 0);
            is("one SUNDAY of WEAR 9", x.toCut(1, 9, 50, 0), 9);
            is("two of WEAR 8", x.toCut(2, 8, 50, 0), 17);
            is("three of WEAR 8, 9 at most", x.toCut(3, 8, 50, 0), 26);
            is("ten of WEAR 0", x.toCut(10, 0, 50, 0), 45);
            is("eleven of WEAR 0, 9 at most", x.toCut(11, 0, 50, 0), 54);
            is("thirty of WEAR 9", x.toCut(30, 9, 50, 0), 270);
            is("thirty of WEAR 0", x.toCut(30, 0, 50, 0), 225);
        });
        says("ahead of any SUNDAY it may be CUT anew for so much (0 to 50): the least that it costs, all together", () -> {
            PunchCards x = new PunchCards();
            is("for 0 each SUNDAY", x.toCut(30, 9, 0, 0), 0);
            is("for 1 each SUNDAY", x.toCut(30, 9, 1, 0), 30);
            is("for 8 once", x.toCut(1, 9, 8, 0), 8);
            is("for 9 as well", x.toCut(1, 9, 9, 0), 9);
            is("for 10 not", x.toCut(1, 9, 10, 0), 9);
            is("ahead of the last one", x.toCut(3, 0, 1, 0), 2);
            is("for 40 each ten SUNDAYS", x.toCut(30, 9, 40, 0), 255);
            is("for 50 never", x.toCut(30, 9, 50, 0), 270);
            is("for 35 of nine", x.toCut(9, 9, 35, 0), 71);
        });
    }

    private static void toCutFirst() {
        says("whether it is CUT ahead of the first one, then (1; not, if that is as good)", () -> {
            PunchCards x = new PunchCards();
            is("for 8, WEAR 9", x.toCut(1, 9, 8, 1), 1);
            is("for 9, WEAR 9: as good", x.toCut(1, 9, 9, 1), 0);
            is("for 10, WEAR 9", x.toCut(1, 9, 10, 1), 0);
            is("for 0, WEAR 0: as good", x.toCut(1, 0, 0, 1), 0);
            is("for 0, WEAR 1", x.toCut(1, 1, 0, 1), 1);
            is("for 0, WEAR 9", x.toCut(30, 9, 0, 1), 1);
            is("for 0, WEAR 0", x.toCut(30, 0, 0, 1), 0);
            is("for 35 of nine", x.toCut(9, 9, 35, 1), 1);
            is("a SUNDAY later is as good", x.toCut(10, 9, 44, 1), 0);
            is("never is as good", x.toCut(10, 9, 45, 1), 0);
            is("never", x.toCut(30, 9, 50, 1), 0);
        });
    }

    // ---- promise 31 ------------------------------------------------------

    private static void coats() {
        says("COATS: how many (card NONE), the PICK of a CARD (NONE: none). NoSuchElementException: no such CARD.", () -> {
            PunchCards x = of("threads 2;card 0 0 0;card 1 0 0;lace 1;");
            is("how many", x.coats(NONE), 1);
            is("none", x.coats(0), NONE);
            is("the PICK", x.coats(1), 0);
            for (int n : new int[] {-2, 2, LEAST, MOST}) {
                fails("coats(" + n + ")", NSE, () -> x.coats(n));
            }
            PunchCards none = new PunchCards();
            is("without CARDS", none.coats(NONE), 0);
            for (int n : new int[] {-2, 0}) {
                fails("coats(" + n + ") without CARDS", NSE, () -> none.coats(n));
            }
            PunchCards unlaced = of("card 0 0 0;card 0 0 9;");
            is("without a LACE", unlaced.coats(NONE), 0);
            is("without a LACE", unlaced.coats(1), NONE);
        });
        says("the CARD having a HOLE at each THREAD that is up at the PICK (worn smooth: any)", () -> {
            PunchCards x = of("threads 12;card 0 0 9;card 2047 0 0;card 0 0 0;lace 0;");
            is("worn smooth", x.coats(0), 0);
            is("all but one HOLE", x.coats(1), NONE);
            is("no HOLE", x.coats(2), NONE);
            PunchCards plain = of("threads 12;card 0 0 0;lace 0;");
            is("no THREAD is up", plain.coats(0), 0);
            is("more HOLES than need be", of("threads 2;card 1 0 0;card 3 0 0;lace 0;up hole and thread=1;").coats(1), NONE);
        });
    }

    private static void rowsOfCoats() {
        says("of CARDS (any, laced or not; one coat each) and PICKS (for one CARD each) as many couples as can be", () -> {
            PunchCards many = of("threads 2;card 0 0 0;lace" + " 0".repeat(12) + ";");
            is("one CARD, twelve PICKS", many.coats(NONE), 1);
            is("the first PICK", many.coats(0), 0);
            PunchCards ten = of("threads 2;" + "card 3 0 0;".repeat(10) + "lace 0;");
            is("ten CARDS, one PICK", ten.coats(NONE), 1);
            is("the first CARD", ten.coats(0), 0);
            is("the last CARD", ten.coats(9), NONE);
            // Three CARDS have but PICKS 0 and 1 between them: one of them goes without.
            PunchCards without = of("threads 2;card 3 0 0;card 2 0 0;card 1 0 0;card 0 0 0;card 2 0 0;lace 1 3 2 0 0 0;");
            is("five CARDS, six PICKS", without.coats(NONE), 4);
            int[] row = {3, 0, 2, 1, NONE};
            for (int c = 0; c < 5; c++) {
                is("coats(" + c + ")", without.coats(c), row[c]);
            }
            StringBuilder cards = new StringBuilder("threads 10;");
            for (int c = 0; c < 10; c++) {
                cards.append("card ").append((2 << c) - 1).append(" 0 0;");
            }
            PunchCards chain = of(cards + "lace 9 8 7 6 5 4 3 2 1 0;");
            is("ten couples in one way alone", chain.coats(NONE), 10);
            for (int c = 0; c < 10; c++) {
                is("coats(" + c + ")", chain.coats(c), 9 - c);
            }
        });
        says("of like ones the first row (by CARDS: which PICK; none behind all)", () -> {
            PunchCards smooth = of("threads 2;" + "card 0 0 9;".repeat(10) + "lace 0 1 2 3 4 5 6 7 8 9 0 1;");
            is("how many", smooth.coats(NONE), 10);
            for (int c = 0; c < 10; c++) {
                is("coats(" + c + ")", smooth.coats(c), c);
            }
            PunchCards last = of("threads 2;card 3 0 0;card 1 0 0;lace 0 0 0 0 0 0 0 0 0 0 0 1;");
            is("the last PICK", last.coats(1), 11);
            is("the first one", last.coats(0), 0);
            PunchCards two = of("threads 2;card 3 0 0;card 1 0 0;card 3 0 0;lace 1 0;");
            is("two for three", two.coats(NONE), 2);
            is("the first one takes the first PICK", two.coats(0), 0);
            is("none behind all", two.coats(1), NONE);
            is("the last one the other", two.coats(2), 1);
        });
    }

    // ---- promise 32 ------------------------------------------------------

    private static void games() {
        says("A GAME: how many couples rest (what 0), the first (1; NONE: none). NoSuchElementException: also another what. IllegalArgumentException (behind that): both are one.", () -> {
            PunchCards x = of("threads 4;card 3 0 0;card 3 1 0;card 0 0 0;");
            outside("game(., 1, 0)", NSE, 0, 2, n -> x.game(n, 1, 0));
            outside("game(0, ., 0)", NSE, 0, 2, n -> x.game(0, n, 0));
            outside("game(0, 1, .)", NSE, 0, 1, n -> x.game(0, 1, n));
            outside("no such CARD ahead of both are one", NSE, 0, 2, n -> x.game(n, n, 0));
            outside("another what ahead of both are one", NSE, 0, 1, n -> x.game(0, 0, n));
            for (int what = 0; what < 2; what++) {
                int w = what;
                fails("game(0, 0, " + w + ")", IAE, () -> x.game(0, 0, w));
                fails("game(2, 2, " + w + ")", IAE, () -> x.game(2, 2, w));
            }
            is("the first", x.game(0, 1, 1), 0);
        });
        says("A couple RESTS, if neither gains more by the other choice", () -> {
            PunchCards x = of("threads 4;card 3 0 0;card 3 1 0;card 3 0 0;card 0 0 0;card 0 0 9;");
            is("as good by the other choice rests", x.game(0, 1, 0), 3);
            is("the first", x.game(0, 1, 1), 0);
            is("more by the other choice", x.game(0, 2, 0), 2);
            is("the first", x.game(0, 2, 1), 1);
            PunchCards apart = of("threads 4;card 3 0 0;card 12 1 0;");
            is("neither, or both TURNED", apart.game(0, 1, 0), 2);
            is("the first", apart.game(0, 1, 1), 0);
            is("no HOLES", x.game(3, 1, 0), 1);
            is("no HOLES", x.game(3, 1, 1), 0);
            is("worn smooth", x.game(4, 0, 0), 1);
            is("worn smooth", x.game(4, 0, 1), 0);
            is("HOLES stay", x.card(0, 0), 3);
        });
        says("each gains how many THREADS have a HOLE in it, but not in the other one, less 2, if it is TURNED", () -> {
            PunchCards one = of("threads 4;card 1 0 0;card 1 1 0;");
            is("1 more is not worth it", one.game(0, 1, 0), 1);
            PunchCards two = of("threads 4;card 3 0 0;card 3 1 0;");
            is("2 more is as good", two.game(0, 1, 0), 3);
            PunchCards three = of("threads 6;card 7 0 0;card 7 1 0;");
            is("3 more is worth it", three.game(0, 1, 0), 2);
            is("the other one's", three.game(0, 1, 1), 1);
        });
        says("less the SNARL of both (the first one first)", () -> {
            PunchCards x = of("threads 4;card 3 2 0;card 3 7 0;harm (first=2)*holes*60;");
            is("the first one first", x.game(0, 1, 1), 1);
            is("the other one first", x.game(1, 0, 1), 0);
            PunchCards y = of("threads 4;card 3 0 0;card 3 1 0;harm 0-99*(holes=2);");
            is("SNARL is kept to 0 here, too", y.game(0, 1, 0), 3);
        });
    }

    // ---- promise 33 ------------------------------------------------------

    private static int step(int seed) {
        return seed * 1103515245 + 12345;
    }

    private static int draw(int seed, int n) {
        return (seed >>> 16 & 32767) % n;
    }

    private static void seeds() {
        says("SUNDAYS by a seed: GRANTED (what 0), WEAR (1), how many are up (2). NoSuchElementException: another what. IllegalArgumentException (behind that): n.", () -> {
            PunchCards x = of("threads 3;card 5 0 2;card 0 0 3;lace 0;figure 0 1 0;");
            is("n 0: GRANTED", x.drawn(77, 0, 0), 0);
            is("n 0: WEAR of all", x.drawn(77, 0, 1), 5);
            is("n 0: up", x.drawn(77, 0, 2), 2);
            x.sundays(2);
            is("n 0: GRANTED so far", x.drawn(77, 0, 0), 2);
            outside("drawn(1, 1, .)", NSE, 0, 2, n -> x.drawn(1, 1, n));
            outside("another what ahead of n", NSE, 0, 2, n -> x.drawn(1, 31, n));
            for (int w = 0; w < 3; w++) {
                int what = w;
                outside("drawn(1, ., " + w + ")", IAE, 0, 30, n -> x.drawn(1, n, what));
            }
            is("the SUNDAY stays", x.count(4), 2);
            is("ACTS stay", x.count(10), 1);
        });
        says("(Without CARDS nothing is drawn.)", () -> {
            PunchCards none = of("threads 3;figure 0 1 0;");
            for (int what = 0; what < 3; what++) {
                is("drawn(1, 30, " + what + ")", none.drawn(1, 30, what), 0);
            }
        });
    }

    /** One CARD that is not laced, so that only what is drawn touches it: its WEAR falls to 0 by the first CUT. */
    private static boolean cutWithin(int seed, int n, int cards, int which) {
        int s = seed;
        for (int i = 0; i < n; i++) {
            s = step(s);
            int card = draw(s, cards);
            s = step(s);
            int fate = draw(s, 4);
            if (fate == 0) {
                s = step(s);
            }
            if (fate == 2 && card == which) {
                return true;
            }
        }
        return false;
    }

    private static void draws() {
        says("A seed becomes itself times 1103515245 and 12345 (an int that wraps); a DRAW of n is its bits 16 to 30 MOD n then.", () -> {
            PunchCards one = of("threads 2;card 0 0 9;");
            PunchCards ten = of("threads 2;" + "card 0 0 0;".repeat(9) + "card 0 0 9;");
            int[] seeds = {0, 1, -1, LEAST, MOST, LEAST + 1, MOST - 1, 65535, 65536, -65536, 32768, 1 << 30, 12345, -12345, 7, 99, 1000003};
            for (int seed : seeds) {
                for (int n : new int[] {0, 1, 2, 5, 30}) {
                    is("one CARD, seed " + seed + ", n " + n, one.drawn(seed, n, 1), cutWithin(seed, n, 1, 0) ? 0 : 9);
                    is("ten CARDS, seed " + seed + ", n " + n, ten.drawn(seed, n, 1), cutWithin(seed, n, 10, 9) ? 0 : 9);
                }
            }
        });
        says("n (0 to 30): ahead of each a DRAW of CARDS", () -> {
            PunchCards x = of("threads 2;card 3 0 0;lace 0;figure 0 1 1;up 1;");
            is("n 0", x.drawn(3, 0, 0), 0);
            is("n 1", x.drawn(3, 1, 0), 1);
            is("n 30", x.drawn(3, 30, 0), 30);
        });
    }

    /** A seed whose draw of 4 for one CARD is this, and whose draw of THREADS behind it that. */
    private static int seedOf(int fate, int thread, int threads) {
        int seed = 0;
        while (draw(step(step(seed)), 4) != fate || draw(step(step(step(seed))), threads) != thread) {
            seed++;
        }
        return seed;
    }

    private static void fates() {
        says("0 a moth: a DRAW of THREADS behind it: that HOLE is there now, or not, otherwise; 1 it is TURNED; 2 it is CUT anew; else nothing", () -> {
            PunchCards x = of("threads 12;card 1 0 8;lace 0;figure 0 2 3;figure 0 1 1;");
            is("a moth at the first THREAD", x.drawn(seedOf(0, 0, 12), 1, 0), 0);
            is("a moth at the second THREAD", x.drawn(seedOf(0, 1, 12), 1, 0), 2);
            is("a moth at the last THREAD", x.drawn(seedOf(0, 11, 12), 1, 0), 1);
            is("worn smooth behind it", x.drawn(seedOf(0, 11, 12), 1, 2), 12);
            PunchCards turned = of("threads 12;card 1 0 0;lace 0;figure 0 2 2;");
            is("not TURNED", turned.drawn(seedOf(3, 0, 12), 1, 0), 0);
            is("TURNED", turned.drawn(seedOf(1, 0, 12), 1, 0), 1);
            is("CUT anew", x.drawn(seedOf(2, 0, 12), 1, 1), 1);
            is("CUT anew: not worn smooth", x.drawn(seedOf(2, 0, 12), 1, 2), 1);
            is("nothing", x.drawn(seedOf(3, 0, 12), 1, 1), 9);
            is("HOLES stay", x.card(0, 0), 1);
            is("WEAR stays", x.card(0, 2), 8);
            PunchCards none = of("threads 12;card 0 0 0;lace 0;");
            is("CUT anew at WEAR 0", none.drawn(seedOf(2, 0, 12), 1, 1), 1);
        });
        says("WEAR of all; how many THREADS are up in all CLOTH then", () -> {
            PunchCards x = of("threads 12;card 4095 0 9;card 0 0 9;lace" + " 0".repeat(12) + ";");
            is("WEAR of all, laced or not", x.drawn(0, 0, 1), 18);
            is("all are up", x.drawn(0, 0, 2), 144);
            is("none is up", of("threads 12;card 0 0 0;lace 0;").drawn(0, 0, 2), 0);
        });
    }

    // ---- promises 35, 36, 39, 41 -----------------------------------------

    private static void unlike() {
        says("as they are, or one of them TURNED, whichever is less", () -> {
            PunchCards x = of("threads 12;card 4095 0 0;card 0 0 0;card 1 0 0;card 2048 0 0;card 0 0 9;card 3 0 0;");
            is("one and itself", x.unlike(2, 2), 0);
            is("all and none", x.unlike(0, 1), 12);
            is("one of them TURNED", x.unlike(2, 3), 0);
            is("the other way round", x.unlike(3, 2), 0);
            is("as they are", x.unlike(2, 5), 1);
            is("TURNED, less", x.unlike(3, 5), 1);
            is("worn smooth", x.unlike(4, 0), 0);
            is("worn smooth and none", x.unlike(4, 1), 12);
            outside("unlike(., 0)", NSE, 0, 5, n -> x.unlike(n, 0));
            outside("unlike(0, .)", NSE, 0, 5, n -> x.unlike(0, n));
        });
    }

    private static void families() {
        says("A FAMILY of a CARD: CARDS (itself, too) whose HOLES, as they have them, are its own, or these TURNED, as bits.", () -> {
            PunchCards x = of("threads 3;card 1 0 0;card 4 0 0;card 7 0 0;card 0 0 9;card 1 0 9;card 2 0 0;");
            is("TURNED", x.family(0), 3);
            is("TURNED", x.family(1), 3);
            is("worn smooth", x.family(2), 28);
            is("worn smooth", x.family(4), 28);
            is("itself alone", x.family(5), 32);
            outside("family", NSE, 0, 5, x::family);
            is("ten", of("card 1 0 0;".repeat(10)).family(9), 1023);
            is("by HOLES, not by WANT", of("card 1 0 0;card 1 9 0;").family(0), 3);
        });
    }

    private static void cuttings() {
        says("BY CUTTING; NONE: none. IllegalArgumentException: not 1 to 30.", () -> {
            PunchCards x = of("threads 2;card 1 0 9;lace 0;figure 0 2 1;");
            is("cutting(1)", x.cutting(1), 0);
            is("cutting(30)", x.cutting(30), 0);
            outside("cutting", IAE, 1, 30, x::cutting);
            is("WEAR stays", x.card(0, 2), 9);
            is("ACTS stay", x.count(10), 0);
            PunchCards none = new PunchCards();
            is("without CARDS", none.cutting(30), NONE);
            outside("cutting without CARDS", IAE, 1, 30, none::cutting);
        });
        says("if that is more than without (of like ones the least); none.", () -> {
            PunchCards x = of("threads 2;card 1 0 8;lace 0;figure 0 2 1;");
            is("as much as without", x.cutting(1), NONE);
            is("more in two SUNDAYS", x.cutting(2), 0);
            PunchCards less = of("threads 2;card 1 0 9;lace 0;figure 0 2 3;");
            is("less than without", less.cutting(1), NONE);
            is("of like ones", of("threads 2;card 3 0 0;card 1 0 9;card 1 0 9;lace 0 1 2;figure 0 2 1;").cutting(1), 1);
            PunchCards most = of("threads 4;card 1 0 9;card 2 0 9;lace 0 1;figure 0 4 1;figure 0 4 2;figure 0 2 2;");
            is("the most", most.cutting(1), 1);
            PunchCards tenth = of("threads 2;" + "card 3 0 0;".repeat(9) + "card 1 0 9;lace 9;figure 0 2 1;");
            is("the tenth", tenth.cutting(1), 9);
            is("not laced", of("threads 2;card 1 0 9;card 3 0 9;lace 1;figure 0 2 1;").cutting(5), NONE);
            is("of WEAR 0", of("threads 2;card 1 0 0;lace 0;figure 0 2 1;").cutting(5), NONE);
            is("WEAR is 0 then", of("threads 2;card 1 0 9;lace 0;up wear=0;figure 0 1 1;").cutting(1), 0);
        });
    }

    private static void swaps() {
        says("by which its SNARL would be least, if it is less than now (of like ones the first): 100 by the lesser one, and the other one; none.", () -> {
            String wants = "card 0 0 0;card 0 1 0;card 0 2 0;card 0 3 0;card 0 8 0;card 0 9 0;";
            PunchCards last = of(wants + "lace 0 0 0 0 1 1 2 2 3 3 5 4;harm second<first;");
            is("the last two places", last.swap(), 1011);
            is("THE LACE stays", last.lace(10), 5);
            last.change(10, 11);
            is("none is less than 0", last.swap(), NONE);
            PunchCards two = of("card 0 1 0;card 0 0 0;lace 0 1;harm second<first;");
            is("the only two", two.swap(), 1);
            PunchCards like = of("card 0 0 0;lace 0 0 0;harm 5;");
            is("as much as now", like.swap(), NONE);
            PunchCards first = of("threads 2;card 1 1 0;card 1 2 0;lace 0 0 1 1;");
            is("the first of like ones", first.swap(), 3);
            is("of one place", of("card 0 0 0;lace 0;harm 5;").swap(), NONE);
            is("without a LACE", of("card 0 0 0;harm 5;").swap(), NONE);
            is("a new object", new PunchCards().swap(), NONE);
        });
    }
}
