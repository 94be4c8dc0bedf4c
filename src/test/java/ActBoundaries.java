/** Sentences on CARDS, THE LACE, ACTS and the image that name a boundary (promises 1, 5 to 15, 42, 43), each with a test of its own. */
public final class ActBoundaries extends Check {
    public static void main(String[] args) {
        newObject();
        manyCalls();
        counts();
        countsOfCloth();
        statuses();
        cards();
        lacesAndFigures();
        snarls();
        sundays();
        wearing();
        punching();
        turning();
        cutting();
        changing();
        undoing();
        undoneAlone();
        keptActs();
        actsOfAllKinds();
        images();
        restoring();
        finish("act boundaries");
    }

    // ---- promise 1 -------------------------------------------------------

    private static void newObject() {
        says("`PunchCards()`: 8 THREADS, no CARDS.", () -> {
            PunchCards x = new PunchCards();
            int[] due = {8, 0, 0, 0, 0, 0, 0, 255, 0, 0, 0, 0, 0, 0, 0, 0};
            for (int i = 0; i < 16; i++) {
                is("count(" + i + ")", x.count(i), due[i]);
            }
            outside("card", NSE, 0, -1, n -> x.card(n, 0));
            outside("lace", NSE, 0, -1, x::lace);
            outside("figure", NSE, 0, -1, n -> x.figure(n, 0));
            is("undo()", x.undo(), NONE);
            is("restore()", x.restore(), false);
            is("sundays(1)", x.sundays(1), 1);
        });
        says("There is none.", () -> is("NONE", PunchCards.NONE, -1));
        says("The SUNDAY is 0, GRANTED 0 at first.", () -> {
            PunchCards x = of("threads 2;card 3 0 0;lace 0;figure 0 1 1;");
            is("the SUNDAY", x.count(4), 0);
            is("GRANTED", x.count(5), 0);
            x.sundays(5);
            is("a text", tell(x, "threads 2;card 3 0 0;lace 0;figure 0 1 1;"), 0);
            is("the SUNDAY", x.count(4), 0);
            is("GRANTED", x.count(5), 0);
        });
    }

    private static void manyCalls() {
        says("An object is used for at most 512 calls after it has been made", () -> {
            PunchCards x = new PunchCards();
            for (int i = 0; i < 510; i++) {
                x.sundays(0);
            }
            is("the 511th call", x.count(14), 510);
            is("the 512th call", x.sundays(20), 20);
            PunchCards y = new PunchCards();
            for (int i = 0; i < 255; i++) {
                y.feed(-1, -1, -1, -1, -1);
                y.chapel(20);
            }
            is("the 511th call", y.count(13), 255);
            is("the 512th call", y.chapel(0), 0);
        });
    }

    // ---- promise 5 -------------------------------------------------------

    private static void counts() {
        says("13 to 15 STATUS 0 to 2. NoSuchElementException: another what.", () -> {
            PunchCards x = of(LOOM);
            outside("count", NSE, 0, 15, x::count);
            is("count(0)", x.count(0), 4);
            is("count(15)", x.count(15), 0);
        });
        says("2 PICKS (CARDS in THE LACE)", () -> {
            is("one CARD three times", of("card 0 0 0;lace 0 0 0;").count(2), 3);
            is("none", of("card 0 0 0;").count(2), 0);
        });
        says("6 SNARL of THE LACE", () -> {
            is("without a LACE", of("card 1 0 0;harm 9;").count(6), 0);
            is("of one PICK", of("card 1 0 0;lace 0;harm 9;").count(6), 0);
            is("of two", of("card 1 0 0;lace 0 0;harm 9;").count(6), 9);
            is("of twelve", of("card 1 0 0;lace" + " 0".repeat(12) + ";harm 99;").count(6), 1089);
            is("of ten CARDS", of("card 0 1 0;".repeat(9) + "card 0 9 0;lace 9 8 9;harm first*10+second;").count(6), 91 + 19);
        });
        says("12 bytes of the tape", () -> {
            PunchCards x = new PunchCards();
            is("none", x.count(12), 0);
            for (int i = 0; i < 40; i++) {
                x.feed(0, 0, 0, 0, 0);
            }
            is("full", x.count(12), 700);
            x.chapel(0);
            is("empty", x.count(12), 0);
        });
        says("10 ACTS that are kept, 11 SEEN", () -> {
            PunchCards x = of(LOOM);
            for (int i = 1; i <= 60; i++) {
                x.turn(0);
                is("ACTS", x.count(10), Math.min(i, 40));
                x.see(0, 0, 0, true);
                is("SEEN", x.count(11), Math.min(i, 8));
            }
        });
    }

    private static void countsOfCloth() {
        says("PLAIN: THREADS that are never up.", () -> {
            is("all without a LACE", of("threads 12;card 4095 0 0;").count(7), 4095);
            is("all", of("threads 12;card 0 0 0;lace 0;").count(7), 4095);
            is("none", of("threads 12;card 4095 0 0;lace 0;").count(7), 0);
            is("up at the last PICK alone", of("threads 3;card 0 0 0;card 1 0 0;lace 0 0 1;").count(7), 6);
            is("the first and the last THREAD", of("threads 3;card 2 0 0;lace 0;").count(7), 5);
        });
        says("(all PICKS, if it never is)", () -> {
            is("three unlike", of("card 1 0 0;card 2 0 0;card 4 0 0;lace 0 1 2;").count(8), 3);
            is("one PICK", of("card 1 0 0;lace 0;").count(8), 1);
            is("twelve, the last one unlike", of("card 1 0 0;card 2 0 0;lace 0 0 0 0 0 0 0 0 0 0 0 1;").count(8), 12);
        });
        says("REPEAT: the fewest PICKS (1 on) by which CLOTH, from there on, is as from its beginning to its end", () -> {
            is("twelve like ones", of("card 1 0 0;lace" + " 0".repeat(12) + ";").count(8), 1);
            is("two and a half", of("card 1 0 0;card 2 0 0;lace 0 1 0 1 0;").count(8), 2);
            is("like ends alone", of("card 1 0 0;card 2 0 0;lace 0 1 1 0;").count(8), 3);
            is("by CLOTH, not by CARDS", of("card 1 0 0;card 1 1 0;lace 0 1 0;").count(8), 1);
        });
        says("8 REPEAT (0 without a LACE)", () -> is("count(8)", of("card 1 0 0;").count(8), 0));
        says("9 FIGURES that stand (bits)", () -> {
            is("without a LACE", of("card 1 0 0;figure 0 1 0;figure 0 1 1;").count(9), 0);
            is("without FIGURES", of("card 1 0 0;lace 0;").count(9), 0);
            is("all five", of("card 1 0 0;lace 0;" + "figure 0 1 0;".repeat(5)).count(9), 31);
            is("the fifth", of("card 1 0 0;lace 0;" + "figure 0 2 3;".repeat(4) + "figure 0 1 1;").count(9), 16);
        });
        says("at that PICK and those behind it, all within CLOTH", () -> {
            is("as wide as CLOTH", of("threads 4;card 9 0 0;lace 0;figure 0 4 9;").count(9), 1);
            is("wider than CLOTH", of("threads 3;card 0 0 0;lace 0;figure 0 4 0;").count(9), 0);
            is("one THREAD beyond the last one", of("threads 3;card 6 0 0;lace 0;figure 0 2 1;").count(9), 0);
            is("at the last THREADS", of("threads 3;card 4 0 0;lace 0;figure 0 2 2;").count(9), 1);
            is("as long as CLOTH", of("threads 2;card 1 0 0;lace 0 0 0;figure 0 1 1 1 1;").count(9), 1);
            is("longer than CLOTH", of("threads 2;card 0 0 0;lace 0 0;figure 0 1 0 0 0;").count(9), 0);
            is("at the last PICKS", of("threads 2;card 0 0 0;card 3 0 0;lace 0 0 1;figure 0 2 0 3;").count(9), 1);
            is("one PICK beyond the last one", of("threads 2;card 0 0 0;card 3 0 0;lace 0 1;figure 0 2 3 0;").count(9), 0);
            is("no CLOTH left of one told before", laterWithoutFigure(), 0);
        });
        says("(bit 0 of a ROW: that THREAD)", () -> {
            is("1 0", of("threads 2;card 1 0 0;lace 0;figure 0 2 1;").count(9), 1);
            is("0 1", of("threads 2;card 1 0 0;lace 0;figure 0 2 2;").count(9), 0);
        });
    }

    private static int laterWithoutFigure() {
        PunchCards x = of("threads 2;card 3 0 0;lace 0 0 0;figure 0 1 1 1 1;");
        is("it stands", x.count(9), 1);
        tell(x, "threads 2;card 3 0 0;lace 0;figure 0 1 1 1 1;");
        return x.count(9);
    }

    private static void statuses() {
        says("0 of TEXTS with a FAULT, 1 of ACTS, 2 of what is SEEN", () -> {
            PunchCards x = of(LOOM);
            x.sundays(0);
            x.punch(0, 16);
            x.cut(0);
            x.change(0, 0);
            is("STATUS 1", x.count(14), 4);
            x.see(0, 0, 21, true);
            is("STATUS 2", x.count(15), 1);
            tell(x, ";");
            is("STATUS 0", x.count(13), 1);
            x.sundays(1);
            x.punch(0, 15);
            x.cut(0);
            x.change(0, 1);
            x.turn(0);
            x.see(0, 0, 20, true);
            is("STATUS 0 behind what is not refused", x.count(13), 1);
            is("STATUS 1 behind what is not refused", x.count(14), 4);
            is("STATUS 2 behind what is not refused", x.count(15), 1);
        });
    }

    // ---- promises 6 to 9 -------------------------------------------------

    private static void cards() {
        says("NoSuchElementException: no such CARD (as everywhere), what.", () -> {
            PunchCards x = of("card 1 2 3;" + "card 0 0 0;".repeat(8) + "card 4 5 6;");
            outside("card", NSE, 0, 9, n -> x.card(n, 0));
            outside("card(0, what)", NSE, 0, 4, n -> x.card(0, n));
            outside("no such CARD, what", NSE, 0, 9, n -> x.card(n, 5));
            is("card(0, 0)", x.card(0, 0), 1);
            is("card(9, 2)", x.card(9, 2), 6);
            is("card(0, 4)", x.card(0, 4), 0);
        });
        says("A CARD of WEAR 9 is worn smooth: it has HOLES at all THREADS.", () -> {
            PunchCards x = of("threads 12;card 1 0 9;card 1 0 8;lace 1;");
            is("of WEAR 9", x.card(0, 3), 4095);
            is("of WEAR 8", x.card(1, 3), 1);
            x.sundays(1);
            is("of WEAR 9 behind a SUNDAY", x.card(1, 3), 4095);
            is("as punched", x.card(1, 0), 1);
            x.cut(1);
            is("CUT anew", x.card(1, 3), 1);
        });
        says("0 HOLES (as punched), 1 WANT, 2 WEAR, 3 HOLES that it has (worn smooth: all)", () -> {
            PunchCards x = of("threads 2;card 0 9 9;");
            int[] due = {0, 9, 9, 3, 0};
            for (int what = 0; what < 5; what++) {
                is("card(0, " + what + ")", x.card(0, what), due[what]);
            }
        });
        says("4 places of THE LACE at which it is (bits)", () -> {
            PunchCards x = of("card 0 0 0;card 0 0 0;card 0 0 0;lace 0 0 0 0 0 0 0 0 0 0 0 1;");
            is("at all but the last one", x.card(0, 4), 2047);
            is("at the last one", x.card(1, 4), 2048);
            is("at none", x.card(2, 4), 0);
        });
    }

    private static void lacesAndFigures() {
        says("The CARD at a place of THE LACE. NoSuchElementException: no such place.", () -> {
            PunchCards x = of("card 0 0 0;card 0 0 0;lace 0 0 0 0 0 0 0 0 0 0 0 1;");
            is("lace(0)", x.lace(0), 0);
            is("lace(11)", x.lace(11), 1);
            outside("lace of twelve", NSE, 0, 11, x::lace);
            outside("lace of one", NSE, 0, 0, of("card 0 0 0;lace 0;")::lace);
            outside("no LACE", NSE, 0, -1, of("card 0 0 0;")::lace);
            tell(x, "card 0 0 0;lace 0;");
            outside("lace of one behind twelve", NSE, 0, 0, x::lace);
        });
        says("NoSuchElementException: no such FIGURE (as everywhere), what.", () -> {
            PunchCards x = of("figure 1 1 1;".repeat(5));
            is("figure(4, 0)", x.figure(4, 0), 1);
            outside("figure", NSE, 0, 4, n -> x.figure(n, 0));
            outside("figure(0, what)", NSE, 0, 5, n -> x.figure(0, n));
            outside("figure of two", NSE, 0, 1, n -> of(LOOM).figure(n, 5));
        });
        says("3 to 5 ROW 0 to 2 (0: there is none)", () -> {
            PunchCards x = of("figure 0 4 15 15 15;figure 0 4 15 15;figure 0 4 15;");
            for (int f = 0; f < 3; f++) {
                for (int row = 0; row < 3; row++) {
                    is("figure(" + f + ", " + (3 + row) + ")", x.figure(f, 3 + row), f + row < 3 ? 15 : 0);
                }
            }
        });
    }

    private static void snarls() {
        says("SNARL of two CARDS (of one and itself, too).", () -> {
            PunchCards x = of("threads 12;card 4095 1 0;card 3 1 0;card 4095 2 0;");
            is("of one and itself", x.snarl(0, 0), 12);
            is("of two", x.snarl(0, 1), 2);
            is("not alike", x.snarl(0, 2), 0);
            outside("snarl(., 0)", NSE, 0, 2, n -> x.snarl(n, 0));
            outside("snarl(0, .)", NSE, 0, 2, n -> x.snarl(0, n));
        });
        says("(kept to 0 to 99; without it 'holes' by 'alike')", () -> {
            int[][] kept = {{0, 0}, {1, 1}, {98, 98}, {99, 99}, {100, 99}, {9999, 99}};
            for (int[] k : kept) {
                is("harm " + k[0], of("card 0 0 0;harm " + k[0] + ";").snarl(0, 0), k[1]);
            }
            is("-1", of("card 0 0 0;harm 0-1;").snarl(0, 0), 0);
            is("the least int", of("card 0 0 0;harm 2048*1024*1024;").snarl(0, 0), 0);
            is("the most", of("card 0 0 0;harm 2048*1024*1024-1;").snarl(0, 0), 99);
            is("each pair is kept to 99", of("card 0 0 0;lace 0 0 0;harm 1000;").count(6), 198);
            is("without", of("card 7 3 0;card 6 3 0;").snarl(0, 1), 2);
            is("without, not alike", of("card 7 3 0;card 6 4 0;").snarl(0, 1), 0);
        });
        says("that of THE LACE that of each two side by side in it (the first one first), all together", () -> {
            is("the first one first", of("card 0 1 0;card 0 2 0;lace 0 1;harm first*10+second;").count(6), 12);
            is("all together", of("card 0 1 0;card 0 2 0;lace 0 1 0;harm first*10+second;").count(6), 33);
            is("not the last with the first", of("card 0 1 0;card 0 2 0;lace 0 1 1;harm (first=2)*(second=1);").count(6), 0);
        });
    }

    // ---- promise 10 ------------------------------------------------------

    private static void sundays() {
        says("NONE (STATUS 1): not 1 to 20, it would be above 999.", () -> {
            PunchCards x = of(LOOM);
            is("sundays(1)", x.sundays(1), 1);
            is("sundays(20)", x.sundays(20), 21);
            int granted = x.count(5);
            refused("sundays", 1, 20, x::sundays);
            is("STATUS 1", x.count(14), 4);
            is("the SUNDAY stays", x.count(4), 21);
            is("GRANTED stays", x.count(5), granted);
            is("ACTS stay", x.count(10), 2);
        });
        says("it would be above 999", () -> {
            PunchCards x = new PunchCards();
            for (int i = 1; i <= 49; i++) {
                is("sundays(20)", x.sundays(20), 20 * i);
            }
            is("to 1000", x.sundays(20), NONE);
            is("to 998", x.sundays(18), 998);
            is("to 1000", x.sundays(2), NONE);
            is("to 999", x.sundays(1), 999);
            is("to 1000", x.sundays(1), NONE);
            is("STATUS 1", x.count(14), 3);
            is("the SUNDAY", x.count(4), 999);
            is("ACTS", x.count(10), 40);
            is("undo()", x.undo(), 39);
            is("to 999 again", x.sundays(1), 999);
        });
        says("SUNDAYS go by (1 to 20)", () -> {
            PunchCards x = of("threads 2;card 1 0 0;lace 0;figure 0 1 1;");
            is("20 at once", x.sundays(20), 20);
            is("GRANTED", x.count(5), 20);
            is("one ACT", x.count(10), 1);
            is("undo()", x.undo(), 0);
            is("the SUNDAY", x.count(4), 0);
            is("GRANTED", x.count(5), 0);
            is("WEAR", x.card(0, 2), 0);
        });
        says("`int sundays(int many)`: SUNDAYS go by: the SUNDAY.", () -> {
            PunchCards x = new PunchCards();
            is("without CARDS", x.sundays(3), 3);
            is("GRANTED", x.count(5), 0);
        });
    }

    private static void wearing() {
        says("GRANTED is more by how many FIGURES stand anywhere in CLOTH (each once)", () -> {
            PunchCards x = of("threads 12;card 0 0 0;lace 0 0 0;figure 0 1 0;figure 0 1 0;figure 0 1 1;");
            x.sundays(1);
            is("at 36 places, and again", x.count(5), 2);
            PunchCards none = of("threads 12;card 0 0 0;figure 0 1 0;");
            none.sundays(20);
            is("without a LACE", none.count(5), 0);
            PunchCards five = of("threads 2;card 0 0 9;lace 0;" + "figure 0 1 1;".repeat(5));
            five.sundays(20);
            is("all five", five.count(5), 100);
        });
        says("each CARD in THE LACE has 1 more WEAR (once; 9 at most). The SUNDAY is one more then.", () -> {
            PunchCards x = of("threads 2;card 0 0 0;card 0 0 8;card 0 0 9;card 0 0 0;lace 0 0 1 2 0;figure 0 2 3 0;");
            x.sundays(1);
            is("at three places", x.card(0, 2), 1);
            is("of WEAR 8", x.card(1, 2), 9);
            is("of WEAR 9", x.card(2, 2), 9);
            is("not laced", x.card(3, 2), 0);
            is("GRANTED ahead of the WEAR", x.count(5), 1);
            x.sundays(20);
            is("9 at most", x.card(0, 2), 9);
            is("not laced", x.card(3, 2), 0);
            is("the SUNDAY", x.count(4), 21);
        });
        says("A SUNDAY: GRANTED is more by", () -> {
            PunchCards x = of("threads 2;card 0 0 8;lace 0;figure 0 2 3;");
            x.sundays(1);
            is("not yet worn smooth", x.count(5), 0);
            x.sundays(1);
            is("worn smooth", x.count(5), 1);
        });
    }

    // ---- promises 11 to 14 -----------------------------------------------

    private static void punching() {
        says("PUNCHED: HOLES as they were. NONE (STATUS 1): not bits of THREADS.", () -> {
            for (int threads : new int[] {2, 12}) {
                int all = (1 << threads) - 1;
                PunchCards x = of("threads " + threads + ";card 1 0 0;card 2 0 9;");
                is("punch(0, all)", x.punch(0, all), 1);
                is("punch(0, 0)", x.punch(0, 0), all);
                is("HOLES", x.card(0, 0), 0);
                refused("punch(0, .)", 0, all, n -> x.punch(0, n));
                is("STATUS 1", x.count(14), 4);
                is("HOLES stay", x.card(0, 0), 0);
                is("ACTS", x.count(10), 2);
                is("worn smooth, as punched", x.punch(1, 1), 2);
                is("worn smooth still", x.card(1, 3), all);
                is("as they are", x.punch(1, 1), 1);
                is("is an ACT, too", x.count(10), 4);
                outside("punch(., 0)", NSE, 0, 1, n -> x.punch(n, 0));
                outside("no such CARD ahead of HOLES", NSE, 0, 1, n -> x.punch(n, -1));
                is("STATUS 1 behind throws", x.count(14), 4);
                is("ACTS behind throws", x.count(10), 4);
            }
        });
    }

    private static void turning() {
        says("TURNED (its HOLES from the last THREAD to the first one)", () -> {
            for (int threads = 2; threads <= 12; threads++) {
                PunchCards x = of("threads " + threads + ";card 1 0 0;card " + ((1 << threads) - 2) + " 0 0;");
                is("the first of " + threads, x.turn(0), 1 << threads - 1);
                is("all but the first of " + threads, x.turn(1), (1 << threads - 1) - 1);
            }
        });
        says("TURNED: its HOLES then.", () -> {
            PunchCards two = of("threads 2;card 1 0 0;card 3 0 9;card 0 0 0;");
            is("two THREADS", two.turn(0), 2);
            is("all", two.turn(1), 3);
            is("none", two.turn(2), 0);
            is("ACTS", two.count(10), 3);
            PunchCards twelve = of("threads 12;card 1 0 0;card 3 0 9;card 2049 0 0;");
            is("the first to the last", twelve.turn(0), 2048);
            is("and back", twelve.turn(0), 1);
            is("worn smooth, as punched", twelve.turn(1), 3072);
            is("worn smooth", twelve.card(1, 3), 4095);
            is("as it was", twelve.turn(2), 2049);
            is("is an ACT, too", twelve.count(10), 4);
            is("an odd middle", of("threads 3;card 3 0 0;").turn(0), 6);
            outside("turn", NSE, 0, 2, twelve::turn);
            is("ACTS behind throws", twelve.count(10), 4);
            is("STATUS 1", twelve.count(14), 0);
        });
    }

    private static void cutting() {
        says("CUT anew: WEAR as it was. NONE (STATUS 1): it is 0.", () -> {
            PunchCards x = of("threads 2;card 1 0 9;card 1 0 1;card 1 0 0;");
            is("of 9", x.cut(0), 9);
            is("HOLES that it has", x.card(0, 3), 1);
            is("of 1", x.cut(1), 1);
            is("of 0", x.cut(2), NONE);
            is("of 0 again", x.cut(0), NONE);
            is("STATUS 1", x.count(14), 2);
            is("ACTS", x.count(10), 2);
            outside("cut", NSE, 0, 2, x::cut);
            is("STATUS 1 behind throws", x.count(14), 2);
        });
    }

    private static void changing() {
        says("CHANGED: true. False (STATUS 1): both are one place, no such places.", () -> {
            PunchCards x = of("card 0 0 0;card 0 0 0;lace 0 0 0 0 0 0 0 0 0 0 0 1;");
            is("the first and the last place", x.change(0, 11), true);
            is("lace(0)", x.lace(0), 1);
            is("lace(11)", x.lace(11), 0);
            is("the other way round", x.change(11, 0), true);
            is("lace(11)", x.lace(11), 1);
            is("two of one CARD", x.change(3, 4), true);
            is("ACTS", x.count(10), 3);
            int[][] places = {{0, 0}, {11, 11}, {12, 12}, {-1, -1}, {0, 12}, {12, 0}, {-1, 0}, {0, -1}, {LEAST, 0}, {0, MOST}, {MOST, LEAST}};
            for (int i = 0; i < places.length; i++) {
                is("change(" + places[i][0] + ", " + places[i][1] + ")", x.change(places[i][0], places[i][1]), false);
                is("STATUS 1", x.count(14), i + 1);
            }
            is("ACTS stay", x.count(10), 3);
            is("lace(0) stays", x.lace(0), 0);
            PunchCards one = of("card 0 0 0;lace 0;");
            is("of one place", one.change(0, 1), false);
            PunchCards none = new PunchCards();
            is("without a LACE", none.change(0, 1), false);
            is("STATUS 1", none.count(14), 1);
        });
    }

    // ---- promise 15 ------------------------------------------------------

    private static void undoing() {
        says("The last ACT is UNDONE: how many are left. NONE: there is none.", () -> {
            PunchCards x = of(LOOM);
            is("of none", x.undo(), NONE);
            x.turn(0);
            x.turn(0);
            is("of two", x.undo(), 1);
            is("of one", x.undo(), 0);
            is("of none again", x.undo(), NONE);
            is("ACTS", x.count(10), 0);
            for (int status = 13; status < 16; status++) {
                is("no STATUS counts it", x.count(status), 0);
            }
            x.sundays(0);
            is("what was refused is no ACT", x.undo(), NONE);
            x.see(0, 0, 0, true);
            x.image();
            is("nor is what is SEEN, or an image", x.undo(), NONE);
        });
        says("They are UNDONE, the last one first.", () -> {
            PunchCards x = of(LOOM);
            x.punch(1, 1);
            x.sundays(20);
            x.punch(1, 2);
            x.cut(1);
            x.change(3, 1);
            x.turn(1);
            is("undo() of turn", x.undo(), 5);
            is("HOLES", x.card(1, 0), 2);
            is("undo() of change", x.undo(), 4);
            is("lace(1)", x.lace(1), 1);
            is("lace(3)", x.lace(3), 2);
            is("undo() of cut", x.undo(), 3);
            is("WEAR", x.card(1, 2), 9);
            is("undo() of punch", x.undo(), 2);
            is("HOLES", x.card(1, 0), 1);
            is("undo() of sundays", x.undo(), 1);
            is("WEAR that had come to 9", x.card(1, 2), 8);
            is("WEAR of 0", x.card(0, 2), 0);
            is("the SUNDAY", x.count(4), 0);
            is("GRANTED", x.count(5), 0);
            is("undo() of the first", x.undo(), 0);
            is("HOLES", x.card(1, 0), 3);
        });
        says("SUNDAYS go by (1 to 20); a CARD is PUNCHED", () -> {
            PunchCards x = of("card 0 0 9;".repeat(9) + "card 0 0 3;lace 0 1 2 3 4 5 6 7 8 9;");
            x.sundays(20);
            is("WEAR of the tenth", x.card(9, 2), 9);
            is("undo()", x.undo(), 0);
            is("WEAR of the tenth", x.card(9, 2), 3);
            for (int card = 0; card < 9; card++) {
                is("WEAR of " + card, x.card(card, 2), 9);
            }
        });
    }

    private static final String MIXED = "threads 4;card 1 1 3;card 2 1 8;card 7 2 0;lace 0 1 0 2;figure 1 1 1;figure 2 1 0 0;";

    /** An ACT of each kind in turn, never one that is refused. */
    private static void act(PunchCards x, int i) {
        int kind = i % 5;
        int card = i / 5 % 3;
        if (kind == 0) {
            x.sundays(1 + i % 3);
        } else if (kind == 1) {
            x.punch(card, (3 * i + 1) % 16);
        } else if (kind == 2) {
            x.change(i % 4, (i + 1 + card) % 4);
        } else if (kind == 3) {
            x.cut(card);
        } else {
            x.turn((card + 1) % 3);
        }
    }

    /** All that ACTS alter, in one number. */
    private static long state(PunchCards x) {
        long all = x.count(4) * 1000L + x.count(5);
        for (int card = 0; card < 3; card++) {
            all = all * 16 + x.card(card, 0);
            all = all * 10 + x.card(card, 2);
        }
        return all * 4096 + x.card(0, 4) * 16 + x.card(1, 4);
    }

    private static void undoneAlone() {
        says("The last ACT is UNDONE", () -> {
            PunchCards x = of(MIXED);
            for (int i = 0; i < 10; i++) {
                long before = state(x);
                act(x, i);
                is("ACTS", x.count(10), i % 5 + 1);
                long behind = state(x);
                is("undo() of kind " + i % 5, x.undo(), i % 5);
                is("all is as ahead of it", state(x), before);
                act(x, i);
                is("and again", state(x), behind);
                if (i == 4) {
                    tell(x, MIXED);
                    x.sundays(3);
                    x.undo();
                }
            }
        });
    }

    private static void actsOfAllKinds() {
        says("at most 40 are kept, the latest ones", () -> {
            for (int more = 0; more < 5; more++) {
                PunchCards x = of(MIXED);
                long[] states = new long[more + 41];
                for (int i = 0; i < more; i++) {
                    act(x, i);
                }
                PunchCards plain = of(MIXED);
                for (int i = 0; i < more + 40; i++) {
                    if (i >= more) {
                        act(x, i);
                    }
                    act(plain, i);
                    states[i + 1] = i + 1 < more + 40 && (i + 1 - more) % 2 == 0 ? state(plain) : 0;
                }
                is("ACTS", x.count(10), 40);
                for (int left = 39; left >= 0; left--) {
                    is("undo()", x.undo(), left);
                    if (left % 2 == 0 && left > 0) {
                        is("all is as ahead of it", state(x), states[left + more]);
                    }
                }
                is("undo() of none", x.undo(), NONE);
                PunchCards kept = of(MIXED);
                for (int i = 0; i < more; i++) {
                    act(kept, i);
                }
                is("the first ones are not UNDONE", state(x), state(kept));
            }
        });
        says("ACTS and what is SEEN are kept as an image, in place of another one", () -> {
            PunchCards x = of(MIXED);
            for (int i = 0; i < 15; i++) {
                act(x, i);
            }
            x.image();
            for (int i = 18; i < 61; i++) {
                act(x, i);
            }
            is("restore()", x.restore(), true);
            PunchCards kept = of(MIXED);
            for (int i = 0; i < 15; i++) {
                act(kept, i);
            }
            is("ACTS", x.count(10), 15);
            for (int left = 14; left >= 0; left--) {
                is("all is as the image", state(x), state(kept));
                is("undo()", x.undo(), left);
                kept.undo();
            }
            is("all is as at first", state(x), state(of(MIXED)));
        });
    }

    private static void keptActs() {
        says("ACTS (at most 40 are kept, the latest ones)", () -> {
            PunchCards x = of("threads 12;card 0 0 0;card 5 0 7;lace 0;");
            for (int i = 1; i <= 40; i++) {
                x.punch(0, i);
                is("ACTS", x.count(10), i);
            }
            is("undo() of forty", x.undo(), 39);
            x.punch(0, 40);
            x.punch(0, 41);
            is("ACTS of 41", x.count(10), 40);
            x.sundays(1);
            x.cut(1);
            is("ACTS of 43", x.count(10), 40);
            for (int left = 39; left >= 0; left--) {
                is("undo()", x.undo(), left);
            }
            is("undo() of none", x.undo(), NONE);
            is("the third ACT is not UNDONE", x.card(0, 0), 3);
            is("WEAR", x.card(1, 2), 7);
            is("the SUNDAY", x.count(4), 0);
        });
    }

    // ---- promises 42 and 43 ----------------------------------------------

    private static void images() {
        says("The SUNDAY, GRANTED, HOLES, WEAR, THE LACE, ACTS and what is SEEN are kept as an image, in place of another one.", () -> {
            PunchCards x = of(LOOM);
            x.sundays(1);
            x.punch(0, 9);
            x.see(0, 0, 0, true);
            x.image();
            x.sundays(3);
            x.punch(0, 0);
            x.change(0, 3);
            x.see(1, 0, 0, true);
            x.image();
            x.forget();
            x.undo();
            is("restore()", x.restore(), true);
            is("the SUNDAY of the latest image", x.count(4), 4);
            is("HOLES", x.card(0, 0), 0);
            is("WEAR", x.card(0, 2), 4);
            is("THE LACE", x.lace(0), 2);
            is("ACTS", x.count(10), 5);
            is("SEEN", x.count(11), 2);
        });
        says("They are as the image again: true.", () -> {
            PunchCards x = of(LOOM);
            x.image();
            x.see(0, 0, 0, false);
            for (int i = 0; i < 45; i++) {
                x.turn(0);
            }
            x.sundays(20);
            is("GRANTED", x.count(5) > 0, true);
            is("restore() of what was empty", x.restore(), true);
            is("ACTS", x.count(10), 0);
            is("SEEN", x.count(11), 0);
            is("the SUNDAY", x.count(4), 0);
            is("GRANTED", x.count(5), 0);
            is("HOLES", x.card(0, 0), 5);
            is("WEAR", x.card(1, 2), 8);
            is("undo()", x.undo(), NONE);
            is("nothing SEEN", x.backwards(2), 1);
        });
    }

    private static void restoring() {
        says("False: there is none.", () -> {
            PunchCards x = of(LOOM);
            is("restore()", x.restore(), false);
            x.turn(0);
            is("restore() again", x.restore(), false);
            is("nothing changes", x.card(0, 0), 10);
            is("ACTS", x.count(10), 1);
            for (int status = 13; status < 16; status++) {
                is("no STATUS counts it", x.count(status), 0);
            }
            x.image();
            is("restore() of an image", x.restore(), true);
            is("restore() twice", x.restore(), true);
            tell(x, ";");
            is("restore() behind a FAULT", x.restore(), true);
            tell(x, LOOM);
            is("restore() behind a text", x.restore(), false);
        });
        says("ACTS and what is SEEN are kept as an image", () -> {
            PunchCards x = of("threads 12;card 0 0 0;lace 0;");
            for (int i = 1; i <= 42; i++) {
                x.punch(0, i);
            }
            for (int i = 0; i < 8; i++) {
                x.see(0, i, i, i % 2 == 0);
            }
            x.image();
            for (int i = 0; i < 40; i++) {
                x.punch(0, 100 + i);
            }
            x.forget();
            x.see(0, 11, 3, true);
            x.sundays(0);
            x.restore();
            is("SEEN, full", x.count(11), 8);
            is("one more is refused", x.see(0, 0, 0, true), NONE);
            is("ACTS, full", x.count(10), 40);
            for (int i = 41; i >= 2; i--) {
                x.undo();
                is("HOLES", x.card(0, 0), i);
            }
            is("undo() of none", x.undo(), NONE);
            is("STATUS is not of the image", x.count(14), 1);
        });
    }
}
