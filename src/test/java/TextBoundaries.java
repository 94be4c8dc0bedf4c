/** Sentences on TEXTS that name a boundary (terms of a TEXT, promises 2 to 4), each with a test of its own. */
public final class TextBoundaries extends Check {
    public static void main(String[] args) {
        limitsOfThreadsAndCards();
        limitsOfLaceAndFigures();
        bytesAndWords();
        lettersOfWords();
        numbersSignsAndBlanks();
        linesAndGrammar();
        arithmetic();
        valuesOfUp();
        valuesOfHarm();
        whichFault();
        faultOne();
        tooMuch();
        tooMuchOfExprs();
        unknownAndAgain();
        feeding();
        chapels();
        chapelsThatFail();
        places();
        finish("text boundaries");
    }

    // ---- what a text may tell -------------------------------------------

    private static void limitsOfThreadsAndCards() {
        says("THREADS 0, 1 .. (2 to 12; 8 without)", () -> {
            is("THREADS", of("threads 2;").count(0), 2);
            is("THREADS", of("threads 12;").count(0), 12);
            is("THREADS without", of("card 1 1 1;").count(0), 8);
            faulty("threads 0;", 2, 8);
            faulty("threads 1;", 2, 8);
            faulty("threads 13;", 2, 8);
            faulty("threads 9999;", 2, 8);
        });
        says("CARDS 0, 1 .. (at most 10)", () -> {
            is("CARDS", of("threads 2;").count(1), 0);
            PunchCards ten = of("card 0 0 0;".repeat(9) + "card 7 8 6;");
            is("CARDS", ten.count(1), 10);
            is("HOLES of the tenth", ten.card(9, 0), 7);
            is("WANT of the tenth", ten.card(9, 1), 8);
            is("WEAR of the tenth", ten.card(9, 2), 6);
            faulty("card 0 0 0;".repeat(11), 2, 110);
        });
        says("HOLES (bits of THREADS), a WANT (0 to 9), WEAR (0 to 9)", () -> {
            PunchCards x = of("threads 12;card 0 0 0;card 4095 9 9;");
            for (int what = 0; what < 3; what++) {
                is("card(0, " + what + ")", x.card(0, what), 0);
                is("card(1, " + what + ")", x.card(1, what), what == 0 ? 4095 : 9);
            }
            faulty("card 4096 0 0;", 2, 5);
            faulty("card 0 10 0;", 2, 7);
            faulty("card 0 0 10;", 2, 9);
        });
        says("(HOLES beyond THREADS are none.)", () -> {
            is("8 without", of("card 256 0 0;").card(0, 0), 0);
            is("8 without", of("card 4095 0 0;").card(0, 0), 255);
            is("THREADS ahead", of("threads 2;card 6 0 0;").card(0, 0), 2);
            is("THREADS behind", of("card 6 0 0;threads 2;").card(0, 0), 2);
            PunchCards x = of("card 4092 0 0;threads 3;card 3 0 9;lace 0;up beside;");
            is("HOLES", x.card(0, 0), 4);
            is("turn(0)", x.turn(0), 1);
            is("worn smooth", x.card(1, 3), 7);
            is("beside the last THREAD is none", of("card 4088 0 0;threads 3;lace 0;up beside;").then(0, 0), 0);
        });
    }

    private static void limitsOfLaceAndFigures() {
        says("THE LACE: 1 to 12 CARDS in a row (any may come again; none without)", () -> {
            is("PICKS without", of("card 1 0 0;").count(2), 0);
            is("PICKS of one", of("card 1 0 0;lace 0;").count(2), 1);
            PunchCards x = of("card 1 0 0;card 2 0 0;lace 0 0 0 0 0 0 0 0 0 0 0 1;");
            is("PICKS of twelve", x.count(2), 12);
            is("lace(10)", x.lace(10), 0);
            is("lace(11)", x.lace(11), 1);
            faulty("card 1 0 0;lace;", 1, 15);
            faulty("card 1 0 0;lace" + " 0".repeat(13) + ";", 2, 40);
        });
        says("FIGURES 0, 1 .. (at most 5): a WANT, 1 to 4 THREADS wide, 1 to 3 rows of bits, row by row", () -> {
            is("FIGURES", of("").count(3), 0);
            PunchCards x = of("figure 0 1 0;figure 9 1 1;figure 0 4 15;figure 0 4 0 15 0;figure 1 2 3 0;");
            is("FIGURES", x.count(3), 5);
            int[][] due = {{0, 1, 1, 0, 0, 0}, {9, 1, 1, 1, 0, 0}, {0, 4, 1, 15, 0, 0}, {0, 4, 3, 0, 15, 0}, {1, 2, 2, 3, 0, 0}};
            for (int f = 0; f < 5; f++) {
                for (int what = 0; what < 6; what++) {
                    is("figure(" + f + ", " + what + ")", x.figure(f, what), due[f][what]);
                }
            }
            faulty("figure 0 1 0;".repeat(6), 2, 65);
            faulty("figure 10 1 0;", 2, 7);
            faulty("figure 0 0 0;", 2, 9);
            faulty("figure 0 5 0;", 2, 9);
            faulty("figure 0 1;", 1, 10);
            faulty("figure 0 1 0 0 0 0;", 1, 17);
        });
    }

    // ---- tokens ----------------------------------------------------------

    private static void bytesAndWords() {
        says("A TEXT of at most 700 bytes tells it", () -> {
            PunchCards x = of("threads 3;" + " ".repeat(679) + "card 5 1 1;");
            is("the last line of 700 bytes", x.card(0, 0), 5);
            PunchCards y = new PunchCards();
            is("699 blanks and a byte", tell(y, " ".repeat(699) + ";"), 1);
            is("fault()", y.fault(), 699);
            PunchCards rule = of("threads 2;card 0 0 0;lace 0;up 0" + "+0".repeat(332) + "+1;");
            is("an EXPR to the end", rule.then(0, 0), 3);
            PunchCards deep = of("threads 2;card 0 0 0;lace 0;up 0" + "+(1)".repeat(166) + ";");
            is("an EXPR to the end", deep.then(0, 0), 3);
        });
        says("words (a .. z, the longest row)", () -> {
            faulty("up a;", 3, 3);
            faulty("up z;", 3, 3);
            faulty("up `;", 1, 3);
            faulty("up {;", 1, 3);
            faulty("up A;", 1, 3);
            faulty("up Z;", 1, 3);
            faulty("up holeahead;", 3, 3);
            faulty("up hol e;", 3, 3);
            faulty("up holE;", 3, 3);
            faulty("cards 0 0 0;", 1, 0);
            faulty("car d 0 0 0;", 1, 0);
            faulty("up 1 orhole;", 1, 5);
            is("a word ends at a digit", of("threads12;").count(0), 12);
            is("a word ends at a sign", of("card 1 0 0;harm(holes)*3;").snarl(0, 0), 3);
            faulty("threads" + "s".repeat(690) + ";", 1, 0);
        });
    }

    private static void lettersOfWords() {
        says("In quotes is what stands there", () -> {
            spell("threads", " 8;", "", 1);
            spell("card", " 0 0 0;", "", 1);
            spell("lace", " 0;", "card 0 0 0;", 1);
            spell("figure", " 0 1 0;", "", 1);
            spell("up", " 1;", "", 1);
            spell("harm", " 1;", "", 1);
            for (String value : new String[] {"hole", "beside", "ahead", "pick", "thread", "wear", "not 1 or hole"}) {
                spell(value, ";", "up ", 3);
            }
            for (String value : new String[] {"holes", "alike", "first", "second"}) {
                spell(value, ";", "harm ", 3);
            }
            spell("or", " 1;", "up 1 ", 1);
            spell("and", " 1;", "up 1 ", 1);
        });
    }

    /** A word that stands there can't be a letter longer or shorter, nor have another letter anywhere. */
    private static void spell(String word, String behind, String ahead, int kind) {
        of(ahead + word + behind);
        int length = word.indexOf(' ') < 0 ? word.length() : word.indexOf(' ');
        for (int i = 0; i < length; i++) {
            String other = word.charAt(i) == 'q' ? "x" : "q";
            faulty(ahead + word.substring(0, i) + other + word.substring(i + 1) + behind, kind, ahead.length());
            faulty(ahead + word.substring(0, i) + word.substring(i + 1) + behind, kind, ahead.length());
        }
        faulty(ahead + "q" + word + behind, kind, ahead.length());
        faulty(ahead + word.substring(0, length) + "q" + word.substring(length) + behind, kind, ahead.length());
    }

    private static void numbersSignsAndBlanks() {
        says("NUMBERS (1 to 4 digits)", () -> {
            is("four digits", of("threads 0012;").count(0), 12);
            is("four digits in THE LACE", of("card 0001 0002 0003;lace 0000 0;").count(2), 2);
            is("four digits of a FIGURE", of("figure 0009 0004 0015 0014;").figure(0, 4), 14);
            is("one digit", of("threads 9;").count(0), 9);
            of("up 9999;");
            of("up 0000;");
            faulty("threads 00012;", 2, 8);
            faulty("threads /;", 1, 8);
            faulty("threads :;", 1, 8);
            faulty("threads 1x;", 2, 8);
            faulty("threads 9x;", 1, 9);
        });
        says("signs ; ( ) + - * / < =", () -> {
            is("all but =", harm("(9+9-3)*4/6<11"), 1);
            is("=", harm("2=2"), 1);
            for (char none : "!\"#$%&',.:>?@[\\]^_`{|}~".toCharArray()) {
                faulty("up 1" + none + "2;", 1, 4);
            }
        });
        says("blanks (32, 10) between them count for nothing", () -> {
            is("blanks all over", of("\n threads\n\n 12 \n;\n \n").count(0), 12);
            is("no blanks", of("threads12;card7 0 9;card7 0 0;lace0 1;up1;harm1;figure0 1 1;").count(2), 2);
            faulty("threads 1 2;", 2, 8);
            faulty("thr eads 8;", 1, 0);
            for (int none : new int[] {0, 1, 8, 9, 11, 12, 13, 31, 33, 127, 128, 160, 255}) {
                faulty((char) none + "threads 8;", 1, 0);
                faulty("threads" + (char) none + "8;", 1, 7);
                faulty("threads 8;" + (char) none, 1, 10);
            }
        });
    }

    // ---- the grammar -----------------------------------------------------

    private static void linesAndGrammar() {
        says("CHAPEL: LINE*.", () -> {
            is("no LINE", of("").count(1), 0);
            is("blanks alone", of(" \n \n").count(1), 0);
            faulty(";", 1, 0);
            faulty("threads 8;;", 1, 10);
            faulty("threads 8", 1, 9);
            faulty("8;", 1, 0);
            faulty("(", 1, 0);
        });
        says("'card' HOLES WANT WEAR", () -> {
            faulty("card;", 1, 4);
            faulty("card 0;", 1, 6);
            faulty("card 0 0;", 1, 8);
            faulty("card 0 0 0 0;", 1, 11);
            faulty("card (0) 0 0;", 1, 5);
        });
        says("('threads' NUMBER |", () -> {
            faulty("threads;", 1, 7);
            faulty("threads 8 8;", 1, 10);
            faulty("threads (8);", 1, 8);
            faulty("threads card;", 1, 8);
        });
        says("('up' | 'harm') EXPR) ';', all in capitals but EXPR being NUMBERS", () -> {
            faulty("up;", 1, 2);
            faulty("harm;", 1, 4);
            faulty("up 1", 1, 4);
            faulty("up 1;;", 1, 5);
            faulty("card hole 0 0;", 1, 5);
            faulty("card 1+1 0 0;", 1, 6);
            faulty("figure 0 (1) 0;", 1, 9);
            faulty("card 0 0 0;lace (0);", 1, 16);
        });
        says("'lace' CARD CARD*", () -> {
            faulty("card 0 0 0;lace;", 1, 15);
            faulty("card 0 0 0;lace card;", 1, 16);
            faulty("card 0 0 0;lace 0 card;", 1, 18);
        });
        says("'figure' WANT WIDTH ROW [ROW [ROW]]", () -> {
            faulty("figure;", 1, 6);
            faulty("figure 0;", 1, 8);
            faulty("figure 0 1;", 1, 10);
            is("one ROW", of("figure 0 1 0;").figure(0, 2), 1);
            is("two ROWS", of("figure 0 1 0 0;").figure(0, 2), 2);
            is("three ROWS", of("figure 0 1 0 0 0;").figure(0, 2), 3);
            faulty("figure 0 1 0 0 0 0;", 1, 17);
            faulty("figure 0 1 x;", 1, 11);
            faulty("figure 0 1 0 x;", 1, 13);
        });
        says("NOT: 'not' NOT | SUM [('<' | '=') SUM].", () -> {
            is("no test", harm("7"), 7);
            is("one test", harm("7=7"), 1);
            faulty("up 1 < 2 < 3;", 1, 9);
            faulty("up 1 = 2 = 3;", 1, 9);
            faulty("up 1 < 2 = 3;", 1, 9);
            is("a test within a parenthesis", harm("(1<2)<3"), 1);
            is("not takes the whole test", harm("not 1<0"), 1);
        });
        says("EXPR: AND ('or' AND)*. AND: NOT ('and' NOT)*.", () -> {
            is("no 'or', no 'and'", harm("7"), 7);
            is("many 'or'", harm("0" + " or 0".repeat(100)), 0);
            is("the last of many 'or'", harm("0" + " or 0".repeat(100) + " or 5"), 1);
            is("many 'and'", harm("5" + " and 5".repeat(100)), 1);
            is("the last of many 'and'", harm("5" + " and 5".repeat(100) + " and 0"), 0);
            is("'and' binds first", harm("0 and 0 or 1"), 1);
            faulty("up 1 or;", 1, 7);
            faulty("up 1 and;", 1, 8);
            faulty("up 1 or or 1;", 3, 8);
        });
        says("SUM: PRODUCT (('+' | '-') PRODUCT)*. PRODUCT: PART (('*' | '/') PART)*.", () -> {
            is("many + and -", harm("7" + "+9-9".repeat(100)), 7);
            is("many * and /", harm("7" + "*9/9".repeat(100)), 7);
            is("products first", harm("2+3*4"), 14);
            is("products first", harm("90-8/2"), 86);
            faulty("up 1++1;", 1, 5);
            faulty("up 1*/1;", 1, 5);
        });
        says("PART: NUMBER | VALUE | '(' EXPR ')'.", () -> {
            faulty("up;", 1, 2);
            faulty("up ();", 1, 4);
            faulty("up (1;", 1, 5);
            faulty("up 1);", 1, 4);
            faulty("up -1;", 1, 3);
            faulty("up +1;", 1, 3);
            faulty("up 1+;", 1, 5);
            faulty("up 1 2;", 1, 5);
            faulty("up 1(2);", 1, 4);
            faulty("up hole hole;", 1, 8);
        });
    }

    /** HARM is what an EXPR gives, kept to 0 to 99: by it an EXPR is worked out. */
    private static int harm(String expr) {
        return of("card 7 4 0;card 14 6 0;harm " + expr + ";").snarl(0, 1);
    }

    private static void arithmetic() {
        says("From the left; ints that wrap, / cut down to 0, by 0 gives 0", () -> {
            is("- from the left", harm("50-20-7"), 23);
            is("/ from the left", harm("90/7/2"), 6);
            is("* and / from the left", harm("7/2*2"), 6);
            is("- and + from the left", harm("9-5+3"), 7);
        });
        says("ints that wrap", () -> {
            String least = "2048*1024*1024";
            is("2 to the power of 31", harm(least + "<0"), 1);
            is("one below the least", harm("0<" + least + "-1"), 1);
            is("one above the most", harm(least + "-1+1<0"), 1);
            is("the least taken from 0", harm("0-" + least + "<0"), 1);
            is("the least by -1", harm(least + "/(0-1)=" + least), 1);
            is("2 to the power of 32", harm("7+4096*4096*256"), 7);
        });
        says("/ cut down to 0", () -> {
            is("7/2", harm("7/2"), 3);
            is("-7/2", harm("10+(0-7)/2"), 7);
            is("7/-2", harm("10+7/(0-2)"), 7);
            is("-1/2", harm("10+(0-1)/2"), 10);
            is("1/2", harm("10+1/2"), 10);
        });
        says("by 0 gives 0", () -> {
            is("7/0", harm("5+7/0"), 5);
            is("0/0", harm("5+0/0"), 5);
            is("7/(3-3)", harm("5+7/(3-3)"), 5);
            is("7/alike", harm("5+7/alike"), 5);
            is("9/0/3", harm("6+9/0/3"), 6);
        });
        says("tests, not, and, or are 1 or 0 (what isn't 0 holds)", () -> {
            String[] ones = {"3<4", "4=4", "not 0", "not not 7", "7 and 9", "7 or 0", "0 or 9", "8 or 9", "(0-3) and 2", "(0-3) or 0"};
            String[] zeros = {"4<4", "5<4", "3=4", "not 7", "not (0-1)", "7 and 0", "0 and 7", "0 and 0", "0 or 0"};
            for (String one : ones) {
                is(one, harm("5+(" + one + ")"), 6);
            }
            for (String zero : zeros) {
                is(zero, harm("5+(" + zero + ")"), 5);
            }
            is("and ahead of or", harm("1 or 1 and 0"), 1);
        });
    }

    private static void valuesOfUp() {
        says("a THREAD is up, if UP isn't 0 for it (without it 'hole')", () -> {
            is("0", of("threads 2;card 3 0 0;lace 0;up 0;").then(0, 0), 0);
            is("1", of("threads 2;card 0 0 0;lace 0;up 1;").then(0, 0), 3);
            is("2", of("threads 2;card 0 0 0;lace 0;up 2;").then(0, 0), 3);
            is("below 0", of("threads 2;card 0 0 0;lace 0;up 0-1;").then(0, 0), 3);
            is("without", of("threads 2;card 2 0 0;lace 0;").then(0, 0), 2);
        });
        says("'hole' (1, if the CARD has one there, else 0)", () -> {
            is("hole=1", of("threads 3;card 5 0 0;lace 0;up hole=1;").then(0, 0), 5);
            is("hole=0", of("threads 3;card 5 0 0;lace 0;up hole=0;").then(0, 0), 2);
            is("worn smooth", of("threads 3;card 5 0 9;lace 0;up hole=1;").then(0, 0), 7);
        });
        says("'beside' (how many of the THREADS next to it have one)", () -> {
            is("of two THREADS", of("threads 2;card 1 0 0;lace 0;up beside;").then(0, 0), 2);
            is("not its own", of("threads 3;card 2 0 0;lace 0;up beside=1;").then(0, 0), 5);
            is("none beside", of("threads 3;card 2 0 0;lace 0;up beside=0;").then(0, 0), 2);
            is("the first and the last THREAD have one beside", of("threads 12;card 4095 0 0;lace 0;up beside=1;").then(0, 0), 2049);
            is("all others two", of("threads 12;card 4095 0 0;lace 0;up beside=2;").then(0, 0), 2046);
            is("worn smooth", of("threads 12;card 0 0 9;lace 0;up beside=1;").then(0, 0), 2049);
        });
        says("'ahead' (1, if it was up at the PICK ahead, else 0)", () -> {
            PunchCards x = of("threads 3;card 1 0 0;card 2 0 0;lace 0 1 0;up hole+ahead=1;");
            is("hole alone", x.then(0, 0), 1);
            is("hole, or ahead alone", x.then(1, 0), 3);
            is("not both", x.then(2, 0), 2);
            is("by what was up, not by HOLES", of("threads 2;card 3 0 0;lace 0 0;up pick=0 and thread=1 or ahead;").then(1, 0), 2);
            is("the PICK ahead alone", of("threads 2;card 0 0 0;lace 0 0 0;up pick=0 or pick=2 and ahead;").then(2, 0), 0);
        });
        says("VALUES of UP, for a THREAD at a PICK", () -> {
            for (int sum = -1; sum <= 12; sum++) {
                allWays(sum, "");
                allWays(sum, "0*pick*wear*thread+");
            }
        });
        says("ahead of PICK 0 no THREAD is up", () -> {
            PunchCards x = of("threads 2;card 0 0 0;lace 0 0 0;up not ahead;");
            is("then(0, 0)", x.then(0, 0), 3);
            is("then(1, 0)", x.then(1, 0), 0);
            is("then(2, 0)", x.then(2, 0), 3);
            is("asked again", x.then(0, 0), 3);
        });
        says("'pick' (which, 0 on), 'thread', 'wear' (of the CARD)", () -> {
            PunchCards x = of("threads 2;card 0 0 0;lace" + " 0".repeat(12) + ";up pick=0 or pick=11;");
            is("the first PICK", x.then(0, 0), 3);
            is("the second PICK", x.then(1, 0), 0);
            is("the eleventh PICK", x.then(10, 0), 0);
            is("the last PICK", x.then(11, 0), 3);
            is("thread", of("threads 12;card 0 0 0;lace 0;up thread=0 or thread=11;").then(0, 0), 2049);
            is("no THREAD behind the last one", of("threads 3;card 0 0 0;lace 0;up thread<99;").then(0, 0), 7);
            PunchCards y = of("threads 2;card 0 0 0;lace 0;up wear=0 or wear=9;");
            is("WEAR 0", y.then(0, 0), 3);
            is("WEAR 1", y.then(0, 1), 0);
            is("WEAR 8", y.then(0, 8), 0);
            is("WEAR 9", y.then(0, 9), 3);
            is("WEAR 9 still", y.then(0, 10), 3);
            PunchCards most = of("threads 12;card 4095 0 9;lace" + " 0".repeat(12) + ";up pick+thread+wear+hole+beside+ahead=33;");
            is("the most of all, at the last two THREADS", most.then(11, 0), 3072);
        });
    }

    /** Every THREAD of two PICKS, by a rule that tells all ways apart that a THREAD can meet. */
    private static void allWays(int sum, String more) {
        int[] holes = {0b010111001101, 0b101110010011};
        String rule = "up " + more + "hole+2*ahead+4*beside=" + (sum < 0 ? "0-1" : "" + sum) + " or pick=0 and hole;";
        PunchCards x = of("threads 12;card " + holes[0] + " 0 0;card " + holes[1] + " 0 0;lace 0 1;" + rule);
        int ahead = 0;
        for (int pick = 0; pick < 2; pick++) {
            int row = 0;
            for (int t = 0; t < 12; t++) {
                int hole = holes[pick] >> t & 1;
                int beside = (t > 0 ? holes[pick] >> t - 1 & 1 : 0) + (t < 11 ? holes[pick] >> t + 1 & 1 : 0);
                boolean up = hole + 2 * (ahead >> t & 1) + 4 * beside == sum || pick == 0 && hole == 1;
                row |= up ? 1 << t : 0;
            }
            is("PICK " + pick + " by " + rule, x.then(pick, 0), row);
            ahead = row;
        }
    }

    private static void valuesOfHarm() {
        says("'holes' (THREADS at which both have one)", () -> {
            PunchCards x = of("threads 12;card 4095 0 0;card 0 0 0;card 0 0 9;harm holes;");
            is("all", x.snarl(0, 0), 12);
            is("none", x.snarl(0, 1), 0);
            is("worn smooth", x.snarl(0, 2), 12);
        });
        says("'alike' (1, if both have one WANT, else 0), 'first', 'second' (the WANT of either)", () -> {
            PunchCards x = of("card 0 0 0;card 0 9 0;harm 50*alike+first*5+second;");
            is("0 and 0", x.snarl(0, 0), 50);
            is("0 and 9", x.snarl(0, 1), 9);
            is("9 and 0", x.snarl(1, 0), 45);
            is("alike is not 0 of both", of("card 0 3 0;harm 7*alike+1;").snarl(0, 0), 8);
        });
    }

    // ---- faults ----------------------------------------------------------

    private static void whichFault() {
        says("the first along the text", () -> {
            faulty("up zebra;threads 1;;", 3, 3);
            faulty("threads 13;up zebra;", 2, 8);
            faulty("threads 8;threads 1", 5, 10);
            faulty("lace 0 zebra", 3, 5);
        });
        says("at a TOKEN's first byte", () -> {
            faulty(" \n threads \n 0013;", 2, 13);
            faulty("up  zebra;", 3, 4);
            faulty("threads 8; threads 8;", 5, 11);
            faulty("up 1   zebra;", 1, 7);
        });
        says("of one TOKEN the least", () -> {
            faulty("up 1 12345;", 1, 5);
            faulty("card 0 0 0;lace" + " 0".repeat(12) + " 7;", 2, 40);
            faulty("lace 12345;", 2, 5);
            faulty("up ((((((zebra", 2, 9);
            faulty("up (((((" + "not ".repeat(6) + "(not", 2, 33);
            faulty("threads 8 threads 8;", 1, 10);
            faulty("card 0 0 0;".repeat(9) + "card 0 0 0 card", 1, 110);
            faulty("figure 0 1 0 0 0 12345;", 1, 17);
            faulty("up 1;harm 1 up", 1, 12);
        });
    }

    private static void faultOne() {
        says("1 a TOKEN that can't stand there, or is none", () -> {
            faulty("hole;", 1, 0);
            faulty("threads hole;", 1, 8);
            faulty("threads 8,", 1, 9);
            faulty("card 1 1 1 threads 8;", 1, 11);
            faulty("up 1 threads 8;", 1, 5);
            faulty("up 1 not 1;", 1, 5);
            faulty("threads \u0000;", 1, 8);
            faulty("threads \u00ff;", 1, 8);
        });
        says("(the text's length where it ends too soon)", () -> {
            String[] texts = {"threads", "threads 8", "card", "card 1", "card 1 1", "card 1 1 1", "lace", "figure", "figure 1", "figure 1 1",
                "figure 1 1 1", "figure 1 1 1 1", "figure 1 1 1 1 1", "up", "up 1", "up not", "up (", "up (1", "up (1)", "up 1 <", "up 1 =",
                "up 1 +", "up 1 -", "up 1 *", "up 1 /", "up 1 and", "up 1 or", "up ((((((", "harm", "threads 8;card"};
            for (String text : texts) {
                faulty(text, 1, text.length());
                faulty(text + " \n ", 1, text.length() + 3);
            }
            PunchCards x = new PunchCards();
            feed(x, "card 1 0 0;lace 0;");
            is("a text without the tape's last byte", x.chapel(17), 1);
            is("fault()", x.fault(), 17);
            PunchCards full = new PunchCards();
            is("700 bytes without an end", tell(full, "threads 8" + " ".repeat(691)), 1);
            is("fault()", full.fault(), 700);
        });
    }

    private static void tooMuch() {
        says("a NUMBER of 5 digits or more", () -> {
            faulty("threads 00008;", 2, 8);
            faulty("card 00001 0 0;", 2, 5);
            faulty("card 1 00000 0;", 2, 7);
            faulty("card 1 0 00000;", 2, 9);
            faulty("card 1 0 0;lace 00000;", 2, 16);
            faulty("card 1 0 0;lace 0 00000;", 2, 18);
            faulty("figure 00000 1 0;", 2, 7);
            faulty("figure 0 00001 0;", 2, 9);
            faulty("figure 0 1 00000;", 2, 11);
            faulty("figure 0 1 0 00000;", 2, 13);
            faulty("figure 0 1 0 0 00000;", 2, 15);
            faulty("up 00000;", 2, 3);
            faulty("harm 1+00000;", 2, 7);
            faulty("threads 4294967304;", 2, 8);
            faulty("threads 18446744073709551624;", 2, 8);
            faulty("up " + "0".repeat(690) + ";", 2, 3);
        });
        says("or (not in an EXPR) not as told (HOLES to 4095, a ROW below 2 to the power of WIDTH)", () -> {
            of("card 4095 0 0;");
            faulty("card 4096 0 0;", 2, 5);
            for (int width = 1; width <= 4; width++) {
                String head = "figure 0 " + width + " ";
                int most = (1 << width) - 1;
                PunchCards x = of(head + most + " " + most + " " + most + ";");
                is("ROW 2 of WIDTH " + width, x.figure(0, 5), most);
                String more = " " + (most + 1) + ";";
                faulty("figure 0 " + width + more, 2, 11);
                faulty(head + "0" + more, 2, 13);
                faulty(head + "0 0" + more, 2, 15);
            }
            of("up 9999;harm 9999;");
        });
        says("the first TOKEN of the 11th CARD, the 6th FIGURE, the 13th CARD of THE LACE", () -> {
            of("card 0 0 0;".repeat(10));
            faulty("card 0 0 0;".repeat(10) + "card", 2, 110);
            faulty("card 0 0 0;".repeat(10) + "threads 3; card 4096", 2, 121);
            of("figure 0 1 0;".repeat(5));
            faulty("figure 0 1 0;".repeat(5) + "figure", 2, 65);
            of("card 0 0 0;lace" + " 0".repeat(12) + ";");
            faulty("card 0 0 0;lace" + " 0".repeat(12) + " 0", 2, 40);
            faulty("card 0 0 0;lace" + " 0".repeat(12) + " up", 1, 40);
        });
    }

    private static void tooMuchOfExprs() {
        says("of an EXPR within 6 others (a NUMBER, any word, a parenthesis)", () -> {
            is("within 5 others", harm("(((((42)))))"), 42);
            is("within 5 others, twice", harm("(((((40)))))+(((((2)))))"), 42);
            faulty("up ((((((1))))));", 2, 9);
            faulty("up ((((((12345", 2, 9);
            faulty("up ((((((hole", 2, 9);
            faulty("up ((((((not 1", 2, 9);
            faulty("up ((((((or", 2, 9);
            faulty("up (((((((1", 2, 9);
            faulty("up (((((()", 1, 9);
            faulty("up ((((((-1", 1, 9);
            faulty("up ((((((;", 1, 9);
            faulty("up ((((((", 1, 9);
            faulty("harm (((((1+(1))))));", 2, 13);
            faulty("up (((((1))))) or ((((((1", 2, 24);
        });
        says("the seventh 'not' side by side", () -> {
            is("six", harm("5+(" + "not ".repeat(6) + "3)"), 6);
            is("six twice", harm("not ".repeat(6) + "3 and " + "not ".repeat(6) + "3"), 1);
            is("six, and six within", harm("not ".repeat(6) + "(" + "not ".repeat(6) + "3)"), 1);
            is("six within 5 others", harm("(((((" + "not ".repeat(6) + "3)))))"), 1);
            faulty("up " + "not ".repeat(7) + "3;", 2, 27);
            faulty("up 3 or " + "not\n".repeat(7), 2, 32);
            faulty("up 3 and " + "not ".repeat(7), 2, 33);
            faulty("up (" + "not ".repeat(7), 2, 28);
            faulty("harm " + "not ".repeat(6) + "zebra;", 3, 29);
            faulty("harm " + "not ".repeat(6) + "+", 1, 29);
        });
    }

    private static void unknownAndAgain() {
        says("3 any word where a PART must stand that is no VALUE of this EXPR", () -> {
            for (String head : new String[] {"up ", "up not ", "up (", "up 1 or ", "up 1 and ", "up 1<", "up 1=", "up 1+", "up 1-", "up 1*", "up 1/"}) {
                for (String word : new String[] {"zebra", "first", "second", "alike", "holes", "or", "and", "up", "threads"}) {
                    faulty(head + word + ";", 3, head.length());
                }
            }
            for (String word : new String[] {"hole", "beside", "ahead", "pick", "thread", "wear", "harm"}) {
                faulty("harm " + word + ";", 3, 5);
            }
            for (String head : new String[] {"up 1<", "up 1=", "up 1+", "up 1-", "up 1*", "up 1/"}) {
                faulty(head + "not 1;", 3, head.length());
            }
            of("up hole+beside+ahead+pick+thread+wear;harm holes+alike+first+second;");
        });
        says("a CARD that isn't told ahead", () -> {
            faulty("lace 0;", 3, 5);
            faulty("lace 0;card 0 0 0;", 3, 5);
            faulty("card 0 0 0;lace 1;card 0 0 0;", 3, 16);
            faulty("card 0 0 0;lace 0 0 1;", 3, 20);
            faulty("card 0 0 0;".repeat(9) + "lace 8 9;", 3, 106);
            is("the last one told", of("card 0 0 0;".repeat(10) + "lace 9;").lace(0), 9);
        });
        says("5 a second 'threads', 'lace', 'up', 'harm'", () -> {
            faulty("threads 8;threads 8;", 5, 10);
            faulty("card 0 0 0;lace 0;lace 0;", 5, 18);
            faulty("up 0;up 0;", 5, 5);
            faulty("harm 0;harm 0;", 5, 7);
            faulty("threads 8;threads", 5, 10);
            faulty("card 0 0 0;lace 0;lace", 5, 18);
            faulty("up 0;up", 5, 5);
            faulty("harm 0;harm", 5, 7);
            faulty("threads 3;up 1;card 1 1 1;threads 3;", 5, 26);
            PunchCards x = of("threads 3;card 0 0 0;lace 0;up 0;harm 0;");
            is("one more text is not a second", tell(x, "threads 3;card 0 0 0;lace 0;up 0;harm 0;"), 0);
            is("nor is one behind a FAULT", tell(x, "threads 3;card 0 0 0;lace 0;up 0;harm 0;;"), 1);
            is("nor is one behind a FAULT", tell(x, "threads 3;card 0 0 0;lace 0;up 0;harm 0;"), 0);
        });
    }

    // ---- promises 2 to 4 -------------------------------------------------

    private static final int BLANKS = 0x20202020;
    private static final int ENDS = 0x3b3b3b3b;

    private static void feeding() {
        says("Twenty bytes come behind the tape, of each number the highest first: how many it has", () -> {
            PunchCards x = new PunchCards();
            is("feed", x.feed(0x74687265, 0x61647320, 0x333b6361, 0x72642037, 0x20312031), 20);
            is("feed behind", x.feed(0x3b636172, 0x64203420, 0x3220323b, BLANKS, BLANKS), 40);
            is("'threads 3;card 7 1 1;card 4 2 2;'", x.chapel(40), 0);
            is("THREADS", x.count(0), 3);
            is("CARDS", x.count(1), 2);
            is("WEAR", x.card(1, 2), 2);
            for (int k = 0; k < 20; k++) {
                int[] n = {BLANKS, BLANKS, BLANKS, BLANKS, BLANKS};
                n[k / 4] = n[k / 4] & ~(255 << 24 - k % 4 * 8) | 255 << 24 - k % 4 * 8;
                x.feed(n[0], n[1], n[2], n[3], n[4]);
                is("a byte of 255 at " + k, x.chapel(20), 1);
                is("fault()", x.fault(), k);
            }
        });
        says("NONE, and none come, if it would have more than 700", () -> {
            PunchCards x = new PunchCards();
            is("chapel(0) of the empty tape", x.chapel(0), 0);
            for (int i = 1; i <= 35; i++) {
                is("feed " + i, x.feed(BLANKS, BLANKS, BLANKS, BLANKS, BLANKS), 20 * i);
            }
            is("feed 36", x.feed(ENDS, ENDS, ENDS, ENDS, ENDS), NONE);
            is("feed 37", x.feed(ENDS, ENDS, ENDS, ENDS, ENDS), NONE);
            is("bytes of the tape", x.count(12), 700);
            for (int status = 13; status < 16; status++) {
                is("no STATUS counts it", x.count(status), 0);
            }
            fails("chapel(701)", IAE, () -> x.chapel(701));
            is("chapel(700) of blanks alone", x.chapel(700), 0);
            is("feed of the empty tape", x.feed(ENDS, ENDS, ENDS, ENDS, ENDS), 20);
        });
    }

    private static void chapels() {
        says("The tape's first n bytes (it is empty then) are a CHAPEL", () -> {
            PunchCards x = new PunchCards();
            feed(x, "threads 3;threads 4;");
            is("chapel(10) of 20", x.chapel(10), 0);
            is("THREADS", x.count(0), 3);
            is("bytes of the tape", x.count(12), 0);
            fails("chapel(1) of the empty tape", IAE, () -> x.chapel(1));
            feed(x, ";");
            is("chapel(0): no byte", x.chapel(0), 0);
            is("THREADS without", x.count(0), 8);
            is("bytes of the tape", x.count(12), 0);
            feed(x, "threads 5;threads 6;");
            is("chapel(20) of 20", x.chapel(20), 5);
            is("bytes of the tape behind a FAULT", x.count(12), 0);
        });
        says("all anew: 0, or the FAULT (all stays)", () -> {
            PunchCards x = of("threads 3;card 7 9 9;card 5 1 0;lace 1 0 1;figure 9 3 7 7 7;up 1;harm 9;");
            for (int i = 0; i < 2; i++) {
                is("a text of less", tell(x, "card 6 2 0;card 4 2 0;lace 0;figure 1 2 3;"), 0);
                is("THREADS", x.count(0), 8);
                is("CARDS", x.count(1), 2);
                is("PICKS", x.count(2), 1);
                is("FIGURES", x.count(3), 1);
                is("ROW 1", x.figure(0, 4), 0);
                is("ROW 2", x.figure(0, 5), 0);
                is("rows", x.figure(0, 2), 1);
                is("HOLES", x.card(0, 3), 6);
                is("WEAR", x.card(0, 2), 0);
                is("no UP", x.then(0, 0), 6);
                is("no HARM", x.snarl(0, 1), 1);
                is("not laced", x.card(1, 4), 0);
            }
            is("no LINE", x.chapel(0), 0);
            is("CARDS", x.count(1), 0);
            is("PICKS", x.count(2), 0);
            is("FIGURES", x.count(3), 0);
        });
        says("are a CHAPEL, all anew", () -> {
            PunchCards x = of("threads 3;card 5 0 0;lace 0;up 1;harm 9;");
            String[] texts = {"up 0;", "up hole;", "up not hole;", "up thread=2;", "up pick=0 and wear=0;", "", "up ahead;"};
            int[] due = {0, 5, 2, 4, 7, 5, 0};
            is("UP 1", x.then(0, 0), 7);
            for (int i = 0; i < texts.length; i++) {
                is("another text", tell(x, "threads 3;card 5 0 0;lace 0;harm " + i + ";" + texts[i]), 0);
                is("'" + texts[i] + "'", x.then(0, 0), due[i]);
                is("HARM " + i, x.snarl(0, 0), i);
            }
            is("fewer THREADS", tell(x, "threads 2;card 5 0 0;lace 0;up 1;"), 0);
            is("fewer THREADS", x.then(0, 0), 3);
            is("more THREADS", tell(x, "threads 12;card 5 0 0;lace 0;up 1;"), 0);
            is("more THREADS", x.then(0, 0), 4095);
        });
        says("ACTS, what is SEEN, the image are gone (STATUS stays)", () -> {
            PunchCards x = withAll();
            is("a text", tell(x, "threads 3;card 1 0 0;lace 0;"), 0);
            int[] due = {3, 1, 1, 0, 0, 0, 0, 6, 1, 0, 0, 0, 0, 1, 1, 1};
            for (int i = 0; i < 16; i++) {
                is("count(" + i + ")", x.count(i), due[i]);
            }
            is("undo()", x.undo(), NONE);
            is("restore()", x.restore(), false);
            is("nothing SEEN", x.backwards(2), 1);
            is("WEAR", x.card(0, 2), 0);
        });
    }

    /** LOOM with ACTS, something SEEN, an image and a call refused for each STATUS. */
    private static PunchCards withAll() {
        PunchCards x = of(LOOM + "up hole or ahead;harm 7;");
        x.image();
        x.sundays(2);
        x.punch(0, 9);
        x.see(0, 0, 0, false);
        x.sundays(0);
        x.see(0, 0, 21, true);
        tell(x, ";");
        return x;
    }

    private static int[] answers(PunchCards x) {
        return new int[] {x.count(0), x.count(1), x.count(2), x.count(3), x.count(4), x.count(5), x.count(6), x.count(7), x.count(8),
            x.count(9), x.count(10), x.count(11), x.count(14), x.count(15), x.card(0, 0), x.card(0, 2), x.card(1, 1), x.card(2, 2), x.lace(3),
            x.figure(0, 4), x.figure(1, 1), x.then(0, 0), x.then(1, 0), x.then(3, 0), x.snarl(0, 2), x.backwards(2), x.granted(5)};
    }

    private static void same(String when, PunchCards x, int[] due) {
        int[] got = answers(x);
        for (int i = 0; i < due.length; i++) {
            is("answer " + i + " " + when, got[i], due[i]);
        }
    }

    private static void chapelsThatFail() {
        says("or the FAULT (all stays)", () -> {
            PunchCards x = withAll();
            int[] due = answers(x);
            is("a FAULT at the end", tell(x, "threads 12;card 4095 3 3;lace 0;up 0;harm 1;figure 3 3 3 3 3;;"), 1);
            same("behind a FAULT", x, due);
            is("a FAULT at the beginning", tell(x, "8"), 1);
            same("behind another one", x, due);
            is("STATUS 0", x.count(13), 3);
            is("undo() behind a FAULT", x.undo(), 1);
            is("HOLES", x.card(0, 0), 5);
            is("restore() behind a FAULT", x.restore(), true);
            is("the SUNDAY", x.count(4), 0);
        });
        says("IllegalArgumentException: the tape has not so many, n below 0 (nothing changes)", () -> {
            PunchCards x = withAll();
            feed(x, "threads 3;");
            int[] due = answers(x);
            int place = x.fault();
            outside("chapel", IAE, 0, 20, x::chapel);
            same("behind a throw", x, due);
            is("fault()", x.fault(), place);
            is("STATUS 0", x.count(13), 1);
            is("bytes of the tape", x.count(12), 20);
            is("chapel(10)", x.chapel(10), 0);
            outside("chapel of the empty tape", IAE, 0, 0, x::chapel);
            is("chapel(0) of the empty tape", x.chapel(0), 0);
        });
    }

    private static void places() {
        says("The place of the latest chapel()'s FAULT; NONE without", () -> {
            PunchCards x = new PunchCards();
            is("fault() of a new object", x.fault(), NONE);
            is("a text", tell(x, "threads 3;"), 0);
            is("fault()", x.fault(), NONE);
            is("a FAULT", tell(x, "threads 1;"), 2);
            is("fault()", x.fault(), 8);
            is("another one", tell(x, ";"), 1);
            is("fault()", x.fault(), 0);
            x.sundays(1);
            x.sundays(0);
            fails("chapel(-1)", IAE, () -> x.chapel(-1));
            is("fault() stays", x.fault(), 0);
            is("chapel(0)", x.chapel(0), 0);
            is("fault() behind a text", x.fault(), NONE);
        });
        says("STATUS: how many calls were refused: 0 of TEXTS with a FAULT", () -> {
            PunchCards x = new PunchCards();
            is("STATUS 0", x.count(13), 0);
            for (int i = 1; i <= 3; i++) {
                tell(x, ";");
                is("STATUS 0", x.count(13), i);
            }
            tell(x, "threads 3;");
            is("STATUS 0 behind a text", x.count(13), 3);
            fails("chapel(-1)", IAE, () -> x.chapel(-1));
            is("STATUS 0 behind a throw", x.count(13), 3);
            is("STATUS 1", x.count(14), 0);
            is("STATUS 2", x.count(15), 0);
        });
    }
}
