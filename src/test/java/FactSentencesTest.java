/** Promises 8 to 14 and the terms of cells, ways and facts, sentence by sentence. */
public final class FactSentencesTest {
    private static final int LEAST = Integer.MIN_VALUE;
    private static final int MOST = Integer.MAX_VALUE;
    private static final int[] NO_WHAT = {-1, 9, LEAST, MOST};

    /** Rows of water, with land between that is open at one end: from the first cell the way is a snake. */
    private static final String SNAKE = "size 16 15;depth 0 when row%4=1 and column<15 or row%4=3 and column>0;"
            + "depth 20 when all;";

    /** As deep as the column's number. */
    private static final String SLOPE = "size 16 2;depth column when all;";

    private static void kept(ToldTracks x, int ship, int... want) {
        for (int i = 0; i < want.length; i++) {
            Sentences.due("saying(" + ship + ", " + i + ", 4)", x.saying(ship, i, 4), want[i]);
        }
    }

    // ---- cells

    private static void cells() {
        Sentences.sentence(9, "II. A CELL's number: row times columns and column.");
        ToldTracks x = Sentences.told("size 5 3;depth 9 when all;" + Sentences.ship("a", 0, 1, 1, 0)
                + Sentences.says("a", 1, 0, 0, 0) + Sentences.says("a", 2, 4, 0, 0) + Sentences.says("a", 3, 0, 1, 0)
                + Sentences.says("a", 4, 4, 2, 0) + Sentences.seen(0, 3, 2, 1));
        int[] want = {0, 4, 5, 14};
        for (int i = 0; i < 4; i++) {
            Sentences.due("cell " + i, x.saying(0, i, 1), want[i]);
        }
        Sentences.due("of a sighting", x.sighting(0, 1), 13);
        int[][] seas = {{2, 2, 3}, {2, 16, 31}, {16, 2, 31}, {16, 16, 255}, {3, 16, 47}};
        for (int[] s : seas) {
            ToldTracks y = Sentences.told("size " + s[0] + " " + s[1] + ";" + Sentences.seen(0, s[0] - 1, s[1] - 1, 0)
                    + Sentences.seen(0, 0, 1, 0));
            Sentences.due("last", y.sighting(0, 1), s[2]);
            Sentences.due("first of the second row", y.sighting(1, 1), s[0]);
        }

        Sentences.sentence(10, "DEPTH: the SUM of the first depth whose TEST holds, 0 .. 99 (below is 0, above 99; 0 "
                + "without one);");
        x = Sentences.told("size 6 4;depth 97+column when row=0;depth 1-column when row=1;depth 0-50 when column=1 and row=2;"
                + "depth 30 when row=2;");
        int[][] depths = {{97, 98, 99, 99, 99, 99}, {1, 0, 0, 0, 0, 0}, {30, 0, 30, 30, 30, 30}, {0, 0, 0, 0, 0, 0}};
        for (int row = 0; row < 4; row++) {
            for (int column = 0; column < 6; column++) {
                Sentences.due("depth of " + column + " " + row, x.cell(column, row, 0, 0), depths[row][column]);
            }
        }
        Sentences.due("without any", Sentences.told("size 2 2;").cell(0, 0, 0, 0), 0);
        Sentences.due("far above", Sentences.told("size 2 2;depth 9999*9999 when all;").cell(0, 0, 0, 0), 99);
        Sentences.due("far below", Sentences.told("size 2 2;depth 0-9999*9999 when all;").cell(0, 0, 0, 0), 0);
        Sentences.due("the first", Sentences.told("size 2 2;depth 3 when all;depth 4 when all;").cell(0, 0, 0, 0), 3);

        Sentences.sentence(10, "COST likewise.");
        x = Sentences.told("size 6 4;depth 60 when all;cost 97+column when row=0;cost 1-column when row=1;"
                + "cost 0-50 when column=1 and row=2;cost depth+30 when row=2;");
        int[][] costs = {{97, 98, 99, 99, 99, 99}, {1, 0, 0, 0, 0, 0}, {90, 0, 90, 90, 90, 90}, {0, 0, 0, 0, 0, 0}};
        for (int row = 0; row < 4; row++) {
            for (int column = 0; column < 6; column++) {
                Sentences.due("cost of " + column + " " + row, x.cell(column, row, 47, 1), costs[row][column]);
            }
        }
        Sentences.due("without any", Sentences.told("size 2 2;").cell(0, 0, 0, 1), 0);

        Sentences.sentence(10, "It is QUIET in an hour, if the TEST of a quiet holds: nobody hears there then.");
        x = Sentences.told("size 6 4;depth 60 when column>2;quiet when hour=0 and depth=60;quiet when hour=47 and row=3;");
        Sentences.due("first", x.cell(3, 0, 0, 2), 1);
        Sentences.due("not so deep", x.cell(2, 0, 0, 2), 0);
        Sentences.due("second", x.cell(2, 3, 47, 2), 1);
        Sentences.due("another row", x.cell(2, 2, 47, 2), 0);
        Sentences.due("another hour", x.cell(3, 0, 1, 2), 0);
        Sentences.due("another hour", x.cell(2, 3, 46, 2), 0);
        Sentences.due("without any", Sentences.told("size 2 2;").cell(0, 0, 0, 2), 0);
        // Asked twice, all along the rows, in hours that lie side by side.
        x = Sentences.told("size 16 16;quiet when (row*16+column+hour*5)%7=3;");
        for (int turn = 0; turn < 2; turn++) {
            for (int hour = 20; hour < 23; hour++) {
                for (int cell = 7; cell < 256; cell += 8) {
                    Sentences.due("quiet " + cell, x.cell(cell % 16, cell / 16, hour, 2), (cell + hour * 5) % 7 == 3 ? 1 : 0);
                }
            }
        }
        Sentences.due("not all of the last", Sentences.told("size 2 2;quiet when all;quiet when not all;").cell(0, 0, 0, 2), 1);
    }

    private static void cell() {
        ToldTracks x = Sentences.told("size 5 3;depth 11 when all;cost 12 when all;quiet when hour=47;");
        Sentences.sentence(10, "Of a CELL in an hour: 0 DEPTH, 1 COST, 2 whether it is QUIET.");
        int[][] asked = {{0, 0, 0}, {4, 2, 47}, {4, 0, 46}, {0, 2, 1}};
        for (int[] a : asked) {
            Sentences.due("depth", x.cell(a[0], a[1], a[2], 0), 11);
            Sentences.due("cost", x.cell(a[0], a[1], a[2], 1), 12);
            Sentences.due("quiet", x.cell(a[0], a[1], a[2], 2), a[2] == 47 ? 1 : 0);
        }

        Sentences.sentence(10, "NONE if there is none such, or for others.");
        int[][] none = {{5, 0, 0}, {-1, 0, 0}, {0, 3, 0}, {0, -1, 0}, {0, 0, 48}, {0, 0, -1}, {MOST, 0, 0}, {LEAST, 0, 0},
            {0, MOST, 0}, {0, LEAST, 0}, {0, 0, MOST}, {0, 0, LEAST}, {16, 0, 0}, {0, 16, 0}, {4, -1, 0}};
        for (int[] a : none) {
            for (int w = 0; w < 3; w++) {
                Sentences.due("cell " + a[0] + " " + a[1] + " " + a[2] + " " + w, x.cell(a[0], a[1], a[2], w), -1);
            }
        }
        int[] others = {3, -1, LEAST, MOST};
        for (int w : others) {
            Sentences.due("what " + w, x.cell(0, 0, 0, w), -1);
        }
        Sentences.due("of no sea", new ToldTracks().cell(0, 0, 0, 0), -1);
    }

    // ---- ways

    private static void far() {
        Sentences.sentence(11, "WATER of a SHIP: CELLS with its DRAFT or more.");
        ToldTracks x = Sentences.told(SLOPE + Sentences.ship("a", 0, 1, 5, 9) + Sentences.ship("b", 0, 1, 1, 0)
                + Sentences.ship("c", 0, 1, 15, 0) + Sentences.ship("d", 0, 1, 16, 0));
        int[] least = {5, 1, 15, 16};
        for (int s = 0; s < 4; s++) {
            Sentences.due("cells of " + s, x.reach(s, 0, -1), 2 * (16 - least[s]));
            for (int column = 0; column < 16; column++) {
                Sentences.due("may " + s + " " + column, x.may(s, 0, column, 1), column >= least[s] ? 1 : 0);
            }
        }
        x = Sentences.told("size 2 2;depth 39+column when all;" + Sentences.ship("a", 0, 1, 40, 0));
        Sentences.due("39", x.may(0, 0, 0, 0), 0);
        Sentences.due("40", x.may(0, 0, 1, 0), 1);
        for (int row = 0; row < 16; row++) {
            x = Sentences.told("size 16 16;depth 9 when row=" + row + ";" + Sentences.OWL);
            Sentences.due("water of row " + row + " alone", x.reach(0, 0, -1), 16);
            Sentences.due("along row " + row, x.far(0, 0, row, 15, row), 15);
            Sentences.due("off row " + row, x.far(0, 0, row, 0, row == 0 ? 8 : row - 1), -1);
            Sentences.due("to row " + row, x.far(0, 0, (row + 8) % 16, 0, row), -1);
        }

        Sentences.sentence(11, "FAR for a SHIP from CELL to CELL: the fewest steps side by side (four) over its WATER / "
                + "SPEED, rounded up: so many hours;");
        StringBuilder four = new StringBuilder("size 16 16;depth 9 when all;");
        for (int s = 0; s < 4; s++) {
            four.append(Sentences.ship("" + (char) ('a' + s), 0, s + 1, 9, 0));
        }
        x = Sentences.told(four.toString());
        int[][] steps = {{0, 0, 0}, {1, 0, 1}, {0, 1, 1}, {1, 1, 2}, {2, 1, 3}, {2, 2, 4}, {5, 0, 5}, {0, 15, 15}, {15, 0, 15},
            {15, 15, 30}, {3, 4, 7}, {15, 14, 29}};
        for (int[] way : steps) {
            for (int s = 0; s < 4; s++) {
                int hours = (way[2] + s) / (s + 1);
                Sentences.due("far " + s + " to " + way[0] + " " + way[1], x.far(s, 0, 0, way[0], way[1]), hours);
                Sentences.due("far " + s + " from " + way[0] + " " + way[1], x.far(s, way[0], way[1], 0, 0), hours);
            }
        }
        Sentences.due("not round the edge", x.far(0, 15, 3, 0, 4), 16);
        Sentences.due("nor so", x.far(0, 15, 3, 0, 3), 15);
        x = Sentences.told(SNAKE + Sentences.OWL + Sentences.ship("fast", 0, 4, 5, 0));
        Sentences.due("round the land", x.far(0, 0, 0, 0, 2), 32);
        Sentences.due("hours of a day and more", x.far(0, 0, 0, 14, 4), 48);
        Sentences.due("the longest", x.far(0, 0, 0, 15, 14), 119);
        Sentences.due("the longest, back", x.far(0, 15, 14, 0, 0), 119);
        Sentences.due("the longest, fast", x.far(1, 0, 0, 15, 14), 30);

        Sentences.sentence(11, "none, if one of both is not its WATER, or there is no way.");
        x = Sentences.told("size 7 3;depth 4 when column=3;depth 5 when all;" + Sentences.OWL + Sentences.ship("b", 0, 4, 4, 0));
        Sentences.due("from no water", x.far(0, 3, 0, 2, 0), -1);
        Sentences.due("to no water", x.far(0, 2, 0, 3, 0), -1);
        Sentences.due("no water to itself", x.far(0, 3, 1, 3, 1), -1);
        Sentences.due("no way", x.far(0, 2, 0, 4, 0), -1);
        Sentences.due("no way by the next column", x.far(0, 2, 1, 4, 2), -1);
        Sentences.due("for one of less draft", x.far(1, 2, 0, 4, 0), 1);
        Sentences.due("no way slantwise", Sentences.told("size 2 2;depth 5 when column=row;" + Sentences.OWL)
                .far(0, 0, 0, 1, 1), -1);

        Sentences.sentence(11, "FAR, in hours; NONE without, or if something can't be.");
        Sentences.due("far", x.far(0, 0, 0, 2, 2), 4);
        Sentences.due("without", x.far(0, 0, 0, 6, 2), -1);
        int[][] never = {{2, 0, 0, 1, 1}, {-1, 0, 0, 1, 1}, {0, 7, 0, 1, 1}, {0, -1, 0, 1, 1}, {0, 0, 3, 1, 1}, {0, 0, -1, 1, 1},
            {0, 0, 0, 7, 1}, {0, 0, 0, -1, 1}, {0, 0, 0, 1, 3}, {0, 0, 0, 1, -1}, {MOST, 0, 0, 1, 1}, {LEAST, 0, 0, 1, 1},
            {0, MOST, 0, 1, 1}, {0, 0, LEAST, 1, 1}, {0, 0, 0, LEAST, 1}, {0, 0, 0, 1, MOST}, {8, 0, 0, 1, 1}};
        for (int[] a : never) {
            Sentences.due("far " + a[0] + " " + a[1] + " " + a[2] + " " + a[3] + " " + a[4],
                    x.far(a[0], a[1], a[2], a[3], a[4]), -1);
        }
    }

    // ---- sayings and facts

    private static void sayings() {
        Sentences.sentence(9, "SAYINGS of a SHIP are numbered by hours, from 0 on.");
        ToldTracks x = Sentences.told(Sentences.FLAT + Sentences.OWL + Sentences.KITE + Sentences.says("owl", 47, 1, 0, 0)
                + Sentences.says("kite", 30, 5, 3, 0) + Sentences.says("owl", 0, 2, 0, 0) + Sentences.says("owl", 20, 3, 0, 0));
        int[] hours = {0, 20, 47};
        for (int i = 0; i < 3; i++) {
            Sentences.due("hour " + i, x.saying(0, i, 0), hours[i]);
        }
        x.add(0, 19, 4, 0, false);
        Sentences.due("hour 1", x.saying(0, 1, 0), 19);
        Sentences.due("hour 2", x.saying(0, 2, 0), 20);
        x.drop(0, 0);
        Sentences.due("hour 0", x.saying(0, 0, 0), 19);
        Sentences.due("of another", x.saying(1, 0, 0), 30);

        Sentences.sentence(9, "FACTS of a SHIP: that it was on a CELL in an hour: SAYINGS, and each hour of its BOOKS.");
        x = Sentences.told(Sentences.FLAT + Sentences.OWL + Sentences.book("owl", 3, 1, 10, 12));
        int[] reach = {5, 1, 1, 1, 5};
        for (int k = 0; k < 5; k++) {
            Sentences.due("hour " + (9 + k), x.reach(0, 9 + k, -1), reach[k]);
        }
        x.add(0, 20, 0, 0, false);
        Sentences.due("of a saying", x.reach(0, 20, -1), 1);
        Sentences.due("beside a saying", x.reach(0, 21, -1), 3);
        for (int hour = 10; hour < 13; hour++) {
            int i = x.add(0, hour, 2, 1, false);
            Sentences.due("against an hour of a book", x.saying(0, i, 4), 0);
            x.drop(0, i);
            i = x.add(0, hour, 3, 1, false);
            Sentences.due("with an hour of a book", x.saying(0, i, 4), 1);
            x.drop(0, i);
        }
        Sentences.due("behind the book", x.saying(0, x.add(0, 13, 2, 1, false), 4), 1);

        Sentences.sentence(9, "A SAYING is SOUND, if the CELL is WATER (if LADEN: has DRAFT and LOAD or more).");
        x = Sentences.told(SLOPE + Sentences.OWL);
        for (int column = 0; column < 16; column++) {
            x.add(0, 2 * column, column, 0, false);
            x.add(0, 2 * column + 1, column, 0, true);
        }
        for (int column = 0; column < 16; column++) {
            Sentences.due("column " + column, x.saying(0, 2 * column, 3), column >= 5 ? 1 : 0);
            Sentences.due("laden, column " + column, x.saying(0, 2 * column + 1, 3), column >= 8 ? 1 : 0);
        }
        x = Sentences.told("size 2 2;depth 79+column when all;" + Sentences.ship("a", 0, 1, 40, 40)
                + Sentences.says("a", 0, 0, 0, 1) + Sentences.says("a", 1, 1, 0, 1) + Sentences.says("a", 2, 0, 0, 0));
        int[] sound = {0, 1, 1};
        for (int i = 0; i < 3; i++) {
            Sentences.due("most draft and load " + i, x.saying(0, i, 3), sound[i]);
        }
    }

    private static void together() {
        Sentences.sentence(12, "Two FACTS go TOGETHER, if FAR from the one to the other is no more hours than lie between them");
        ToldTracks x = Sentences.told(Sentences.FLAT + Sentences.KITE + Sentences.says("kite", 10, 0, 0, 0)
                + Sentences.says("kite", 12, 5, 0, 0) + Sentences.says("kite", 13, 5, 0, 0) + Sentences.says("kite", 14, 5, 3, 0)
                + Sentences.says("kite", 15, 5, 3, 0));
        int[][] want = {{0, 1, 0}, {0, 2, 1}, {0, 3, 1}, {1, 3, 1}, {2, 3, 0}, {2, 4, 1}, {1, 2, 1}, {3, 4, 1}};
        for (int[] w : want) {
            Sentences.due("can " + w[0] + " " + w[1], x.can(0, w[0], w[1]), w[2]);
            Sentences.due("can " + w[1] + " " + w[0], x.can(0, w[1], w[0]), w[2]);
        }
        x = Sentences.told(SNAKE + Sentences.OWL + Sentences.says("owl", 0, 0, 0, 0) + Sentences.says("owl", 47, 13, 4, 0));
        Sentences.due("47 in 47 hours", x.can(0, 0, 1), 1);
        x.drop(0, 1);
        x.add(0, 47, 14, 4, false);
        Sentences.due("48 in 47 hours", x.can(0, 0, 1), 0);
        x = Sentences.told("size 7 3;depth 4 when column=3;depth 5 when all;" + Sentences.OWL + Sentences.says("owl", 0, 2, 0, 0)
                + Sentences.says("owl", 40, 4, 0, 0) + Sentences.says("owl", 41, 3, 0, 0) + Sentences.says("owl", 42, 3, 0, 0));
        Sentences.due("no way", x.can(0, 0, 1), 0);
        Sentences.due("no water", x.can(0, 1, 2), 0);
        Sentences.due("no water twice", x.can(0, 2, 3), 0);
        // Too heavy for the place, but that is a matter of each alone.
        x = Sentences.told(Sentences.FLAT + Sentences.ship("a", 0, 1, 20, 1) + Sentences.says("a", 0, 0, 0, 1)
                + Sentences.says("a", 1, 1, 0, 1));
        Sentences.due("not sound, together", x.can(0, 0, 1), 1);
        Sentences.due("not sound", x.saying(0, 0, 3), 0);

        Sentences.sentence(9, "(in one hour: the same CELL).");
        x = Sentences.told(Sentences.FLAT + Sentences.KITE + Sentences.book("kite", 2, 2, 5, 6));
        x.add(0, 5, 2, 2, true);
        x.add(0, 6, 2, 2, false);
        kept(x, 0, 1, 1);
        x.drop(0, 1);
        x.drop(0, 0);
        x.add(0, 5, 2, 1, true);
        x.add(0, 6, 3, 2, false);
        kept(x, 0, 0, 0);
        Sentences.due("books in one hour, one cell", Sentences.told(Sentences.FLAT + Sentences.KITE
                + Sentences.book("kite", 2, 2, 5, 6) + Sentences.book("kite", 2, 2, 6, 9)).ship(0, 8), 1);
        Sentences.due("books in one hour, two cells", Sentences.told(Sentences.FLAT + Sentences.KITE
                + Sentences.book("kite", 2, 2, 5, 6) + Sentences.book("kite", 2, 1, 6, 9)).ship(0, 8), 0);
        Sentences.due("another's name in one hour, one cell", Sentences.told(Sentences.FLAT + Sentences.KITE + Sentences.OWL
                + Sentences.says("owl", 5, 1, 1, 1) + Sentences.says("kite", 5, 1, 1, 0)).who(0), 2);
        Sentences.due("another's name in one hour, two cells", Sentences.told(Sentences.FLAT + Sentences.KITE + Sentences.OWL
                + Sentences.says("owl", 5, 1, 1, 1) + Sentences.says("kite", 5, 2, 1, 0)).who(0), 0);
    }

    private static void fit() {
        Sentences.sentence(8, "FACTS FIT, if each SAYING of them is SOUND, and all twos go TOGETHER (a BOOK alone must be on "
                + "WATER).");
        ToldTracks x = Sentences.told(SLOPE + Sentences.OWL + Sentences.says("owl", 0, 7, 0, 1) + Sentences.says("owl", 1, 8, 0, 1)
                + Sentences.says("owl", 9, 8, 1, 0));
        Sentences.due("one is not sound", x.judge(0, 0) + x.judge(0, 1), 0);
        kept(x, 0, 0, 1, 1);
        x.drop(0, 0);
        Sentences.due("all fit", x.ship(0, 5), 2);
        x.add(0, 11, 10, 1, false);
        Sentences.due("two steps in two hours", x.ship(0, 6), 0);
        x.add(0, 12, 12, 1, false);
        Sentences.due("two that do not go together", x.ship(0, 6), 1);
        int[] columns = {4, 5, 15};
        int[] fits = {0, 1, 1};
        for (int k = 0; k < 3; k++) {
            x = Sentences.told(SLOPE + Sentences.OWL + Sentences.book("owl", columns[k], 0, 7, 7));
            Sentences.due("a book alone, column " + columns[k], x.ship(0, 8), fits[k]);
            x = Sentences.told(SLOPE + Sentences.OWL + Sentences.book("owl", columns[k], 0, 7, 9)
                    + Sentences.says("owl", 20, 9, 0, 0));
            Sentences.due("with a saying, column " + columns[k], x.ship(0, 5), fits[k]);
        }
        x = Sentences.told(SLOPE + Sentences.OWL + Sentences.book("owl", 9, 0, 7, 9) + Sentences.book("owl", 12, 0, 12, 12));
        Sentences.due("two books, three hours", x.ship(0, 8), 1);
        x = Sentences.told(SLOPE + Sentences.OWL + Sentences.book("owl", 12, 0, 11, 12) + Sentences.book("owl", 9, 0, 7, 9));
        Sentences.due("two books, two hours", x.ship(0, 8), 0);
        x = Sentences.told(SLOPE + Sentences.OWL + Sentences.book("owl", 9, 0, 0, 20) + Sentences.book("owl", 8, 0, 10, 10));
        Sentences.due("a book within a book", x.ship(0, 8), 0);
    }

    private static void keep() {
        Sentences.sentence(8, "KEPT: the most SAYINGS that FIT with all BOOKS of the SHIP;");
        ToldTracks x = Sentences.told(Sentences.FLAT + Sentences.OWL + Sentences.says("owl", 0, 0, 0, 0)
                + Sentences.says("owl", 1, 5, 0, 0) + Sentences.says("owl", 2, 4, 0, 0) + Sentences.says("owl", 3, 3, 0, 0));
        kept(x, 0, 0, 1, 1, 1);
        x = Sentences.told(Sentences.FLAT + Sentences.OWL + Sentences.says("owl", 0, 0, 0, 0) + Sentences.says("owl", 1, 1, 0, 0)
                + Sentences.says("owl", 2, 2, 0, 0) + Sentences.says("owl", 3, 5, 3, 0) + Sentences.book("owl", 5, 3, 4, 4));
        Sentences.due("a book counts more than many", x.ship(0, 5), 1);
        kept(x, 0, 0, 0, 0, 1);
        x = Sentences.told(Sentences.FLAT + Sentences.OWL + Sentences.says("owl", 4, 5, 3, 0));
        Sentences.due("one", x.ship(0, 5), 1);
        Sentences.due("of none", Sentences.told(Sentences.FLAT + Sentences.OWL).ship(0, 5), 0);
        x = Sentences.told(SLOPE + Sentences.OWL + Sentences.says("owl", 0, 4, 0, 0) + Sentences.says("owl", 9, 7, 0, 1));
        Sentences.due("none is sound", x.ship(0, 5), 0);
        x = Sentences.told(Sentences.FLAT + Sentences.OWL);
        for (int hour = 0; hour < 48; hour++) {
            x.add(0, hour, 5, 3, hour % 2 == 0);
        }
        Sentences.due("all 48", x.ship(0, 5), 48);
        Sentences.due("all 48", x.ship(0, 6), 0);

        Sentences.sentence(9, "of like sets that which has the earliest SAYING by which two differ.");
        x = Sentences.told(Sentences.FLAT + Sentences.OWL + Sentences.says("owl", 0, 0, 0, 0) + Sentences.says("owl", 1, 5, 0, 0));
        kept(x, 0, 1, 0);
        x = Sentences.told(Sentences.FLAT + Sentences.OWL + Sentences.says("owl", 0, 0, 0, 0) + Sentences.says("owl", 1, 5, 0, 0)
                + Sentences.says("owl", 2, 1, 0, 0) + Sentences.says("owl", 3, 4, 1, 0));
        kept(x, 0, 1, 0, 1, 0);
        x = Sentences.told(Sentences.FLAT + Sentences.OWL + Sentences.says("owl", 0, 3, 0, 0) + Sentences.says("owl", 1, 2, 0, 0)
                + Sentences.says("owl", 2, 3, 0, 0) + Sentences.says("owl", 3, 5, 0, 0) + Sentences.says("owl", 4, 1, 0, 0));
        kept(x, 0, 1, 1, 1, 0, 1);
        x = Sentences.told(Sentences.FLAT + Sentences.OWL);
        for (int hour = 0; hour < 48; hour++) {
            x.add(0, hour, hour % 2 == 0 ? 0 : 5, 0, false);
        }
        Sentences.due("half of 48", x.ship(0, 5), 24);
        kept(x, 0, 1, 0, 1, 0, 1, 0, 1, 0);
        Sentences.due("the last", x.saying(0, 47, 4), 0);
        Sentences.due("the last but one", x.saying(0, 46, 4), 1);

        Sentences.sentence(8, "LIES: the other SAYINGS.");
        Sentences.due("lies", x.ship(0, 6), 24);
        Sentences.due("together", x.ship(0, 5) + x.ship(0, 6), x.ship(0, 4));
        x.drop(0, 47);
        Sentences.due("lies", x.ship(0, 6), 23);
        Sentences.due("of none", Sentences.told(Sentences.FLAT + Sentences.OWL).ship(0, 6), 0);

        Sentences.sentence(8, "If BOOKS alone do not FIT, nothing is KEPT, and all are LIES.");
        x = Sentences.told(Sentences.FLAT + Sentences.OWL + Sentences.book("owl", 0, 0, 5, 5) + Sentences.book("owl", 1, 0, 5, 5)
                + Sentences.says("owl", 30, 0, 0, 0) + Sentences.says("owl", 40, 0, 0, 0));
        Sentences.due("kept", x.ship(0, 5), 0);
        Sentences.due("lies", x.ship(0, 6), 2);
        kept(x, 0, 0, 0);
    }

    private static void may() {
        Sentences.sentence(14, "A SHIP MAY be on a CELL in an hour, if that FITS with what is KEPT and all its BOOKS");
        ToldTracks x = Sentences.told(Sentences.FLAT + Sentences.OWL + Sentences.says("owl", 10, 0, 0, 0)
                + Sentences.says("owl", 11, 5, 3, 0) + Sentences.says("owl", 14, 2, 0, 0) + Sentences.book("owl", 2, 2, 17, 18));
        Sentences.due("a lie does not bind", x.may(0, 11, 5, 3), 0);
        Sentences.due("as far as one hour", x.may(0, 11, 1, 0), 1);
        Sentences.due("as far as one hour", x.may(0, 11, 0, 1), 1);
        Sentences.due("not as far as two", x.may(0, 11, 2, 0), 0);
        Sentences.due("back in time", x.may(0, 12, 0, 2), 0);
        Sentences.due("back in time", x.may(0, 12, 1, 1), 1);
        Sentences.due("there", x.may(0, 14, 2, 0), 1);
        Sentences.due("nowhere else", x.may(0, 14, 2, 1), 0);
        Sentences.due("ahead of all", x.may(0, 8, 2, 0), 1);
        Sentences.due("ahead of all", x.may(0, 8, 2, 1), 0);
        Sentences.due("by the book", x.may(0, 16, 2, 1), 1);
        Sentences.due("too far from the book", x.may(0, 16, 3, 0), 0);
        Sentences.due("too far from the saying", x.may(0, 16, 2, 3), 0);
        Sentences.due("in the book", x.may(0, 18, 2, 2), 1);
        Sentences.due("in the book", x.may(0, 18, 2, 1), 0);
        Sentences.due("behind all", x.may(0, 19, 3, 2), 1);
        Sentences.due("behind all", x.may(0, 19, 4, 2), 0);
        Sentences.due("far behind all", x.may(0, 47, 0, 0), 1);
        Sentences.due("without facts", Sentences.told(Sentences.FLAT + Sentences.OWL).reach(0, 0, -1), 24);
        x = Sentences.told(Sentences.FLAT + Sentences.OWL + Sentences.says("owl", 1, 0, 0, 0) + Sentences.says("owl", 46, 5, 3, 0));
        Sentences.due("in the first hour", x.reach(0, 0, -1), 3);
        Sentences.due("in the last hour", x.reach(0, 47, -1), 3);
        x = Sentences.told(Sentences.FLAT + Sentences.OWL + Sentences.says("owl", 0, 0, 0, 0) + Sentences.says("owl", 47, 5, 3, 0));
        Sentences.due("behind the first hour", x.reach(0, 1, -1), 3);
        Sentences.due("ahead of the last hour", x.reach(0, 46, -1), 3);

        Sentences.sentence(14, "(as a FACT of WATER; nowhere, if BOOKS alone do not FIT).");
        x = Sentences.told("size 16 2;depth 9-row when column<15;" + Sentences.ship("a", 0, 1, 8, 1)
                + Sentences.says("a", 4, 0, 0, 1) + Sentences.says("a", 6, 0, 0, 1));
        Sentences.due("water for the draft alone", x.may(0, 5, 0, 1), 1);
        Sentences.due("no water", x.may(0, 47, 15, 0), 0);
        x = Sentences.told(Sentences.FLAT + Sentences.OWL + Sentences.KITE + Sentences.says("owl", 4, 0, 0, 0)
                + Sentences.book("owl", 0, 0, 5, 5) + Sentences.book("owl", 1, 0, 5, 5));
        int[] hours = {0, 4, 5, 47};
        for (int hour : hours) {
            Sentences.due("nowhere", x.may(0, hour, 0, 0), 0);
            Sentences.due("nowhere", x.reach(0, hour, -1), 0);
            Sentences.due("another", x.reach(1, hour, -1), 24);
        }

        Sentences.sentence(14, "An hour without a SAYING of a SHIP is HONEST, if it MAY be on a CELL that is QUIET then.");
        // In hour 5 quiet at (2, 0), in hour 6 at (0, 1): one is too far, one is not.
        x = Sentences.told(Sentences.FLAT + "quiet when hour=5 and column=2 and row=0;quiet when hour=6 and column=0 and row=1;"
                + Sentences.OWL + Sentences.says("owl", 4, 0, 0, 0) + Sentences.says("owl", 7, 0, 0, 0));
        Sentences.due("gaps", x.gaps(0, 1), 1);
        x.add(0, 6, 1, 0, false);
        Sentences.due("gaps", x.gaps(0, 1), 1);
        // Any one cell of the sea is enough.
        int[] cells = {0, 1, 15, 62, 63, 64, 65, 127, 128, 191, 192, 193, 254, 255};
        for (int cell : cells) {
            String quiet = "size 16 16;depth 9 when all;quiet when row*16+column=" + cell + ";" + Sentences.ship("owl", 1, 4, 5, 3);
            x = Sentences.told(quiet + Sentences.says("owl", 4, 0, 0, 0) + Sentences.says("owl", 20, 0, 0, 0));
            int far = (cell % 16 + cell / 16 + 3) / 4;
            Sentences.due("cell " + cell, x.gaps(0, 1), far < 2 ? 0 : 2 * (far - 1));
        }
        x = Sentences.told("size 6 4;depth 20 when row=0;quiet when row=1;quiet when hour=6;" + Sentences.OWL
                + Sentences.says("owl", 4, 0, 0, 0) + Sentences.says("owl", 7, 0, 0, 0));
        Sentences.due("quiet land", x.gaps(0, 1), 1);
        x = Sentences.told(Sentences.FLAT + "quiet when all;" + Sentences.OWL + Sentences.says("owl", 4, 0, 0, 0)
                + Sentences.says("owl", 7, 0, 0, 0) + Sentences.book("owl", 0, 0, 5, 5) + Sentences.book("owl", 1, 0, 5, 5));
        Sentences.due("nowhere", x.gaps(0, 1), 2);
        x = Sentences.told(Sentences.FLAT + "quiet when column=5 and row=3;" + Sentences.OWL + Sentences.says("owl", 4, 0, 0, 0)
                + Sentences.says("owl", 30, 0, 0, 0) + Sentences.book("owl", 5, 3, 15, 16));
        // From (0, 0) to (5, 3) it is 8: there from hour 12 on until hour 22.
        Sentences.due("by a book, too", x.gaps(0, 1), 25 - 11);
    }

    // ---- what is asked

    private static void ship() {
        Sentences.sentence(8, "Of a SHIP: 0 LOOK, 1 SPEED, 2 DRAFT, 3 LOAD, 4 how many SAYINGS, 5 KEPT, 6 LIES, 7 BOOKS, "
                + "8 whether BOOKS alone FIT.");
        ToldTracks x = Sentences.told(Sentences.FLAT + Sentences.ship("a", 0, 1, 1, 0) + Sentences.ship("b", 3, 4, 40, 40)
                + Sentences.ship("c", 2, 3, 20, 7) + Sentences.says("c", 9, 1, 0, 0) + Sentences.says("c", 5, 0, 0, 0)
                + Sentences.says("c", 6, 5, 3, 1) + Sentences.book("c", 0, 0, 7, 7) + Sentences.book("c", 0, 0, 8, 8)
                + Sentences.book("b", 0, 0, 7, 7));
        int[][] want = {{0, 1, 1, 0, 0, 0, 0, 0, 1}, {3, 4, 40, 40, 0, 0, 0, 1, 0}, {2, 3, 20, 7, 3, 2, 1, 2, 1}};
        for (int s = 0; s < 3; s++) {
            for (int w = 0; w < 9; w++) {
                Sentences.due("ship " + s + " " + w, x.ship(s, w), want[s][w]);
            }
        }

        Sentences.sentence(8, "NONE if there is none such, or for others.");
        for (int w : NO_WHAT) {
            Sentences.due("what " + w, x.ship(0, w), -1);
        }
        int[] ships = {3, 7, 8, -1, LEAST, MOST};
        for (int s : ships) {
            for (int w = 0; w < 9; w++) {
                Sentences.due("ship " + s + " " + w, x.ship(s, w), -1);
            }
        }
    }

    private static void saying() {
        Sentences.sentence(9, "Of SAYING i of a SHIP: 0 the hour, 1 the CELL, 2 LADEN, 3 whether it is SOUND, 4 KEPT.");
        ToldTracks x = Sentences.told(SLOPE + Sentences.KITE + Sentences.OWL + Sentences.says("owl", 47, 15, 1, 1)
                + Sentences.says("owl", 0, 0, 0, 0) + Sentences.says("owl", 46, 7, 0, 1) + Sentences.says("owl", 40, 5, 0, 0));
        int[][] want = {{0, 0, 0, 0, 0}, {40, 5, 0, 1, 1}, {46, 7, 1, 0, 0}, {47, 31, 1, 1, 0}};
        for (int i = 0; i < 4; i++) {
            for (int w = 0; w < 5; w++) {
                Sentences.due("saying " + i + " " + w, x.saying(1, i, w), want[i][w]);
            }
        }

        Sentences.sentence(9, "NONE if there is none such, or for others.");
        int[][] none = {{1, 4}, {1, -1}, {1, 48}, {1, LEAST}, {1, MOST}, {0, 0}, {2, 0}, {-1, 0}, {8, 0}, {LEAST, 0}, {MOST, 0}};
        for (int[] a : none) {
            for (int w = 0; w < 5; w++) {
                Sentences.due("saying " + a[0] + " " + a[1] + " " + w, x.saying(a[0], a[1], w), -1);
            }
        }
        int[] others = {5, -1, LEAST, MOST};
        for (int w : others) {
            Sentences.due("what " + w, x.saying(1, 0, w), -1);
        }
        x.drop(1, 3);
        Sentences.due("one that went", x.saying(1, 3, 0), -1);
    }

    private static void can() {
        Sentences.sentence(12, "Whether SAYINGS i and j of a SHIP go TOGETHER: 1, 0;");
        ToldTracks x = Sentences.told(Sentences.FLAT + Sentences.OWL + Sentences.KITE + Sentences.says("owl", 3, 0, 0, 0)
                + Sentences.says("owl", 4, 1, 0, 0) + Sentences.says("owl", 5, 3, 0, 0));
        int[][] want = {{-1, 1, 0}, {1, -1, 0}, {0, 0, -1}};
        for (int i = 0; i < 3; i++) {
            for (int j = 0; j < 3; j++) {
                if (i != j) {
                    Sentences.due("can " + i + " " + j, x.can(0, i, j), want[i][j]);
                }
            }
        }

        Sentences.sentence(12, "NONE if there are none such (unlike ones).");
        for (int i = 0; i < 3; i++) {
            Sentences.due("alike " + i, x.can(0, i, i), -1);
        }
        int[][] none = {{0, 0, 3}, {0, 3, 0}, {0, -1, 0}, {0, 0, -1}, {0, 3, 4}, {1, 0, 1}, {2, 0, 1}, {-1, 0, 1}, {0, MOST, 0},
            {0, 0, LEAST}, {LEAST, 0, 1}, {MOST, 0, 1}, {0, 47, 48}};
        for (int[] a : none) {
            Sentences.due("can " + a[0] + " " + a[1] + " " + a[2], x.can(a[0], a[1], a[2]), -1);
        }
    }

    private static void reach() {
        Sentences.sentence(13, "How many CELLS a SHIP MAY be on in an hour (k NONE), or the k-th of them by number;");
        ToldTracks x = Sentences.told("size 6 4;depth 0 when row=1;depth 20 when all;" + Sentences.OWL
                + Sentences.says("owl", 10, 3, 2, 0) + Sentences.book("owl", 3, 2, 12, 13));
        Sentences.due("one", x.reach(0, 10, -1), 1);
        Sentences.due("which", x.reach(0, 10, 0), 15);
        Sentences.due("some", x.reach(0, 11, -1), 4);
        int[] want = {14, 15, 16, 21};
        for (int k = 0; k < 4; k++) {
            Sentences.due("cell " + k, x.reach(0, 11, k), want[k]);
        }
        Sentences.due("all of this side", x.reach(0, 47, -1), 12);
        Sentences.due("the first", x.reach(0, 47, 0), 12);
        Sentences.due("the last", x.reach(0, 47, 11), 23);
        ToldTracks y = Sentences.told("size 16 16;depth 9 when all;" + Sentences.ship("a", 0, 1, 9, 0));
        Sentences.due("all there are", y.reach(0, 0, -1), 256);
        Sentences.due("the first", y.reach(0, 0, 0), 0);
        Sentences.due("one of them", y.reach(0, 47, 77), 77);
        Sentences.due("the last", y.reach(0, 47, 255), 255);
        ToldTracks z = Sentences.told("size 6 4;" + Sentences.OWL);
        Sentences.due("none", z.reach(0, 0, -1), 0);

        Sentences.sentence(13, "NONE if there is none such.");
        Sentences.due("behind one", x.reach(0, 10, 1), -1);
        Sentences.due("behind some", x.reach(0, 11, 4), -1);
        Sentences.due("behind all", y.reach(0, 0, 256), -1);
        Sentences.due("of none", z.reach(0, 0, 0), -1);
        int[][] none = {{0, 11, -2}, {0, 11, LEAST}, {0, 11, MOST}, {0, 48, -1}, {0, -1, -1}, {0, 48, 0}, {0, LEAST, 0},
            {0, MOST, -1}, {1, 11, -1}, {-1, 11, -1}, {8, 11, 0}, {LEAST, 11, -1}, {MOST, 11, -1}};
        for (int[] a : none) {
            Sentences.due("reach " + a[0] + " " + a[1] + " " + a[2], x.reach(a[0], a[1], a[2]), -1);
        }
    }

    private static void mayBe() {
        Sentences.sentence(14, "Whether a SHIP MAY be on a CELL in an hour: 1, 0;");
        ToldTracks x = Sentences.told(Sentences.FLAT + Sentences.OWL + Sentences.says("owl", 10, 3, 2, 0));
        for (int row = 0; row < 4; row++) {
            for (int column = 0; column < 6; column++) {
                int steps = Math.abs(column - 3) + Math.abs(row - 2);
                for (int hours = 0; hours < 4; hours++) {
                    int want = steps <= hours ? 1 : 0;
                    Sentences.due("may", x.may(0, 10 + hours, column, row), want);
                    Sentences.due("may", x.may(0, 10 - hours, column, row), want);
                }
            }
        }

        Sentences.sentence(14, "NONE if there is none such.");
        int[][] none = {{1, 0, 0, 0}, {-1, 0, 0, 0}, {8, 0, 0, 0}, {LEAST, 0, 0, 0}, {MOST, 0, 0, 0}, {0, 48, 0, 0}, {0, -1, 0, 0},
            {0, LEAST, 0, 0}, {0, MOST, 0, 0}, {0, 0, 6, 0}, {0, 0, -1, 0}, {0, 0, MOST, 0}, {0, 0, 0, 4}, {0, 0, 0, -1},
            {0, 0, 0, LEAST}, {0, 0, 16, 0}, {0, 0, 0, 16}};
        for (int[] a : none) {
            Sentences.due("may " + a[0] + " " + a[1] + " " + a[2] + " " + a[3], x.may(a[0], a[1], a[2], a[3]), -1);
        }
    }

    public static void main(String[] args) {
        cells();
        cell();
        far();
        sayings();
        together();
        fit();
        keep();
        may();
        ship();
        saying();
        can();
        reach();
        mayBe();
        Sentences.done(8, 14, "II. A CELL's number", "III. TALES of a SHIP");
    }
}
