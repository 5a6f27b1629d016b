/** Promises 23 to 33: who met, what was seen, gaps, looks and clocks, sentence by sentence. */
public final class MetSentencesTest {
    private static final int LEAST = Integer.MIN_VALUE;
    private static final int MOST = Integer.MAX_VALUE;
    private static final long WHOLE = 1000000000000L;
    private static final String TWO = Sentences.ship("a", 0, 1, 2, 2) + Sentences.ship("b", 0, 1, 2, 2);

    private static String a(int hour, int column, int row, int laden) {
        return Sentences.says("a", hour, column, row, laden);
    }

    private static String b(int hour, int column, int row, int laden) {
        return Sentences.says("b", hour, column, row, laden);
    }

    private static String owl(int hour, int column, int row) {
        return Sentences.says("owl", hour, column, row, 0);
    }

    // ---- met

    private static void met(String text, int hours, int first, int cells) {
        ToldTracks x = Sentences.told(Sentences.FLAT + TWO + text);
        Sentences.due("met(0, 1, 0) of " + text, x.met(0, 1, 0), hours);
        Sentences.due("met(0, 1, 1) of " + text, x.met(0, 1, 1), first);
        Sentences.due("met(0, 1, 2) of " + text, x.met(0, 1, 2), cells);
    }

    private static void meetings() {
        Sentences.sentence(23, "MET have two SHIPS, a and b, in an hour, if both MAY be on one CELL then,");
        met(a(10, 0, 0, 1) + a(14, 0, 0, 0) + b(10, 4, 0, 0) + b(14, 4, 0, 1), 1, 12, 1);
        met(a(10, 0, 0, 1) + a(14, 0, 0, 0) + b(10, 5, 0, 0) + b(14, 5, 0, 1), 0, -1, 0);
        met(a(10, 0, 0, 1) + a(14, 0, 0, 0) + b(10, 3, 0, 0) + b(14, 3, 0, 1), 1, 12, 2);
        met(a(10, 0, 0, 1) + a(14, 0, 0, 0) + b(10, 4, 0, 0) + b(14, 4, 0, 1) + Sentences.book("a", 0, 0, 12, 12), 0, -1, 0);
        met(a(10, 0, 0, 1) + a(14, 0, 0, 0) + b(10, 4, 0, 0) + b(14, 4, 0, 1) + Sentences.book("b", 2, 0, 12, 12), 1, 12, 1);
        ToldTracks x = Sentences.told("size 6 4;depth 20 when column<2 or column>3;" + TWO + a(10, 0, 0, 1) + a(30, 0, 0, 0)
                + b(10, 4, 0, 0) + b(30, 4, 0, 1));
        Sentences.due("on two waters", x.met(0, 1, 0), 0);

        Sentences.sentence(23, "and in between two SAYINGS of a that are KEPT, next to each other, it came to be not LADEN, in "
                + "between two such of b LADEN");
        met(a(10, 0, 0, 1) + a(12, 0, 0, 0) + b(10, 0, 0, 0) + b(12, 0, 0, 1), 1, 11, 3);
        met(a(10, 0, 0, 1) + a(12, 0, 0, 1) + b(10, 0, 0, 0) + b(12, 0, 0, 1), 0, -1, 0);
        met(a(10, 0, 0, 0) + a(12, 0, 0, 0) + b(10, 0, 0, 0) + b(12, 0, 0, 1), 0, -1, 0);
        met(a(10, 0, 0, 0) + a(12, 0, 0, 1) + b(10, 0, 0, 0) + b(12, 0, 0, 1), 0, -1, 0);
        met(a(10, 0, 0, 1) + a(12, 0, 0, 0) + b(10, 0, 0, 1) + b(12, 0, 0, 1), 0, -1, 0);
        met(a(10, 0, 0, 1) + a(12, 0, 0, 0) + b(10, 0, 0, 0) + b(12, 0, 0, 0), 0, -1, 0);
        met(a(10, 0, 0, 1) + a(12, 0, 0, 0) + b(10, 0, 0, 1) + b(12, 0, 0, 0), 0, -1, 0);
        x = Sentences.told(Sentences.FLAT + TWO + a(10, 0, 0, 0) + a(12, 0, 0, 1) + b(10, 0, 0, 1) + b(12, 0, 0, 0));
        Sentences.due("the other way round", x.met(1, 0, 0), 1);
        Sentences.due("not this way", x.met(0, 1, 0), 0);
        // Next to each other: not over one that says otherwise in between.
        met(a(10, 0, 0, 1) + a(14, 0, 0, 1) + a(20, 0, 0, 0) + b(10, 0, 0, 0) + b(30, 0, 0, 1), 5, 15, 3 + 6 + 10 + 6 + 3);
        met(a(10, 0, 0, 1) + a(12, 0, 0, 0) + a(14, 0, 0, 1) + a(16, 0, 0, 0) + b(9, 0, 0, 0) + b(17, 0, 0, 1), 2, 11, 6);
        // A lie is none of them, as the first, the second, or in between.
        met(a(10, 0, 0, 1) + a(12, 5, 0, 0) + a(40, 0, 0, 1) + a(41, 0, 0, 1) + b(10, 0, 0, 0) + b(12, 0, 0, 1), 0, -1, 0);
        met(a(10, 5, 0, 1) + a(12, 0, 0, 0) + a(13, 0, 0, 0) + b(10, 0, 0, 0) + b(12, 0, 0, 1), 0, -1, 0);
        met(a(10, 0, 0, 1) + a(12, 5, 3, 1) + a(14, 0, 0, 0) + b(10, 0, 0, 0) + b(14, 0, 0, 1), 3, 11, 12);
        met(a(10, 0, 0, 1) + b(10, 0, 0, 0) + b(14, 0, 0, 1), 0, -1, 0);
        met("", 0, -1, 0);

        Sentences.sentence(23, "(the hour lies behind the first and ahead of the second of both).");
        met(a(10, 0, 0, 1) + a(14, 0, 0, 0) + b(12, 0, 0, 0) + b(20, 0, 0, 1), 1, 13, 3);
        met(a(10, 0, 0, 1) + a(14, 0, 0, 0) + b(13, 0, 0, 0) + b(20, 0, 0, 1), 0, -1, 0);
        met(a(12, 0, 0, 1) + a(20, 0, 0, 0) + b(10, 0, 0, 0) + b(14, 0, 0, 1), 1, 13, 3);
        met(a(10, 0, 0, 1) + a(11, 0, 0, 0) + b(9, 0, 0, 0) + b(12, 0, 0, 1), 0, -1, 0);
        met(a(9, 0, 0, 1) + a(12, 0, 0, 0) + b(10, 0, 0, 0) + b(11, 0, 0, 1), 0, -1, 0);
        met(a(10, 0, 0, 1) + a(12, 0, 0, 0) + b(12, 0, 0, 0) + b(14, 0, 0, 1), 0, -1, 0);
    }

    private static void met() {
        Sentences.sentence(23, "MET: 0 in how many hours, 1 the first hour, 2 on how many CELLS in all of them together.");
        String fast = "size 2 2;depth 9 when all;" + Sentences.ship("a", 0, 4, 2, 2) + Sentences.ship("b", 0, 4, 2, 2);
        ToldTracks x = Sentences.told(fast + a(0, 0, 0, 1) + a(47, 0, 0, 0) + b(0, 1, 1, 0) + b(47, 1, 1, 1));
        Sentences.due("hours", x.met(0, 1, 0), 46);
        Sentences.due("first", x.met(0, 1, 1), 1);
        Sentences.due("cells of each hour", x.met(0, 1, 2), 46 * 4);
        // Unladen again and again: the first of all.
        met(a(1, 0, 0, 1) + a(3, 0, 0, 0) + a(5, 0, 0, 1) + a(7, 0, 0, 0) + b(5, 0, 0, 0) + b(8, 0, 0, 1), 1, 6, 3);

        Sentences.sentence(23, "NONE if there are none such (unlike ones), for others; 1: NONE without.");
        int[][] none = {{0, 0}, {1, 1}, {0, 2}, {2, 0}, {2, 2}, {2, 3}, {-1, 0}, {0, -1}, {-1, -1}, {0, 8}, {0, LEAST}, {MOST, 0}};
        for (int[] k : none) {
            for (int w = 0; w < 3; w++) {
                Sentences.due("met " + k[0] + " " + k[1] + " " + w, x.met(k[0], k[1], w), -1);
            }
        }
        int[] others = {3, -1, LEAST, MOST};
        for (int w : others) {
            Sentences.due("what " + w, x.met(0, 1, w), -1);
        }
        Sentences.due("without, hours", x.met(1, 0, 0), 0);
        Sentences.due("without, first", x.met(1, 0, 1), -1);
        Sentences.due("without, cells", x.met(1, 0, 2), 0);
        x.drop(0, 1);
        Sentences.due("when one went", x.met(0, 1, 1), -1);
    }

    // ---- seen

    private static void seen() {
        StringBuilder eight = new StringBuilder(Sentences.FLAT);
        for (int s = 0; s < 8; s++) {
            eight.append(Sentences.ship("" + (char) ('a' + s), s % 4, 1, s == 4 ? 21 : 5, 0));
        }
        Sentences.sentence(24, "A SIGHTING is EXPLAINED by SHIPS of its LOOK that MAY be on its CELL in its hour.");
        ToldTracks x = Sentences.told(eight + Sentences.says("a", 5, 0, 0, 0) + Sentences.says("d", 5, 3, 0, 0)
                + Sentences.says("h", 5, 0, 0, 0) + Sentences.seen(3, 2, 0, 6) + Sentences.seen(3, 1, 0, 6)
                + Sentences.seen(3, 2, 0, 7) + Sentences.seen(0, 0, 0, 5) + Sentences.seen(0, 1, 0, 5)
                + Sentences.seen(2, 5, 3, 47));
        // a (look 0) and e (look 0, no water); d and h (look 3); c and g (look 2) may be anywhere.
        int[] by = {8, 128, 8 + 128, 1, 0, 4 + 64};
        for (int i = 0; i < 6; i++) {
            Sentences.due("sighting " + i, x.sighting(i, 3), by[i]);
        }
        x.add(6, 47, 0, 0, false);
        Sentences.due("one of them was elsewhere", x.sighting(5, 3), 4);

        Sentences.sentence(24, "Of SIGHTING i: 0 LOOK, 1 CELL, 2 hour, 3 by which SHIPS it is EXPLAINED (bits).");
        int[][] want = {{3, 2, 6, 8}, {3, 1, 6, 128}, {3, 2, 7, 136}, {0, 0, 5, 1}, {0, 1, 5, 0}, {2, 23, 47, 4}};
        for (int i = 0; i < 6; i++) {
            for (int w = 0; w < 4; w++) {
                Sentences.due("sighting " + i + " " + w, x.sighting(i, w), want[i][w]);
            }
        }
        x.spot(1, 0, 3, 0);
        int[] last = {1, 18, 0, 2 + 32};
        for (int w = 0; w < 4; w++) {
            Sentences.due("the last " + w, x.sighting(6, w), last[w]);
        }

        Sentences.sentence(24, "NONE if there is none such, or for others.");
        int[] none = {7, 40, -1, LEAST, MOST};
        for (int i : none) {
            for (int w = 0; w < 4; w++) {
                Sentences.due("sighting " + i + " " + w, x.sighting(i, w), -1);
            }
        }
        int[] others = {4, -1, LEAST, MOST};
        for (int w : others) {
            Sentences.due("what " + w, x.sighting(0, w), -1);
        }

        Sentences.sentence(25, "How many SIGHTINGS nobody EXPLAINS.");
        Sentences.due("one", x.strange(), 1);
        x.spot(0, 1, 0, 5);
        Sentences.due("twice the same", x.strange(), 2);
        x.spot(0, 0, 0, 5);
        Sentences.due("one that a explains", x.strange(), 2);
        x.drop(0, 0);
        Sentences.due("a may be anywhere now", x.strange(), 0);
        Sentences.due("none seen", Sentences.told(Sentences.FLAT + Sentences.OWL).strange(), 0);
        Sentences.due("nobody there", Sentences.told(Sentences.FLAT + Sentences.seen(0, 0, 0, 0) + Sentences.seen(1, 0, 0, 0))
                .strange(), 2);
        ToldTracks y = Sentences.told("size 2 2;");
        for (int k = 0; k < 40; k++) {
            y.spot(k % 4, 0, 0, 0);
        }
        Sentences.due("forty", y.strange(), 40);
        Sentences.due("nobody is there", y.doubted(), 0);
    }

    private static void doubted() {
        Sentences.sentence(26, "SHIPS, as bits, that are TRUE, though of their LOOK there is a SIGHTING that nobody EXPLAINS.");
        String three = Sentences.FLAT + Sentences.ship("a", 1, 1, 5, 0) + Sentences.ship("b", 2, 1, 5, 0)
                + Sentences.ship("c", 1, 1, 5, 0);
        ToldTracks x = Sentences.told(three + a(5, 0, 0, 0) + b(5, 0, 0, 0) + Sentences.says("c", 5, 1, 0, 0)
                + Sentences.seen(1, 5, 3, 5));
        Sentences.due("both of the look", x.doubted(), 1 + 4);
        x.spot(2, 0, 0, 5);
        Sentences.due("one of b's look is explained", x.doubted(), 1 + 4);
        x.spot(2, 0, 0, 6);
        x.spot(2, 2, 0, 6);
        Sentences.due("one of two is not", x.doubted(), 7);
        x.add(0, 9, 0, 0, false);
        Sentences.due("silent is not true", x.doubted(), 2 + 4);
        x.add(2, 6, 5, 0, false);
        Sentences.due("a lie is not true", x.doubted(), 2);
        x.drop(1, 0);
        Sentences.due("nothing said is not true, and explains it", x.doubted(), 0);
        Sentences.due("none seen", Sentences.told(three + a(5, 0, 0, 0)).doubted(), 0);
        Sentences.due("none of the look", Sentences.told(three + a(5, 0, 0, 0) + Sentences.seen(0, 5, 3, 5)).doubted(), 0);
        for (int look = 0; look < 4; look++) {
            x = Sentences.told(Sentences.FLAT + Sentences.ship("a", look, 1, 5, 0) + a(5, 0, 0, 0));
            Sentences.due("none seen of look " + look, x.doubted(), 0);
            x.spot((look + 1) % 4, 5, 3, 5);
            Sentences.due("another than look " + look, x.doubted(), 0);
            x.spot(look, 5, 3, 5);
            Sentences.due("look " + look, x.doubted(), 1);
            for (int k = 3; k <= 40; k++) {
                x.spot(look, 0, 0, 5);
            }
            Sentences.due("look " + look + ", one of 40", x.doubted(), 1);
        }
        StringBuilder eight = new StringBuilder(Sentences.FLAT + Sentences.seen(3, 5, 3, 5));
        for (int s = 0; s < 8; s++) {
            String name = "" + (char) ('a' + s);
            eight.append(Sentences.ship(name, 3, 1, 5, 0)).append(Sentences.says(name, 5, 0, 0, 0));
        }
        Sentences.due("all eight", Sentences.told(eight.toString()).doubted(), 255);
    }

    // ---- gaps, chance

    private static void gaps(String text, int hours, int gaps) {
        ToldTracks x = Sentences.told(Sentences.FLAT + "quiet when hour%2=1 and column=1;" + Sentences.OWL + text);
        Sentences.due("gaps(0, 0) of " + text, x.gaps(0, 0), hours);
        Sentences.due("gaps(0, 1) of " + text, x.gaps(0, 1), gaps);
    }

    private static void gaps() {
        Sentences.sentence(27, "GAPS: hours between the first and last SAYING of a SHIP without one that are not HONEST.");
        gaps(owl(4, 0, 0) + owl(6, 0, 0), 1, 0);
        gaps(owl(5, 0, 0) + owl(7, 0, 0), 1, 1);
        gaps(owl(4, 0, 0) + owl(7, 0, 0), 2, 1);
        gaps(owl(4, 3, 0) + owl(7, 3, 0), 2, 2);
        gaps(owl(4, 0, 0) + owl(5, 0, 0) + owl(7, 0, 0), 1, 1);
        gaps(owl(0, 0, 0) + owl(47, 0, 0), 46, 23);
        gaps(owl(0, 0, 0) + owl(1, 0, 0), 0, 0);
        gaps(owl(9, 0, 0), 0, 0);
        gaps("", 0, 0);
        gaps(owl(9, 0, 0) + Sentences.book("owl", 0, 0, 20, 30), 0, 0);
        gaps(owl(9, 0, 0) + owl(13, 0, 0) + Sentences.book("owl", 0, 0, 10, 12), 3, 3);
        gaps(owl(9, 0, 0) + owl(13, 0, 0) + Sentences.book("owl", 1, 0, 10, 12), 3, 2);
        // A lie is a saying, too: its hour is none without one, and it is first or last like others.
        gaps(owl(9, 0, 0) + owl(11, 5, 3) + owl(13, 0, 0), 2, 2);
        gaps(owl(9, 0, 0) + owl(11, 0, 0) + owl(14, 5, 3), 3, 2);

        Sentences.sentence(27, "Of a SHIP: 0 hours between the first and last SAYING without one, 1 GAPS.");
        ToldTracks x = Sentences.told(Sentences.FLAT + Sentences.OWL + Sentences.KITE + owl(0, 0, 0) + owl(47, 0, 0));
        int[][] want = {{46, 46}, {0, 0}};
        for (int s = 0; s < 2; s++) {
            for (int w = 0; w < 2; w++) {
                Sentences.due("gaps " + s + " " + w, x.gaps(s, w), want[s][w]);
            }
        }
        x.add(0, 20, 0, 0, false);
        Sentences.due("one less", x.gaps(0, 0), 45);
        x.drop(0, 0);
        Sentences.due("from the new first one on", x.gaps(0, 0), 26);
        x.drop(0, 1);
        Sentences.due("the last one went", x.gaps(0, 0), 0);
        Sentences.due("the last one went", x.gaps(0, 1), 0);
        x.add(0, 22, 0, 0, false);
        Sentences.due("up to the new last one", x.gaps(0, 0), 1);
        for (int hour = 0; hour < 48; hour++) {
            x.add(0, hour, 0, 0, false);
        }
        Sentences.due("all 48", x.gaps(0, 0), 0);
        Sentences.due("all 48", x.gaps(0, 1), 0);

        Sentences.sentence(27, "NONE if there is none such, or for others.");
        int[] others = {2, -1, LEAST, MOST};
        for (int w : others) {
            Sentences.due("what " + w, x.gaps(0, w), -1);
        }
        int[] ships = {2, -1, 8, LEAST, MOST};
        for (int s : ships) {
            Sentences.due("ship " + s, x.gaps(s, 0), -1);
            Sentences.due("ship " + s, x.gaps(s, 1), -1);
        }
    }

    private static long chanceOf(int n, int gaps, int luck) {
        long[] q = new long[60];
        q[0] = WHOLE;
        for (int turn = 0; turn < n; turn++) {
            long[] ahead = q.clone();
            for (int j = 0; j < 60; j++) {
                q[j] = (ahead[j] * (100 - luck) + (j > 0 ? ahead[j - 1] * luck : 0)) / 100;
            }
        }
        long sum = 0;
        for (int j = gaps; j < 60; j++) {
            sum += q[j];
        }
        return sum;
    }

    private static void chance() {
        String sea = Sentences.FLAT + Sentences.OWL;
        Sentences.sentence(28, "CHANCE: of all hours that lie between them, n, in how many of 10 to the 12 as many or more are "
                + "missed by luck:");
        // All hours between, those with a saying, too.
        Sentences.due("one of one", Sentences.told(sea + owl(1, 0, 0) + owl(3, 0, 0)).chance(0), WHOLE / 10);
        Sentences.due("one or two of two", Sentences.told(sea + "quiet when hour=2;" + owl(1, 0, 0) + owl(4, 0, 0)).chance(0),
                WHOLE / 100 * 19);
        Sentences.due("one or two of two", Sentences.told(sea + owl(1, 0, 0) + owl(2, 0, 0) + owl(4, 0, 0)).chance(0),
                WHOLE / 100 * 19);
        Sentences.due("two of two", Sentences.told(sea + owl(1, 0, 0) + owl(4, 0, 0)).chance(0), WHOLE / 100);
        Sentences.due("none or more of none", Sentences.told(sea + owl(1, 0, 0)).chance(0), WHOLE);
        Sentences.due("none or more of none", Sentences.told(sea + owl(1, 0, 0) + owl(2, 0, 0)).chance(0), WHOLE);
        Sentences.due("none or more of none", Sentences.told(sea).chance(0), WHOLE);
        Sentences.due("none or more of one", Sentences.told(sea + "quiet when all;" + owl(1, 0, 0) + owl(3, 0, 0)).chance(0), WHOLE);

        Sentences.sentence(28, "q(0) is 10 to the 12, all others 0; n times q(j) becomes (q(j) times (100 - luck) and q(j - 1) "
                + "times luck) / 100, rounded down, for all j by those ahead; the sum of q(j) from as many as GAPS on.");
        // 33 of 100 to the 7th: 426184429.77.
        Sentences.due("rounded down", Sentences.told(sea + "luck 33;" + owl(0, 0, 0) + owl(8, 0, 0)).chance(0), 426184429L);
        int[] lucks = {0, 1, 7, 33, 50, 99, 100};
        for (int luck : lucks) {
            Sentences.due("46 of 46, luck " + luck, Sentences.told(sea + "luck " + luck + ";" + owl(0, 0, 0) + owl(47, 0, 0))
                    .chance(0), chanceOf(46, 46, luck));
            Sentences.due("6 of 46, luck " + luck, Sentences.told(sea + "quiet when hour>6;luck " + luck + ";" + owl(0, 0, 0)
                    + owl(47, 0, 0)).chance(0), chanceOf(46, 6, luck));
            Sentences.due("none of 46, luck " + luck, Sentences.told(sea + "quiet when all;luck " + luck + ";" + owl(0, 0, 0)
                    + owl(47, 0, 0)).chance(0), chanceOf(46, 0, luck));
            Sentences.due("5 of 9, luck " + luck, Sentences.told(sea + "quiet when hour>25;luck " + luck + ";" + owl(20, 0, 0)
                    + owl(30, 0, 0)).chance(0), chanceOf(9, 5, luck));
        }
        Sentences.due("luck 0", Sentences.told(sea + "luck 0;" + owl(0, 0, 0) + owl(47, 0, 0)).chance(0), 0);
        Sentences.due("luck 100", Sentences.told(sea + "luck 100;" + owl(0, 0, 0) + owl(47, 0, 0)).chance(0), WHOLE);

        Sentences.sentence(28, "CHANCE of a SHIP; -1 if there is none such.");
        ToldTracks x = Sentences.told(sea + owl(1, 0, 0) + owl(3, 0, 0));
        Sentences.due("chance", x.chance(0), WHOLE / 10);
        int[] ships = {1, -1, 8, LEAST, MOST};
        for (int s : ships) {
            Sentences.due("ship " + s, x.chance(s), -1);
        }
        Sentences.due("without a sea", new ToldTracks().chance(0), -1);
    }

    private static void beyond() {
        String one = Sentences.FLAT + Sentences.OWL + owl(1, 0, 0) + owl(3, 0, 0);
        Sentences.sentence(29, "BEYOND luck is a SHIP with GAPS whose CHANCE times how many SHIPS there are is below 5 times 10 "
                + "to the 10.");
        Sentences.due("4 of 100", Sentences.told(one + "luck 4;").beyond(), 1);
        Sentences.due("just 5 of 100", Sentences.told(one + "luck 5;").beyond(), 0);
        Sentences.due("4 of 100, two ships", Sentences.told(one + "luck 4;" + Sentences.KITE).beyond(), 0);
        Sentences.due("2 of 100, two ships", Sentences.told(one + "luck 2;" + Sentences.KITE).beyond(), 1);
        Sentences.due("luck 0", Sentences.told(one + "luck 0;").beyond(), 1);
        Sentences.due("luck 0 without gaps", Sentences.told(one + "luck 0;quiet when all;").beyond(), 0);
        Sentences.due("without sayings", Sentences.told(Sentences.FLAT + Sentences.OWL + "luck 0;").beyond(), 0);
        StringBuilder eight = new StringBuilder(one);
        for (int s = 1; s < 8; s++) {
            eight.append(Sentences.ship("" + (char) ('a' + s), 0, 1, 5, 0));
        }
        // Eight times 4 of 1000 is just below, one of 100 is above.
        Sentences.due("one of 100, eight ships", Sentences.told(eight + "luck 1;").beyond(), 0);
        Sentences.due("two of 49 of 10000, eight ships", Sentences.told(eight + owl(4, 0, 0) + "luck 7;").beyond(), 0);
        Sentences.due("49 of 10000, eight ships", Sentences.told(eight + "luck 7;" + owl(5, 0, 0)).beyond(), 0);

        Sentences.sentence(29, "SHIPS BEYOND luck, as bits.");
        StringBuilder all = new StringBuilder(Sentences.FLAT + "luck 0;");
        for (int s = 0; s < 8; s++) {
            all.append(Sentences.ship("" + (char) ('a' + s), 0, 1, 5, 0));
        }
        ToldTracks x = Sentences.told(all.toString());
        Sentences.due("none", x.beyond(), 0);
        int want = 0;
        for (int s = 7; s >= 0; s--) {
            x.add(s, 5, 0, 0, false);
            x.add(s, 7, 0, 0, false);
            want |= 1 << s;
            Sentences.due("down to " + s, x.beyond(), want);
        }
        x.add(3, 6, 0, 0, false);
        Sentences.due("all but 3", x.beyond(), 255 - 8);
    }

    // ---- looks

    private static void settles() {
        Sentences.sentence(30, "SETTLES, a look at a CELL in an hour: how many SHIPS with SAYINGS MAY be there, and elsewhere, "
                + "too.");
        ToldTracks x = Sentences.told(Sentences.FLAT + Sentences.OWL + Sentences.KITE + Sentences.ship("c", 0, 1, 5, 0)
                + owl(5, 0, 0) + Sentences.says("kite", 5, 0, 0, 0) + Sentences.says("kite", 7, 0, 0, 0));
        Sentences.due("nowhere else", x.settles(5, 0, 0), 0);
        Sentences.due("both", x.settles(6, 1, 0), 2);
        Sentences.due("both", x.settles(6, 0, 0), 2);
        Sentences.due("kite alone", x.settles(6, 2, 0), 1);
        Sentences.due("none", x.settles(6, 3, 0), 0);
        Sentences.due("kite nowhere else", x.settles(7, 0, 0), 1);
        x.add(2, 40, 0, 0, false);
        Sentences.due("with c, which says something now", x.settles(6, 1, 0), 3);
        Sentences.due("c too", x.settles(47, 1, 0), 3);
        x.drop(2, 0);
        Sentences.due("without c", x.settles(47, 1, 0), 2);
        for (int wide = 1; wide < 4; wide++) {
            x = Sentences.told("size 6 4;depth 20 when column<" + wide + " and row=3;" + Sentences.OWL + owl(5, 0, 3));
            Sentences.due("water of so many cells: " + wide, x.settles(30, 0, 3), wide > 1 ? 1 : 0);
        }
        StringBuilder eight = new StringBuilder(Sentences.FLAT);
        for (int s = 0; s < 8; s++) {
            String name = "" + (char) ('a' + s);
            eight.append(Sentences.ship(name, 3, 1, 5, 0)).append(Sentences.says(name, 0, 0, 0, 0));
        }
        Sentences.due("all eight", Sentences.told(eight.toString()).settles(1, 0, 0), 8);
        x = Sentences.told("size 6 4;depth 20 when column=3 and row=3;" + Sentences.OWL + owl(5, 3, 3));
        Sentences.due("one cell of water alone", x.settles(30, 3, 3), 0);
        x = Sentences.told(Sentences.FLAT + Sentences.OWL + owl(5, 0, 0) + Sentences.book("owl", 5, 3, 6, 6));
        Sentences.due("nothing is kept, but the book", x.settles(7, 5, 3), 1);
        x = Sentences.told(Sentences.FLAT + Sentences.OWL + owl(5, 0, 0) + Sentences.book("owl", 5, 3, 6, 6)
                + Sentences.book("owl", 5, 2, 6, 6));
        Sentences.due("nowhere at all", x.settles(30, 5, 3), 0);

        Sentences.sentence(30, "SETTLES; NONE if there is no such CELL or hour.");
        Sentences.due("none", x.settles(0, 0, 0), 0);
        Sentences.due("none", x.settles(47, 5, 3), 0);
        int[][] none = {{48, 0, 0}, {-1, 0, 0}, {LEAST, 0, 0}, {MOST, 0, 0}, {0, 6, 0}, {0, -1, 0}, {0, 0, 4}, {0, 0, -1},
            {0, LEAST, 0}, {0, 0, MOST}, {0, 16, 0}, {0, 0, 16}};
        for (int[] k : none) {
            Sentences.due("settles " + k[0] + " " + k[1] + " " + k[2], x.settles(k[0], k[1], k[2]), -1);
        }
    }

    private static void next(ToldTracks x, int hour, int cell, int settles) {
        int[] want = {hour, cell, settles};
        for (int w = 0; w < 3; w++) {
            Sentences.due("next " + w, x.next(w), want[w]);
        }
    }

    /** A ship that says each hour, but for some, that it is at one place. */
    private static void stay(ToldTracks x, int ship, int column, int row, int hour, int other) {
        for (int h = 0; h < 48; h++) {
            if (h != hour && h != other) {
                x.add(ship, h, column, row, false);
            }
        }
    }

    private static void next() {
        String sea = "size 6 4;depth 20 when all;" + TWO;
        Sentences.sentence(31, "THE NEXT look: the CELL and hour with most SETTLES,");
        ToldTracks x = Sentences.told(sea + "cost 99 when column=1;");
        stay(x, 0, 0, 0, 30, 30);
        stay(x, 1, 2, 0, 20, 30);
        next(x, 30, 1, 2);
        x.drop(0, 0);
        next(x, 30, 1, 2);
        // A cheaper one that settles less, ahead of it and behind it.
        x = Sentences.told(sea + "cost 99 when column=1;");
        stay(x, 0, 0, 0, 30, 30);
        stay(x, 1, 2, 0, 30, 40);
        next(x, 30, 1, 2);
        x = Sentences.told(sea);
        stay(x, 0, 0, 0, 40, 40);
        stay(x, 1, 2, 0, 30, 40);
        next(x, 40, 1, 2);
        // Both are there in one hour, but on no cell together.
        x = Sentences.told(sea + "cost 5 when not [column=0 and row=1];");
        stay(x, 0, 0, 0, 30, 30);
        stay(x, 1, 5, 3, 30, 30);
        next(x, 30, 6, 1);
        x = Sentences.told(sea + "cost 5 when not [column=5 and row=2];");
        stay(x, 0, 0, 0, 30, 30);
        stay(x, 1, 5, 3, 30, 30);
        next(x, 30, 17, 1);
        // Of three, two and two; on the first cell alone.
        x = Sentences.told("size 6 4;depth 20 when row=0 or column=0;" + TWO + Sentences.ship("c", 0, 1, 2, 2)
                + Sentences.book("a", 1, 0, 0, 29) + Sentences.book("a", 1, 0, 31, 47) + a(29, 1, 0, 0)
                + Sentences.book("b", 0, 1, 0, 29) + Sentences.book("b", 0, 1, 31, 47) + b(29, 0, 1, 0)
                + Sentences.book("c", 5, 0, 0, 29) + Sentences.book("c", 5, 0, 31, 47) + Sentences.says("c", 29, 5, 0, 0));
        next(x, 30, 0, 2);

        Sentences.sentence(31, "of like ones with the least COST,");
        x = Sentences.told(sea + "cost 4 when column=2 and row=1;cost 5 when all;");
        stay(x, 1, 2, 0, 30, 40);
        next(x, 30, 8, 1);
        x = Sentences.told(sea + "cost 6-row-column when all;");
        stay(x, 0, 2, 0, 30, 30);
        next(x, 30, 3, 1);
        x = Sentences.told(sea + "cost 9 when column=0;cost 3 when column=2 and row=3;cost 5 when all;");
        stay(x, 0, 0, 0, 20, 20);
        stay(x, 1, 2, 2, 30, 30);
        next(x, 30, 20, 1);

        Sentences.sentence(31, "then the earliest hour,");
        x = Sentences.told(sea);
        stay(x, 1, 2, 0, 30, 40);
        next(x, 30, 1, 1);
        x.add(1, 30, 2, 0, false);
        next(x, 40, 1, 1);
        x = Sentences.told(sea);
        stay(x, 0, 0, 0, 30, 30);
        stay(x, 1, 5, 3, 20, 20);
        next(x, 20, 17, 1);

        Sentences.sentence(31, "then the first CELL.");
        x = Sentences.told(sea + "cost 1 when column=2 and row=0;");
        stay(x, 1, 2, 0, 30, 40);
        next(x, 30, 1, 1);
        x = Sentences.told(sea + "cost 1 when row=0;");
        stay(x, 1, 2, 2, 30, 40);
        next(x, 30, 8, 1);
        x = Sentences.told(Sentences.FLAT + Sentences.OWL + owl(20, 0, 0));
        next(x, 0, 0, 1);

        Sentences.sentence(31, "THE NEXT look: 0 the hour, 1 the CELL, 2 SETTLES.");
        x = Sentences.told("size 16 16;depth 20 when column=15 and row>13;" + Sentences.OWL);
        stay(x, 0, 15, 15, 47, 47);
        next(x, 47, 239, 1);
        StringBuilder eight = new StringBuilder(Sentences.FLAT);
        for (int s = 0; s < 8; s++) {
            String name = "" + (char) ('a' + s);
            eight.append(Sentences.ship(name, 3, 1, 5, 0)).append(Sentences.says(name, 0, 0, 0, 0));
        }
        next(Sentences.told(eight.toString()), 1, 0, 8);

        Sentences.sentence(31, "NONE for others, or if none settles anything.");
        int[] others = {3, -1, LEAST, MOST};
        for (int w : others) {
            Sentences.due("what " + w, x.next(w), -1);
        }
        x.add(0, 47, 15, 14, false);
        next(x, -1, -1, -1);
        next(Sentences.told(Sentences.FLAT), -1, -1, -1);
        next(Sentences.told(Sentences.FLAT + Sentences.OWL), -1, -1, -1);
        next(Sentences.told(Sentences.FLAT + Sentences.OWL + owl(1, 0, 0) + Sentences.book("owl", 0, 0, 5, 6)
                + Sentences.book("owl", 0, 1, 5, 6)), -1, -1, -1);
    }

    // ---- clocks

    private static void off(String text, int want) {
        Sentences.due("off(0) of " + text, Sentences.told(Sentences.FLAT + Sentences.OWL + text).off(0), want);
    }

    private static void off() {
        // Five steps from the book: five hours ahead of it or behind it.
        String until20 = Sentences.book("owl", 5, 0, 0, 20);
        String from20 = Sentences.book("owl", 5, 0, 20, 47);
        Sentences.sentence(32, "A CLOCK that is OFF by d, -6 .. 6, has each SAYING of a SHIP d hours later;");
        for (int d = 1; d <= 6; d++) {
            off(until20 + owl(25 - d, 0, 0), d);
            off(from20 + owl(15 + d, 0, 0), -d);
        }
        off(until20 + owl(18, 0, 0), 100);
        off(from20 + owl(22, 0, 0), 100);
        off(until20 + owl(19, 0, 0) + owl(20, 0, 0) + owl(40, 5, 3), 6);
        off(until20 + owl(24, 0, 0) + owl(27, 3, 0), 1);
        off(from20 + owl(21, 0, 0) + owl(8, 0, 0) + owl(9, 5, 0), 100);
        off(from20 + owl(21, 0, 0) + owl(6, 0, 0), -6);

        Sentences.sentence(32, "those that would be outside the HOURS are left out.");
        off(owl(0, 0, 0) + owl(1, 5, 0), -1);
        off(owl(1, 0, 0) + owl(2, 5, 0), -2);
        off(owl(5, 0, 0) + owl(6, 5, 0), -6);
        off(owl(6, 0, 0) + owl(7, 5, 0), 100);
        off(owl(46, 0, 0) + owl(47, 5, 0), 1);
        off(owl(41, 0, 0) + owl(42, 5, 0), 6);
        off(owl(40, 0, 0) + owl(41, 5, 0), 100);
        Sentences.due("the one that is left out is not sound", Sentences.told("size 6 4;depth 20 when column>0;" + Sentences.OWL
                + owl(2, 0, 0) + owl(9, 1, 0)).off(0), -3);

        Sentences.sentence(32, "Its OFF: the d of the least size (below 0 first) by which all left FIT with its BOOKS,");
        off(owl(9, 0, 0), 0);
        off(until20 + owl(25, 0, 0), 0);
        off(Sentences.book("owl", 5, 0, 12, 12) + owl(12, 0, 0), -5);
        off(Sentences.book("owl", 5, 0, 12, 12) + owl(13, 0, 0), 4);
        off(Sentences.book("owl", 5, 0, 12, 12) + owl(11, 0, 0), -4);
        off(Sentences.book("owl", 5, 3, 12, 12) + owl(12, 0, 0), 100);
        off(owl(9, 0, 0) + Sentences.book("owl", 5, 0, 30, 30) + Sentences.book("owl", 5, 1, 30, 30), 100);
        off(owl(9, 0, 0) + owl(10, 5, 0), 100);

        Sentences.sentence(32, "and some are left; none without.");
        off(until20 + owl(0, 0, 0), 100);
        off(from20 + owl(47, 0, 0), 100);
        off(Sentences.book("owl", 5, 0, 0, 1) + owl(0, 0, 0), 6);
        off("", 100);
        off(until20, 100);
        off(Sentences.book("owl", 5, 0, 5, 5) + Sentences.book("owl", 5, 1, 5, 5), 100);

        Sentences.sentence(32, "Its OFF; 100 without, or if there is no such SHIP.");
        ToldTracks x = Sentences.told(Sentences.FLAT + Sentences.OWL + Sentences.KITE + from20 + owl(17, 0, 0)
                + Sentences.says("kite", 9, 0, 0, 0) + Sentences.says("kite", 10, 5, 3, 0));
        Sentences.due("off", x.off(0), -2);
        Sentences.due("without", x.off(1), 100);
        int[] ships = {2, -1, 8, LEAST, MOST};
        for (int s : ships) {
            Sentences.due("ship " + s, x.off(s), 100);
        }
        x.drop(0, 0);
        Sentences.due("without sayings", x.off(0), 100);
        Sentences.due("without a sea", new ToldTracks().off(0), 100);

        Sentences.sentence(33, "SHIPS with LIES of which an OFF is (not 0), as bits.");
        StringBuilder eight = new StringBuilder(Sentences.FLAT);
        for (int s = 0; s < 8; s++) {
            eight.append(Sentences.ship("" + (char) ('a' + s), 0, 1, 5, 0));
        }
        x = Sentences.told(eight + Sentences.book("a", 5, 0, 12, 12) + Sentences.book("h", 5, 0, 12, 12)
                + Sentences.book("c", 5, 3, 12, 12));
        Sentences.due("nothing is said", x.whose(), 0);
        x.add(0, 9, 0, 0, false);
        Sentences.due("a, by -2", x.whose(), 1);
        x.add(7, 15, 0, 0, false);
        Sentences.due("h, by 2", x.whose(), 1 + 128);
        x.add(1, 9, 0, 0, false);
        Sentences.due("b lies not", x.whose(), 1 + 128);
        x.add(2, 12, 0, 0, false);
        Sentences.due("c lies at any hour", x.whose(), 1 + 128);
        x.drop(0, 0);
        Sentences.due("a is silent", x.whose(), 128);
        for (int d = 1; d <= 6; d++) {
            x.drop(7, 0);
            x.add(7, 17 - d, 0, 0, false);
            Sentences.due("h, by " + d + " or less", x.whose(), 128);
            x.drop(0, 0);
            x.add(0, 7 + d, 0, 0, false);
            Sentences.due("a, by " + -d + " or less", x.whose(), 128 + 1);
            x.drop(0, 0);
        }
        x.drop(7, 0);
        x.add(7, 17, 0, 0, false);
        Sentences.due("h lies not", x.whose(), 0);
    }

    public static void main(String[] args) {
        meetings();
        met();
        seen();
        doubted();
        gaps();
        chance();
        beyond();
        settles();
        next();
        off();
        Sentences.done(23, 33, "MET have two SHIPS", "AN IMAGE:");
    }
}
