/** Promises 15 to 22 and the terms of TALES and CLASH, sentence by sentence. */
public final class TaleSentencesTest {
    private static final int LEAST = Integer.MIN_VALUE;
    private static final int MOST = Integer.MAX_VALUE;
    private static final String FAST = Sentences.ship("fast", 0, 4, 5, 3);
    private static final String SLOW = Sentences.ship("slow", 0, 1, 5, 3);

    /** Column 4 is for none, column 5 for the unladen alone. */
    private static final String SHALLOW = "size 6 4;depth 4 when column=4 and row<3;depth 7 when column=5;depth 20 when all;";

    /** Far from each other in no more than an hour. */
    private static final String JUMP = owl(0, 0, 0) + owl(1, 5, 0);

    private static String owl(int hour, int column, int row) {
        return Sentences.says("owl", hour, column, row, 0);
    }

    /** Whether the first ship of a sea is of a kind. */
    private static void judge(String text, int kind, int want) {
        Sentences.due("judge(0, " + kind + ") of " + text, Sentences.told(text).judge(0, kind), want);
    }

    /** All kinds of a ship, and no other. */
    private static void kinds(ToldTracks x, int ship, int... kinds) {
        for (int rival = 0; rival <= kinds.length; rival++) {
            Sentences.due("tale " + ship + " " + rival, x.tale(ship, rival), rival < kinds.length ? kinds[rival] : -1);
        }
        for (int kind = 0; kind < 5; kind++) {
            int is = 0;
            for (int k : kinds) {
                is |= k == kind ? 1 : 0;
            }
            Sentences.due("judge " + ship + " " + kind, x.judge(ship, kind), is);
        }
    }

    // ---- kinds

    private static void trueAndSilent() {
        String sea = Sentences.FLAT + "quiet when hour=3 and column=1;" + Sentences.OWL;
        Sentences.sentence(15, "III. TALES of a SHIP, by kinds: 0 TRUE: all SAYINGS FIT with all BOOKS, and all hours between "
                + "the first and last SAYING without one are HONEST.");
        judge(sea + owl(9, 0, 0), 0, 1);
        judge(sea + owl(2, 0, 0) + owl(3, 0, 0) + owl(4, 0, 0), 0, 1);
        judge(sea + owl(2, 0, 0) + owl(4, 0, 0), 0, 1);
        judge(sea + owl(2, 0, 0) + owl(4, 2, 0), 0, 1);
        judge(sea + owl(2, 3, 0) + owl(4, 3, 0), 0, 0);
        judge(sea + owl(3, 0, 0) + owl(5, 0, 0), 0, 0);
        judge(sea + owl(2, 0, 0) + owl(5, 0, 0), 0, 0);
        judge(sea + owl(0, 0, 0) + owl(1, 0, 0) + Sentences.book("owl", 0, 0, 40, 47), 0, 1);
        judge(sea + owl(40, 0, 0) + owl(41, 0, 0) + Sentences.book("owl", 0, 0, 0, 5), 0, 1);
        judge(sea + owl(0, 0, 0) + owl(1, 0, 0) + Sentences.book("owl", 5, 0, 2, 2), 0, 0);
        judge(sea + owl(9, 0, 0) + Sentences.book("owl", 5, 0, 9, 9), 0, 0);
        judge(sea + JUMP, 0, 0);
        judge(SHALLOW + Sentences.OWL + owl(9, 5, 0), 0, 1);
        judge(SHALLOW + Sentences.OWL + Sentences.says("owl", 9, 5, 0, 1), 0, 0);
        judge(Sentences.FLAT + "quiet when all;" + Sentences.OWL + owl(0, 0, 0) + owl(47, 0, 0), 0, 1);
        judge(Sentences.FLAT + "quiet when not hour=30;" + Sentences.OWL + owl(0, 0, 0) + owl(47, 0, 0), 0, 0);
        judge(Sentences.FLAT + "quiet when all;" + Sentences.OWL + owl(9, 0, 0) + Sentences.book("owl", 0, 0, 1, 1)
                + Sentences.book("owl", 1, 0, 1, 1), 0, 0);

        Sentences.sentence(15, "1 SILENT: all FIT, but not all such hours are HONEST.");
        judge(sea + owl(2, 3, 0) + owl(4, 3, 0), 1, 1);
        judge(sea + owl(2, 0, 0) + owl(5, 0, 0), 1, 1);
        judge(sea + owl(2, 0, 0) + owl(4, 0, 0), 1, 0);
        judge(sea + owl(9, 0, 0), 1, 0);
        judge(sea + owl(9, 0, 0) + owl(10, 0, 0), 1, 0);
        judge(sea + owl(9, 0, 0) + owl(11, 5, 0), 1, 0);
        judge(sea + owl(9, 0, 0) + owl(11, 0, 0) + Sentences.book("owl", 5, 0, 12, 12), 1, 0);
        judge(Sentences.FLAT + Sentences.OWL + owl(0, 0, 0) + owl(47, 0, 0), 1, 1);
    }

    private static void name() {
        Sentences.sentence(15, "2 NAME: another SHIP said them: all of them FIT for that one (its SPEED, DRAFT and LOAD)");
        judge(Sentences.FLAT + Sentences.OWL + owl(9, 0, 0), 2, 0);
        judge(Sentences.FLAT + Sentences.OWL + SLOW + owl(9, 0, 0), 2, 1);
        judge(Sentences.FLAT + Sentences.OWL + SLOW + JUMP, 2, 0);
        judge(Sentences.FLAT + Sentences.OWL + FAST + JUMP, 2, 0);
        judge(Sentences.FLAT + Sentences.OWL + FAST + owl(0, 0, 0) + owl(1, 4, 0), 2, 1);
        String[] deep = {Sentences.ship("b", 0, 4, 7, 0), Sentences.ship("b", 0, 4, 8, 0), Sentences.ship("b", 0, 4, 1, 7)};
        int[] bears = {1, 0, 1};
        int[] bearsLaden = {1, 0, 0};
        for (int k = 0; k < 3; k++) {
            judge(SHALLOW + Sentences.OWL + deep[k] + owl(9, 5, 0), 2, bears[k]);
            judge(SHALLOW + Sentences.OWL + deep[k] + Sentences.says("owl", 9, 5, 0, 1), 2, bearsLaden[k]);
        }

        Sentences.sentence(15, "with all its own SAYINGS and BOOKS, and there is one at least.");
        String both = Sentences.FLAT + Sentences.OWL + SLOW + owl(9, 0, 0) + owl(12, 0, 0);
        judge(both, 2, 1);
        judge(both + Sentences.says("slow", 9, 0, 0, 1), 2, 1);
        judge(both + Sentences.says("slow", 9, 1, 0, 0), 2, 0);
        judge(both + Sentences.says("slow", 13, 1, 0, 0), 2, 1);
        judge(both + Sentences.says("slow", 13, 2, 0, 0), 2, 0);
        judge(both + Sentences.says("slow", 0, 0, 0, 0) + Sentences.says("slow", 1, 5, 0, 0), 2, 0);
        judge(both + Sentences.book("slow", 0, 0, 12, 12), 2, 1);
        judge(both + Sentences.book("slow", 2, 0, 10, 10), 2, 0);
        judge(both + Sentences.book("slow", 2, 0, 30, 30) + Sentences.book("slow", 2, 1, 30, 30), 2, 0);
        judge(both + Sentences.book("owl", 2, 0, 30, 30) + Sentences.book("owl", 2, 1, 30, 30), 2, 1);
        judge(Sentences.FLAT + Sentences.OWL + SLOW, 2, 0);
        judge(Sentences.FLAT + Sentences.OWL + SLOW + Sentences.says("slow", 9, 0, 0, 0), 2, 0);
    }

    private static void pair() {
        String sea = Sentences.FLAT + Sentences.OWL;
        Sentences.sentence(15, "3 PAIR: they can be parted in two sets of which the first FITS with all BOOKS, the second by "
                + "itself,");
        judge(sea + JUMP, 3, 1);
        judge(sea + owl(0, 0, 0) + owl(1, 5, 0) + owl(2, 1, 0) + owl(3, 4, 0), 3, 1);
        // Three of which no two go together.
        judge(sea + JUMP + owl(2, 0, 3), 3, 0);
        judge(sea + owl(0, 0, 0) + owl(1, 5, 0) + owl(2, 5, 3), 3, 0);
        // Each of four bars the next one alone; one book bars the first of them, one the last.
        String four = owl(10, 0, 0) + owl(11, 3, 0) + owl(12, 1, 0) + owl(13, 3, 0);
        String barsFirst = Sentences.book("owl", 3, 0, 8, 8);
        String barsLast = Sentences.book("owl", 0, 0, 15, 15);
        judge(sea + four, 3, 1);
        judge(sea + four + barsFirst, 3, 1);
        judge(sea + four + barsLast, 3, 1);
        judge(sea + four + barsFirst + barsLast, 3, 0);
        // The books bind the first set, not the second.
        judge(sea + owl(9, 0, 0) + owl(10, 5, 0) + Sentences.book("owl", 5, 0, 11, 11), 3, 1);
        judge(sea + owl(9, 0, 0) + owl(10, 5, 0) + owl(20, 1, 1) + Sentences.book("owl", 3, 3, 11, 11), 3, 0);
        judge(sea + owl(9, 0, 0) + owl(20, 0, 0) + Sentences.book("owl", 5, 0, 11, 11), 3, 1);
        judge(sea + owl(9, 0, 0) + owl(13, 0, 0) + owl(30, 0, 0) + Sentences.book("owl", 5, 0, 11, 11), 3, 1);
        judge(sea + owl(9, 0, 0) + owl(13, 5, 3) + owl(30, 0, 0) + Sentences.book("owl", 0, 3, 11, 11), 3, 0);
        // What the book bars has to go into the second set, and what goes not with that into the first.
        judge(sea + owl(10, 0, 0) + owl(11, 3, 0) + owl(12, 1, 0) + Sentences.book("owl", 3, 0, 13, 13), 3, 1);
        judge(sea + owl(9, 0, 0) + owl(20, 0, 0) + Sentences.book("owl", 5, 0, 20, 20), 3, 1);
        // Two that can be parted, and three that can't.
        judge(sea + JUMP + owl(30, 0, 0) + owl(31, 5, 0) + owl(32, 0, 3), 3, 0);
        judge(sea + JUMP + owl(30, 0, 0) + owl(31, 5, 0) + owl(32, 1, 0), 3, 1);
        fullPair();
        // Each of both sets has to be sound.
        judge(SHALLOW + Sentences.OWL + owl(0, 0, 0) + owl(1, 4, 0), 3, 0);
        judge(SHALLOW + Sentences.OWL + owl(0, 0, 0) + Sentences.says("owl", 30, 5, 0, 1), 3, 0);
        judge(SHALLOW + Sentences.OWL + owl(0, 0, 0) + Sentences.says("owl", 1, 5, 0, 0), 3, 1);
        // Books that do not fit let no first set fit.
        judge(sea + JUMP + Sentences.book("owl", 2, 0, 30, 30) + Sentences.book("owl", 2, 1, 30, 30), 3, 0);

        Sentences.sentence(15, "neither of them empty, and they do not all FIT.");
        judge(sea + owl(9, 0, 0) + owl(10, 0, 0), 3, 0);
        judge(sea + owl(9, 0, 0) + owl(20, 0, 0), 3, 0);
        judge(sea + owl(9, 0, 0), 3, 0);
        judge(sea + owl(9, 0, 0) + Sentences.book("owl", 5, 0, 9, 9), 3, 0);
        judge(sea + owl(9, 0, 0) + owl(10, 0, 0) + Sentences.book("owl", 5, 0, 9, 10), 3, 0);
        judge(sea + owl(9, 0, 0) + owl(20, 0, 0) + Sentences.book("owl", 5, 0, 9, 9), 3, 1);
        judge(SHALLOW + Sentences.OWL + owl(0, 4, 0), 3, 0);
        ToldTracks x = Sentences.told(sea + Sentences.book("owl", 5, 3, 0, 47));
        for (int hour = 0; hour < 48; hour++) {
            x.add(0, hour, 0, 0, false);
        }
        Sentences.due("all 48 against a book", x.judge(0, 3), 0);
        x.drop(0, 30);
        x.add(0, 30, 5, 3, true);
        Sentences.due("all but one against a book", x.judge(0, 3), 1);
    }

    /** As many sayings as there are hours. */
    private static void fullPair() {
        ToldTracks x = Sentences.told(Sentences.FLAT + Sentences.OWL);
        for (int hour = 0; hour < 48; hour++) {
            x.add(0, hour, hour == 20 ? 5 : 0, 0, false);
        }
        Sentences.due("one of 48 elsewhere", x.judge(0, 3), 1);
        x.drop(0, 47);
        x.add(0, 47, 5, 0, false);
        Sentences.due("two of 48 elsewhere", x.judge(0, 3), 1);
        x.drop(0, 21);
        x.add(0, 21, 2, 3, false);
        Sentences.due("one on a third place", x.judge(0, 3), 0);
        x.drop(0, 20);
        x.add(0, 20, 2, 3, false);
        x.drop(0, 47);
        Sentences.due("two on a third place, but on no more than two", x.judge(0, 3), 1);
        x.drop(0, 20);
        x.drop(0, 20);
        Sentences.due("46 on one", x.judge(0, 3), 0);
    }

    private static void movedAndOrder() {
        String sea = Sentences.FLAT + Sentences.OWL;
        Sentences.sentence(15, "4 MOVED: some are KEPT, some are LIES.");
        judge(sea + JUMP, 4, 1);
        judge(sea + JUMP + owl(2, 0, 3), 4, 1);
        judge(sea + owl(9, 0, 0), 4, 0);
        judge(sea + owl(9, 0, 0) + owl(10, 1, 0), 4, 0);
        judge(sea + owl(9, 0, 0) + Sentences.book("owl", 5, 0, 9, 9), 4, 0);
        judge(sea + owl(9, 0, 0) + owl(30, 0, 0) + Sentences.book("owl", 5, 0, 9, 9), 4, 1);
        judge(SHALLOW + Sentences.OWL + owl(0, 4, 0), 4, 0);
        judge(SHALLOW + Sentences.OWL + owl(0, 4, 0) + owl(1, 3, 0), 4, 1);
        judge(sea + JUMP + Sentences.book("owl", 2, 0, 30, 30) + Sentences.book("owl", 2, 1, 30, 30), 4, 0);

        Sentences.sentence(16, "The PLAINEST: the first kind that it is; a RIVAL is each later one.");
        kinds(Sentences.told(sea + owl(9, 0, 0)), 0, 0);
        kinds(Sentences.told(sea + SLOW + owl(9, 0, 0)), 0, 0, 2);
        kinds(Sentences.told(sea + owl(9, 0, 0) + owl(11, 0, 0)), 0, 1);
        kinds(Sentences.told(sea + SLOW + owl(9, 0, 0) + owl(11, 0, 0)), 0, 1, 2);
        kinds(Sentences.told(sea + JUMP), 0, 3, 4);
        kinds(Sentences.told(sea + FAST + owl(0, 0, 0) + owl(1, 4, 0)), 0, 2, 3, 4);
        kinds(Sentences.told(sea + JUMP + owl(2, 0, 3)), 0, 4);
        kinds(Sentences.told(sea + SLOW + owl(9, 0, 0) + Sentences.book("owl", 5, 0, 9, 9)), 0, 2);
        kinds(Sentences.told(sea + owl(9, 0, 0) + Sentences.book("owl", 5, 0, 9, 9)), 0);
        kinds(Sentences.told(sea + FAST + owl(0, 0, 0) + owl(1, 4, 0) + owl(2, 2, 2)), 0, 2, 4);

        Sentences.sentence(15, "A SHIP without SAYINGS is of no kind.");
        kinds(Sentences.told(sea), 0);
        kinds(Sentences.told(sea + SLOW), 0);
        kinds(Sentences.told(sea + SLOW + Sentences.says("slow", 9, 0, 0, 0) + Sentences.book("owl", 0, 0, 1, 2)), 0);
        ToldTracks x = Sentences.told(sea + SLOW + owl(9, 0, 0));
        x.drop(0, 0);
        kinds(x, 0);
    }

    private static void judgeAndTale() {
        Sentences.sentence(15, "Whether a SHIP is of a kind (0 .. 4): 1, 0;");
        ToldTracks x = Sentences.told(Sentences.FLAT + Sentences.OWL + FAST + JUMP + Sentences.says("fast", 30, 0, 0, 0));
        int[][] want = {{0, 0, 0, 1, 1}, {1, 0, 0, 0, 0}};
        for (int s = 0; s < 2; s++) {
            for (int kind = 0; kind < 5; kind++) {
                Sentences.due("judge " + s + " " + kind, x.judge(s, kind), want[s][kind]);
            }
        }
        x.drop(0, 1);
        int[][] then = {{1, 0, 1, 0, 0}, {1, 0, 1, 0, 0}};
        for (int s = 0; s < 2; s++) {
            for (int kind = 0; kind < 5; kind++) {
                Sentences.due("then, judge " + s + " " + kind, x.judge(s, kind), then[s][kind]);
            }
        }

        Sentences.sentence(15, "NONE if there is none such.");
        int[] kinds = {5, -1, LEAST, MOST, 31, 32};
        for (int kind : kinds) {
            Sentences.due("kind " + kind, x.judge(0, kind), -1);
        }
        int[] ships = {2, -1, 8, LEAST, MOST};
        for (int s : ships) {
            Sentences.due("ship " + s, x.judge(s, 0), -1);
        }

        Sentences.sentence(16, "The PLAINEST (rival 0), or RIVAL 1, 2 ..;");
        x = Sentences.told(Sentences.FLAT + Sentences.OWL + FAST + owl(0, 0, 0) + owl(1, 4, 0)
                + Sentences.says("fast", 30, 0, 0, 0));
        Sentences.due("plainest", x.tale(0, 0), 2);
        Sentences.due("rival 1", x.tale(0, 1), 3);
        Sentences.due("rival 2", x.tale(0, 2), 4);
        Sentences.due("plainest", x.tale(1, 0), 0);

        Sentences.sentence(16, "NONE if there is none such.");
        Sentences.due("no rival 3", x.tale(0, 3), -1);
        Sentences.due("no rival 1", x.tale(1, 1), -1);
        int[] rivals = {4, 5, -1, LEAST, MOST};
        for (int rival : rivals) {
            Sentences.due("rival " + rival, x.tale(0, rival), -1);
        }
        for (int s : ships) {
            Sentences.due("ship " + s, x.tale(s, 0), -1);
        }
        x.drop(1, 0);
        Sentences.due("of no kind", x.tale(1, 0), -1);
    }

    // ---- what bars, what clashes

    private static void bars() {
        String sea = Sentences.FLAT + Sentences.OWL;
        Sentences.sentence(17, "The first SAYING of a SHIP that does not FIT with those ahead of it and all BOOKS;");
        Sentences.due("the second", Sentences.told(sea + JUMP).bars(0), 1);
        Sentences.due("the third, by the first", Sentences.told(sea + owl(0, 0, 0) + owl(1, 1, 0) + owl(3, 4, 0)).bars(0), 2);
        Sentences.due("not sound", Sentences.told(SHALLOW + Sentences.OWL + owl(0, 0, 0) + Sentences.says("owl", 20, 5, 0, 1))
                .bars(0), 1);
        Sentences.due("no water", Sentences.told(SHALLOW + Sentences.OWL + owl(0, 4, 0) + owl(1, 0, 0)).bars(0), 0);
        Sentences.due("a book behind it", Sentences.told(sea + owl(0, 0, 0) + owl(30, 0, 0)
                + Sentences.book("owl", 5, 3, 31, 31)).bars(0), 1);
        Sentences.due("a book ahead of it", Sentences.told(sea + owl(30, 0, 0) + Sentences.book("owl", 5, 3, 29, 29)).bars(0), 0);
        Sentences.due("a book in its hour", Sentences.told(sea + owl(29, 0, 0) + owl(30, 0, 0)
                + Sentences.book("owl", 0, 1, 30, 30)).bars(0), 1);
        Sentences.due("books alone", Sentences.told(sea + owl(30, 0, 0) + Sentences.book("owl", 0, 1, 3, 3)
                + Sentences.book("owl", 0, 0, 3, 3)).bars(0), 0);
        Sentences.due("a book on no water", Sentences.told(SHALLOW + Sentences.OWL + owl(30, 0, 0)
                + Sentences.book("owl", 4, 0, 3, 3)).bars(0), 0);
        // That which is kept is another matter: here the first is the lie.
        ToldTracks x = Sentences.told(sea + owl(0, 0, 0) + owl(1, 5, 0) + owl(2, 5, 1));
        Sentences.due("the second of three", x.bars(0), 1);
        Sentences.due("the first is a lie", x.saying(0, 0, 4), 0);

        Sentences.sentence(17, "NONE without.");
        Sentences.due("all fit", Sentences.told(sea + owl(0, 0, 0) + owl(1, 1, 0)).bars(0), -1);
        Sentences.due("no sayings", Sentences.told(sea).bars(0), -1);
        Sentences.due("no sayings, books that do not fit", Sentences.told(sea + Sentences.book("owl", 0, 1, 3, 3)
                + Sentences.book("owl", 0, 0, 3, 3)).bars(0), -1);
        int[] ships = {1, -1, 8, LEAST, MOST};
        for (int s : ships) {
            Sentences.due("ship " + s, x.bars(s), -1);
        }
    }

    private static void clash(String text, int earlier, int later, int since) {
        ToldTracks x = Sentences.told(text);
        Sentences.due("clash(0, 0) of " + text, x.clash(0, 0), earlier);
        Sentences.due("clash(0, 1) of " + text, x.clash(0, 1), later);
        Sentences.due("clash(0, 2) of " + text, x.clash(0, 2), since);
    }

    private static void clashes() {
        String sea = Sentences.FLAT + Sentences.OWL;
        String shallow = SHALLOW + Sentences.OWL;
        Sentences.sentence(18, "CLASH: the first SAYING (by number) that is not SOUND or does not go TOGETHER with a BOOK "
                + "(alone),");
        clash(shallow + owl(3, 4, 0) + owl(9, 4, 1), -1, 0, 3);
        clash(shallow + owl(3, 0, 0) + owl(30, 4, 1), -1, 1, 30);
        clash(shallow + owl(3, 5, 0) + Sentences.says("owl", 30, 5, 0, 1), -1, 1, 30);
        clash(sea + owl(3, 0, 0) + owl(30, 0, 0) + Sentences.book("owl", 5, 0, 31, 31), -1, 1, 30);
        clash(sea + owl(3, 0, 0) + owl(30, 0, 0) + Sentences.book("owl", 5, 0, 27, 28), -1, 1, 30);
        clash(sea + owl(3, 0, 0) + owl(30, 0, 0) + Sentences.book("owl", 0, 1, 30, 30), -1, 1, 30);
        clash(sea + owl(3, 0, 0) + owl(30, 0, 0) + Sentences.book("owl", 0, 0, 30, 30), -1, -1, -1);
        clash(sea + owl(3, 0, 0) + owl(30, 0, 0) + Sentences.book("owl", 5, 0, 35, 36), -1, -1, -1);
        clash(shallow + owl(3, 0, 0) + Sentences.book("owl", 4, 0, 40, 40), -1, 0, 3);
        // Books that do not fit among themselves are no matter, if it goes together with each of them.
        clash(sea + owl(3, 0, 0) + Sentences.book("owl", 2, 0, 40, 40) + Sentences.book("owl", 2, 1, 40, 40), -1, -1, -1);

        Sentences.sentence(18, "or the first two (by the later one, then the earlier one) that do not go TOGETHER:");
        clash(sea + JUMP, 0, 1, 0);
        clash(sea + owl(3, 0, 0) + owl(4, 1, 0) + owl(5, 5, 0), 0, 2, 3);
        clash(sea + owl(3, 3, 0) + owl(4, 2, 0) + owl(5, 5, 0), 1, 2, 4);
        clash(sea + owl(3, 0, 0) + owl(4, 1, 0) + owl(5, 5, 0) + owl(6, 0, 3), 0, 2, 3);
        clash(sea + owl(3, 0, 0) + owl(20, 0, 0) + owl(21, 5, 0) + owl(22, 0, 0), 1, 2, 20);
        clash(sea + owl(0, 0, 0) + owl(47, 0, 0) + owl(46, 5, 0), 1, 2, 46);

        Sentences.sentence(18, "that which ends earlier by its later (or only) SAYING; alone, if alike.");
        clash(shallow + owl(3, 0, 0) + owl(4, 3, 0) + owl(30, 4, 0), 0, 1, 3);
        clash(shallow + owl(3, 4, 0) + owl(20, 3, 0) + owl(21, 0, 0), -1, 0, 3);
        clash(shallow + owl(3, 0, 0) + owl(4, 4, 0), -1, 1, 4);
        clash(sea + owl(3, 0, 0) + owl(4, 4, 0) + Sentences.book("owl", 0, 0, 5, 5), -1, 1, 4);
        clash(sea + owl(3, 0, 0) + owl(4, 4, 0) + Sentences.book("owl", 4, 0, 5, 5), -1, 0, 3);
        clash(sea + owl(3, 0, 0) + owl(4, 4, 0) + owl(9, 4, 0) + Sentences.book("owl", 0, 0, 8, 8), 0, 1, 3);

        Sentences.sentence(18, "CLASH: 0 the earlier SAYING (NONE, if it is alone), 1 the later or only one, 2 since which hour "
                + "(of the earlier, or only one).");
        clash(sea + owl(3, 0, 0) + owl(40, 0, 0) + owl(41, 5, 0), 1, 2, 40);
        clash(shallow + owl(3, 0, 0) + owl(40, 4, 0), -1, 1, 40);
        clash(shallow + owl(0, 4, 0), -1, 0, 0);

        Sentences.sentence(18, "NONE without, or for others.");
        clash(sea + owl(3, 0, 0) + owl(40, 0, 0), -1, -1, -1);
        clash(sea + owl(3, 0, 0), -1, -1, -1);
        clash(sea, -1, -1, -1);
        ToldTracks x = Sentences.told(sea + JUMP);
        int[] others = {3, -1, LEAST, MOST};
        for (int w : others) {
            Sentences.due("what " + w, x.clash(0, w), -1);
        }
        int[] ships = {1, -1, 8, LEAST, MOST};
        for (int s : ships) {
            for (int w = 0; w < 3; w++) {
                Sentences.due("ship " + s + " " + w, x.clash(s, w), -1);
            }
        }
        x.drop(0, 1);
        Sentences.due("it went", x.clash(0, 1), -1);
    }

    // ---- others

    private static void who() {
        StringBuilder eight = new StringBuilder(Sentences.FLAT);
        for (int s = 0; s < 8; s++) {
            eight.append(Sentences.ship("" + (char) ('a' + s), 0, 1 + s % 4, s == 6 ? 21 : 5, 0));
        }
        Sentences.sentence(19, "Ships that could have said it, as bits (NAME);");
        ToldTracks x = Sentences.told(eight + Sentences.says("a", 3, 0, 0, 0) + Sentences.says("a", 4, 2, 0, 0)
                + Sentences.says("h", 4, 2, 0, 0));
        // By speed b, c, d, f, g, h; g has no water.
        Sentences.due("two cells in an hour", x.who(0), 2 + 4 + 8 + 32 + 128);
        Sentences.due("all but a and g", x.who(7), 2 + 4 + 8 + 16 + 32);
        Sentences.due("no sayings", x.who(1), 0);
        x.drop(0, 0);
        Sentences.due("all but itself and g", x.who(0), 255 - 1 - 64);
        Sentences.due("a, too", x.who(7), 255 - 128 - 64);
        x.add(6, 9, 0, 0, false);
        Sentences.due("what has no water", x.who(6), 255 - 64);
        Sentences.due("nobody but itself", Sentences.told(Sentences.FLAT + Sentences.OWL + owl(1, 0, 0)).who(0), 0);

        Sentences.sentence(19, "NONE if there is none such.");
        int[] ships = {8, -1, LEAST, MOST};
        for (int s : ships) {
            Sentences.due("ship " + s, x.who(s), -1);
        }
        Sentences.due("ship 1 of one", Sentences.told(Sentences.FLAT + Sentences.OWL).who(1), -1);
    }

    private static void swapped(String text, int want) {
        ToldTracks x = Sentences.told(Sentences.FLAT + Sentences.OWL + SLOW + FAST + text);
        Sentences.due("swap(0, 1) of " + text, x.swap(0, 1), want);
        Sentences.due("swap(1, 0) of " + text, x.swap(1, 0), want);
    }

    private static void swap() {
        Sentences.sentence(20, "Whether two SHIPS with SAYINGS can have said each other's (all of the one FIT for the other with "
                + "its BOOKS alone, both ways): 1, 0;");
        String both = owl(3, 0, 0) + Sentences.says("slow", 3, 5, 0, 0);
        swapped(both, 1);
        swapped(both + Sentences.book("owl", 5, 0, 4, 4), 1);
        swapped(both + Sentences.book("owl", 0, 0, 4, 4), 0);
        swapped(both + Sentences.book("slow", 5, 0, 4, 4), 0);
        swapped(both + Sentences.book("slow", 0, 0, 2, 3), 1);
        // Five steps in five hours, no less: by the hours that they said.
        swapped(both + Sentences.book("owl", 0, 0, 8, 8) + Sentences.book("slow", 5, 0, 8, 8), 1);
        swapped(both + Sentences.book("owl", 0, 0, 7, 7), 0);
        swapped(both + Sentences.book("slow", 5, 0, 7, 7), 0);
        swapped(both + owl(4, 4, 0), 0);
        swapped(both + owl(4, 1, 0) + Sentences.says("slow", 4, 4, 0, 0), 1);
        swapped(both + Sentences.book("slow", 1, 1, 20, 20) + Sentences.book("slow", 1, 0, 20, 20), 0);
        ToldTracks x = Sentences.told(Sentences.FLAT + Sentences.OWL + FAST + owl(3, 0, 0)
                + Sentences.says("fast", 3, 0, 0, 0) + Sentences.says("fast", 4, 4, 0, 0));
        Sentences.due("one way alone", x.swap(0, 1), 0);
        Sentences.due("one way alone", x.swap(1, 0), 0);
        x = Sentences.told(SHALLOW + Sentences.OWL + Sentences.ship("b", 0, 1, 1, 6) + Sentences.says("owl", 3, 5, 0, 0)
                + Sentences.says("b", 3, 5, 0, 1));
        Sentences.due("too heavy for it", x.swap(0, 1), 0);
        x.drop(1, 0);
        x.add(1, 3, 5, 0, false);
        Sentences.due("not so heavy", x.swap(0, 1), 1);

        Sentences.sentence(20, "NONE if there are none such (unlike ones, with SAYINGS).");
        x = Sentences.told(Sentences.FLAT + Sentences.OWL + SLOW + FAST + both);
        int[][] none = {{0, 0}, {1, 1}, {0, 2}, {2, 0}, {2, 2}, {0, 3}, {3, 0}, {0, -1}, {-1, 0}, {-1, -1}, {0, 8}, {0, MOST},
            {LEAST, 0}, {3, 3}};
        for (int[] a : none) {
            Sentences.due("swap " + a[0] + " " + a[1], x.swap(a[0], a[1]), -1);
        }
        x.drop(0, 0);
        Sentences.due("without sayings", x.swap(0, 1), -1);
    }

    private static void counts() {
        String three = Sentences.ship("b", 0, 1, 5, 3) + Sentences.ship("c", 0, 1, 5, 3);
        Sentences.sentence(21, "How many SHIPS have this as the PLAINEST kind (NONE: have no kind though they have SAYINGS);");
        ToldTracks x = Sentences.told(Sentences.FLAT + Sentences.OWL + three + Sentences.KITE + JUMP
                + Sentences.says("b", 0, 3, 0, 0) + Sentences.says("b", 2, 3, 0, 0) + Sentences.says("c", 3, 0, 0, 0)
                + Sentences.book("c", 5, 0, 3, 3));
        // Owl is two, b silent, what c said could have been kite's, which says nothing.
        int[] want = {0, 0, 1, 1, 1, 0};
        for (int kind = -1; kind < 5; kind++) {
            Sentences.due("kinds " + kind, x.kinds(kind), want[kind + 1]);
        }
        x.add(3, 3, 5, 3, false);
        int[] then = {1, 1, 1, 0, 1, 0};
        for (int kind = -1; kind < 5; kind++) {
            Sentences.due("then, kinds " + kind, x.kinds(kind), then[kind + 1]);
        }
        x.add(0, 2, 0, 3, false);
        Sentences.due("moved", x.kinds(4), 1);
        StringBuilder eight = new StringBuilder(Sentences.FLAT);
        for (int s = 0; s < 8; s++) {
            String name = "" + (char) ('a' + s);
            eight.append(Sentences.ship(name, 0, 1, 5, 0)).append(Sentences.says(name, s, 0, 0, 0));
        }
        Sentences.due("all eight", Sentences.told(eight.toString()).kinds(0), 8);
        Sentences.due("none of them", Sentences.told(eight.toString()).kinds(-1), 0);
        ToldTracks y = Sentences.told(Sentences.FLAT + Sentences.OWL + three);
        for (int kind = -1; kind < 5; kind++) {
            Sentences.due("without sayings, kinds " + kind, y.kinds(kind), 0);
        }

        Sentences.sentence(21, "NONE for others.");
        int[] others = {5, -2, 6, LEAST, MOST};
        for (int kind : others) {
            Sentences.due("kinds " + kind, x.kinds(kind), -1);
        }

        Sentences.sentence(22, "Fewest lies: LIES of all SHIPS together.");
        Sentences.due("owl two, c one", x.lies(), 3);
        Sentences.due("none", y.lies(), 0);
        y.add(0, 0, 0, 0, false);
        Sentences.due("a truth", y.lies(), 0);
        y.add(0, 1, 5, 0, false);
        y.add(2, 0, 0, 0, false);
        y.add(2, 1, 5, 0, false);
        y.add(2, 2, 0, 3, false);
        Sentences.due("one and two", y.lies(), 3);
        y.drop(2, 0);
        Sentences.due("one and one", y.lies(), 2);
        ToldTracks all = Sentences.told(eight.toString());
        Sentences.due("none of eight", all.lies(), 0);
        all.add(7, 30, 0, 0, false);
        all.add(7, 31, 5, 0, false);
        Sentences.due("one of eight's last", all.lies(), 1);
        Sentences.due("all of one whose books do not fit", Sentences.told(Sentences.FLAT + Sentences.OWL + owl(30, 0, 0)
                + owl(31, 0, 0) + Sentences.book("owl", 0, 1, 3, 3) + Sentences.book("owl", 0, 0, 3, 3)).lies(), 2);
    }

    public static void main(String[] args) {
        trueAndSilent();
        name();
        pair();
        movedAndOrder();
        judgeAndTale();
        bars();
        clashes();
        who();
        swap();
        counts();
        // CLASH is told in the terms ahead of MET.
        Sentences.done(15, 22, "III. TALES of a SHIP", "MET have two SHIPS");
    }
}
