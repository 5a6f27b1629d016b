/** Promises 1 to 7 and the terms of THE SEA's text, sentence by sentence. */
public final class SeaSentencesTest {
    private static final int LEAST = Integer.MIN_VALUE;
    private static final int MOST = Integer.MAX_VALUE;
    private static final String RICH = "size 6 4;depth 20 when column<5;cost 3 when row=1;quiet when hour=2;luck 33;"
            + Sentences.OWL + Sentences.KITE + Sentences.says("owl", 9, 1, 1, 1) + Sentences.says("owl", 7, 0, 0, 0)
            + Sentences.says("kite", 1, 5, 0, 0) + Sentences.book("kite", 2, 2, 3, 4) + Sentences.seen(2, 2, 2, 3);

    private static String many(String text, int n) {
        return text.repeat(n);
    }

    // ---- 1 to 3

    private static void newObject() {
        Sentences.sentence(1, "No CELLS, no SHIPS.");
        ToldTracks x = new ToldTracks();
        int[] has = {0, 0, 0, 0, 0, 0, 10, 0};
        for (int w = 0; w < has.length; w++) {
            Sentences.due("has " + w, x.has(w), has[w]);
        }
        Sentences.due("letter", x.letter(0, 0), -1);
        Sentences.due("ship", x.ship(0, 0), -1);
        Sentences.due("saying", x.saying(0, 0, 0), -1);
        Sentences.due("cell", x.cell(0, 0, 0, 0), -1);
        Sentences.due("far", x.far(0, 0, 0, 0, 0), -1);
        Sentences.due("can", x.can(0, 0, 1), -1);
        Sentences.due("reach", x.reach(0, 0, -1), -1);
        Sentences.due("may", x.may(0, 0, 0, 0), -1);
        Sentences.due("judge", x.judge(0, 0), -1);
        Sentences.due("tale", x.tale(0, 0), -1);
        Sentences.due("bars", x.bars(0), -1);
        Sentences.due("clash", x.clash(0, 1), -1);
        Sentences.due("who", x.who(0), -1);
        Sentences.due("swap", x.swap(0, 1), -1);
        for (int kind = -1; kind < 5; kind++) {
            Sentences.due("kinds " + kind, x.kinds(kind), 0);
        }
        Sentences.due("lies", x.lies(), 0);
        Sentences.due("met", x.met(0, 1, 0), -1);
        Sentences.due("sighting", x.sighting(0, 0), -1);
        Sentences.due("strange", x.strange(), 0);
        Sentences.due("doubted", x.doubted(), 0);
        Sentences.due("gaps", x.gaps(0, 0), -1);
        Sentences.due("chance", x.chance(0), -1);
        Sentences.due("beyond", x.beyond(), 0);
        Sentences.due("settles", x.settles(0, 0, 0), -1);
        Sentences.due("next", x.next(0), -1);
        Sentences.due("NONE", ToldTracks.NONE, -1);
        Sentences.due("off", x.off(0), 100);
        Sentences.due("whose", x.whose(), 0);
        Sentences.due("add", x.add(0, 0, 0, 0, false), -1);
        Sentences.due("drop", x.drop(0, 0), -1);
        Sentences.due("spot", x.spot(0, 0, 0, 0), -1);
        Sentences.no("the tape is empty", x.end(1));
        // No SAYINGS and no SIGHTINGS are told by three bytes, which need no sea.
        Sentences.due("image", x.image(), 3);
        Sentences.yes("an empty image", Sentences.takes(x, 0, 0));
        Sentences.no("no ship has a saying", Sentences.takes(x, 1, 0, 0, 0, 0, 0));
        Sentences.no("no cell is seen", Sentences.takes(x, 0, 1, 0, 0, 0));
    }

    private static void feed() {
        Sentences.sentence(2, "Twenty bytes come behind those on the tape, of each number the highest first: how many "
                + "there are;");
        ToldTracks x = new ToldTracks();
        Sentences.due("first", x.feed(0x73697a65, 0x20352037, 0x3b6c7563, 0x6b203132, 0x3b6c7563), 20);
        Sentences.due("second", x.feed(0x6b203233, 0x3b202020, 0x20202020, 0x20202020, 0x20202020), 40);
        Sentences.due("statements", x.sea(), 3);
        Sentences.due("columns", x.has(0), 5);
        Sentences.due("rows", x.has(1), 7);
        Sentences.due("luck", x.has(6), 23);
        // A byte of 255 at each of the four places of a number, the sign's among them.
        ToldTracks y = Sentences.told("size 16 16;");
        Sentences.yes("bytes of 255", Sentences.takes(y, 0, 4, 0, 255, 1, 0, 255, 2, 0, 255, 3, 0, 255, 4));
        for (int i = 0; i < 4; i++) {
            Sentences.due("cell " + i, y.sighting(i, 1), 255);
            Sentences.due("hour " + i, y.sighting(i, 2), i + 1);
        }
        Sentences.due("behind what went", y.feed(0, 0, 0, 0, 0), 20);

        Sentences.sentence(2, "NONE, doing nothing, if there would be more than 1800.");
        ToldTracks z = new ToldTracks();
        for (int k = 1; k <= 90; k++) {
            Sentences.due("feed", z.feed(k, -1, LEAST, MOST, 0x20202020), 20L * k);
        }
        Sentences.due("20 too many", z.feed(0, 0, 0, 0, 0), -1);
        Sentences.no("doing nothing", z.end(1801));
        Sentences.yes("doing nothing", z.end(1781));
        Sentences.due("one too many", z.feed(0, 0, 0, 0, 0), -1);
        Sentences.no("doing nothing", z.end(1782));
        Sentences.yes("doing nothing", z.end(1781));
        Sentences.yes("end", z.end(1780));
        Sentences.due("just so many", z.feed(0, 0, 0, 0, 0), 1800);
        ToldTracks w = new ToldTracks();
        String text = "size 3 3;" + many("luck 7;", 255) + "luck 9";
        Sentences.due("the text's length", text.length(), 1800);
        Sentences.due("a text just too long", Sentences.tell(w, text), -1);
        Sentences.due("at its length", w.fault(1), 1800);
        text = "size 3 3;" + many("luck 7;", 254) + many("\n", 6) + "luck 9;";
        Sentences.due("the text's length", text.length(), 1800);
        Sentences.due("a text as long as it may be", Sentences.tell(w, text), 256);
        Sentences.due("its last statement", w.has(6), 9);
    }

    private static void end() {
        Sentences.sentence(3, "The tape has its first n bytes alone: true;");
        ToldTracks x = new ToldTracks();
        x.feed(0x73697a65, 0x20352037, 0x3b6c7563, 0x6b203132, 0x3b6c7563);
        Sentences.yes("all of them", x.end(20));
        Sentences.yes("some", x.end(9));
        Sentences.due("behind the first", x.feed(0x6c75636b, 0x2031323b, 0x20202020, 0x20202020, 0x20202020), 29);
        Sentences.due("statements", x.sea(), 2);
        Sentences.due("luck", x.has(6), 12);
        x.feed(1, 2, 3, 4, 5);
        Sentences.yes("none", x.end(0));
        Sentences.yes("none of none", x.end(0));
        Sentences.due("from the start", x.feed(1, 2, 3, 4, 5), 20);
        Sentences.yes("all but one", x.end(19));
        Sentences.no("that one is gone", x.end(20));

        Sentences.sentence(3, "false, doing nothing, if it has not so many, or n is below 0.");
        ToldTracks y = new ToldTracks();
        Sentences.no("of none", y.end(1));
        y.feed(0x73697a65, 0x20352037, 0x3b202020, 0x20202020, 0x20202020);
        int[] n = {21, 1800, MOST, -1, -20, LEAST};
        for (int k : n) {
            Sentences.no("end " + k, y.end(k));
        }
        Sentences.due("doing nothing", y.sea(), 1);
        Sentences.due("refusals", y.status(0), 7);
    }

    // ---- 4: what it does

    private static void sea() {
        Sentences.sentence(4, "The tape (it goes) is THE SEA: how many STATEMENTS;");
        ToldTracks x = new ToldTracks();
        Sentences.due("one", Sentences.tell(x, "size 2 3;"), 1);
        Sentences.no("it goes", x.end(1));
        Sentences.due("many", Sentences.tell(x, RICH), 12);
        Sentences.due("it goes", x.feed(0, 0, 0, 0, 0), 20);
        Sentences.due("a fault", x.sea(), -1);
        Sentences.no("it goes with a fault, too", x.end(1));
        Sentences.due("anew", Sentences.tell(x, "size 3 2;"), 1);
        int[] has = {3, 2, 0, 0, 0, 0, 10, 0};
        for (int w = 0; w < has.length; w++) {
            Sentences.due("nothing is left of the sea ahead: has " + w, x.has(w), has[w]);
        }
        Sentences.due("nor of its depth", x.cell(0, 0, 2, 0), 0);
        Sentences.due("nor of its cost", x.cell(0, 1, 2, 1), 0);
        Sentences.due("nor of its quiet hours", x.cell(0, 0, 2, 2), 0);
        Sentences.tell(x, "size 3 2;depth 9 when all;" + Sentences.ship("owl", 3, 4, 1, 0));
        Sentences.due("a ship of the same name has no sayings", x.ship(0, 4), 0);
        Sentences.due("and no books", x.ship(0, 7), 0);
        Sentences.due("and may be anywhere", x.reach(0, 7, -1), 6);
        seasInTurn();

        Sentences.sentence(4, "NONE with a FAULT (all stays;");
        String other = "size 9 9;depth 1 when all;cost 2 when all;quiet when all;luck 77;"
                + Sentences.ship("zz", 0, 4, 1, 0) + Sentences.ship("owl", 0, 4, 1, 0) + Sentences.says("owl", 1, 8, 8, 0)
                + Sentences.book("zz", 8, 8, 1, 1) + Sentences.seen(0, 8, 8, 1);
        String[] ends = {"!luck", "ship !owl", "says !kite", "luck !101;", "quiet when [[[[[[[[![all]]]]]]]]];"};
        String want = Sentences.answers(Sentences.told(RICH));
        for (int fault = 1; fault <= 5; fault++) {
            ToldTracks y = Sentences.told(RICH);
            String text = other + ends[fault - 1].replace("!", "");
            Sentences.due("sea", Sentences.tell(y, text), -1);
            Sentences.due("fault", y.fault(0), fault);
            Sentences.due("place", y.fault(1), fault == 1 ? text.length() : other.length() + ends[fault - 1].indexOf('!'));
            Sentences.same("a fault " + fault, Sentences.answers(y), want);
        }
        ToldTracks y = Sentences.told(RICH);
        y.add(1, 30, 2, 2, true);
        int length = y.image();
        String before = Sentences.answers(y);
        Sentences.due("sea", Sentences.tell(y, other + "?"), -1);
        Sentences.same("what came since, and the image", Sentences.answers(y), before);
        Sentences.due("image", y.image(), length);

        Sentences.sentence(4, "one without a STATEMENT has FAULT 1 at its length).");
        Sentences.bad("", 1, 0);
        Sentences.bad(" ", 1, 1);
        Sentences.bad("\n", 1, 1);
        Sentences.bad(" \n\n  ", 1, 5);
        Sentences.bad(many(" ", 1800), 1, 1800);
        ToldTracks z = new ToldTracks();
        Sentences.due("without any bytes", z.sea(), -1);
        Sentences.due("fault", z.fault(0), 1);
        Sentences.due("place", z.fault(1), 0);

        Sentences.sentence(4, "REFUSALS stay in any case.");
        ToldTracks w = new ToldTracks();
        for (int k = 0; k < 3; k++) {
            w.end(-1);
            w.drop(0, 0);
            w.spot(0, 0, 0, 0);
            w.on();
        }
        w.sea();
        int[] status = {3, 1, 3, 3, 3};
        Sentences.tell(w, RICH);
        for (int k = 0; k < 5; k++) {
            Sentences.due("status " + k, w.status(k), status[k]);
        }
        Sentences.tell(w, "size 2");
        for (int k = 0; k < 5; k++) {
            Sentences.due("with a fault, status " + k, w.status(k), k == 1 ? 2 : status[k]);
        }
    }

    /** Some of what is reckoned once and then kept. */
    private static void touch(ToldTracks x) {
        for (int hour = 0; hour < 3; hour++) {
            x.cell(1, 1, hour, 2);
        }
        x.cell(1, 1, 0, 1);
        x.next(0);
        x.strange();
        for (int s = 0; s < 2; s++) {
            x.tale(s, 0);
            x.reach(s, 10, -1);
            x.off(s);
        }
    }

    /** After any two seas the third one is as if it were told to a new object. */
    private static void seasInTurn() {
        String[] seas = {RICH,
            "size 3 16;depth column*3+row when not row=4;cost row when all;" + Sentences.ship("b", 2, 1, 3, 0)
                    + Sentences.says("b", 10, 1, 1, 0) + Sentences.says("b", 12, 2, 2, 1) + Sentences.seen(2, 1, 1, 11)
                    + Sentences.seen(2, 1, 9, 11),
            "size 16 3;depth 9 when column%5<4;quiet when hour=1 and row=1;luck 0;" + Sentences.ship("owl", 3, 4, 9, 0)
                    + Sentences.ship("kit", 2, 1, 1, 1) + Sentences.says("owl", 9, 1, 1, 0) + Sentences.says("owl", 11, 3, 2, 0)
                    + Sentences.book("owl", 2, 2, 3, 4) + Sentences.book("kit", 2, 2, 3, 4) + Sentences.book("kit", 2, 1, 4, 4)
                    + Sentences.says("kit", 9, 5, 1, 0),
            "size 6 4;depth 20 when row<2;" + Sentences.ship("a", 1, 1, 5, 3) + Sentences.ship("b", 2, 3, 8, 4)
                    + Sentences.ship("c", 3, 1, 8, 4) + Sentences.says("a", 7, 0, 0, 0) + Sentences.says("b", 1, 5, 0, 0),
            "size 2 2;"};
        for (int first = 0; first < seas.length; first++) {
            for (int second = 0; second < seas.length; second++) {
                for (int third = 0; third < seas.length; third++) {
                    ToldTracks x = Sentences.told(seas[first]);
                    touch(x);
                    Sentences.tell(x, seas[second]);
                    touch(x);
                    Sentences.tell(x, seas[third]);
                    Sentences.same("seas " + first + ", " + second + ", " + third, Sentences.answers(x),
                            Sentences.answers(Sentences.told(seas[third])));
                }
            }
        }
        String sums = "size 2 2;" + many("depth 1" + many("+1", 68) + " when column=1;", 11) + "depth 2 when all;";
        ToldTracks x = Sentences.told(sums);
        for (int turn = 0; turn < 4; turn++) {
            Sentences.due("again and again", Sentences.tell(x, sums), 13);
            Sentences.due("again and again", x.cell(0, 0, 0, 0), 2);
            Sentences.due("again and again", x.cell(1, 0, 0, 0), 69);
        }
    }

    // ---- 4: words, numbers, signs

    private static void words() {
        Sentences.sentence(4, "I. THE SEA is a text, with WORDS (1 to 6 letters a .. z),");
        Sentences.good("size 2 2;" + Sentences.ship("a", 0, 1, 1, 0) + Sentences.ship("z", 0, 1, 1, 0)
                + Sentences.ship("zzzzzz", 0, 1, 1, 0) + Sentences.ship("abcdef", 0, 1, 1, 0), 5);
        Sentences.faultAt("size 2 2;ship abcdef!g look 0 speed 1 draft 1 load 0;", 1);
        Sentences.faultAt("size 2 2;ship zzzzzz!z look 0 speed 1 draft 1 load 0;", 1);
        Sentences.faultAt("size 2 2;ship !A look 0 speed 1 draft 1 load 0;", 1);
        Sentences.faultAt("size 2 2;ship a!` look 0 speed 1 draft 1 load 0;", 1);
        Sentences.faultAt("size 2 2;ship a!{ look 0 speed 1 draft 1 load 0;", 1);
        Sentences.faultAt("size 2 2;ship a!_b look 0 speed 1 draft 1 load 0;", 1);
        Sentences.faultAt("!Size 2 2;", 1);

        Sentences.sentence(4, "NUMBERS (1 to 4 digits)");
        Sentences.good("size 2 0016;luck 0;luck 00;luck 000;luck 0000;luck 0100;", 6);
        Sentences.good("size 2 2;depth 0000+9999 when 9999>0;", 2);
        Sentences.faultAt("size 2 0001!6;", 1);
        Sentences.faultAt("size 2 2;luck 0000!0;", 1);
        Sentences.faultAt("size 2 2;depth 9999!9 when all;", 1);
        Sentences.faultAt("size 2 2!/;", 1);
        Sentences.faultAt("size 2 2!:;", 1);
        Sentences.faultAt("size 2 !-2;", 1);
        Sentences.faultAt("size 2 2!.5;", 1);

        Sentences.sentence(4, "and signs, blanks (10, 32) between where one likes");
        String spread = " size 6 4 ; depth ( column + 9 ) * 2 - 1 / 2 % 3 when not [ all or 1 < 2 ] and 3 > row ; "
                + "quiet when min ( 1 , 2 ) = max ( 3 , hour ) ; ship a look 0 speed 1 draft 1 load 0 ; "
                + "says a 1 at 2 3 laden 0 ; book a at 2 3 from 1 to 2 ; seen 0 at 2 3 hour 1 ; luck 3 ; ";
        Sentences.good(spread, 8);
        Sentences.good(spread.replace(" ", "\n"), 8);
        Sentences.good(spread.replace(" ", " \n  \n"), 8);
        Sentences.good(spread.replaceAll(" ?([^a-z0-9 ]) ?", "$1").trim(), 8);
        int[] others = {0, 9, 11, 12, 13, 31, 33, 127, 160, 255};
        for (int sign : others) {
            Sentences.bad("size 6" + (char) sign + "4;", 1, 6);
            Sentences.bad((char) sign + "size 6 4;", 1, 0);
            Sentences.bad("size 6 4;" + (char) sign, 1, 9);
        }

        Sentences.sentence(4, "(WORDS and NUMBERS side by side need one): { STATEMENT ; }.");
        Sentences.faultAt("size!2 2;", 1);
        Sentences.faultAt("size 2 2;ship owl!1 look 0 speed 1 draft 1 load 0;", 1);
        Sentences.faultAt("size 2 2;ship owl look 0!speed 1 draft 1 load 0;", 1);
        Sentences.faultAt("size 2 2;depth 1!when all;", 1);
        Sentences.faultAt("size 2 2;ship owl look!0 speed 1 draft 1 load 0;", 1);
        Sentences.faultAt("size 2 2;!allall;", 1);
        Sentences.faultAt("size !22;", 4);
        Sentences.faultAt("size 2 2;depth !rowrow when all;", 1);
        Sentences.good("size 2 2;depth(1)when[all];depth min(1,2)when[all]and[all]or[all];depth 1%row when 1<row and all;", 4);
        Sentences.good("size\n2 2;luck\n3;", 2);
        Sentences.faultAt("size 2 2!", 1);
        Sentences.faultAt("size 2 2 !luck 3;", 1);
        Sentences.faultAt("size 2 2;luck 3!", 1);
        Sentences.faultAt("size 2 2;luck 3;!;", 1);
        Sentences.faultAt("size 2 2!,luck 3;", 1);
        Sentences.faultAt("!;size 2 2;", 1);
        Sentences.good("size 2 2;" + many("luck 1;", 250), 251);
    }

    // ---- 4: statements

    private static void sizes() {
        Sentences.sentence(4, "STATEMENTS: size N N (columns, rows, 2 .. 16 each;");
        ToldTracks x = Sentences.told("size 2 16;");
        Sentences.due("columns", x.has(0), 2);
        Sentences.due("rows", x.has(1), 16);
        x = Sentences.told("size 16 2;");
        Sentences.due("columns", x.has(0), 16);
        Sentences.due("rows", x.has(1), 2);
        String[] never = {"0", "1", "17", "9999", "0001"};
        for (String n : never) {
            Sentences.faultAt("size !" + n + " 2;", 4);
            Sentences.faultAt("size 2 !" + n + ";", 4);
        }
        Sentences.faultAt("size 2 2 !2;", 1);
        Sentences.faultAt("size 2!;", 1);

        Sentences.sentence(4, "the first STATEMENT, and it alone);");
        Sentences.faultAt("!luck 3;size 2 2;", 1);
        Sentences.faultAt("!depth 1 when all;", 1);
        Sentences.faultAt("!ship a look 0 speed 1 draft 1 load 0;size 2 2;", 1);
        Sentences.faultAt("size 2 2;!size 2 2;", 1);
        Sentences.faultAt("size 2 2;luck 3;!size 3 3;", 1);
    }

    private static void rules() {
        Sentences.sentence(4, "depth SUM when TEST, cost SUM when TEST (12 of each);");
        String text = "size 2 2;" + many("depth 1 when column=1;", 11) + many("cost 2 when column=1;", 11)
                + "depth 7 when all;cost 8 when all;";
        Sentences.good(text, 25);
        ToldTracks x = Sentences.told(text);
        Sentences.due("the 12th depth", x.cell(0, 0, 0, 0), 7);
        Sentences.due("the 12th cost", x.cell(0, 0, 0, 1), 8);
        Sentences.due("the 1st depth", x.cell(1, 0, 0, 0), 1);
        Sentences.due("the 1st cost", x.cell(1, 0, 0, 1), 2);
        Sentences.faultAt(text + "!depth 1 when all;", 5);
        Sentences.faultAt(text + "!cost 1 when all;", 5);
        Sentences.good(text + "luck 3;quiet when all;", 27);
        Sentences.faultAt("size 2 2;depth !when all;", 1);
        Sentences.faultAt("size 2 2;depth 1 !all;", 1);
        Sentences.faultAt("size 2 2;depth 1 when!;", 1);
        Sentences.faultAt("size 2 2;cost 1!;", 1);
        Sentences.faultAt("size 2 2;cost 1 when all !all;", 1);

        Sentences.sentence(4, "quiet when TEST (6);");
        String quiet = "size 2 2;" + many("quiet when hour=1;", 5) + "quiet when hour=9;";
        Sentences.good(quiet, 7);
        x = Sentences.told(quiet);
        Sentences.due("the 1st", x.cell(0, 0, 1, 2), 1);
        Sentences.due("the 6th", x.cell(0, 0, 9, 2), 1);
        Sentences.due("none", x.cell(0, 0, 8, 2), 0);
        Sentences.faultAt(quiet + "!quiet when all;", 5);
        Sentences.faultAt("size 2 2;quiet !1 when all;", 1);
        Sentences.faultAt("size 2 2;quiet !all;", 1);
    }

    private static void shipStatements() {
        Sentences.sentence(4, "ship NAME look N speed N draft N load N (8 SHIPS; LOOK 0 .. 3, SPEED 1 .. 4 cells an "
                + "hour, DRAFT 1 .. 40, LOAD 0 .. 40);");
        StringBuilder eight = new StringBuilder("size 3 4;");
        for (char c = 'a'; c < 'i'; c++) {
            eight.append(Sentences.ship("" + c, (c - 'a') % 4, 1 + (c - 'a') % 4, c == 'a' ? 1 : 40, c == 'a' ? 0 : 40));
        }
        Sentences.good(eight.toString(), 9);
        ToldTracks x = Sentences.told(eight.toString());
        Sentences.due("ships", x.has(2), 8);
        int[] first = {0, 1, 1, 0};
        int[] last = {3, 4, 40, 40};
        for (int w = 0; w < 4; w++) {
            Sentences.due("ship 0 " + w, x.ship(0, w), first[w]);
            Sentences.due("ship 7 " + w, x.ship(7, w), last[w]);
        }
        Sentences.faultAt(eight + "!ship i look 0 speed 1 draft 1 load 0;", 5);
        Sentences.faultAt(eight + "!ship a look 0 speed 1 draft 1 load 0;", 5);
        Sentences.faultAt("size 3 4;ship a look !4 speed 1 draft 1 load 1;", 4);
        Sentences.faultAt("size 3 4;ship a look 3 speed !0 draft 1 load 1;", 4);
        Sentences.faultAt("size 3 4;ship a look 3 speed !5 draft 1 load 1;", 4);
        Sentences.faultAt("size 3 4;ship a look 3 speed 4 draft !0 load 1;", 4);
        Sentences.faultAt("size 3 4;ship a look 3 speed 4 draft !41 load 1;", 4);
        Sentences.faultAt("size 3 4;ship a look 3 speed 4 draft 40 load !41;", 4);
        Sentences.faultAt("size 3 4;ship a !speed 4 look 3 draft 40 load 4;", 1);
        Sentences.faultAt("size 3 4;ship a look 3 speed 4 draft 40!;", 1);
    }

    private static void sayingStatements() {
        String sea = "size 3 4;" + Sentences.ship("a", 0, 1, 1, 0) + Sentences.ship("b", 0, 1, 1, 0);
        Sentences.sentence(4, "says NAME N at N N laden N (a SHIP, an hour, a CELL by column and row, 0 or 1: a SAYING; 96);");
        ToldTracks x = Sentences.told(sea + Sentences.says("b", 47, 2, 3, 1) + Sentences.says("b", 0, 0, 0, 0));
        int[][] want = {{0, 0, 0}, {47, 11, 1}};
        for (int i = 0; i < 2; i++) {
            for (int w = 0; w < 3; w++) {
                Sentences.due("saying " + i + " " + w, x.saying(1, i, w), want[i][w]);
            }
        }
        Sentences.due("none of another", x.ship(0, 4), 0);
        Sentences.faultAt(sea + "says a !48 at 0 0 laden 0;", 4);
        Sentences.faultAt(sea + "says a 0 at !3 0 laden 0;", 4);
        Sentences.faultAt(sea + "says a 0 at 0 !4 laden 0;", 4);
        Sentences.faultAt(sea + "says a 0 at 0 0 laden !2;", 4);
        Sentences.faultAt(sea + "says a !at 0 0 laden 0;", 1);
        Sentences.faultAt(sea + "says a 0 at 0 0!;", 1);
        Sentences.faultAt(sea + "says a 0 !0 0 laden 0;", 1);
        // 97 of them are longer than the tape, so they come by add() (promise 34). As many as it holds:
        StringBuilder most = new StringBuilder(sea);
        for (int k = 0; k < 66; k++) {
            most.append(Sentences.says(k % 2 == 0 ? "a" : "b", 47 - k / 2, 0, 0, 0));
        }
        Sentences.good(most.toString(), 3 + 66);
        Sentences.due("sayings", Sentences.told(most.toString()).has(3), 66);
        StringBuilder each = new StringBuilder("size 3 4;" + Sentences.ship("a", 0, 1, 1, 0));
        for (int hour = 0; hour < 48; hour++) {
            each.append(Sentences.says("a", hour, 0, 0, 0));
        }
        Sentences.due("each hour", Sentences.told(each.toString()).ship(0, 4), 48);
        // A text's limit is of this text alone: what was there ahead of it does not count.
        ToldTracks y = Sentences.told(sea);
        for (int k = 0; k < 96; k++) {
            y.add(k % 2, k / 2, 0, 0, false);
        }
        Sentences.due("anew", Sentences.tell(y, sea + Sentences.says("a", 3, 0, 0, 0)), 4);
    }

    private static void bookStatements() {
        String sea = "size 3 4;" + Sentences.ship("a", 0, 1, 1, 0) + Sentences.ship("b", 0, 1, 1, 0);
        Sentences.sentence(4, "book NAME at N N from N to N (a SHIP, a CELL, hours, the second not below the first: a "
                + "BOOK; 12);");
        ToldTracks x = Sentences.told(sea + "depth 9 when all;" + Sentences.book("b", 2, 3, 0, 47));
        Sentences.due("of b", x.ship(1, 7), 1);
        Sentences.due("of a", x.ship(0, 7), 0);
        Sentences.due("hour 0", x.may(1, 0, 2, 3), 1);
        Sentences.due("hour 0", x.reach(1, 0, -1), 1);
        Sentences.due("hour 47", x.reach(1, 47, 0), 11);
        x = Sentences.told(sea + "depth 9 when all;" + Sentences.book("a", 0, 0, 5, 5));
        Sentences.due("one hour", x.reach(0, 5, -1), 1);
        Sentences.due("the hour behind", x.reach(0, 6, -1), 3);
        Sentences.faultAt(sea + "book a at 0 0 from 5 to !4;", 4);
        Sentences.faultAt(sea + "book a at 0 0 from 47 to !48;", 4);
        Sentences.faultAt(sea + "book a at 0 0 from !48 to 48;", 4);
        Sentences.faultAt(sea + "book a at !3 0 from 5 to 5;", 4);
        Sentences.faultAt(sea + "book a at 0 !4 from 5 to 5;", 4);
        Sentences.faultAt(sea + "book a !5 at 0 0 from 5 to 5;", 1);
        String twelve = sea + many(Sentences.book("a", 0, 0, 1, 1), 6) + many(Sentences.book("b", 0, 0, 1, 1), 6);
        Sentences.good(twelve, 15);
        Sentences.due("books", Sentences.told(twelve).has(4), 12);
        Sentences.faultAt(twelve + "!book a at 0 0 from 5 to 5;", 5);
        Sentences.due("all of one", Sentences.told(sea + many(Sentences.book("a", 0, 0, 1, 1), 12)).ship(0, 7), 12);
    }

    private static void otherStatements() {
        String sea = "size 3 4;";
        Sentences.sentence(4, "seen N at N N hour N (a LOOK, a CELL, an hour: a SIGHTING; 40);");
        ToldTracks x = Sentences.told(sea + Sentences.seen(3, 2, 3, 47) + Sentences.seen(0, 0, 0, 0));
        int[][] want = {{3, 11, 47}, {0, 0, 0}};
        for (int i = 0; i < 2; i++) {
            for (int w = 0; w < 3; w++) {
                Sentences.due("sighting " + i + " " + w, x.sighting(i, w), want[i][w]);
            }
        }
        Sentences.faultAt(sea + "seen !4 at 0 0 hour 0;", 4);
        Sentences.faultAt(sea + "seen 0 at !3 0 hour 0;", 4);
        Sentences.faultAt(sea + "seen 0 at 0 !4 hour 0;", 4);
        Sentences.faultAt(sea + "seen 0 at 0 0 hour !48;", 4);
        Sentences.faultAt(sea + "seen !owl at 0 0 hour 0;", 1);
        Sentences.good(sea + many(Sentences.seen(0, 0, 0, 0), 40), 41);
        Sentences.faultAt(sea + many(Sentences.seen(0, 0, 0, 0), 40) + "!seen 0 at 0 0 hour 0;", 5);

        Sentences.sentence(4, "luck N (0 .. 100; the last one counts; 10 without).");
        Sentences.due("0", Sentences.told(sea + "luck 0;").has(6), 0);
        Sentences.due("100", Sentences.told(sea + "luck 100;").has(6), 100);
        Sentences.due("the last", Sentences.told(sea + "luck 3;luck 100;luck 7;").has(6), 7);
        Sentences.due("without", Sentences.told(sea).has(6), 10);
        Sentences.faultAt(sea + "luck !101;", 4);
        Sentences.faultAt(sea + "luck 3;luck !9999;", 4);
        Sentences.faultAt(sea + "luck!;", 1);

        Sentences.sentence(4, "HOURS are 0 .. 47.");
        x = Sentences.told(sea + "quiet when hour=0 or hour=47;depth 9 when all;" + Sentences.ship("a", 0, 1, 1, 0));
        int[] hours = {-1, 0, 47, 48};
        int[] cell = {-1, 1, 1, -1};
        int[] reach = {-1, 12, 12, -1};
        int[] settles = {-1, 0, 0, -1};
        for (int k = 0; k < 4; k++) {
            Sentences.due("cell", x.cell(0, 0, hours[k], 2), cell[k]);
            Sentences.due("reach", x.reach(0, hours[k], -1), reach[k]);
            Sentences.due("settles", x.settles(hours[k], 0, 0), settles[k]);
        }
        Sentences.due("add 48", x.add(0, 48, 0, 0, false), -1);
        Sentences.due("add 47", x.add(0, 47, 0, 0, false), 0);
        Sentences.due("add 0", x.add(0, 0, 0, 0, false), 0);
        Sentences.due("add -1", x.add(0, -1, 0, 0, false), -1);
        Sentences.due("spot 48", x.spot(0, 0, 0, 48), -1);
        Sentences.due("spot 47", x.spot(0, 0, 0, 47), 1);
    }

    // ---- 4: sums and tests

    private static final String NINE = "size 9 9;depth 7 when all;";

    /** Whether a test holds at column 2, row 3, hour 5, depth 7. */
    private static void holds(String test, boolean want) {
        ToldTracks x = Sentences.told(NINE + "quiet when " + test + ";");
        Sentences.due(test, x.cell(2, 3, 5, 2), want ? 1 : 0);
    }

    private static void refused(String marked) {
        Sentences.faultAt(NINE + "quiet when " + marked, 1);
    }

    private static void tests() {
        Sentences.sentence(4, "TEST: BOTH { or BOTH }.");
        holds("not all or all", true);
        holds("not all or not all or all", true);
        holds("not all or not all", false);
        holds("all or not all and not all", true);
        holds("not all and not all or all", true);
        holds("not all and all or not all", false);
        refused("all or!;");
        refused("!or all;");

        Sentences.sentence(4, "BOTH: FACT { and FACT }.");
        holds("all and all and all", true);
        holds("all and not all", false);
        holds("not all and all", false);
        holds("all and all and not all", false);
        refused("all and!;");
        refused("all and !and all;");

        Sentences.sentence(4, "FACT: not FACT; [ TEST ] ; all; SUM SIGN SUM, SIGN being < or > or = .");
        holds("all", true);
        holds("not all", false);
        holds("not not all", true);
        holds("not not not all", false);
        holds(many("not ", 40) + "all", true);
        holds("not 1=2 and not all", false);
        holds("not [1=2 and all]", true);
        holds("[not all or all] and not all", false);
        holds("[all]", true);
        holds("1<2", true);
        holds("2<2", false);
        holds("3<2", false);
        holds("1>2", false);
        holds("2>2", false);
        holds("3>2", true);
        holds("1=2", false);
        holds("2=2", true);
        holds("0-1<0", true);
        holds("0-1>0-2", true);
        refused("1<!=2;");
        refused("1=!=2;");
        refused("1<2!<3;");
        refused("1!;");
        refused("not!;");
        refused("[!];");
        refused("[all!;");
        refused("all!];");
        refused("[1=1!);");
        refused("(!all);");
        refused("[1!]=1;");
        refused("all!=all;");

        Sentences.sentence(4, "SUM: PRODUCT { + PRODUCT, or - PRODUCT }.");
        holds("1+2=3", true);
        holds("1+2-3+4=4", true);
        holds("2+3*4=14", true);
        holds("2*3+4=10", true);
        holds("20-2*3-1=13", true);
        refused("1+!=3;");
        refused("!-1<2;");
        refused("1+!+2=3;");
        refused("1+!-2=3;");

        Sentences.sentence(4, "PRODUCT: PART { * PART, or / PART, or % PART }.");
        holds("6*7=42", true);
        holds("42/6=7", true);
        holds("44%6=2", true);
        holds("2*3*4/5%3=1", true);
        refused("1*!=3;");
        refused("!*1=3;");
        refused("1/!/2=3;");
        refused("1*!-2=3;");

        Sentences.sentence(4, "PART: N; column; row; hour; depth; ( SUM ) ; min ( SUM , SUM ) ; max ( SUM , SUM ) .");
        holds("9999=9998+1", true);
        holds("column=2", true);
        holds("row=3", true);
        holds("hour=5", true);
        holds("depth=7", true);
        holds("(2+3)*4=20", true);
        holds("((2))=2", true);
        holds("min(3,2)=2 and min(2,3)=2 and min(2,2)=2", true);
        holds("max(3,2)=3 and max(2,3)=3 and max(2,2)=2", true);
        holds("min(0-3,2)=0-3 and max(0-3,0-2)=0-2", true);
        holds("max(min(column,row),min(hour,depth))=5", true);
        holds("min(1+1,9)*max(row,4)+1=9", true);
        // As much as can wait for what is in brackets: 3, 7, 15, and 19 from then on.
        holds("not all or not all and 0=1 or all and 19=1+2*" + many("min(9,1+2*", 7) + "min(9,1)" + many(")", 7), true);
        holds("not all or all and [" + many("not all or all and [", 6) + "9-2*(7-2)=0-1" + many("]", 7), true);
        refused("(!)=1;");
        refused("(1!=1;");
        refused("min!=1;");
        refused("min(1!)=1;");
        refused("min(1,2!,3)=1;");
        refused("max(!,2)=1;");
        refused("max(1,2!]=1;");
        refused("!owl=1;");
        refused("!when=1;");
        refused("!luck=1;");
        refused("(1!,2)=1;");
    }

    private static void reckoning() {
        Sentences.sentence(4, "hour is 0 in depth and cost; depth is 0 in depth.");
        ToldTracks x = Sentences.told("size 9 9;depth 5+hour+depth when hour=0 and depth=0;"
                + "cost 6+hour+depth when hour=0 and depth=5;quiet when hour=9 and depth=5;");
        for (int hour = 0; hour < 48; hour += 47) {
            Sentences.due("depth", x.cell(1, 1, hour, 0), 5);
            Sentences.due("cost", x.cell(1, 1, hour, 1), 11);
        }
        Sentences.due("quiet has both", x.cell(1, 1, 9, 2), 1);
        Sentences.due("quiet has both", x.cell(1, 1, 0, 2), 0);

        Sentences.sentence(4, "All from the left on;");
        holds("8-4-2=2", true);
        holds("8-4+2=6", true);
        holds("24/4*2=12", true);
        holds("24/4/2=3", true);
        holds("24%9/2=3", true);
        holds("24%(9/2)=0", true);
        holds("7*5%4=3", true);
        holds("100-10-1-1=88", true);

        Sentences.sentence(4, "/ gives the greatest whole number not above, % what then lacks (by 0 both give 0);");
        holds("7/2=3 and 7%2=1", true);
        holds("(0-7)/2=0-4 and (0-7)%2=1", true);
        holds("7/(0-2)=0-4 and 7%(0-2)=0-1", true);
        holds("(0-7)/(0-2)=3 and (0-7)%(0-2)=0-1", true);
        holds("6/2=3 and 6%2=0", true);
        holds("(0-6)/2=0-3 and (0-6)%2=0", true);
        holds("0/5=0 and 0%5=0", true);
        holds("1/2=0 and (0-1)/2=0-1 and (0-1)%2=1", true);
        holds("7/0=0 and 7%0=0", true);
        holds("(0-7)/0=0 and (0-7)%0=0 and 0/0=0 and 0%0=0", true);
        holds("7/(2-column)=0 and 7%(row-3)=0", true);
        holds("1000*1000/(0-1)=(0-1000)*1000", true);

        Sentences.sentence(4, "each sum, difference, product above 10 to the 6 is that, below -10 to the 6 likewise.");
        holds("1000*999+1000=1000*1000", true);
        holds("1000*1000-1<1000*1000", true);
        holds("1000*1000+1=1000*1000", true);
        holds("1000*1001=1000*1000", true);
        holds("9999*9999=1000*1000", true);
        holds("1000*1000+1-1=1000*1000-1", true);
        holds("1000*1000-(0-1)=1000*1000", true);
        holds("(0-1000)*1000+1>(0-1000)*1000", true);
        holds("(0-1000)*1000-1=(0-1000)*1000", true);
        holds("(0-1000)*1000+(0-1)=(0-1000)*1000", true);
        holds("(0-1000)*1001=(0-1000)*1000", true);
        holds("(0-9999)*9999=(0-1000)*1000", true);
        // A million times these goes past what 32 bits hold.
        holds("9999*9999*3000=1000*1000", true);
        holds("9999*9999*4295=1000*1000", true);
        holds("(0-9999)*9999*3000=(0-1000)*1000", true);
        holds("(0-9999)*9999*4295=(0-1000)*1000", true);
        holds("(9999*9999)*(9999*9999)=1000*1000", true);
        holds("(0-9999*9999)*(0-9999*9999)=1000*1000", true);
    }

    // ---- 4: names

    private static void names() {
        String own = "size, depth, cost, quiet, ship, look, speed, draft, load, says, at, laden, book, from, to, seen, "
                + "hour, luck, when, or, and, not, all, column, row, min, max";
        String sea = "size 3 4;" + Sentences.OWL;
        Sentences.sentence(4, "OWN WORDS, which no NAME is: " + own + ".");
        int count = 0;
        for (String word : own.split(", ")) {
            count++;
            Sentences.faultAt(sea + "ship !" + word + " look 0 speed 1 draft 1 load 0;", 1);
            Sentences.faultAt(sea + "says !" + word + " 1 at 0 0 laden 0;", 1);
            Sentences.faultAt(sea + "book !" + word + " at 0 0 from 1 to 1;", 1);
            String longer = word.length() < 6 ? word + "x" : word.substring(1);
            Sentences.good(sea + Sentences.ship(longer, 0, 1, 1, 0) + Sentences.says(longer, 1, 0, 0, 0), 4);
            if (word.length() > 2) {
                Sentences.good(sea + Sentences.ship(word.substring(0, word.length() - 1), 0, 1, 1, 0), 3);
            }
        }
        Sentences.due("own words", count, 27);

        Sentences.sentence(4, "NAMES are unlike ones, each told ahead of where it is asked.");
        Sentences.good(sea + Sentences.ship("owla", 0, 1, 1, 0) + Sentences.ship("ow", 0, 1, 1, 0)
                + Sentences.ship("lwo", 0, 1, 1, 0) + Sentences.says("ow", 1, 0, 0, 0), 6);
        Sentences.faultAt(sea + "ship !owl look 0 speed 1 draft 1 load 0;", 2);
        Sentences.faultAt("size 3 4;says !owl 1 at 0 0 laden 0;" + Sentences.OWL, 3);
        Sentences.faultAt("size 3 4;book !owl at 0 0 from 1 to 1;" + Sentences.OWL, 3);
        // A name of a sea that was is none of this one.
        ToldTracks x = Sentences.told(sea);
        Sentences.due("of a sea ahead", Sentences.tell(x, "size 3 4;says owl 1 at 0 0 laden 0;"), -1);
        Sentences.due("of a sea ahead", x.fault(0), 3);
        Sentences.due("anew", Sentences.tell(x, sea), 2);
    }

    // ---- 4, 5: faults

    private static void firstFault() {
        String sea = "size 3 4;" + Sentences.OWL;
        Sentences.sentence(4, "FAULTS, the first along the text:");
        Sentences.faultAt("size !1 17?", 4);
        Sentences.faultAt("size 3!? 17;", 1);
        Sentences.faultAt(sea + "ship !owl look 9 spee", 2);
        Sentences.faultAt(sea + "says !kite 99 at 9 9 laden 9;", 3);
        Sentences.faultAt(sea + "says owl !99 at 9 9 laden 9;", 4);
        Sentences.faultAt(sea + "says owl 9 !ad 9 9 laden 9;", 1);
        Sentences.faultAt(sea + "luck !101 luck;size 3 3;", 4);
        Sentences.faultAt(sea + "quiet when [[[[[[[[![[?;", 5);
        Sentences.faultAt(sea + "quiet when [[[[[[[!?[[;", 1);
        Sentences.faultAt(sea + many("quiet when all;", 6) + "!quiet luck;", 5);
        Sentences.faultAt(sea + many("quiet when all;", 5) + "quiet !luck;quiet when all;", 1);
        Sentences.faultAt(sea + "luck 3;says !kite 1 at 0 0 laden 0;ship owl;", 3);
        Sentences.faultAt(sea + "luck !200x;", 4);
        Sentences.faultAt(sea + "luck 2000!0;", 1);

        Sentences.sentence(4, "1 the first byte with which no SEA goes on (WORDS, NUMBERS whole, at their first byte;");
        String good = "size 6 4 ; depth ( column + 9 ) * 2 - 1 when not [ all or 1 < 2 ] and 3 > row ; cost row when all ; "
                + "quiet when min ( 1 , 2 ) = max ( 3 , hour ) ; ship a look 0 speed 1 draft 1 load 0 ; "
                + "says a 1 at 2 3 laden 0 ; book a at 2 3 from 1 to 2 ; seen 0 at 2 3 hour 1 ; luck 3 ;";
        String[] tokens = good.split(" ");
        StringBuilder ahead = new StringBuilder();
        for (int k = 0; k < tokens.length; k++) {
            StringBuilder behind = new StringBuilder();
            for (int j = k + 1; j < tokens.length; j++) {
                behind.append(' ').append(tokens[j]);
            }
            Sentences.bad(ahead + "?" + behind, 1, ahead.length());
            if (!tokens[k].equals("a")) {
                Sentences.bad(ahead + "zzz" + behind, 1, ahead.length());
            }
            ahead.append(tokens[k]).append(' ');
        }
        Sentences.faultAt("size 3 4;!dept 1 when all;", 1);
        Sentences.faultAt("size 3 4;!depths 1 when all;", 1);
        Sentences.faultAt("!siz", 1);
        Sentences.faultAt("!s", 1);
        Sentences.faultAt("size 3 4;!1234;", 1);
        Sentences.faultAt("size 3 4;luck 3 !1234;", 1);

        Sentences.sentence(4, "at the text's length, if it ends too soon;");
        ahead = new StringBuilder();
        for (int k = 0; k < tokens.length; k++) {
            if (k == 0 || !tokens[k - 1].equals(";")) {
                Sentences.bad(ahead.toString(), 1, ahead.length());
                Sentences.bad(ahead + "\n ", 1, ahead.length() + 2);
            }
            ahead.append(k > 0 && tokens[k].equals(";") ? "" : " ").append(tokens[k]);
        }
        Sentences.bad("size 3 4;luck 3", 1, 15);
        Sentences.bad("size 3 4;luck 1", 1, 15);
    }

    private static void longFaults() {
        String sea = "size 3 4;" + Sentences.OWL;
        Sentences.sentence(4, "a 7th letter, a 5th digit at itself, whatever may stand there;");
        Sentences.faultAt("abcdef!g", 1);
        Sentences.faultAt("sizesi!ze 3 4;", 1);
        Sentences.faultAt("size 3 4;depthd!epth", 1);
        Sentences.faultAt("size abcdef!ghijkl 4;", 1);
        Sentences.faultAt(sea + "says kitesx!y 1 at 0 0 laden 0;", 1);
        Sentences.faultAt(sea + "ship kitesx!yz look 0 speed 1 draft 1 load 0;", 1);
        Sentences.faultAt(sea + "luck column!n 3;", 1);
        Sentences.faultAt("size 0003!0 4;", 1);
        Sentences.faultAt("size 9999!9 4;", 1);
        Sentences.faultAt("1234!5", 1);
        Sentences.faultAt("size 3 4;1234!5", 1);
        Sentences.faultAt(sea + "says 1234!5 1 at 0 0 laden 0;", 1);
        Sentences.faultAt(sea + "luck 0000!000000000;", 1);
        Sentences.faultAt("size 3 4 abcdef!g;", 1);
        Sentences.faultAt("size 3 !abcdef;", 1);
        // Not even a blank that lacks ahead of it counts.
        Sentences.faultAt("size1234!5 4;", 1);
        Sentences.faultAt("size 3abcdef!g;", 1);
        Sentences.faultAt("size!1234 4;", 1);
        Sentences.faultAt("size 3!abcdef;", 1);
        Sentences.faultAt("size 3 4;!1234;", 1);
        Sentences.bad("size 3 4;" + many("a", 1700), 1, 15);
        Sentences.bad("size 3 4;" + many("1", 1700), 1, 13);

        Sentences.sentence(4, "an OWN WORD where a NAME must be);");
        Sentences.faultAt(sea + "ship !look look 0 speed 1 draft 1 load 0;", 1);
        Sentences.faultAt(sea + "ship !look;", 1);
        Sentences.faultAt(sea + "says !says 1;", 1);
        Sentences.faultAt(sea + "book !at at 0 0 from 1 to 1;", 1);
        Sentences.faultAt(sea + "says !1 at 0 0 laden 0;", 1);
        Sentences.faultAt(sea + "says !; at 0 0 laden 0;", 1);
    }

    private static void otherFaults() {
        String sea = "size 3 4;" + Sentences.OWL;
        Sentences.sentence(4, "2 a NAME to be given that is there already, at its first byte;");
        Sentences.faultAt(sea + "ship !owl look 1 speed 1 draft 1 load 1;", 2);
        Sentences.faultAt(sea + "ship   !owl", 2);
        Sentences.faultAt(sea + Sentences.KITE + "luck 3;ship !owl?", 2);
        Sentences.faultAt(sea + "ship owls!", 1);

        Sentences.sentence(4, "3 a NAME that is none of a SHIP, at its first byte;");
        Sentences.faultAt(sea + "says !kite 1 at 0 0 laden 0;", 3);
        Sentences.faultAt(sea + "book !ow at 0 0 from 1 to 1;", 3);
        Sentences.faultAt(sea + "says  !owls", 3);
        Sentences.faultAt("size 3 4;says !owl 1 at 0 0 laden 0;", 3);

        Sentences.sentence(4, "an hour of which that SHIP has a SAYING, at its first byte;");
        String said = sea + Sentences.KITE + Sentences.says("owl", 1, 0, 0, 0) + Sentences.says("owl", 47, 0, 0, 0);
        Sentences.faultAt(said + "says owl !1 at 0 0 laden 0;", 3);
        Sentences.faultAt(said + "says owl !0001 at 2 2 laden 1;", 3);
        Sentences.faultAt(said + "says owl !47?", 3);
        Sentences.good(said + Sentences.says("kite", 1, 0, 0, 0) + Sentences.says("owl", 0, 0, 0, 0)
                + Sentences.says("owl", 46, 0, 0, 0), 8);
        Sentences.good(said + Sentences.book("owl", 0, 0, 1, 1), 6);

        Sentences.sentence(4, "4 a NUMBER that can't be (of a CELL: no such column, row), at its first byte;");
        Sentences.faultAt("size !1 4;", 4);
        Sentences.faultAt("size 3 !0017;", 4);
        Sentences.faultAt(sea + "says owl 1 at !3 3 laden 0;", 4);
        Sentences.faultAt(sea + "says owl 1 at 2 !4 laden 0;", 4);
        Sentences.faultAt(sea + "seen 1 at !9999 0 hour 1;", 4);
        Sentences.faultAt(sea + "seen 1 at 0 !4 hour 1;", 4);
        Sentences.faultAt(sea + "book owl at !3 0 from 1 to 1;", 4);
        Sentences.good(sea + Sentences.says("owl", 1, 2, 3, 0) + Sentences.seen(1, 2, 3, 1)
                + Sentences.book("owl", 2, 3, 1, 1), 5);
        Sentences.good("size 3 4;depth 9999 when 9999=9999;", 2);

        Sentences.sentence(4, "5 one too many of a kind of STATEMENT, at its first byte;");
        Sentences.faultAt("size 3 4;" + many("depth 1 when all;", 12) + "  !depth", 5);
        Sentences.faultAt("size 3 4;" + many("cost 1 when all;", 12) + "!cost?", 5);
        Sentences.faultAt("size 3 4;" + many("quiet when all;", 6) + "!quiet", 5);
        Sentences.faultAt(sea + many(Sentences.book("owl", 0, 0, 1, 1), 12) + "!book kite", 5);
        Sentences.faultAt(sea + many(Sentences.seen(0, 0, 0, 1), 40) + "!seen 9", 5);
        Sentences.good(sea + many("luck 3;", 100), 102);

        Sentences.sentence(4, "a 9th ( [ that is open at once, at itself.");
        Sentences.good("size 3 4;depth ((((((((1)))))))) when [[[[[[[[all]]]]]]]];", 2);
        Sentences.faultAt("size 3 4;depth ((((((((!(1))))))))) when all;", 5);
        Sentences.faultAt("size 3 4;depth 1 when [[[[[[[[![all]]]]]]]]];", 5);
        Sentences.faultAt("size 3 4;quiet when [[[[((((!(1", 5);
        Sentences.faultAt("size 3 4;quiet when [[[[[[[[!(1)=1", 5);
        Sentences.faultAt("size 3 4;quiet when [[[[[[[[min!(1,2)=1", 5);
        Sentences.faultAt("size 3 4;quiet when [[[[[[[min(1,!(2))=1", 5);
        Sentences.faultAt("size 3 4;quiet when [[[[[[[min(!(2),1)=1", 5);
        Sentences.good("size 3 4;quiet when " + many("min(", 8) + "1" + many(",2)", 8) + "=1;", 2);
        Sentences.good("size 3 4;quiet when " + many("max(2,", 8) + "1" + many(")", 8) + "=2;", 2);
        Sentences.bad("size 3 4;quiet when " + many("min(", 9) + "1" + many(",2)", 9) + "=1;", 5, 20 + 8 * 4 + 3);
        Sentences.bad("size 3 4;quiet when " + many("max(2,", 9) + "1" + many(")", 9) + "=2;", 5, 20 + 8 * 6 + 3);
        Sentences.good("size 3 4;quiet when " + many("min((1),max((2),", 3) + "((3))" + many("))", 3) + "=1;", 2);
        Sentences.good("size 3 4;quiet when [[[[[[[min(1,2)=1]]]]]]];", 2);
        Sentences.good("size 3 4;quiet when [[[[[[max((1)-(1),2)=1]]]]]];", 2);
        Sentences.good("size 3 4;quiet when " + many("[[[[((((1))))=1]]]] and ", 9) + "[[[[[[[[all]]]]]]]];", 2);
        Sentences.faultAt("size 3 4;quiet when [[[[[[[[all !(", 1);
    }

    private static void fault() {
        Sentences.sentence(5, "Of the latest sea(): its FAULT (what 0; 0 without, and ahead of any), its place (1; NONE "
                + "without).");
        ToldTracks x = new ToldTracks();
        Sentences.due("ahead of any", x.fault(0), 0);
        Sentences.due("ahead of any", x.fault(1), -1);
        x.on();
        x.end(5);
        Sentences.due("of another's refusal", x.fault(0), 0);
        Sentences.tell(x, "size 3 17;");
        Sentences.due("fault", x.fault(0), 4);
        Sentences.due("place", x.fault(1), 7);
        x.on();
        x.add(0, 0, 0, 0, true);
        Sentences.due("still", x.fault(0), 4);
        Sentences.due("still", x.fault(1), 7);
        Sentences.tell(x, "siz");
        Sentences.due("of the latest", x.fault(0), 1);
        Sentences.due("of the latest", x.fault(1), 0);
        Sentences.tell(x, "size 3 16;");
        Sentences.due("without", x.fault(0), 0);
        Sentences.due("without", x.fault(1), -1);

        Sentences.sentence(5, "NONE for another what.");
        int[] others = {2, -1, LEAST, MOST};
        for (int w : others) {
            Sentences.due("fault " + w, x.fault(w), -1);
        }
        Sentences.tell(x, "siz");
        for (int w : others) {
            Sentences.due("with a fault, fault " + w, x.fault(w), -1);
        }
    }

    // ---- 6, 7

    private static void has() {
        Sentences.sentence(6, "How many there are: 0 columns, 1 rows, 2 SHIPS, 3 SAYINGS, 4 BOOKS, 5 SIGHTINGS, 6 luck, "
                + "7 SHIPS with SAYINGS.");
        ToldTracks x = Sentences.told(RICH);
        int[] has = {6, 4, 2, 3, 1, 1, 33, 2};
        for (int w = 0; w < 8; w++) {
            Sentences.due("has " + w, x.has(w), has[w]);
        }
        x.drop(1, 0);
        Sentences.due("sayings", x.has(3), 2);
        Sentences.due("ships with sayings", x.has(7), 1);
        x.add(1, 5, 0, 0, true);
        x.add(1, 6, 0, 0, true);
        Sentences.due("sayings", x.has(3), 4);
        Sentences.due("ships with sayings", x.has(7), 2);
        x.spot(0, 0, 0, 0);
        Sentences.due("sightings", x.has(5), 2);
        Sentences.takes(x, 0, 0);
        Sentences.due("sayings", x.has(3), 0);
        Sentences.due("sightings", x.has(5), 0);
        Sentences.due("ships with sayings", x.has(7), 0);
        Sentences.due("books stay", x.has(4), 1);
        StringBuilder full = new StringBuilder("size 16 16;luck 100;");
        for (char c = 'a'; c < 'i'; c++) {
            full.append(Sentences.ship("" + c, 0, 1, 1, 0));
        }
        ToldTracks y = Sentences.told(full + many(Sentences.book("a", 0, 0, 1, 1), 12));
        for (int k = 0; k < 96; k++) {
            y.add(k % 8, k / 8, 15, 15, false);
        }
        for (int k = 0; k < 40; k++) {
            y.spot(0, 0, 0, 0);
        }
        int[] most = {16, 16, 8, 96, 12, 40, 100, 8};
        for (int w = 0; w < 8; w++) {
            Sentences.due("full, has " + w, y.has(w), most[w]);
        }

        Sentences.sentence(6, "NONE for others.");
        int[] others = {8, -1, LEAST, MOST};
        for (int w : others) {
            Sentences.due("has " + w, x.has(w), -1);
        }
    }

    private static void letter() {
        Sentences.sentence(7, "Letter k of the NAME of a SHIP, 97 .. 122;");
        ToldTracks x = Sentences.told("size 2 2;" + Sentences.ship("a", 0, 1, 1, 0) + Sentences.ship("zyxcba", 0, 1, 1, 0));
        Sentences.due("the only", x.letter(0, 0), 97);
        int[] letters = {122, 121, 120, 99, 98, 97};
        for (int k = 0; k < 6; k++) {
            Sentences.due("letter " + k, x.letter(1, k), letters[k]);
        }

        Sentences.sentence(7, "NONE if there is none such.");
        Sentences.due("behind", x.letter(0, 1), -1);
        Sentences.due("behind", x.letter(0, 5), -1);
        Sentences.due("a 7th", x.letter(1, 6), -1);
        int[] others = {-1, 7, 31, 32, 33, 64, LEAST, MOST};
        for (int k : others) {
            Sentences.due("letter " + k, x.letter(1, k), -1);
        }
        int[] ships = {2, 8, -1, LEAST, MOST};
        for (int s : ships) {
            Sentences.due("ship " + s, x.letter(s, 0), -1);
        }
        Sentences.tell(x, "size 2 2;" + Sentences.ship("b", 0, 1, 1, 0));
        Sentences.due("of this sea", x.letter(0, 0), 98);
        Sentences.due("not of the one ahead", x.letter(1, 0), -1);
    }

    public static void main(String[] args) {
        newObject();
        feed();
        end();
        sea();
        words();
        sizes();
        rules();
        shipStatements();
        sayingStatements();
        bookStatements();
        otherStatements();
        tests();
        reckoning();
        names();
        firstFault();
        longFaults();
        otherFaults();
        fault();
        has();
        letter();
        Sentences.done(1, 7, "I. THE SEA is a text", "II. A CELL's number");
    }
}
