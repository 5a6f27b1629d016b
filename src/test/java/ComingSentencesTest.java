import java.util.Arrays;

/** Promises 34 to 40 and the terms of AN IMAGE, sentence by sentence. */
public final class ComingSentencesTest {
    private static final int LEAST = Integer.MIN_VALUE;
    private static final int MOST = Integer.MAX_VALUE;
    private static final String THREE = Sentences.FLAT + Sentences.OWL + Sentences.KITE + Sentences.ship("c", 0, 1, 1, 0);

    private static String owl(int hour, int column, int row) {
        return Sentences.says("owl", hour, column, row, 0);
    }

    // ---- add, drop, spot

    private static void add() {
        Sentences.sentence(34, "A SAYING comes: its number;");
        ToldTracks x = Sentences.told(THREE);
        Sentences.due("the first", x.add(0, 20, 0, 0, true), 0);
        Sentences.due("ahead", x.add(0, 0, 1, 0, false), 0);
        Sentences.due("behind", x.add(0, 47, 5, 3, false), 2);
        Sentences.due("between", x.add(0, 21, 2, 1, false), 2);
        Sentences.due("between", x.add(0, 19, 5, 0, true), 1);
        Sentences.due("of another", x.add(1, 20, 0, 0, true), 0);
        int[][] want = {{0, 1, 0}, {19, 5, 1}, {20, 0, 1}, {21, 8, 0}, {47, 23, 0}};
        for (int i = 0; i < 5; i++) {
            for (int w = 0; w < 3; w++) {
                Sentences.due("saying " + i + " " + w, x.saying(0, i, w), want[i][w]);
            }
        }
        Sentences.due("sayings", x.has(3), 6);
        Sentences.due("not on water, but a saying", Sentences.told("size 2 2;" + Sentences.OWL).add(0, 0, 1, 1, true), 0);
        for (int hour = 0; hour < 48; hour++) {
            Sentences.due("each hour", x.add(2, hour, 0, 0, false), hour);
        }
        Sentences.due("a 49th of it", x.add(2, 5, 0, 0, false), -1);
        // What was thought of the ship is thought anew, of others under its name, too.
        ToldTracks y = Sentences.told(THREE + owl(0, 0, 0) + owl(2, 0, 0));
        Sentences.due("ahead of it", y.tale(0, 0), 1);
        Sentences.due("ahead of it", y.reach(0, 1, -1), 3);
        Sentences.due("ahead of it", y.next(0), 1);
        y.add(0, 1, 0, 0, false);
        Sentences.due("behind it", y.tale(0, 0), 0);
        Sentences.due("behind it", y.reach(0, 1, -1), 1);
        Sentences.due("behind it", y.next(0), 3);
        Sentences.due("kite could have said it", y.judge(0, 2), 1);
        y.add(1, 1, 5, 3, false);
        y.add(2, 1, 5, 3, false);
        Sentences.due("nobody could have said it", y.judge(0, 2), 0);

        Sentences.sentence(34, "NONE if something can't be,");
        ToldTracks z = Sentences.told(THREE + owl(9, 0, 0));
        int[][] never = {{3, 1, 0, 0}, {-1, 1, 0, 0}, {8, 1, 0, 0}, {LEAST, 1, 0, 0}, {MOST, 1, 0, 0}, {0, 48, 0, 0},
            {0, -1, 0, 0}, {0, LEAST, 0, 0}, {0, MOST, 0, 0}, {0, 1, 6, 0}, {0, 1, -1, 0}, {0, 1, MOST, 0}, {0, 1, 0, 4},
            {0, 1, 0, -1}, {0, 1, 0, LEAST}, {0, 1, 16, 0}, {0, 1, 0, 16}};
        for (int[] k : never) {
            Sentences.due("add " + k[0] + " " + k[1] + " " + k[2] + " " + k[3], z.add(k[0], k[1], k[2], k[3], true), -1);
        }
        Sentences.same("refused adds", Sentences.answers(z), Sentences.answers(Sentences.told(THREE + owl(9, 0, 0))));
        Sentences.due("of no sea", new ToldTracks().add(0, 0, 0, 0, false), -1);

        Sentences.sentence(34, "the SHIP has one of that hour,");
        Sentences.due("that hour", z.add(0, 9, 0, 0, false), -1);
        Sentences.due("that hour, elsewhere", z.add(0, 9, 5, 3, true), -1);
        Sentences.due("as it was", z.saying(0, 0, 1), 0);
        Sentences.due("as it was", z.saying(0, 0, 2), 0);
        Sentences.due("another of that hour", z.add(1, 9, 5, 3, true), 0);
        Sentences.due("an hour ahead", z.add(0, 8, 0, 0, false), 0);
        Sentences.due("an hour behind", z.add(0, 10, 0, 0, false), 2);
        z.drop(0, 1);
        Sentences.due("when it went", z.add(0, 9, 5, 3, true), 1);

        Sentences.sentence(34, "or there are 96.");
        ToldTracks full = full();
        Sentences.due("96", full.has(3), 96);
        Sentences.due("a 97th", full.add(2, 0, 0, 0, false), -1);
        Sentences.due("96", full.has(3), 96);
        full.drop(1, 5);
        Sentences.due("when one went", full.add(2, 0, 0, 0, false), 0);
        Sentences.due("a 97th", full.add(2, 1, 0, 0, false), -1);
    }

    /** As many sayings as there may be, of the first two ships. */
    private static ToldTracks full() {
        ToldTracks x = Sentences.told(THREE);
        for (int k = 95; k >= 0; k--) {
            x.add(k / 48, k % 48, k % 6, k % 4, k % 3 == 0);
        }
        return x;
    }

    private static void drop() {
        Sentences.sentence(35, "A SAYING goes: how many the SHIP has;");
        ToldTracks x = Sentences.told(THREE + owl(3, 0, 0) + owl(4, 5, 3) + Sentences.says("owl", 5, 1, 0, 1) + owl(6, 2, 0)
                + Sentences.says("kite", 5, 0, 0, 0));
        Sentences.due("lies", x.lies(), 1);
        Sentences.due("one between", x.drop(0, 1), 3);
        int[][] want = {{3, 0, 0, 1, 1}, {5, 1, 1, 1, 1}, {6, 2, 0, 1, 1}};
        for (int i = 0; i < 3; i++) {
            for (int w = 0; w < 5; w++) {
                Sentences.due("saying " + i + " " + w, x.saying(0, i, w), want[i][w]);
            }
        }
        Sentences.due("no lies", x.lies(), 0);
        Sentences.due("the last", x.drop(0, 2), 2);
        Sentences.due("the first", x.drop(0, 0), 1);
        Sentences.due("what is left", x.saying(0, 0, 0), 5);
        Sentences.due("the only one", x.drop(0, 0), 0);
        Sentences.due("all of kite's", x.drop(1, 0), 0);
        Sentences.due("all went", x.has(3), 0);
        ToldTracks y = full();
        for (int left = 47; left >= 0; left--) {
            Sentences.due("down from 48", y.drop(0, left % 2 == 0 ? 0 : left), left);
        }
        Sentences.due("the other's stay", y.ship(1, 4), 48);

        Sentences.sentence(35, "NONE if there is none such.");
        ToldTracks z = Sentences.told(THREE + owl(3, 0, 0) + owl(4, 0, 0));
        int[][] none = {{0, 2}, {0, -1}, {0, 47}, {0, 48}, {0, LEAST}, {0, MOST}, {1, 0}, {3, 0}, {-1, 0}, {8, 0}, {LEAST, 0},
            {MOST, 0}};
        for (int[] k : none) {
            Sentences.due("drop " + k[0] + " " + k[1], z.drop(k[0], k[1]), -1);
        }
        Sentences.same("refused drops", Sentences.answers(z), Sentences.answers(Sentences.told(THREE + owl(3, 0, 0)
                + owl(4, 0, 0))));
        z.drop(0, 0);
        z.drop(0, 0);
        Sentences.due("when all went", z.drop(0, 0), -1);
    }

    private static void spot() {
        Sentences.sentence(36, "A SIGHTING comes: how many there are;");
        ToldTracks x = Sentences.told(THREE + Sentences.seen(2, 0, 0, 5));
        Sentences.due("behind one that was told", x.spot(0, 0, 0, 0), 2);
        Sentences.due("behind", x.spot(3, 5, 3, 47), 3);
        Sentences.due("the same", x.spot(3, 5, 3, 47), 4);
        int[][] want = {{2, 0, 5}, {0, 0, 0}, {3, 23, 47}, {3, 23, 47}};
        for (int i = 0; i < 4; i++) {
            for (int w = 0; w < 3; w++) {
                Sentences.due("sighting " + i + " " + w, x.sighting(i, w), want[i][w]);
            }
        }

        Sentences.sentence(36, "NONE if something can't be,");
        int[][] never = {{4, 0, 0, 0}, {-1, 0, 0, 0}, {LEAST, 0, 0, 0}, {MOST, 0, 0, 0}, {0, 6, 0, 0}, {0, -1, 0, 0},
            {0, LEAST, 0, 0}, {0, 0, 4, 0}, {0, 0, -1, 0}, {0, 0, MOST, 0}, {0, 0, 0, 48}, {0, 0, 0, -1}, {0, 0, 0, LEAST},
            {0, 0, 0, MOST}, {0, 16, 0, 0}, {0, 0, 16, 0}};
        for (int[] k : never) {
            Sentences.due("spot " + k[0] + " " + k[1] + " " + k[2] + " " + k[3], x.spot(k[0], k[1], k[2], k[3]), -1);
        }
        Sentences.due("as many as ahead", x.has(5), 4);
        Sentences.due("of no sea", new ToldTracks().spot(0, 0, 0, 0), -1);

        Sentences.sentence(36, "or there are 40.");
        for (int k = 5; k <= 40; k++) {
            Sentences.due("spot", x.spot(1, k % 6, 1, k), k);
        }
        Sentences.due("a 41st", x.spot(0, 0, 0, 0), -1);
        Sentences.due("40", x.has(5), 40);
        Sentences.due("the 40th", x.sighting(39, 2), 40);
        Sentences.due("none behind", x.sighting(40, 2), -1);
    }

    // ---- images

    private static void octets(ToldTracks x, int... want) {
        Sentences.due("image", x.image(), want.length);
        for (int k = 0; k < want.length; k++) {
            Sentences.due("octet " + k, x.octet(k), want[k]);
        }
        Sentences.due("none behind", x.octet(want.length), -1);
    }

    private static void image() {
        Sentences.sentence(37, "AN IMAGE: how many SAYINGS (a byte); for each, by SHIPS, then hours: SHIP, hour, CELL, LADEN;");
        octets(Sentences.told(THREE), Sentences.withCheck(0, 0));
        ToldTracks x = Sentences.told(THREE + Sentences.says("c", 0, 5, 3, 1) + Sentences.says("owl", 47, 1, 0, 0)
                + Sentences.says("owl", 9, 0, 1, 1));
        octets(x, Sentences.withCheck(3, 0, 9, 6, 1, 0, 47, 1, 0, 2, 0, 23, 1, 0));
        ToldTracks y = Sentences.told("size 16 16;" + Sentences.OWL + Sentences.says("owl", 0, 15, 15, 0));
        octets(y, Sentences.withCheck(1, 0, 0, 255, 0, 0));

        StringBuilder eight = new StringBuilder(Sentences.FLAT);
        for (int s = 0; s < 8; s++) {
            eight.append(Sentences.ship("" + (char) ('a' + s), 0, 1, 1, 0));
        }
        ToldTracks z = Sentences.told(eight + Sentences.says("h", 9, 5, 3, 1) + Sentences.says("a", 8, 5, 3, 0));
        octets(z, Sentences.withCheck(2, 0, 8, 23, 0, 7, 9, 23, 1, 0));
        Sentences.yes("of eight ships", Sentences.takes(z, 1, 7, 9, 23, 1, 0));
        octets(z, Sentences.withCheck(1, 7, 9, 23, 1, 0));

        Sentences.sentence(37, "how many SIGHTINGS; for each, as they came: LOOK, CELL, hour;");
        x = Sentences.told(THREE + Sentences.seen(3, 5, 3, 47) + owl(1, 0, 0) + Sentences.seen(0, 0, 0, 0));
        x.spot(3, 5, 3, 2);
        octets(x, Sentences.withCheck(1, 0, 1, 0, 0, 3, 3, 23, 47, 0, 0, 0, 3, 23, 2));

        Sentences.sentence(37, "last a byte: all ahead from 29 on, c = (3 c + it) mod 241.");
        // 29, 87 and 0, 261 and 0: 20.
        octets(new ToldTracks(), 0, 0, 20);
        // 88, 264 less 241, 69, 462 less 241, 663 less 482, 543 less 482.
        octets(y, 1, 0, 0, 255, 0, 0, 61);
        x = Sentences.told(THREE);
        int c = 29;
        int[] ahead = {0, 40};
        for (int b : ahead) {
            c = (3 * c + b) % 241;
        }
        for (int k = 0; k < 40; k++) {
            x.spot(k % 4, k % 6, k % 4, k);
            int[] three = {k % 4, k % 4 * 6 + k % 6, k};
            for (int b : three) {
                c = (3 * c + b) % 241;
            }
        }
        Sentences.due("image", x.image(), 2 + 120 + 1);
        Sentences.due("last", x.octet(122), c);

        Sentences.sentence(37, "AN IMAGE is written: how many bytes.");
        ToldTracks full = full();
        for (int k = 0; k < 40; k++) {
            full.spot(3, 5, 3, 47);
        }
        Sentences.due("the longest", full.image(), 1 + 96 * 4 + 1 + 40 * 3 + 1);
        Sentences.due("sayings", full.octet(0), 96);
        Sentences.due("the last saying", full.octet(1 + 95 * 4), 1);
        Sentences.due("the last saying", full.octet(2 + 95 * 4), 47);
        Sentences.due("sightings", full.octet(385), 40);
        Sentences.due("the last sighting", full.octet(505), 47);
        Sentences.yes("the last byte is below 241", full.octet(506) >= 0 && full.octet(506) < 241);
        Sentences.due("none behind", full.octet(507), -1);
        full.drop(0, 0);
        Sentences.due("a shorter one", full.image(), 503);
        Sentences.due("the same again", full.image(), 503);
        Sentences.due("none behind", full.octet(503), -1);
        Sentences.due("none where the longer one was", full.octet(506), -1);
    }

    private static void octet() {
        Sentences.sentence(38, "Byte k of the latest image();");
        ToldTracks x = Sentences.told(THREE + owl(1, 0, 0));
        x.image();
        Sentences.due("one saying", x.octet(0), 1);
        x.add(0, 2, 0, 0, false);
        Sentences.due("still the latest", x.octet(0), 1);
        x.image();
        Sentences.due("the latest", x.octet(0), 2);
        Sentences.tell(x, "size 2 2;");
        Sentences.due("over a sea", x.octet(0), 2);
        Sentences.takes(x, 0, 0);
        Sentences.due("over an image taken", x.octet(0), 2);
        x.image();
        Sentences.due("the latest", x.octet(0), 0);

        Sentences.sentence(38, "NONE if there is none such.");
        int[] none = {3, -1, 506, 507, LEAST, MOST};
        for (int k : none) {
            Sentences.due("octet " + k, x.octet(k), -1);
        }
        Sentences.due("the last", x.octet(2), 20);
        ToldTracks y = Sentences.told(THREE);
        Sentences.due("ahead of any", y.octet(0), -1);
    }

    // ---- on

    private static void on() {
        Sentences.sentence(39, "The tape (it goes) is AN IMAGE: true, SAYINGS and SIGHTINGS are as it tells;");
        ToldTracks x = Sentences.told(THREE + owl(1, 0, 0) + Sentences.says("c", 1, 0, 0, 0) + Sentences.seen(1, 1, 1, 1));
        Sentences.due("a tale", x.tale(0, 0), 0);
        Sentences.yes("on", Sentences.takes(x, 3, 0, 9, 6, 1, 0, 47, 1, 0, 2, 0, 23, 1, 2, 3, 23, 47, 0, 0, 0));
        Sentences.no("it goes", x.end(1));
        int[][] want = {{9, 6, 1}, {47, 1, 0}, {0, 23, 1}};
        for (int i = 0; i < 3; i++) {
            for (int w = 0; w < 3; w++) {
                Sentences.due("saying " + i + " " + w, x.saying(i < 2 ? 0 : 2, i < 2 ? i : 0, w), want[i][w]);
            }
        }
        int[][] seen = {{3, 23, 47}, {0, 0, 0}};
        for (int i = 0; i < 2; i++) {
            for (int w = 0; w < 3; w++) {
                Sentences.due("sighting " + i + " " + w, x.sighting(i, w), seen[i][w]);
            }
        }
        int[] has = {6, 4, 3, 3, 0, 2, 10, 2};
        for (int w = 0; w < 8; w++) {
            Sentences.due("has " + w, x.has(w), has[w]);
        }
        Sentences.due("thought anew", x.tale(0, 0), 1);
        Sentences.yes("one of none", Sentences.takes(x, 0, 0));
        Sentences.due("no sayings", x.has(3), 0);
        Sentences.due("no sightings", x.has(5), 0);
        Sentences.due("thought anew", x.tale(0, 0), -1);
        Sentences.yes("the last of all", Sentences.takes(x, 1, 2, 47, 23, 1, 1, 3, 23, 47));
        Sentences.due("sayings", x.has(3), 1);
        ToldTracks y = Sentences.told("size 16 16;" + Sentences.OWL);
        Sentences.yes("cell 255", Sentences.takes(y, 1, 0, 0, 255, 0, 1, 0, 255, 0));
        Sentences.due("cell 255", y.saying(0, 0, 1), 255);
        // What image() wrote is taken again.
        ToldTracks z = Sentences.told(THREE + owl(1, 0, 0) + Sentences.says("kite", 0, 5, 3, 1) + Sentences.seen(1, 1, 1, 1));
        int[] bytes = new int[z.image()];
        for (int k = 0; k < bytes.length; k++) {
            bytes[k] = z.octet(k);
        }
        ToldTracks w = Sentences.told(THREE + owl(30, 0, 0));
        Sentences.put(w, bytes);
        Sentences.yes("on", w.on());
        octets(w, bytes);
    }

    private static void onFull() {
        Sentences.sentence(39, "SAYINGS and SIGHTINGS are as it tells;");
        int[] most = new int[1 + 96 * 4 + 1 + 40 * 3];
        most[0] = 96;
        for (int k = 0; k < 96; k++) {
            most[1 + 4 * k] = k / 48;
            most[2 + 4 * k] = k % 48;
            most[3 + 4 * k] = k % 24;
            most[4 + 4 * k] = k % 2;
        }
        most[385] = 40;
        for (int k = 0; k < 40; k++) {
            most[386 + 3 * k] = k % 4;
            most[387 + 3 * k] = k % 24;
            most[388 + 3 * k] = k;
        }
        ToldTracks x = Sentences.told(THREE);
        Sentences.yes("the longest", Sentences.takes(x, most));
        Sentences.due("sayings", x.has(3), 96);
        Sentences.due("sightings", x.has(5), 40);
        Sentences.due("the last saying", x.saying(1, 47, 1), 23);
        Sentences.due("the last sighting", x.sighting(39, 2), 39);
        Sentences.due("no more", x.add(2, 0, 0, 0, false), -1);
        Sentences.due("no more", x.spot(0, 0, 0, 0), -1);
        Sentences.yes("over the longest", Sentences.takes(x, 0, 0));
        Sentences.due("sayings", x.has(3), 0);
        Sentences.due("some again", x.add(2, 0, 0, 0, false), 0);
        Sentences.due("some again", x.spot(0, 0, 0, 0), 1);
    }

    private static final String STAYS = THREE + owl(1, 0, 0) + Sentences.seen(1, 1, 1, 1);

    /** Each is refused, and nothing but the tape and the refusals is changed. */
    private static void refused(String what, int... bytes) {
        ToldTracks x = Sentences.told(STAYS);
        Sentences.no(what, Sentences.takes(x, bytes));
        Sentences.no(what + ", the tape goes", x.end(1));
        Sentences.due(what + ", refusals", x.status(4), 1);
        Sentences.same(what, Sentences.answers(x), Sentences.answers(Sentences.told(STAYS)));
    }

    private static void spoilt(String what, int... whole) {
        ToldTracks x = Sentences.told(STAYS);
        Sentences.put(x, whole);
        Sentences.no(what, x.on());
        Sentences.no(what + ", the tape goes", x.end(1));
        Sentences.same(what, Sentences.answers(x), Sentences.answers(Sentences.told(STAYS)));
    }

    private static void onRefused() {
        int[] good = Sentences.withCheck(1, 2, 47, 23, 1, 1, 3, 23, 47);
        Sentences.sentence(39, "false if it is none,");
        spoilt("nothing");
        spoilt("a byte", 0);
        spoilt("two bytes", 0, 0);
        for (int k = 0; k < good.length; k++) {
            spoilt("ends too soon", Arrays.copyOf(good, k));
        }
        spoilt("a byte more", Arrays.copyOf(good, good.length + 1));
        for (int k = 0; k < good.length; k++) {
            int[] other = good.clone();
            other[k] ^= 1;
            spoilt("another byte " + k, other);
        }
        for (int hour = 0; hour < 48; hour++) {
            int[] above = Sentences.withCheck(0, 1, 0, 0, hour);
            above[5] += 241;
            if (above[5] < 256) {
                spoilt("the last byte by 241 more", above);
            }
        }
        refused("a saying too few", 1);
        refused("a saying too few", 1, 0);
        refused("a saying too few", 2, 0, 0, 0, 0, 0);
        refused("part of a saying", 1, 0, 0, 0);
        refused("no count of sightings", 1, 0, 0, 0, 0);
        refused("a sighting too few", 0, 1);
        refused("a sighting too few", 0, 2, 0, 0, 0);
        refused("part of a sighting", 0, 1, 0, 0);
        refused("a sighting too many", 0, 0, 0, 0, 0);
        refused("a byte between", 0, 0, 0);
        refused("a text", 's', 'i', 'z', 'e');

        Sentences.sentence(39, "one of them can't be,");
        refused("ship 3", 1, 3, 0, 0, 0, 0);
        refused("ship 255", 1, 255, 0, 0, 0, 0);
        refused("hour 48", 1, 0, 48, 0, 0, 0);
        refused("hour 255", 1, 0, 255, 0, 0, 0);
        refused("cell 24", 1, 0, 0, 24, 0, 0);
        refused("cell 255", 1, 0, 0, 255, 0, 0);
        refused("laden 2", 1, 0, 0, 0, 2, 0);
        refused("laden 255", 1, 0, 0, 0, 255, 0);
        refused("the second", 2, 0, 0, 0, 0, 0, 48, 0, 0, 0);
        refused("look 4", 0, 1, 4, 0, 0);
        refused("look 255", 0, 1, 255, 0, 0);
        refused("cell 24 seen", 0, 1, 0, 24, 0);
        refused("hour 48 seen", 0, 1, 0, 0, 48);
        refused("hour 255 seen", 0, 1, 0, 0, 255);
        refused("the second seen", 0, 2, 0, 0, 0, 4, 0, 0);
        int[] many = new int[1 + 97 * 4 + 1];
        many[0] = 97;
        for (int k = 0; k < 97; k++) {
            many[1 + 4 * k] = k / 48;
            many[2 + 4 * k] = k % 48;
        }
        refused("97 sayings", many);
        int[] seen = new int[2 + 41 * 3];
        seen[1] = 41;
        refused("41 sightings", seen);
        ToldTracks x = new ToldTracks();
        Sentences.no("no ship at all", Sentences.takes(x, 1, 0, 0, 0, 0, 0));
        Sentences.no("no cell at all", Sentences.takes(x, 0, 1, 0, 0, 0));
        Sentences.yes("nothing of nothing", Sentences.takes(x, 0, 0));

        Sentences.sentence(39, "or SAYINGS do not rise by SHIPS, then hours (all stays).");
        refused("one hour twice", 2, 0, 3, 0, 0, 0, 3, 0, 0, 0);
        refused("one hour twice, elsewhere", 2, 0, 3, 0, 0, 0, 3, 5, 1, 0);
        refused("an hour back", 2, 0, 4, 0, 0, 0, 3, 0, 0, 0);
        refused("a ship back", 2, 1, 3, 0, 0, 0, 3, 0, 0, 0);
        refused("a ship back, an hour on", 2, 1, 3, 0, 0, 0, 47, 0, 0, 0);
        refused("the third", 3, 0, 3, 0, 0, 1, 3, 0, 0, 0, 4, 0, 0, 0);
        ToldTracks y = Sentences.told(STAYS);
        Sentences.yes("a ship on, an hour back", Sentences.takes(y, 2, 0, 47, 0, 0, 1, 0, 0, 0, 0));
        Sentences.yes("a ship on, one hour", Sentences.takes(y, 2, 0, 47, 0, 0, 2, 47, 0, 0, 0));
        Sentences.yes("an hour on", Sentences.takes(y, 2, 2, 0, 0, 0, 2, 1, 0, 0, 0));
        Sentences.yes("sightings need not", Sentences.takes(y, 0, 2, 3, 3, 3, 0, 0, 0));
        Sentences.due("none refused", y.status(4), 0);
    }

    // ---- status

    private static void status() {
        Sentences.sentence(40, "REFUSALS so far: 0 of feed() and end(), 1 of sea(), 2 of add(), drop(), 3 of spot(), 4 of on().");
        ToldTracks x = new ToldTracks();
        int[] want = new int[5];
        statuses(x, want);
        for (int k = 0; k < 90; k++) {
            x.feed(0, 0, 0, 0, 0);
        }
        statuses(x, want);
        x.feed(0, 0, 0, 0, 0);
        want[0]++;
        statuses(x, want);
        x.end(1801);
        want[0]++;
        statuses(x, want);
        x.end(-1);
        want[0]++;
        statuses(x, want);
        x.end(0);
        statuses(x, want);
        x.sea();
        want[1]++;
        statuses(x, want);
        Sentences.tell(x, THREE);
        statuses(x, want);
        x.add(0, 48, 0, 0, false);
        want[2]++;
        statuses(x, want);
        x.add(0, 47, 0, 0, false);
        statuses(x, want);
        x.add(0, 47, 0, 0, false);
        want[2]++;
        statuses(x, want);
        x.drop(0, 1);
        want[2]++;
        statuses(x, want);
        x.drop(0, 0);
        statuses(x, want);
        x.spot(4, 0, 0, 0);
        want[3]++;
        statuses(x, want);
        x.spot(3, 0, 0, 0);
        statuses(x, want);
        x.on();
        want[4]++;
        statuses(x, want);
        Sentences.takes(x, 0, 0);
        statuses(x, want);
        // What is asked in vain is no refusal.
        x.letter(9, 9);
        x.reach(9, 9, 9);
        x.octet(-1);
        x.fault(9);
        x.status(9);
        x.off(9);
        statuses(x, want);

        Sentences.sentence(40, "NONE for others.");
        int[] others = {5, -1, LEAST, MOST};
        for (int w : others) {
            Sentences.due("status " + w, x.status(w), -1);
        }
    }

    private static void statuses(ToldTracks x, int... want) {
        for (int w = 0; w < 5; w++) {
            Sentences.due("status " + w, x.status(w), want[w]);
        }
    }

    public static void main(String[] args) {
        add();
        drop();
        spot();
        image();
        octet();
        on();
        onFull();
        onRefused();
        status();
        Sentences.done(34, 40, "AN IMAGE:", "The constants: ");
    }
}
