/** For each promise of the document: ordinary inputs, the edges that it names, wrong inputs. */
public final class PromiseTest {
    private static int wrong = 0;
    private static int promise = 0;

    private static void due(String what, long got, long want) {
        if (got != want) {
            wrong++;
            System.out.println("promise " + promise + ": " + what + " answered " + got + ", due is " + want);
        }
    }

    private static void yes(String what, boolean got) {
        due(what, got ? 1 : 0, 1);
    }

    private static void no(String what, boolean got) {
        due(what, got ? 1 : 0, 0);
    }

    private static void put(ToldTracks x, int... bytes) {
        for (int from = 0; from < bytes.length; from += 20) {
            int[] five = new int[5];
            for (int k = 0; k < 20; k++) {
                five[k / 4] = five[k / 4] << 8 | (from + k < bytes.length ? bytes[from + k] & 255 : 0);
            }
            x.feed(five[0], five[1], five[2], five[3], five[4]);
        }
        x.end(bytes.length);
    }

    private static int tell(ToldTracks x, String text) {
        int[] bytes = new int[text.length()];
        for (int k = 0; k < bytes.length; k++) {
            bytes[k] = text.charAt(k);
        }
        put(x, bytes);
        return x.sea();
    }

    private static ToldTracks told(String text) {
        ToldTracks x = new ToldTracks();
        if (tell(x, text) < 0) {
            wrong++;
            System.out.println("promise " + promise + ": fault " + x.fault(0) + " at " + x.fault(1) + " in " + text);
        }
        return x;
    }

    private static void faulty(String text, int fault, int place) {
        ToldTracks x = new ToldTracks();
        due("sea() of " + text, tell(x, text), -1);
        due("fault(0) of " + text, x.fault(0), fault);
        due("fault(1) of " + text, x.fault(1), place);
    }

    /** A fault at the place of a mark in the text, which itself goes. */
    private static void faultAt(String marked, int fault) {
        int place = marked.indexOf('!');
        faulty(marked.replace("!", ""), fault, place);
    }

    private static String many(String text, int n) {
        return text.repeat(n);
    }

    private static final String FLAT = "size 6 4;depth 20 when all;";
    private static final String OWL = "ship owl look 1 speed 1 draft 5 load 3;";
    private static final String KITE = "ship kite look 2 speed 2 draft 8 load 4;";

    private static String says(String name, int hour, int column, int row, int laden) {
        return "says " + name + " " + hour + " at " + column + " " + row + " laden " + laden + ";";
    }

    private static String book(String name, int column, int row, int from, int to) {
        return "book " + name + " at " + column + " " + row + " from " + from + " to " + to + ";";
    }

    private static void newObject() {
        promise = 1;
        ToldTracks x = new ToldTracks();
        int[] has = {0, 0, 0, 0, 0, 0, 10, 0};
        for (int w = 0; w < has.length; w++) {
            due("has " + w, x.has(w), has[w]);
        }
        due("cell", x.cell(0, 0, 0, 0), -1);
        due("ship", x.ship(0, 0), -1);
        due("kinds", x.kinds(0), 0);
        due("lies", x.lies(), 0);
        due("strange", x.strange(), 0);
        due("next", x.next(0), -1);
        due("beyond", x.beyond(), 0);
        due("whose", x.whose(), 0);
        due("off", x.off(0), 100);
        due("chance", x.chance(0), -1);
        due("add", x.add(0, 0, 0, 0, false), -1);
        due("spot", x.spot(0, 0, 0, 0), -1);
        due("octet", x.octet(0), -1);
    }

    private static void tape() {
        promise = 2;
        ToldTracks x = new ToldTracks();
        for (int k = 1; k <= 90; k++) {
            due("feed", x.feed(k, -1, 0, 7, 8), 20L * k);
        }
        due("feed too much", x.feed(0, 0, 0, 0, 0), -1);
        due("refusals", x.status(0), 1);
        yes("end", x.end(1781));
        due("feed too much by one", x.feed(0, 0, 0, 0, 0), -1);
        yes("end", x.end(1780));
        due("feed", x.feed(0, 0, 0, 0, 0), 1800);
        // The highest byte first: the image of no sayings and no sightings is 0, 0, 20.
        yes("end", x.end(0));
        due("feed", x.feed(0x00001400, 0, 0, 0, 0), 20);
        yes("end", x.end(3));
        yes("on", x.on());

        promise = 3;
        ToldTracks y = new ToldTracks();
        yes("end of nothing", y.end(0));
        no("end of too many", y.end(1));
        no("end below 0", y.end(-1));
        y.feed(1, 2, 3, 4, 5);
        yes("end all", y.end(20));
        no("end more", y.end(21));
        yes("end", y.end(7));
        no("end what went", y.end(8));
        due("feed behind", y.feed(1, 2, 3, 4, 5), 27);
        no("least", y.end(Integer.MIN_VALUE));
        no("greatest", y.end(Integer.MAX_VALUE));
        due("refusals", y.status(0), 6);
    }

    private static void seas() {
        promise = 4;
        ToldTracks x = told("  size 2\n16 ; ");
        due("columns", x.has(0), 2);
        due("rows", x.has(1), 16);
        due("statements", tell(x, FLAT + OWL + "luck 3;luck 100;" + says("owl", 5, 0, 0, 1)), 6);
        due("the last luck", x.has(6), 100);
        no("the tape goes", x.end(1));
        due("sea of nothing", tell(x, ""), -1);
        due("all stays", x.has(3), 1);
        due("tape goes with a fault", tell(x, "size 5 5;depth"), -1);
        no("the tape goes", x.end(1));
        due("all stays", x.has(0), 6);
        due("refusals stay", x.status(1), 2);
        due("sea", tell(x, "size 3 3;"), 1);
        due("refusals stay", x.status(1), 2);
        due("no ship is left", x.has(2), 0);
        due("luck without", x.has(6), 10);
        due("own words side by side with signs", tell(x, "size 3 3;depth(1)when[all];"), 2);

        promise = 5;
        ToldTracks y = new ToldTracks();
        due("ahead of any", y.fault(0), 0);
        due("ahead of any", y.fault(1), -1);
        due("another", y.fault(2), -1);
        due("another", y.fault(-1), -1);
        tell(y, "size 1 3;");
        due("fault", y.fault(0), 4);
        due("place", y.fault(1), 5);
        tell(y, "size 2 3;");
        due("fault goes", y.fault(0), 0);
        due("place goes", y.fault(1), -1);
    }

    private static void faultsOfForm() {
        promise = 5;
        faulty("", 1, 0);
        faulty("  \n", 1, 3);
        faultAt("!depth 1 when all;", 1);
        faultAt("!;", 1);
        faultAt("size 3 3;!size 3 3;", 1);
        faultAt("size 3 3;!;", 1);
        faultAt("size 3 3;!look 3;", 1);
        faultAt("size 3 3;!owl 3;", 1);
        faultAt("size 3 3;!3;", 1);
        faultAt("size 3 3!", 1);
        faultAt("size 3 3 \n!", 1);
        faultAt("size 3!", 1);
        faultAt("size!", 1);
        faultAt("!siz", 1);
        faultAt("size 3 !x;", 1);
        faultAt("size 3 !;", 1);
        faultAt("size 3!x 3;", 1);
        faultAt("size!3 3;", 1);
        faultAt("size 3 !\t3;", 1);
        faultAt("size 3 3;!\r", 1);
        faultAt("!Size 3 3;", 1);
        faultAt("size 3 3;!" + (char) 233, 1);
        faultAt("size 3 3;!" + (char) 0, 1);
        faultAt("size 0003 0012!5;", 1);
        faultAt("size 1234!5 3;", 1);
        faultAt("size sizesi!ze 3;", 1);
        faultAt("size 3 3;quietq!u", 1);
        faultAt("size 3 3;ship abcdef!g look 1 speed 1 draft 1 load 1;", 1);
        faultAt("size 3 3;ship !look look 1 speed 1 draft 1 load 1;", 1);
        faultAt("size 3 3;ship !3 look 1 speed 1 draft 1 load 1;", 1);
        faultAt("size 3 3;ship a !1 speed 1 draft 1 load 1;", 1);
        faultAt("size 3 3;ship a!1 look 1 speed 1 draft 1 load 1;", 1);
        faultAt("size 3 3;quiet !all;", 1);
        faultAt("size 3 3;quiet when all !all;", 1);
        faultAt("size 3 3;quiet when all and!;", 1);
        faultAt("size 3 3;quiet when not !or;", 1);
        faultAt("size 3 3;quiet when 3!;", 1);
        faultAt("size 3 3;quiet when 3 < 4 !< 5;", 1);
        faultAt("size 3 3;quiet when 3 < !all;", 1);
        faultAt("size 3 3;quiet when 3 <!= 5;", 1);
        faultAt("size 3 3;quiet when (all);".replace("(all", "(!all"), 1);
        faultAt("size 3 3;quiet when [3 < 4!);", 1);
        faultAt("size 3 3;quiet when min !3 < 4;", 1);
        faultAt("size 3 3;quiet when min(3!) < 4;", 1);
        faultAt("size 3 3;quiet when min(3,4!,5) < 4;", 1);
        faultAt("size 3 3;quiet when !-3 < 4;", 1);
        faultAt("size 3 3;depth 3 + !+ 4 when all;", 1);
        faultAt("size 3 3;depth 3!, when all;", 1);
        faultAt("size 3 3;depth !when all;", 1);
        faultAt("size 3 3;depth 3 !;", 1);
        faultAt("size 3 3;depth !owl when all;", 1);
        faultAt("size 3 3;luck 10 !10;", 1);
    }

    private static void faultsOfMatter() {
        promise = 5;
        String sea = "size 3 4;" + OWL;
        faultAt(sea + "ship !owl look 1 speed 1 draft 1 load 1;", 2);
        faultAt(sea + "ship !owl look 9;", 2);
        faultAt(sea + "says !kite 1 at 0 0 laden 0;", 3);
        faultAt(sea + "book !kite at 0 0 from 1 to 1;", 3);
        faultAt(sea + "says owl 1 at 0 0 laden 0;says owl !1 at 1 0 laden 0;", 3);
        faultAt(sea + "says owl 1 at 0 0 laden 0;says owl !01 atatatata", 3);
        faultAt("size 3 4;says !owl 1 at 0 0 laden 0;" + OWL, 3);
        faultAt("size !1 4;", 4);
        faultAt("size !17 4;", 4);
        faultAt("size 3 !1;", 4);
        faultAt("size 3 !17;", 4);
        faultAt("size !99x 4;", 4);
        faultAt("size 3 4;ship a look !4 speed 1 draft 1 load 1;", 4);
        faultAt("size 3 4;ship a look 3 speed !0 draft 1 load 1;", 4);
        faultAt("size 3 4;ship a look 3 speed !5 draft 1 load 1;", 4);
        faultAt("size 3 4;ship a look 3 speed 4 draft !0 load 1;", 4);
        faultAt("size 3 4;ship a look 3 speed 4 draft !41 load 1;", 4);
        faultAt("size 3 4;ship a look 3 speed 4 draft 40 load !41;", 4);
        faultAt(sea + "says owl !48 at 0 0 laden 0;", 4);
        faultAt(sea + "says owl 47 at !3 0 laden 0;", 4);
        faultAt(sea + "says owl 47 at 2 !4 laden 0;", 4);
        faultAt(sea + "says owl 47 at 2 3 laden !2;", 4);
        faultAt(sea + "book owl at 2 3 from !48 to 47;", 4);
        faultAt(sea + "book owl at 2 3 from 3 to !2;", 4);
        faultAt(sea + "book owl at 2 3 from 3 to !48;", 4);
        faultAt(sea + "seen !4 at 2 3 hour 3;", 4);
        faultAt(sea + "seen 3 at 2 3 hour !48;", 4);
        faultAt(sea + "luck !101;", 4);
        faultAt("size 3 4;" + many("depth 1 when all;", 12) + "!depth;", 5);
        faultAt("size 3 4;" + many("cost 1 when all;", 12) + "!cost;", 5);
        faultAt("size 3 4;" + many("quiet when all;", 6) + "!quiet;", 5);
        faultAt(sea + many(book("owl", 0, 0, 0, 0), 12) + "!book;", 5);
        faultAt(sea + many("seen 0 at 0 0 hour 0;", 40) + "!seen;", 5);
        StringBuilder ships = new StringBuilder("size 3 4;");
        for (char c = 'a'; c < 'i'; c++) {
            ships.append("ship ").append(c).append(" look 0 speed 1 draft 1 load 0;");
        }
        faultAt(ships + "!ship;", 5);
        faultAt("size 3 4;depth ((((((((!(1 when all;", 5);
        faultAt("size 3 4;quiet when [[[[((((!(1;", 5);
        faultAt("size 3 4;quiet when [[[[((((1 !( ;", 1);
        faultAt("size 3 4;quiet when [[[[[[[[!max(1;".replace("!max(", "max!("), 5);
        told("size 3 4;quiet when [[[[((((1))))=min(1,2)]]]];");
        told("size 3 4;quiet when [[[[[[min((1),2)=1]]]]]];");
        told("size 3 4;quiet when [[[[[[min(1,(2))=1]]]]]];");
        faultAt("size 3 4;quiet when [[[[[[[min(!(1),2)=1]]]]]]];", 5);
        faultAt("size 3 4;quiet when [[[[[[[min(1,!(2))=1]]]]]]];", 5);
        told("size 3 4;" + many("luck 1;", 200));
    }

    private static void counts() {
        promise = 6;
        ToldTracks x = told("size 16 2;luck 0;" + OWL + KITE + says("kite", 3, 0, 0, 0) + says("kite", 1, 0, 0, 1)
                + book("owl", 1, 1, 4, 9) + book("kite", 1, 1, 4, 9) + book("kite", 1, 1, 4, 9)
                + "seen 1 at 2 1 hour 3;");
        int[] has = {16, 2, 2, 2, 3, 1, 0, 1};
        for (int w = 0; w < has.length; w++) {
            due("has " + w, x.has(w), has[w]);
        }
        due("others", x.has(8), -1);
        due("others", x.has(-1), -1);

        promise = 7;
        due("letter", x.letter(0, 0), 'o');
        due("letter", x.letter(0, 2), 'l');
        due("letter", x.letter(1, 3), 'e');
        due("letter behind", x.letter(0, 3), -1);
        due("letter ahead", x.letter(0, -1), -1);
        due("letter far behind", x.letter(0, 1000), -1);
        due("no ship", x.letter(2, 0), -1);
        due("no ship", x.letter(-1, 0), -1);
        ToldTracks z = told("size 2 2;ship zyxabc look 0 speed 1 draft 1 load 0;");
        due("sixth letter", z.letter(0, 5), 'c');
        due("first letter", z.letter(0, 0), 'z');
        due("seventh letter", z.letter(0, 6), -1);
    }

    private static void shipsAndSayings() {
        promise = 8;
        ToldTracks x = told("size 6 4;depth 7 when row=3;depth 20 when all;" + OWL + KITE
                + says("owl", 9, 5, 0, 0) + says("owl", 3, 0, 0, 1) + says("owl", 4, 1, 3, 1)
                + book("kite", 0, 3, 1, 2));
        int[] owl = {1, 1, 5, 3, 3, 2, 1, 0, 1};
        for (int w = 0; w < owl.length; w++) {
            due("ship 0 " + w, x.ship(0, w), owl[w]);
        }
        int[] kite = {2, 2, 8, 4, 0, 0, 0, 1, 0};
        for (int w = 0; w < kite.length; w++) {
            due("ship 1 " + w, x.ship(1, w), kite[w]);
        }
        due("others", x.ship(0, 9), -1);
        due("others", x.ship(0, -1), -1);
        due("no ship", x.ship(2, 0), -1);
        due("no ship", x.ship(-1, 0), -1);

        promise = 9;
        int[][] sayings = {{3, 0, 1, 1, 1}, {4, 19, 1, 0, 0}, {9, 5, 0, 1, 1}};
        for (int i = 0; i < sayings.length; i++) {
            for (int w = 0; w < 5; w++) {
                due("saying " + i + " " + w, x.saying(0, i, w), sayings[i][w]);
            }
        }
        due("others", x.saying(0, 0, 5), -1);
        due("others", x.saying(0, 0, -1), -1);
        due("no saying", x.saying(0, 3, 0), -1);
        due("no saying", x.saying(0, -1, 0), -1);
        due("no saying", x.saying(1, 0, 0), -1);
        due("no ship", x.saying(2, 0, 0), -1);
        // Of like sets that with the earliest saying: 0 and 2 against 1 and 2.
        ToldTracks y = told(FLAT + OWL + says("owl", 0, 0, 0, 0) + says("owl", 1, 2, 0, 0) + says("owl", 2, 1, 0, 0));
        due("kept", y.saying(0, 0, 4), 1);
        due("kept", y.saying(0, 1, 4), 0);
        due("kept", y.saying(0, 2, 4), 1);
        // Books that do not fit by themselves leave nothing.
        ToldTracks z = told(FLAT + OWL + says("owl", 9, 0, 0, 0) + book("owl", 0, 0, 3, 4) + book("owl", 3, 0, 5, 5));
        due("books fit", z.ship(0, 8), 0);
        due("kept", z.ship(0, 5), 0);
        due("lies", z.ship(0, 6), 1);
    }

    private static int depthOf(String sum, int column, int row) {
        return told("size 9 9;depth " + sum + " when all;").cell(column, row, 0, 0);
    }

    private static int holds(String test, int column, int row, int hour) {
        return told("size 9 9;depth 7 when all;quiet when " + test + ";").cell(column, row, hour, 2);
    }

    private static void cells() {
        promise = 10;
        ToldTracks x = told("size 5 3;depth 9 when column=2;depth column*40-5 when row<2;cost depth+hour when column>1;"
                + "cost 500 when column=1;quiet when hour>40 and depth=9;quiet when row=2 and hour=0;");
        due("depth of the first rule", x.cell(2, 0, 0, 0), 9);
        due("depth below", x.cell(0, 0, 0, 0), 0);
        due("depth", x.cell(1, 0, 0, 0), 35);
        due("depth above", x.cell(3, 1, 0, 0), 99);
        due("depth without", x.cell(3, 2, 0, 0), 0);
        due("cost by depth", x.cell(2, 0, 30, 1), 9);
        due("cost above", x.cell(1, 0, 0, 1), 99);
        due("cost without", x.cell(0, 0, 0, 1), 0);
        due("quiet", x.cell(2, 1, 41, 2), 1);
        due("quiet", x.cell(2, 1, 40, 2), 0);
        due("quiet of another rule", x.cell(0, 2, 0, 2), 1);
        due("no column", x.cell(5, 0, 0, 0), -1);
        due("no column", x.cell(-1, 0, 0, 0), -1);
        due("no row", x.cell(0, 3, 0, 0), -1);
        due("no row", x.cell(0, -1, 0, 0), -1);
        due("no hour", x.cell(0, 0, 48, 0), -1);
        due("no hour", x.cell(0, 0, -1, 0), -1);
        due("others", x.cell(0, 0, 0, 3), -1);
        due("others", x.cell(0, 0, 0, -1), -1);
        due("from the left on", depthOf("20-5-3", 0, 0), 12);
        due("from the left on", depthOf("60/5*2%7", 0, 0), 3);
        due("products first", depthOf("2+3*4", 0, 0), 14);
        due("round", depthOf("(2+3)*4", 0, 0), 20);
        due("down", depthOf("50+(0-7)/2", 0, 0), 46);
        due("what lacks", depthOf("50+(0-7)%2", 0, 0), 51);
        due("down, below 0", depthOf("50+7/(0-2)", 0, 0), 46);
        due("what lacks, below 0", depthOf("50+7%(0-2)", 0, 0), 49);
        due("by 0", depthOf("50+7/column+7%row", 0, 0), 50);
        due("by 1", depthOf("50+7/column+7%row", 1, 3), 58);
        due("above a million", depthOf("9999*9999*9999/9999", 0, 0), 99);
        due("above a million", depthOf("9999*9999-9999*100-90", 0, 0), 10);
        due("below a million", depthOf("(0-9999)*9999+9999*100+150", 0, 0), 50);
        due("sum above", depthOf("9999*100+9999-9999*100", 0, 0), 99);
        due("min", depthOf("min(column,row)", 4, 6), 4);
        due("max", depthOf("max(column,row+1)", 4, 6), 7);
        due("hour is 0 in depth", depthOf("hour+3", 4, 6), 3);
        due("depth is 0 in depth", depthOf("depth+3", 4, 6), 3);
        due("and first", holds("all or all and not all", 0, 0, 0), 1);
        due("brackets", holds("[all or all] and not all", 0, 0, 0), 0);
        due("not", holds("not not not column=1", 1, 0, 0), 0);
        due("not of the nearest", holds("not column=1 and row=1", 0, 1, 0), 1);
        due("hour", holds("hour%7=3", 0, 1, 10), 1);
        due("depth", holds("depth=7", 0, 1, 10), 1);
        due("depth", holds("depth>7 or depth<7", 0, 1, 10), 0);
    }

    private static void ways() {
        promise = 11;
        // A wall with one way round it, at the last row.
        ToldTracks x = told("size 5 4;depth 0 when column=2 and row<3;depth 6 when column=4;depth 9 when all;"
                + "ship a look 0 speed 1 draft 6 load 0;ship b look 0 speed 3 draft 6 load 0;"
                + "ship c look 0 speed 1 draft 7 load 0;");
        due("same cell", x.far(0, 0, 0, 0, 0), 0);
        due("round the wall", x.far(0, 1, 0, 3, 0), 8);
        due("rounded up", x.far(1, 1, 0, 3, 0), 3);
        due("both ways alike", x.far(1, 3, 0, 1, 0), 3);
        due("not water", x.far(0, 2, 0, 3, 0), -1);
        due("not water", x.far(0, 3, 0, 2, 0), -1);
        due("not water to itself", x.far(0, 2, 0, 2, 0), -1);
        due("too low for it", x.far(2, 3, 0, 4, 0), -1);
        due("no column", x.far(0, 5, 0, 0, 0), -1);
        due("no row", x.far(0, 0, 0, 0, 4), -1);
        due("no ship", x.far(3, 0, 0, 0, 0), -1);
        due("no way over the edge", told("size 16 3;depth 0 when row=1;depth 9 when all;" + OWL)
                .far(0, 15, 0, 0, 2), -1);
        due("no way round by columns", told("size 16 2;depth 9 when all;" + OWL).far(0, 15, 0, 0, 1), 16);
        ToldTracks snake = told("size 16 15;depth 0 when row%4=1 and column<15 or row%4=3 and column>0;"
                + "depth 9 when all;" + OWL);
        due("more hours than there are", snake.far(0, 0, 0, 15, 14), 7 * 15 + 7 * 2);

        promise = 12;
        ToldTracks y = told("size 6 4;depth 0 when row=3;depth 20 when all;" + KITE + says("kite", 5, 0, 0, 0)
                + says("kite", 7, 4, 0, 0) + says("kite", 8, 5, 2, 0) + says("kite", 9, 0, 3, 0)
                + says("kite", 30, 0, 3, 0));
        due("just in time", y.can(0, 0, 1), 1);
        due("as well backwards", y.can(0, 1, 0), 1);
        due("too far", y.can(0, 1, 2), 0);
        due("in more hours", y.can(0, 0, 2), 0);
        due("no water, same cell", y.can(0, 3, 4), 0);
        due("alike", y.can(0, 1, 1), -1);
        due("none such", y.can(0, 1, 5), -1);
        due("none such", y.can(0, -1, 1), -1);
        due("no ship", y.can(1, 0, 1), -1);
    }

    private static void places() {
        promise = 13;
        ToldTracks x = told("size 6 4;depth 0 when row=1;depth 20 when all;" + OWL + KITE
                + says("owl", 10, 0, 0, 0) + says("owl", 14, 2, 0, 0) + book("kite", 3, 3, 20, 22));
        due("one", x.reach(0, 10, -1), 1);
        due("which", x.reach(0, 10, 0), 0);
        due("behind", x.reach(0, 10, 1), -1);
        due("between", x.reach(0, 12, -1), 3);
        due("third", x.reach(0, 12, 2), 2);
        due("ahead", x.reach(0, 8, -1), 3);
        due("after", x.reach(0, 15, -1), 3);
        due("first after", x.reach(0, 15, 0), 1);
        due("far after", x.reach(0, 47, -1), 6);
        due("in a book", x.reach(1, 21, -1), 1);
        due("in a book", x.reach(1, 21, 0), 21);
        due("by a book", x.reach(1, 23, -1), 5 + 3);
        due("k below", x.reach(0, 12, -2), -1);
        due("no hour", x.reach(0, 48, -1), -1);
        due("no hour", x.reach(0, -1, -1), -1);
        due("no ship", x.reach(2, 0, -1), -1);
        due("all water without facts", told(FLAT + OWL).reach(0, 0, -1), 24);
        due("nowhere", told(FLAT + OWL + book("owl", 0, 0, 1, 1) + book("owl", 1, 0, 1, 1)).reach(0, 40, -1), 0);

        promise = 14;
        due("may", x.may(0, 12, 1, 0), 1);
        due("may not", x.may(0, 12, 3, 0), 0);
        due("not on land", x.may(0, 12, 1, 1), 0);
        due("no column", x.may(0, 12, 6, 0), -1);
        due("no row", x.may(0, 12, 0, 4), -1);
        due("no hour", x.may(0, 48, 0, 0), -1);
        due("no ship", x.may(2, 12, 0, 0), -1);
        // A lie does not bind it.
        ToldTracks y = told(FLAT + OWL + says("owl", 1, 0, 0, 0) + says("owl", 2, 5, 3, 0) + says("owl", 3, 0, 0, 0));
        due("at the lie", y.may(0, 2, 5, 3), 0);
        due("between the truths", y.may(0, 2, 0, 1), 1);
    }

    private static void judged(ToldTracks x, int ship, int... kinds) {
        int next = 0;
        for (int kind = 0; kind < 5; kind++) {
            boolean is = next < kinds.length && kinds[next] == kind;
            promise = 15;
            due("judge " + ship + " " + kind, x.judge(ship, kind), is ? 1 : 0);
            promise = 16;
            due("tale " + ship + " " + kind, x.tale(ship, kind), kind < kinds.length ? kinds[kind] : -1);
            next += is ? 1 : 0;
        }
    }

    private static void kindsOfTales() {
        String quiet = "quiet when hour%2=1 and column=1;";
        judged(told(FLAT + quiet + OWL + says("owl", 0, 0, 0, 0) + says("owl", 2, 1, 0, 0)), 0, 0);
        judged(told(FLAT + quiet + OWL + says("owl", 0, 0, 0, 0) + says("owl", 3, 1, 0, 0)), 0, 1);
        judged(told(FLAT + OWL + says("owl", 4, 0, 0, 0)), 0, 0);
        judged(told(FLAT + OWL), 0);
        String fast = "ship fast look 0 speed 4 draft 5 load 3;";
        String jump = says("owl", 0, 0, 0, 0) + says("owl", 1, 4, 0, 0);
        judged(told(FLAT + OWL + jump), 0, 3, 4);
        judged(told(FLAT + OWL + fast + jump), 0, 2, 3, 4);
        judged(told(FLAT + OWL + fast + jump + says("fast", 1, 4, 0, 1)), 0, 2, 3, 4);
        judged(told(FLAT + OWL + fast + jump + says("fast", 1, 3, 0, 1)), 0, 3, 4);
        judged(told(FLAT + OWL + fast + jump + book("fast", 0, 3, 1, 1)), 0, 3, 4);
        judged(told(FLAT + OWL + fast + says("owl", 0, 0, 0, 0)), 0, 0, 2);
        // Too deep for the other when laden.
        judged(told("size 6 4;depth 8 when all;" + OWL + KITE + says("owl", 0, 0, 0, 1)), 0, 0);
        judged(told("size 6 4;depth 8 when all;" + OWL + KITE + says("owl", 0, 0, 0, 0)), 0, 0, 2);
        // Three that go together in no way can't be two ships.
        judged(told(FLAT + OWL + jump + says("owl", 2, 0, 3, 0)), 0, 4);
        // One that the books forbid may be another's, but not one that no water bears.
        judged(told(FLAT + OWL + says("owl", 5, 0, 0, 0) + says("owl", 20, 0, 0, 0) + book("owl", 5, 3, 6, 6)), 0, 3, 4);
        judged(told("size 6 4;depth 4 when column=5;depth 20 when all;" + OWL + says("owl", 0, 5, 0, 0)
                + says("owl", 20, 0, 0, 0)), 0, 4);
        // Neither set may be empty, and nothing is kept.
        judged(told(FLAT + OWL + says("owl", 5, 0, 0, 0) + book("owl", 5, 3, 6, 6)), 0);
        // Books that do not fit leave no kind but that of another's name.
        judged(told(FLAT + OWL + fast + says("owl", 5, 0, 0, 0) + book("owl", 5, 3, 6, 7) + book("owl", 5, 0, 6, 6)), 0, 2);
        ToldTracks x = told(FLAT + OWL + jump);
        promise = 15;
        due("no kind", x.judge(0, 5), -1);
        due("no kind", x.judge(0, -1), -1);
        due("no ship", x.judge(1, 0), -1);
        promise = 16;
        due("no rival", x.tale(0, 2), -1);
        due("no rival", x.tale(0, -1), -1);
        due("no ship", x.tale(1, 0), -1);
    }

    private static void barsAndClashes() {
        promise = 17;
        ToldTracks x = told("size 6 4;depth 4 when column=5;depth 20 when all;" + OWL + KITE
                + says("owl", 0, 0, 0, 0) + says("owl", 4, 1, 0, 0) + says("owl", 5, 4, 0, 0) + says("owl", 6, 5, 0, 0)
                + says("kite", 1, 0, 0, 0) + says("kite", 2, 1, 0, 0));
        due("bars", x.bars(0), 2);
        due("without", x.bars(1), -1);
        due("no ship", x.bars(2), -1);
        due("no ship", x.bars(-1), -1);
        due("books alone", told(FLAT + OWL + says("owl", 30, 0, 0, 0) + book("owl", 0, 0, 1, 1)
                + book("owl", 5, 0, 2, 2)).bars(0), 0);
        due("by a later book", told(FLAT + OWL + says("owl", 3, 0, 0, 0) + says("owl", 30, 0, 0, 0)
                + book("owl", 3, 0, 32, 32)).bars(0), 1);

        promise = 18;
        due("earlier", x.clash(0, 0), 1);
        due("later", x.clash(0, 1), 2);
        due("since", x.clash(0, 2), 4);
        x = told(FLAT + OWL + says("owl", 7, 0, 0, 0) + says("owl", 9, 4, 0, 0) + says("owl", 10, 0, 0, 0));
        due("earlier", x.clash(0, 0), 0);
        due("later", x.clash(0, 1), 1);
        due("since", x.clash(0, 2), 7);
        x = told("size 6 4;depth 4 when column=5;depth 20 when all;" + OWL + says("owl", 7, 0, 0, 0)
                + says("owl", 9, 5, 0, 0));
        due("alone, if alike", x.clash(0, 0), -1);
        due("only one", x.clash(0, 1), 1);
        due("since", x.clash(0, 2), 9);
        x = told(FLAT + OWL + says("owl", 7, 0, 0, 0) + says("owl", 9, 4, 0, 0) + says("owl", 30, 0, 0, 0)
                + book("owl", 5, 3, 30, 31));
        due("two that end earlier", x.clash(0, 1), 1);
        due("two that end earlier", x.clash(0, 0), 0);
        x = told(FLAT + OWL + says("owl", 7, 0, 0, 0) + says("owl", 8, 5, 0, 0) + book("owl", 3, 3, 9, 9));
        due("a book, alone", x.clash(0, 0), -1);
        due("a book, alone", x.clash(0, 1), 0);
        due("a book, alone", x.clash(0, 2), 7);
        due("others", x.clash(0, 3), -1);
        due("others", x.clash(0, -1), -1);
        due("no ship", x.clash(1, 0), -1);
        x = told(FLAT + OWL + says("owl", 7, 0, 0, 0));
        for (int w = 0; w < 3; w++) {
            due("without", x.clash(0, w), -1);
        }
    }

    private static void names() {
        promise = 19;
        String slow = "ship slow look 0 speed 1 draft 5 load 3;";
        String fast = "ship fast look 0 speed 4 draft 5 load 3;";
        ToldTracks x = told(FLAT + OWL + slow + fast + says("owl", 0, 0, 0, 0) + says("owl", 1, 1, 0, 0));
        due("both", x.who(0), 6);
        due("without sayings", x.who(1), 0);
        due("no ship", x.who(3), -1);
        due("no ship", x.who(-1), -1);
        x.add(1, 2, 3, 0, false);
        due("its own bar it", x.who(0), 4);
        due("the other's own, too", x.who(1), 4);

        promise = 20;
        x = told(FLAT + OWL + slow + fast + says("owl", 0, 0, 0, 0) + says("owl", 1, 1, 0, 0)
                + says("slow", 1, 5, 3, 0) + book("owl", 4, 3, 2, 2));
        due("by books alone", x.swap(0, 1), 1);
        due("both ways", x.swap(1, 0), 1);
        due("one without sayings", x.swap(0, 2), -1);
        due("alike", x.swap(0, 0), -1);
        due("no ship", x.swap(0, 3), -1);
        due("no ship", x.swap(-1, 0), -1);
        x.add(2, 0, 0, 0, false);
        due("fast for slow", x.swap(1, 2), 1);
        x.add(2, 1, 4, 0, false);
        due("too fast for slow", x.swap(1, 2), 0);
        due("too fast for slow", x.swap(2, 1), 0);
        x = told(FLAT + OWL + slow + says("owl", 0, 0, 0, 0) + says("slow", 1, 5, 3, 0) + book("owl", 0, 0, 2, 2));
        due("its books bar it", x.swap(0, 1), 0);
    }

    private static void countsOfTales() {
        promise = 21;
        String three = "ship b look 0 speed 1 draft 5 load 3;ship c look 0 speed 1 draft 5 load 3;";
        ToldTracks x = told(FLAT + OWL + three + KITE
                + says("owl", 0, 0, 0, 0) + says("owl", 1, 5, 0, 0) + says("b", 0, 1, 0, 0) + says("b", 2, 1, 0, 0)
                + says("c", 3, 0, 0, 0) + book("c", 5, 0, 3, 3));
        x.add(3, 0, 3, 3, false);
        // Kite is true, b silent; kite could have said what c said; owl is two.
        int[] kinds = {1, 1, 1, 1, 0};
        for (int k = 0; k < 5; k++) {
            due("kinds " + k, x.kinds(k), kinds[k]);
        }
        due("no kind", x.kinds(-1), 0);
        due("others", x.kinds(5), -1);
        due("others", x.kinds(-2), -1);
        ToldTracks y = told(FLAT + OWL + KITE + says("owl", 5, 0, 0, 0) + book("owl", 5, 3, 5, 5)
                + book("kite", 5, 0, 5, 5));
        due("no kind with sayings", y.kinds(-1), 1);
        due("kind 4", y.kinds(4), 0);

        promise = 22;
        due("lies", x.lies(), 2);
        due("lies", y.lies(), 1);
        x.drop(2, 0);
        due("lies", x.lies(), 1);
    }

    private static void meetings() {
        promise = 23;
        String two = "ship a look 0 speed 1 draft 2 load 2;ship b look 0 speed 1 draft 2 load 2;";
        ToldTracks x = told(FLAT + two + says("a", 10, 0, 0, 1) + says("a", 14, 0, 0, 0)
                + says("b", 11, 2, 0, 0) + says("b", 15, 2, 0, 1));
        // In hour 12 a may be 2 off (0, 0), b 1 off (2, 0); in hour 13 a 1 off, b 2 off.
        due("hours", x.met(0, 1, 0), 2);
        due("first", x.met(0, 1, 1), 12);
        due("cells", x.met(0, 1, 2), 2 + 2);
        due("not the other way", x.met(1, 0, 0), 0);
        due("no first", x.met(1, 0, 1), -1);
        due("no cells", x.met(1, 0, 2), 0);
        due("alike", x.met(0, 0, 0), -1);
        due("no ship", x.met(0, 2, 0), -1);
        due("no ship", x.met(-1, 0, 0), -1);
        due("others", x.met(0, 1, 3), -1);
        due("others", x.met(0, 1, -1), -1);
        x.add(0, 12, 0, 0, false);
        due("the hour lies ahead of the second", x.met(0, 1, 0), 0);
        x.drop(0, 1);
        x.add(0, 12, 0, 0, true);
        due("behind the first", x.met(0, 1, 1), 13);
        x.drop(0, 1);
        x.add(0, 12, 5, 3, true);
        due("a lie does not part them", x.met(0, 1, 0), 2);
    }

    private static void seen() {
        promise = 24;
        ToldTracks x = told(FLAT + OWL + KITE + "ship hawk look 1 speed 1 draft 5 load 0;" + says("owl", 5, 0, 0, 0)
                + says("kite", 5, 0, 0, 0) + "seen 1 at 1 0 hour 6;seen 2 at 5 3 hour 6;seen 0 at 0 1 hour 7;");
        int[][] sights = {{1, 1, 6, 5}, {2, 23, 6, 0}, {0, 6, 7, 0}};
        for (int i = 0; i < 3; i++) {
            for (int w = 0; w < 4; w++) {
                due("sighting " + i + " " + w, x.sighting(i, w), sights[i][w]);
            }
        }
        due("none such", x.sighting(3, 0), -1);
        due("none such", x.sighting(-1, 0), -1);
        due("others", x.sighting(0, 4), -1);
        due("others", x.sighting(0, -1), -1);

        promise = 25;
        due("strange", x.strange(), 2);
        x.spot(2, 1, 0, 6);
        due("strange", x.strange(), 2);
        x.spot(3, 1, 0, 6);
        due("strange", x.strange(), 3);

        promise = 26;
        due("doubted", x.doubted(), 2);
        x.spot(1, 0, 0, 6);
        due("explained", x.doubted(), 2);
        x = told(FLAT + OWL + says("owl", 5, 0, 0, 0) + says("owl", 7, 0, 0, 0) + "seen 1 at 5 3 hour 6;");
        due("silent, so not doubted", x.doubted(), 0);
        x.drop(0, 1);
        due("true, so doubted", x.doubted(), 1);
    }

    private static void luckOfGaps() {
        promise = 27;
        ToldTracks x = told(FLAT + "quiet when hour=3;luck 50;" + OWL + KITE + says("owl", 1, 0, 0, 0)
                + says("owl", 4, 0, 0, 0) + says("owl", 6, 0, 0, 0));
        due("hours without", x.gaps(0, 0), 3);
        due("gaps", x.gaps(0, 1), 2);
        due("no sayings", x.gaps(1, 0), 0);
        due("no sayings", x.gaps(1, 1), 0);
        due("others", x.gaps(0, 2), -1);
        due("others", x.gaps(0, -1), -1);
        due("no ship", x.gaps(2, 0), -1);

        promise = 28;
        // Four hours lie between: 11 of 16.
        due("chance", x.chance(0), 687500000000L);
        due("no sayings", x.chance(1), 1000000000000L);
        due("no ship", x.chance(2), -1);
        due("no ship", x.chance(-1), -1);
        due("luck 0", told(FLAT + "luck 0;" + OWL + says("owl", 1, 0, 0, 0) + says("owl", 3, 0, 0, 0)).chance(0), 0);
        due("luck 100", told(FLAT + "luck 100;" + OWL + says("owl", 1, 0, 0, 0) + says("owl", 3, 0, 0, 0)).chance(0),
                1000000000000L);
        // Rounded down each time: 7 of a hundred, nine times.
        ToldTracks y = told(FLAT + "luck 7;quiet when not hour=9;" + OWL + says("owl", 8, 0, 0, 0) + says("owl", 18, 0, 0, 0));
        due("gaps", y.gaps(0, 1), 1);
        long none = 1000000000000L;
        long[] q = {none, 0, 0, 0, 0, 0, 0, 0, 0, 0, 0};
        for (int turn = 0; turn < 9; turn++) {
            for (int j = 10; j > 0; j--) {
                q[j] = (q[j] * 93 + q[j - 1] * 7) / 100;
            }
            q[0] = q[0] * 93 / 100;
        }
        long sum = 0;
        for (int j = 1; j <= 10; j++) {
            sum += q[j];
        }
        due("chance", y.chance(0), sum);

        promise = 29;
        due("not beyond", x.beyond(), 0);
        // Chance 4 of 100 by two ships is 8 of 100, by one it is 4.
        String one = FLAT + "luck 4;" + OWL + says("owl", 1, 0, 0, 0) + says("owl", 3, 0, 0, 0);
        due("beyond", told(one).beyond(), 1);
        due("by two ships", told(one + KITE).beyond(), 0);
        due("just not", told(one + "luck 5;").beyond(), 0);
        due("no gaps", told(one + "luck 0;quiet when all;").beyond(), 0);
    }

    private static void looks() {
        promise = 30;
        ToldTracks x = told(FLAT + "cost 9 when column=0;cost 3 when column<4;cost 4 when all;" + OWL + KITE
                + "ship hawk look 1 speed 1 draft 5 load 0;" + says("owl", 5, 0, 0, 0) + says("kite", 5, 0, 0, 0)
                + says("kite", 7, 0, 0, 0));
        due("both", x.settles(6, 1, 0), 2);
        due("one of them", x.settles(6, 2, 0), 1);
        due("none of them", x.settles(6, 3, 0), 0);
        due("by speed", x.settles(7, 2, 0), 1);
        due("nowhere else", x.settles(5, 0, 0), 0);
        due("no column", x.settles(5, 6, 0), -1);
        due("no row", x.settles(5, 0, 4), -1);
        due("no hour", x.settles(48, 0, 0), -1);
        due("no hour", x.settles(-1, 0, 0), -1);

        promise = 31;
        // All but hours 5 and 7 have cells with both; the cheapest of the earliest hour, 0.
        due("hour", x.next(0), 0);
        due("cell", x.next(1), 1);
        due("settles", x.next(2), 2);
        due("others", x.next(3), -1);
        due("others", x.next(-1), -1);
        x.drop(1, 0);
        x.drop(1, 0);
        due("without kite", x.next(2), 1);
        x.drop(0, 0);
        for (int w = 0; w < 3; w++) {
            due("none", x.next(w), -1);
        }
        x.add(0, 0, 5, 3, false);
        due("afterwards", x.next(0), 2);
        due("the first cell of the cheapest", x.next(1), 3 + 18);
    }

    private static void clocks() {
        promise = 32;
        ToldTracks x = told(FLAT + OWL + KITE + says("owl", 5, 0, 0, 0) + book("owl", 5, 0, 12, 12));
        due("0 first", x.off(0), 0);
        x = told(FLAT + OWL + KITE + says("owl", 9, 0, 0, 0) + book("owl", 5, 0, 12, 12));
        due("below 0", x.off(0), -2);
        x = told(FLAT + OWL + KITE + says("owl", 15, 0, 0, 0) + book("owl", 5, 0, 12, 12));
        due("above 0", x.off(0), 2);
        x = told(FLAT + OWL + KITE + says("owl", 12, 0, 0, 0) + book("owl", 5, 0, 12, 12));
        due("below 0 first", x.off(0), -5);
        x = told(FLAT + OWL + says("owl", 12, 0, 0, 0) + book("owl", 5, 3, 12, 12));
        due("none", x.off(0), 100);
        due("no ship", x.off(1), 100);
        due("no ship", x.off(-1), 100);
        due("without sayings", told(FLAT + OWL).off(0), 100);
        x = told(FLAT + OWL + says("owl", 1, 0, 0, 0) + says("owl", 2, 5, 0, 0));
        due("some are left out", x.off(0), -2);
        x = told(FLAT + OWL + says("owl", 45, 0, 0, 0) + says("owl", 46, 5, 0, 0));
        due("some are left out", x.off(0), 2);
        x = told("size 6 4;depth 1 when all;" + OWL + says("owl", 1, 0, 0, 0));
        due("all are left out, or do not fit", x.off(0), 100);

        promise = 33;
        x = told(FLAT + OWL + KITE + says("owl", 9, 0, 0, 0) + book("owl", 5, 0, 12, 12) + says("kite", 9, 0, 0, 0));
        due("one of them", x.whose(), 1);
        x.add(1, 10, 5, 3, false);
        due("none for kite", x.whose(), 1);
        x.drop(0, 0);
        due("none is left", x.whose(), 0);
    }

    private static void comings() {
        promise = 34;
        ToldTracks x = told(FLAT + OWL + KITE);
        due("first", x.add(0, 20, 0, 0, true), 0);
        due("ahead", x.add(0, 10, 1, 0, false), 0);
        due("between", x.add(0, 15, 2, 1, false), 1);
        due("behind", x.add(0, 47, 5, 3, false), 3);
        due("cell", x.saying(0, 1, 1), 8);
        due("laden", x.saying(0, 2, 2), 1);
        due("that hour", x.add(0, 15, 0, 0, false), -1);
        due("no ship", x.add(2, 1, 0, 0, false), -1);
        due("no ship", x.add(-1, 1, 0, 0, false), -1);
        due("no hour", x.add(0, 48, 0, 0, false), -1);
        due("no hour", x.add(0, -1, 0, 0, false), -1);
        due("no column", x.add(0, 1, 6, 0, false), -1);
        due("no row", x.add(0, 1, 0, 4, false), -1);
        due("refusals", x.status(2), 7);

        promise = 35;
        due("drop", x.drop(0, 1), 3);
        due("what moved", x.saying(0, 1, 0), 20);
        due("none such", x.drop(0, 3), -1);
        due("none such", x.drop(0, -1), -1);
        due("none such", x.drop(1, 0), -1);
        due("no ship", x.drop(2, 0), -1);
        due("refusals", x.status(2), 11);
        due("kept anew", x.ship(0, 5), 3);

        promise = 34;
        ToldTracks y = told(FLAT + OWL + KITE + "ship c look 0 speed 1 draft 1 load 0;");
        for (int k = 0; k < 96; k++) {
            due("add", y.add(k % 3, 47 - k / 3, 0, 0, false), 0);
        }
        due("97", y.add(0, 0, 0, 0, false), -1);
        due("96", y.has(3), 96);
        y.drop(1, 0);
        due("again", y.add(0, 0, 0, 0, false), 0);

        promise = 36;
        due("spot", y.spot(3, 5, 3, 47), 1);
        due("cell", y.sighting(0, 1), 23);
        due("no look", y.spot(4, 0, 0, 0), -1);
        due("no look", y.spot(-1, 0, 0, 0), -1);
        due("no column", y.spot(0, 6, 0, 0), -1);
        due("no row", y.spot(0, 0, -1, 0), -1);
        due("no hour", y.spot(0, 0, 0, 48), -1);
        for (int k = 2; k <= 40; k++) {
            due("spot", y.spot(0, 0, 0, 0), k);
        }
        due("41", y.spot(0, 0, 0, 0), -1);
        due("refusals", y.status(3), 6);
        int length = y.image();
        due("image, the longest", length, 1 + 96 * 4 + 1 + 40 * 3 + 1);
        int[] longest = new int[length];
        for (int k = 0; k < length; k++) {
            longest[k] = y.octet(k);
        }
        promise = 39;
        ToldTracks z = told(FLAT + OWL + KITE + "ship c look 0 speed 1 draft 1 load 0;");
        yes("the longest image", taken(z, longest));
        due("sayings", z.has(3), 96);
        due("sightings", z.has(5), 40);
    }

    private static int[] image(int... bytes) {
        int[] all = java.util.Arrays.copyOf(bytes, bytes.length + 1);
        int c = 29;
        for (int b : bytes) {
            c = (3 * c + b) % 241;
        }
        all[bytes.length] = c;
        return all;
    }

    private static boolean taken(ToldTracks x, int... bytes) {
        put(x, bytes);
        return x.on();
    }

    private static void images() {
        promise = 37;
        ToldTracks x = told(FLAT + OWL + KITE + says("kite", 5, 5, 3, 1) + says("owl", 9, 1, 0, 0)
                + says("owl", 2, 0, 1, 0) + "seen 2 at 3 2 hour 9;seen 0 at 0 0 hour 1;");
        int[] want = image(3, 0, 2, 6, 0, 0, 9, 1, 0, 1, 5, 23, 1, 2, 2, 15, 9, 0, 0, 1);
        due("image", x.image(), want.length);

        promise = 38;
        for (int k = 0; k < want.length; k++) {
            due("octet " + k, x.octet(k), want[k]);
        }
        due("behind", x.octet(want.length), -1);
        due("ahead", x.octet(-1), -1);
        x.drop(0, 0);
        due("the latest image stays", x.octet(0), 3);
        due("of nothing", new ToldTracks().image(), 3);

        promise = 39;
        yes("on", taken(x, want));
        due("sayings", x.has(3), 3);
        due("hour", x.saying(0, 0, 0), 2);
        due("laden", x.saying(1, 0, 2), 1);
        due("cell", x.saying(1, 0, 1), 23);
        yes("no sayings", taken(x, image(0, 1, 3, 23, 47)));
        due("sayings", x.has(3), 0);
        due("sightings", x.has(5), 1);
        due("look", x.sighting(0, 0), 3);
        no("the tape goes", x.end(1));
        int[] spoilt = want.clone();
        spoilt[want.length - 1]++;
        no("last byte", taken(x, spoilt));
        no("the tape goes", x.end(1));
        no("nothing", taken(x));
        no("too short", taken(x, 0, 0));
        no("no such ship", taken(x, image(1, 2, 0, 0, 0, 0)));
        no("no such hour", taken(x, image(1, 0, 48, 0, 0, 0)));
        no("no such cell", taken(x, image(1, 0, 0, 24, 0, 0)));
        no("no such load", taken(x, image(1, 0, 0, 0, 2, 0)));
        no("hours do not rise", taken(x, image(2, 0, 3, 0, 0, 0, 3, 0, 0, 0)));
        no("ships do not rise", taken(x, image(2, 1, 3, 0, 0, 0, 4, 0, 0, 0)));
        no("no such look", taken(x, image(0, 1, 4, 0, 0)));
        no("no such cell", taken(x, image(0, 1, 0, 24, 0)));
        no("no such hour", taken(x, image(0, 1, 0, 0, 48)));
        no("one byte more", taken(x, image(0, 0, 0)));
        no("too few sayings", taken(x, image(2, 0, 0, 0, 0, 0)));
        no("too few sightings", taken(x, image(0, 2, 0, 0, 0)));
        no("255 sayings", taken(x, image(255)));
        no("a text", taken(x, 's', 'i', 'z', 'e'));
        due("all stays", x.has(5), 1);
        due("refusals", x.status(4), 17);
        yes("one", taken(x, image(1, 0, 3, 7, 1, 0)));
        due("kept", x.saying(0, 0, 4), 1);
        due("sightings went", x.has(5), 0);
        due("true now", x.tale(0, 0), 0);
    }

    private static void refusals() {
        promise = 40;
        ToldTracks x = new ToldTracks();
        for (int w = 0; w < 5; w++) {
            due("status " + w, x.status(w), 0);
        }
        x.end(5);
        x.sea();
        x.sea();
        x.add(0, 0, 0, 0, false);
        x.drop(0, 0);
        x.drop(0, 0);
        x.spot(0, 0, 0, 0);
        x.spot(0, 0, 0, 0);
        x.spot(0, 0, 0, 0);
        x.spot(0, 0, 0, 0);
        for (int k = 0; k < 5; k++) {
            x.on();
        }
        for (int w = 0; w < 5; w++) {
            due("status " + w, x.status(w), w + 1);
        }
        due("others", x.status(5), -1);
        due("others", x.status(-1), -1);
        tell(x, FLAT);
        due("they stay", x.status(4), 5);
    }

    /** No arguments in any state may make a call throw. */
    private static void anything() {
        promise = 0;
        int[] odd = {Integer.MIN_VALUE, -2, -1, 0, 1, 2, 7, 8, 15, 16, 47, 48, 255, 256, Integer.MAX_VALUE};
        String full = FLAT + OWL + KITE + says("owl", 0, 0, 0, 1) + says("owl", 47, 5, 3, 0) + book("kite", 1, 1, 0, 47)
                + "seen 1 at 0 0 hour 0;";
        for (ToldTracks x : new ToldTracks[] {new ToldTracks(), told(full)}) {
            for (int a : odd) {
                x.fault(a);
                x.has(a);
                x.bars(a);
                x.who(a);
                x.kinds(a);
                x.chance(a);
                x.next(a);
                x.off(a);
                x.octet(a);
                x.status(a);
                for (int b : odd) {
                    x.letter(a, b);
                    x.ship(a, b);
                    x.judge(a, b);
                    x.tale(a, b);
                    x.clash(a, b);
                    x.swap(a, b);
                    x.sighting(a, b);
                    x.gaps(a, b);
                    for (int c : odd) {
                        x.saying(a, b, c);
                        x.can(a, b, c);
                        x.reach(a, b, c);
                        x.met(a, b, c);
                        x.settles(a, b, c);
                        for (int d : odd) {
                            x.cell(a, b, c, d);
                            x.may(a, b, c, d);
                            x.far(0, a, b, c, d);
                        }
                    }
                }
            }
        }
    }

    public static void main(String[] args) {
        newObject();
        tape();
        seas();
        faultsOfForm();
        faultsOfMatter();
        counts();
        shipsAndSayings();
        cells();
        ways();
        places();
        kindsOfTales();
        barsAndClashes();
        names();
        countsOfTales();
        meetings();
        seen();
        luckOfGaps();
        looks();
        clocks();
        comings();
        images();
        refusals();
        anything();
        System.out.println(wrong == 0 ? "all promises hold" : wrong + " answers are not as due");
        if (wrong != 0) {
            System.exit(1);
        }
    }
}
