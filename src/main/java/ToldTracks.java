import java.util.Arrays;

/**
 * Ships that say they are elsewhere: what they say is weighed against how far it is for them,
 * against port books and against each other.
 *
 * <p>Inside, a CELL is a place: row * 16 + column, whatever the sea's own width is. So a set of
 * places is always four longs of four rows each, and places rise as the document's numbers do.
 */
public final class ToldTracks {
    public static final int NONE = -1;

    private static final int TAPE = 1800;
    private static final int HOURS = 48;
    private static final int WIDTH = 16;
    private static final int PLACES = 256;
    private static final int SETS = 4;
    private static final int SHIPS = 8;
    private static final int BOOKS = 12;
    private static final int SAYINGS = 96;
    private static final int SIGHTINGS = 40;
    private static final int LOOKS = 4;
    private static final int RULES = 12;
    private static final int QUIETS = 6;
    private static final int OPEN = 8;
    private static final int LUCK = 10;

    private static final int TRUE = 0;
    private static final int SILENT = 1;
    private static final int NAME = 2;
    private static final int PAIR = 3;
    private static final int MOVED = 4;
    private static final int KINDS = 5;

    private static final int CLOCK = 6;
    private static final int NO_CLOCK = 100;
    private static final long WHOLE = 1000000000000L;
    private static final long TOO_RARE = 50000000000L;

    private static final int IMAGE = 2 + 4 * SAYINGS + 3 * SIGHTINGS + 1;
    private static final int CHECK_START = 29;
    private static final int CHECK_MOD = 241;

    private final int[] tape = new int[TAPE];
    private int tapeLength;
    private Sea sea = new Sea();
    private Sea spare = new Sea();
    private final Parser parser = new Parser(spare);
    private int faultKind;
    private int faultPlace = NONE;
    private final Track[] tracks = new Track[SHIPS];
    private final int[] refusals = new int[5];
    private final int[] written = new int[IMAGE];
    private int writtenLength;
    private final long[] odds = new long[HOURS];
    private final long[] levels = new long[(SHIPS + 1) * SETS];
    private boolean lookKnown;
    private int lookHour = NONE;
    private int lookPlace = NONE;
    private int lookSettles;

    public ToldTracks() {
        for (int s = 0; s < SHIPS; s++) {
            tracks[s] = new Track(sea, sea.ships[s]);
        }
    }

    // ---- the tape, the sea

    public int feed(int a, int b, int c, int d, int e) {
        if (tapeLength + 20 > TAPE) {
            refusals[0]++;
            return NONE;
        }
        putFour(a);
        putFour(b);
        putFour(c);
        putFour(d);
        putFour(e);
        return tapeLength;
    }

    public boolean end(int n) {
        if (n < 0 || n > tapeLength) {
            refusals[0]++;
            return false;
        }
        tapeLength = n;
        return true;
    }

    public int sea() {
        parser.open(spare, tape, tapeLength);
        int statements = 0;
        do {
            parser.readStatement(statements == 0);
            parser.reader.takeSign(';');
            statements++;
        } while (parser.reader.kind != Reader.END && statements < TAPE);
        tapeLength = 0;
        faultKind = parser.reader.fault;
        faultPlace = parser.reader.faultPlace;
        if (faultKind != 0) {
            refusals[1]++;
            return NONE;
        }
        Sea old = sea;
        sea = spare;
        spare = old;
        sea.measure();
        for (int s = 0; s < sea.shipCount; s++) {
            tracks[s].begin(sea, sea.ships[s]);
        }
        lookKnown = false;
        return statements;
    }

    public int fault(int what) {
        switch (what) {
            case 0:
                return faultKind;
            case 1:
                return faultPlace;
            default:
                return NONE;
        }
    }

    public int has(int what) {
        switch (what) {
            case 0:
                return sea.columns;
            case 1:
                return sea.rows;
            case 2:
                return sea.shipCount;
            case 3:
                return sea.countSayings();
            case 4:
                return sea.countBooks();
            case 5:
                return sea.sights.count;
            case 6:
                return sea.luck;
            case 7:
                return sea.countSayers();
            default:
                return NONE;
        }
    }

    public int letter(int ship, int k) {
        if (!isShip(ship) || k < 0 || k >= Reader.LETTERS) {
            return NONE;
        }
        int letter = sea.ships[ship].name >> Reader.LETTER_BITS * k & Reader.LETTER_MASK;
        return letter == 0 ? NONE : letter + Reader.BEFORE_A;
    }

    public int ship(int ship, int what) {
        if (!isShip(ship)) {
            return NONE;
        }
        Ship told = sea.ships[ship];
        switch (what) {
            case 0:
                return told.look;
            case 1:
                return told.speed;
            case 2:
                return told.draft;
            case 3:
                return told.load;
            case 4:
                return told.count;
            case 5:
                return settled(ship).keptCount;
            case 6:
                return told.count - settled(ship).keptCount;
            case 7:
                return told.bookCount;
            case 8:
                return bit(settled(ship).booksFit);
            default:
                return NONE;
        }
    }

    public int saying(int ship, int i, int what) {
        if (!isSaying(ship, i)) {
            return NONE;
        }
        Ship told = sea.ships[ship];
        switch (what) {
            case 0:
                return told.hours[i];
            case 1:
                return sea.numberOf(told.places[i]);
            case 2:
                return bit(told.laden[i]);
            case 3:
                return bit(tracks[ship].isSound(told.places[i], told.laden[i]));
            case 4:
                return bit(settled(ship).kept[i]);
            default:
                return NONE;
        }
    }

    public int cell(int column, int row, int hour, int what) {
        int place = sea.placeAt(column, row);
        if (place == NONE || !isHour(hour)) {
            return NONE;
        }
        switch (what) {
            case 0:
                return sea.depth[place];
            case 1:
                return sea.costAt(place);
            case 2:
                return bit(sea.isQuiet(place, hour));
            default:
                return NONE;
        }
    }

    // ---- where it can be

    public int far(int ship, int column, int row, int otherColumn, int otherRow) {
        int from = sea.placeAt(column, row);
        int to = sea.placeAt(otherColumn, otherRow);
        if (!isShip(ship) || from == NONE || to == NONE) {
            return NONE;
        }
        return tracks[ship].waters.hoursBetween(from, to);
    }

    public int can(int ship, int i, int j) {
        if (i == j || !isSaying(ship, i) || !isSaying(ship, j)) {
            return NONE;
        }
        return bit(tracks[ship].goTogether(i, j));
    }

    public int reach(int ship, int hour, int k) {
        if (!isShip(ship) || !isHour(hour) || k < NONE) {
            return NONE;
        }
        Track track = settled(ship);
        if (k == NONE) {
            return track.countMay(hour);
        }
        int left = k;
        for (int place = 0; place < PLACES; place++) {
            if (track.mayBe(hour, place)) {
                if (left == 0) {
                    return sea.numberOf(place);
                }
                left--;
            }
        }
        return NONE;
    }

    public int may(int ship, int hour, int column, int row) {
        int place = sea.placeAt(column, row);
        if (!isShip(ship) || !isHour(hour) || place == NONE) {
            return NONE;
        }
        return bit(settled(ship).mayBe(hour, place));
    }

    // ---- tales

    public int judge(int ship, int kind) {
        if (!isShip(ship) || kind < 0 || kind >= KINDS) {
            return NONE;
        }
        return kindsOf(ship) >> kind & 1;
    }

    public int tale(int ship, int rival) {
        if (!isShip(ship) || rival < 0) {
            return NONE;
        }
        int kinds = kindsOf(ship);
        int left = rival;
        for (int kind = 0; kind < KINDS; kind++) {
            if ((kinds >> kind & 1) != 0) {
                if (left == 0) {
                    return kind;
                }
                left--;
            }
        }
        return NONE;
    }

    public int bars(int ship) {
        return isShip(ship) ? tracks[ship].firstBar() : NONE;
    }

    public int clash(int ship, int what) {
        if (!isShip(ship) || what < 0 || what > 2) {
            return NONE;
        }
        Track track = settled(ship);
        int alone = track.clashAlone();
        int two = track.clashOfTwo(alone);
        if (two != NONE) {
            int earlier = two % HOURS;
            return what == 0 ? earlier : what == 1 ? two / HOURS : track.ship.hours[earlier];
        }
        if (alone == NONE || what == 0) {
            return NONE;
        }
        return what == 1 ? alone : track.ship.hours[alone];
    }

    public int who(int ship) {
        return isShip(ship) ? sayersOf(ship) : NONE;
    }

    public int swap(int first, int second) {
        if (first == second || !isShip(first) || !isShip(second)) {
            return NONE;
        }
        Ship one = sea.ships[first];
        Ship other = sea.ships[second];
        if (one.count == 0 || other.count == 0) {
            return NONE;
        }
        return bit(tracks[first].fits(other, 0, false) && tracks[second].fits(one, 0, false));
    }

    public int kinds(int kind) {
        if (kind < NONE || kind >= KINDS) {
            return NONE;
        }
        int count = 0;
        for (int s = 0; s < sea.shipCount; s++) {
            if (sea.ships[s].count > 0 && plainestOf(kindsOf(s)) == kind) {
                count++;
            }
        }
        return count;
    }

    public int lies() {
        int count = 0;
        for (int s = 0; s < sea.shipCount; s++) {
            count += sea.ships[s].count - settled(s).keptCount;
        }
        return count;
    }

    // ---- met, seen

    public int met(int first, int second, int what) {
        if (first == second || !isShip(first) || !isShip(second) || what < 0 || what > 2) {
            return NONE;
        }
        Track giver = settled(first);
        Track taker = settled(second);
        long between = giver.hoursOfChange(true) & taker.hoursOfChange(false);
        int metHours = 0;
        int metFirst = NONE;
        int metCells = 0;
        for (int hour = 0; hour < HOURS; hour++) {
            int shared = (between >>> hour & 1L) == 0 ? 0 : giver.countShared(taker, hour);
            if (shared > 0) {
                metHours++;
                metCells += shared;
                metFirst = metFirst == NONE ? hour : metFirst;
            }
        }
        return what == 0 ? metHours : what == 1 ? metFirst : metCells;
    }

    public int sighting(int i, int what) {
        if (i < 0 || i >= sea.sights.count) {
            return NONE;
        }
        switch (what) {
            case 0:
                return sea.sights.looks[i];
            case 1:
                return sea.numberOf(sea.sights.places[i]);
            case 2:
                return sea.sights.hours[i];
            case 3:
                return explainersOf(i);
            default:
                return NONE;
        }
    }

    public int strange() {
        int count = 0;
        for (int i = 0; i < sea.sights.count; i++) {
            if (explainersOf(i) == 0) {
                count++;
            }
        }
        return count;
    }

    public int doubted() {
        int looks = 0;
        for (int i = 0; i < sea.sights.count; i++) {
            if (explainersOf(i) == 0) {
                looks |= 1 << sea.sights.looks[i];
            }
        }
        int ships = 0;
        for (int s = 0; s < sea.shipCount; s++) {
            if ((looks >> sea.ships[s].look & 1) != 0 && (kindsOf(s) >> TRUE & 1) != 0) {
                ships |= 1 << s;
            }
        }
        return ships;
    }

    // ---- gaps, looks, clocks

    public int gaps(int ship, int what) {
        if (!isShip(ship) || what < 0 || what > 1) {
            return NONE;
        }
        Track track = tracks[ship];
        track.countGaps();
        return what == 0 ? track.unsaidHours : track.gapCount;
    }

    public long chance(int ship) {
        return isShip(ship) ? chanceOf(ship) : NONE;
    }

    public int beyond() {
        int ships = 0;
        for (int s = 0; s < sea.shipCount; s++) {
            long chance = chanceOf(s);
            if (tracks[s].gapCount > 0 && chance * sea.shipCount < TOO_RARE) {
                ships |= 1 << s;
            }
        }
        return ships;
    }

    public int settles(int hour, int column, int row) {
        int place = sea.placeAt(column, row);
        if (place == NONE || !isHour(hour)) {
            return NONE;
        }
        int count = 0;
        for (int s = 0; s < sea.shipCount; s++) {
            Track track = settled(s);
            if (sea.ships[s].count > 0 && track.mayBe(hour, place) && track.countMay(hour) > 1) {
                count++;
            }
        }
        return count;
    }

    public int next(int what) {
        if (what < 0 || what > 2) {
            return NONE;
        }
        if (!lookKnown) {
            findLook();
            lookKnown = true;
        }
        if (lookSettles == 0) {
            return NONE;
        }
        return what == 0 ? lookHour : what == 1 ? sea.numberOf(lookPlace) : lookSettles;
    }

    public int off(int ship) {
        return isShip(ship) ? tracks[ship].findClock() : NO_CLOCK;
    }

    public int whose() {
        int ships = 0;
        for (int s = 0; s < sea.shipCount; s++) {
            if (settled(s).keptCount < sea.ships[s].count) {
                int clock = tracks[s].findClock();
                if (clock != NO_CLOCK && clock != 0) {
                    ships |= 1 << s;
                }
            }
        }
        return ships;
    }

    // ---- what comes

    public int add(int ship, int hour, int column, int row, boolean laden) {
        int place = sea.placeAt(column, row);
        if (!isShip(ship) || !isHour(hour) || place == NONE
                || sea.ships[ship].hasSaid(hour) || sea.countSayings() >= SAYINGS) {
            refusals[2]++;
            return NONE;
        }
        int i = sea.ships[ship].insert(hour, place, laden);
        forget(ship);
        return i;
    }

    public int drop(int ship, int i) {
        if (!isSaying(ship, i)) {
            refusals[2]++;
            return NONE;
        }
        sea.ships[ship].remove(i);
        forget(ship);
        return sea.ships[ship].count;
    }

    public int spot(int look, int column, int row, int hour) {
        int place = sea.placeAt(column, row);
        if (look < 0 || look >= LOOKS || place == NONE || !isHour(hour)
                || sea.sights.count >= SIGHTINGS) {
            refusals[3]++;
            return NONE;
        }
        sea.sights.append(look, place, hour);
        return sea.sights.count;
    }

    // ---- images

    public int image() {
        writtenLength = 0;
        write(sea.countSayings());
        for (int s = 0; s < sea.shipCount; s++) {
            Ship told = sea.ships[s];
            for (int i = 0; i < told.count; i++) {
                write(s);
                write(told.hours[i]);
                write(sea.numberOf(told.places[i]));
                write(bit(told.laden[i]));
            }
        }
        write(sea.sights.count);
        for (int i = 0; i < sea.sights.count; i++) {
            write(sea.sights.looks[i]);
            write(sea.numberOf(sea.sights.places[i]));
            write(sea.sights.hours[i]);
        }
        write(checkOf(written, writtenLength));
        return writtenLength;
    }

    public int octet(int k) {
        return k < 0 || k >= writtenLength ? NONE : written[k];
    }

    public boolean on() {
        int length = tapeLength;
        tapeLength = 0;
        if (!isImage(length)) {
            refusals[4]++;
            return false;
        }
        takeImage();
        for (int s = 0; s < sea.shipCount; s++) {
            forget(s);
        }
        return true;
    }

    public int status(int what) {
        return what < 0 || what >= refusals.length ? NONE : refusals[what];
    }

    // ---- what the calls share

    private static int bit(boolean holds) {
        return holds ? 1 : 0;
    }

    private static boolean isHour(int hour) {
        return hour >= 0 && hour < HOURS;
    }

    private boolean isShip(int ship) {
        return ship >= 0 && ship < sea.shipCount;
    }

    private boolean isSaying(int ship, int i) {
        return isShip(ship) && i >= 0 && i < sea.ships[ship].count;
    }

    private void putFour(int number) {
        for (int shift = 24; shift >= 0; shift -= 8) {
            tape[tapeLength] = number >>> shift & 255;
            tapeLength++;
        }
    }

    /** The judgement of other ships stays, but for who could have said it under another's name. */
    private void forget(int ship) {
        tracks[ship].forget();
        for (int s = 0; s < sea.shipCount; s++) {
            tracks[s].kindsKnown = false;
        }
        lookKnown = false;
    }

    private Track settled(int ship) {
        tracks[ship].settle();
        return tracks[ship];
    }

    private int sayersOf(int ship) {
        Ship told = sea.ships[ship];
        int ships = 0;
        for (int s = 0; s < sea.shipCount; s++) {
            if (s != ship && told.count > 0 && tracks[s].fits(told, 0, true)) {
                ships |= 1 << s;
            }
        }
        return ships;
    }

    private int kindsOf(int ship) {
        Track track = tracks[ship];
        if (!track.kindsKnown) {
            track.countGaps();
            track.kinds = track.ownKinds() | bit(sayersOf(ship) != 0) << NAME;
            track.kindsKnown = true;
        }
        return track.kinds;
    }

    private static int plainestOf(int kinds) {
        for (int kind = 0; kind < KINDS; kind++) {
            if ((kinds >> kind & 1) != 0) {
                return kind;
            }
        }
        return NONE;
    }

    private int explainersOf(int i) {
        Sights sights = sea.sights;
        int ships = 0;
        for (int s = 0; s < sea.shipCount; s++) {
            if (sea.ships[s].look == sights.looks[i]
                    && settled(s).mayBe(sights.hours[i], sights.places[i])) {
                ships |= 1 << s;
            }
        }
        return ships;
    }

    private long chanceOf(int ship) {
        Track track = tracks[ship];
        track.countGaps();
        int luck = sea.luck;
        int turns = track.hoursBetweenEnds();
        Arrays.fill(odds, 0L);
        odds[0] = WHOLE;
        for (int turn = 0; turn < turns; turn++) {
            // From the far end on, so that each is made of those of the turn ahead.
            for (int j = Math.min(turn + 1, HOURS - 1); j > 0; j--) {
                odds[j] = (odds[j] * (100 - luck) + odds[j - 1] * luck) / 100;
            }
            odds[0] = odds[0] * (100 - luck) / 100;
        }
        long sum = 0;
        for (int j = track.gapCount; j < HOURS; j++) {
            sum += odds[j];
        }
        return sum;
    }

    private void findLook() {
        lookSettles = 0;
        int least = 0;
        for (int s = 0; s < sea.shipCount; s++) {
            tracks[s].settle();
        }
        for (int hour = 0; hour < HOURS; hour++) {
            int most = pileUp(hour);
            if (most == 0 || most < lookSettles) {
                continue;
            }
            for (int place = 0; place < PLACES; place++) {
                if ((levels[most * SETS + (place >> 6)] >>> (place & 63) & 1L) == 0) {
                    continue;
                }
                int cost = sea.costAt(place);
                if (most > lookSettles || cost < least) {
                    lookSettles = most;
                    lookHour = hour;
                    lookPlace = place;
                    least = cost;
                }
            }
        }
    }

    /** Level n becomes the places that n ships or more settle at; the highest level in use. */
    private int pileUp(int hour) {
        Arrays.fill(levels, 0L);
        Arrays.fill(levels, 0, SETS, -1L);
        int most = 0;
        for (int s = 0; s < sea.shipCount; s++) {
            if (sea.ships[s].count == 0 || tracks[s].countMay(hour) < 2) {
                continue;
            }
            for (int level = Math.min(most + 1, SHIPS); level > 0; level--) {
                for (int w = 0; w < SETS; w++) {
                    int at = level * SETS + w;
                    levels[at] |= levels[at - SETS] & tracks[s].may[hour * SETS + w];
                    if (levels[at] != 0) {
                        most = Math.max(most, level);
                    }
                }
            }
        }
        return most;
    }

    private void write(int octet) {
        if (writtenLength < IMAGE) {
            written[writtenLength] = octet;
            writtenLength++;
        }
    }

    private static int checkOf(int[] octets, int length) {
        int check = CHECK_START;
        for (int k = 0; k < length; k++) {
            check = (3 * check + octets[k]) % CHECK_MOD;
        }
        return check;
    }

    private boolean isImage(int length) {
        if (length < 3 || tape[0] > SAYINGS) {
            return false;
        }
        int sightsAt = 1 + 4 * tape[0];
        if (sightsAt >= length || tape[sightsAt] > SIGHTINGS
                || length != sightsAt + 1 + 3 * tape[sightsAt] + 1
                || tape[length - 1] != checkOf(tape, length - 1)) {
            return false;
        }
        int last = NONE;
        for (int k = 1; k < sightsAt; k += 4) {
            int order = tape[k] * HOURS + tape[k + 1];
            if (!isShip(tape[k]) || !isHour(tape[k + 1]) || sea.placeOf(tape[k + 2]) == NONE
                    || tape[k + 3] > 1 || order <= last) {
                return false;
            }
            last = order;
        }
        for (int k = sightsAt + 1; k < length - 1; k += 3) {
            if (tape[k] >= LOOKS || sea.placeOf(tape[k + 1]) == NONE || !isHour(tape[k + 2])) {
                return false;
            }
        }
        return true;
    }

    /** What isImage() has found good is still on the tape, though the tape's length is 0 again. */
    private void takeImage() {
        for (int s = 0; s < sea.shipCount; s++) {
            sea.ships[s].count = 0;
        }
        int sightsAt = 1 + 4 * tape[0];
        for (int k = 1; k < sightsAt; k += 4) {
            sea.ships[tape[k]].insert(tape[k + 1], sea.placeOf(tape[k + 2]), tape[k + 3] == 1);
        }
        sea.sights.count = 0;
        int end = sightsAt + 1 + 3 * tape[sightsAt];
        for (int k = sightsAt + 1; k < end; k += 3) {
            sea.sights.append(tape[k], sea.placeOf(tape[k + 1]), tape[k + 2]);
        }
    }

    /** What the text told of one ship: itself, its sayings by hours, its books. */
    private static final class Ship {
        int name;
        int look;
        int speed;
        int draft;
        int load;
        int count;
        final int[] hours = new int[HOURS];
        final int[] places = new int[HOURS];
        final boolean[] laden = new boolean[HOURS];
        int bookCount;
        final int[] bookPlaces = new int[BOOKS];
        final int[] bookFroms = new int[BOOKS];
        final int[] bookTos = new int[BOOKS];

        boolean hasSaid(int hour) {
            for (int i = 0; i < count; i++) {
                if (hours[i] == hour) {
                    return true;
                }
            }
            return false;
        }

        int insert(int hour, int place, boolean isLaden) {
            if (count >= HOURS) {
                return NONE;
            }
            int i = count;
            for (; i > 0 && hours[i - 1] > hour; i--) {
                hours[i] = hours[i - 1];
                places[i] = places[i - 1];
                laden[i] = laden[i - 1];
            }
            hours[i] = hour;
            places[i] = place;
            laden[i] = isLaden;
            count++;
            return i;
        }

        void remove(int i) {
            for (int k = i; k + 1 < count; k++) {
                hours[k] = hours[k + 1];
                places[k] = places[k + 1];
                laden[k] = laden[k + 1];
            }
            count--;
        }

        void enterBook(int place, int from, int to) {
            if (bookCount < BOOKS) {
                bookPlaces[bookCount] = place;
                bookFroms[bookCount] = from;
                bookTos[bookCount] = to;
                bookCount++;
            }
        }

        /** How many hours lie between an hour and the nearest hour of a book. */
        int hoursToBook(int hour, int book) {
            if (hour < bookFroms[book]) {
                return bookFroms[book] - hour;
            }
            return hour > bookTos[book] ? hour - bookTos[book] : 0;
        }
    }

    private static final class Sights {
        int count;
        final int[] looks = new int[SIGHTINGS];
        final int[] places = new int[SIGHTINGS];
        final int[] hours = new int[SIGHTINGS];

        void append(int look, int place, int hour) {
            if (count < SIGHTINGS) {
                looks[count] = look;
                places[count] = place;
                hours[count] = hour;
                count++;
            }
        }
    }

    /** What a text told. Two of them take turns, so that a text with a fault leaves all as it was. */
    private static final class Sea {
        int columns;
        int rows;
        int luck = LUCK;
        int shipCount;
        final Ship[] ships = new Ship[SHIPS];
        final Sights sights = new Sights();
        final Formula formula = new Formula();
        final Rules depths = new Rules(RULES);
        final Rules costs = new Rules(RULES);
        final Rules quiets = new Rules(QUIETS);
        final int[] depth = new int[PLACES];
        final int[] cost = new int[PLACES];
        final long[] quietKnown = new long[HOURS * SETS];
        final long[] quiet = new long[HOURS * SETS];

        Sea() {
            for (int s = 0; s < SHIPS; s++) {
                ships[s] = new Ship();
            }
        }

        void clear() {
            columns = 0;
            rows = 0;
            luck = LUCK;
            shipCount = 0;
            sights.count = 0;
            formula.count = 0;
            depths.count = 0;
            costs.count = 0;
            quiets.count = 0;
        }

        /** Depths are asked of every place; costs and quiet hours are reckoned when asked for. */
        void measure() {
            Arrays.fill(depth, 0);
            Arrays.fill(cost, NONE);
            Arrays.fill(quietKnown, 0L);
            Arrays.fill(quiet, 0L);
            for (int row = 0; row < rows; row++) {
                for (int column = 0; column < columns; column++) {
                    int place = row * WIDTH + column;
                    depth[place] = depths.firstSum(formula, place, 0);
                }
            }
        }

        int costAt(int place) {
            if (cost[place] == NONE) {
                cost[place] = costs.firstSum(formula, place, depth[place]);
            }
            return cost[place];
        }

        boolean isQuiet(int place, int hour) {
            int at = hour * SETS + (place >> 6);
            long mark = 1L << (place & 63);
            if ((quietKnown[at] & mark) == 0) {
                quietKnown[at] |= mark;
                if (quiets.firstHolding(formula, place, hour, depth[place]) != NONE) {
                    quiet[at] |= mark;
                }
            }
            return (quiet[at] & mark) != 0;
        }

        int placeAt(int column, int row) {
            if (column < 0 || column >= columns || row < 0 || row >= rows) {
                return NONE;
            }
            return row * WIDTH + column;
        }

        int placeOf(int number) {
            if (columns == 0 || number < 0 || number >= columns * rows) {
                return NONE;
            }
            return number / columns * WIDTH + number % columns;
        }

        int numberOf(int place) {
            return place / WIDTH * columns + place % WIDTH;
        }

        int countSayings() {
            int count = 0;
            for (int s = 0; s < shipCount; s++) {
                count += ships[s].count;
            }
            return count;
        }

        int countSayers() {
            int count = 0;
            for (int s = 0; s < shipCount; s++) {
                count += ships[s].count > 0 ? 1 : 0;
            }
            return count;
        }

        int countBooks() {
            int count = 0;
            for (int s = 0; s < shipCount; s++) {
                count += ships[s].bookCount;
            }
            return count;
        }

        int shipNamed(int name) {
            for (int s = 0; s < shipCount; s++) {
                if (ships[s].name == name) {
                    return s;
                }
            }
            return NONE;
        }

        void launch(int name, int look, int speed, int draft, int load) {
            if (shipCount < SHIPS) {
                Ship ship = ships[shipCount];
                ship.name = name;
                ship.look = look;
                ship.speed = speed;
                ship.draft = draft;
                ship.load = load;
                ship.count = 0;
                ship.bookCount = 0;
                shipCount++;
            }
        }
    }

    /** Sums and tests of a text as steps for a pile of numbers: a step from 0 on is that number. */
    private static final class Formula {
        static final int COLUMN = -1;
        static final int ROW = -2;
        static final int HOUR = -3;
        static final int DEPTH = -4;
        static final int NOT = -5;
        static final int PLUS = -6;
        static final int MINUS = -7;
        static final int TIMES = -8;
        static final int OVER = -9;
        static final int REST = -10;
        static final int LESSER = -11;
        static final int GREATER = -12;
        static final int BELOW = -13;
        static final int ABOVE = -14;
        static final int ALIKE = -15;
        static final int AND = -16;
        static final int OR = -17;

        private static final int PILE = 64;
        private static final long LIMIT = 1000000L;

        final int[] steps = new int[TAPE];
        int count;
        private final int[] pile = new int[PILE];

        void emit(int step) {
            if (count < TAPE) {
                steps[count] = step;
                count++;
            }
        }

        int valueOf(int from, int to, int place, int hour, int depth) {
            int top = 0;
            for (int k = from; k < to; k++) {
                int step = steps[k];
                if (step >= DEPTH) {
                    if (top >= PILE) {
                        return 0;
                    }
                    pile[top] = partOf(step, place, hour, depth);
                    top++;
                } else if (step == NOT) {
                    if (top < 1) {
                        return 0;
                    }
                    pile[top - 1] = 1 - pile[top - 1];
                } else {
                    if (top < 2) {
                        return 0;
                    }
                    top--;
                    long value = joined(step, pile[top - 1], pile[top]);
                    pile[top - 1] = (int) Math.max(-LIMIT, Math.min(LIMIT, value));
                }
            }
            return top > 0 ? pile[top - 1] : 0;
        }

        private static int partOf(int step, int place, int hour, int depth) {
            switch (step) {
                case COLUMN:
                    return place % WIDTH;
                case ROW:
                    return place / WIDTH;
                case HOUR:
                    return hour;
                case DEPTH:
                    return depth;
                default:
                    return step;
            }
        }

        private static long joined(int step, long a, long b) {
            switch (step) {
                case PLUS:
                    return a + b;
                case MINUS:
                    return a - b;
                case TIMES:
                    return a * b;
                case OVER:
                    return b == 0 ? 0 : Math.floorDiv(a, b);
                case REST:
                    return b == 0 ? 0 : Math.floorMod(a, b);
                case LESSER:
                    return Math.min(a, b);
                case GREATER:
                    return Math.max(a, b);
                case BELOW:
                    return a < b ? 1 : 0;
                case ABOVE:
                    return a > b ? 1 : 0;
                case ALIKE:
                    return a == b ? 1 : 0;
                case AND:
                    return a & b;
                default:
                    return a | b;
            }
        }
    }

    /** Statements of one kind, each a sum (empty for quiet) and behind it the test of when. */
    private static final class Rules {
        private static final int DEEPEST = 99;

        int count;
        private final int[] sumFrom;
        private final int[] testFrom;
        private final int[] testTo;

        Rules(int most) {
            sumFrom = new int[most];
            testFrom = new int[most];
            testTo = new int[most];
        }

        boolean isFull() {
            return count >= sumFrom.length;
        }

        void append(int sumStart, int testStart, int testEnd) {
            if (!isFull()) {
                sumFrom[count] = sumStart;
                testFrom[count] = testStart;
                testTo[count] = testEnd;
                count++;
            }
        }

        int firstHolding(Formula formula, int place, int hour, int depth) {
            for (int k = 0; k < count; k++) {
                if (formula.valueOf(testFrom[k], testTo[k], place, hour, depth) != 0) {
                    return k;
                }
            }
            return NONE;
        }

        int firstSum(Formula formula, int place, int depth) {
            int k = firstHolding(formula, place, 0, depth);
            if (k == NONE) {
                return 0;
            }
            int sum = formula.valueOf(sumFrom[k], testFrom[k], place, 0, depth);
            return Math.max(0, Math.min(DEEPEST, sum));
        }
    }

    /** Words, numbers and signs of a text, one at a time; the first fault is kept, and ends it. */
    private static final class Reader {
        static final int LETTERS = 6;
        static final int LETTER_BITS = 5;
        static final int LETTER_MASK = 31;
        static final int BEFORE_A = 96;

        static final int END = 0;
        static final int WORD = 1;
        static final int NUMBER = 2;
        static final int SIGN = 3;

        static final int SIZE = 0;
        static final int DEPTH = 1;
        static final int COST = 2;
        static final int QUIET = 3;
        static final int SHIP = 4;
        static final int LOOK = 5;
        static final int SPEED = 6;
        static final int DRAFT = 7;
        static final int LOAD = 8;
        static final int SAYS = 9;
        static final int AT = 10;
        static final int LADEN = 11;
        static final int BOOK = 12;
        static final int FROM = 13;
        static final int TO = 14;
        static final int SEEN = 15;
        static final int HOUR = 16;
        static final int LUCKY = 17;
        static final int WHEN = 18;
        static final int OR = 19;
        static final int AND = 20;
        static final int NOT = 21;
        static final int ALL = 22;
        static final int COLUMN = 23;
        static final int ROW = 24;
        static final int MIN = 25;
        static final int MAX = 26;

        private static final int DIGITS = 4;
        private static final int OWN_COUNT = 27;
        private static final String OWN =
            "size depth cost quiet ship look speed draft load says at laden book from to seen hour luck when or and not all column row min max ";

        private final int[] own = new int[OWN_COUNT];
        private int[] text = new int[0];
        private int length;
        private int at;
        int kind;
        int value;
        int word;
        int start;
        int fault;
        int faultPlace;

        Reader() {
            int k = 0;
            int letters = 0;
            for (int p = 0; p < OWN.length() && k < OWN_COUNT; p++) {
                if (OWN.charAt(p) == ' ') {
                    k++;
                    letters = 0;
                } else {
                    own[k] |= OWN.charAt(p) - BEFORE_A << LETTER_BITS * letters;
                    letters++;
                }
            }
        }

        void open(int[] bytes, int count) {
            text = bytes;
            length = Math.min(count, bytes.length);
            at = 0;
            fault = 0;
            faultPlace = NONE;
            kind = END;
            step();
        }

        void step() {
            if (fault != 0) {
                return;
            }
            int behind = kind == WORD || kind == NUMBER ? at : NONE;
            while (at < length && (text[at] == 10 || text[at] == 32)) {
                at++;
            }
            start = at;
            value = 0;
            word = NONE;
            kind = at < length ? kindOf(text[at]) : END;
            if (kind == END) {
                return;
            }
            if (kind == SIGN) {
                value = text[at];
                at++;
                return;
            }
            int most = kind == WORD ? LETTERS : DIGITS;
            for (; at < length && kindOf(text[at]) == kind; at++) {
                if (at - start >= most) {
                    refuseAt(1, at);
                    return;
                }
                value = kind == NUMBER ? value * 10 + text[at] - '0'
                        : value | text[at] - BEFORE_A << LETTER_BITS * (at - start);
            }
            if (start == behind) {
                refuseAt(1, start);
                return;
            }
            word = kind == WORD ? ownWord(value) : NONE;
        }

        private int ownWord(int letters) {
            for (int k = 0; k < OWN_COUNT; k++) {
                if (own[k] == letters) {
                    return k;
                }
            }
            return NONE;
        }

        private static int kindOf(int letter) {
            if (letter >= 'a' && letter <= 'z') {
                return WORD;
            }
            return letter >= '0' && letter <= '9' ? NUMBER : SIGN;
        }

        /** Later faults come of the first one, and nothing follows it. */
        void refuseAt(int what, int place) {
            if (fault == 0) {
                fault = what;
                faultPlace = place;
            }
            kind = END;
            word = NONE;
        }

        void refuse(int what) {
            refuseAt(what, start);
        }

        boolean isSign(int sign) {
            return kind == SIGN && value == sign;
        }

        void takeSign(int sign) {
            if (isSign(sign)) {
                step();
            } else {
                refuse(1);
            }
        }

        void takeWord(int wanted) {
            if (word == wanted) {
                step();
            } else {
                refuse(1);
            }
        }

        /** Whether a number of that range is here, which is not taken yet; anything else is a fault. */
        boolean checkNumber(int least, int most) {
            if (kind != NUMBER) {
                refuse(1);
                return false;
            }
            if (value < least || value > most) {
                refuse(4);
                return false;
            }
            return true;
        }

        /** The number here, or the least there may be if there is none such, which is a fault. */
        int takeNumber(int least, int most) {
            if (!checkNumber(least, most)) {
                return least;
            }
            int number = value;
            step();
            return number;
        }

        /** Whether a word that may be a name is here, which is not taken yet; anything else is a fault. */
        boolean checkName() {
            if (kind != WORD || word != NONE) {
                refuse(1);
                return false;
            }
            return true;
        }
    }

    /** Reads a text into a sea by the document's grammar. */
    private static final class Parser {
        final Reader reader = new Reader();
        private Sea sea;

        Parser(Sea into) {
            sea = into;
        }

        void open(Sea into, int[] text, int length) {
            sea = into;
            sea.clear();
            reader.open(text, length);
        }

        /** After a fault, which the reader keeps, there is no more to read. */
        void readStatement(boolean first) {
            if (first != (reader.word == Reader.SIZE)) {
                reader.refuse(1);
                return;
            }
            switch (reader.word) {
                case Reader.SIZE:
                    readSize();
                    break;
                case Reader.DEPTH:
                    readRule(sea.depths, true);
                    break;
                case Reader.COST:
                    readRule(sea.costs, true);
                    break;
                case Reader.QUIET:
                    readRule(sea.quiets, false);
                    break;
                case Reader.SHIP:
                    readShip();
                    break;
                case Reader.SAYS:
                    readSaying();
                    break;
                case Reader.BOOK:
                    readBook();
                    break;
                case Reader.SEEN:
                    readSighting();
                    break;
                case Reader.LUCKY:
                    reader.step();
                    sea.luck = reader.takeNumber(0, 100);
                    break;
                default:
                    reader.refuse(1);
                    break;
            }
        }

        private void readSize() {
            reader.step();
            sea.columns = reader.takeNumber(2, WIDTH);
            sea.rows = reader.takeNumber(2, WIDTH);
        }

        /** Steps over the statement's word, if one more of its kind may come. */
        private boolean beginStatement(boolean full) {
            if (full) {
                reader.refuse(5);
                return false;
            }
            reader.step();
            return true;
        }

        private void readRule(Rules rules, boolean withSum) {
            if (!beginStatement(rules.isFull())) {
                return;
            }
            int sumStart = sea.formula.count;
            if (withSum) {
                readSum(0);
            }
            reader.takeWord(Reader.WHEN);
            int testStart = sea.formula.count;
            readTest(0);
            if (reader.fault == 0) {
                rules.append(sumStart, testStart, sea.formula.count);
            }
        }

        private int takeAfter(int word, int least, int most) {
            reader.takeWord(word);
            return reader.takeNumber(least, most);
        }

        private void readShip() {
            if (!beginStatement(sea.shipCount >= SHIPS) || !reader.checkName()) {
                return;
            }
            int name = reader.value;
            if (sea.shipNamed(name) != NONE) {
                reader.refuse(2);
                return;
            }
            reader.step();
            int look = takeAfter(Reader.LOOK, 0, LOOKS - 1);
            int speed = takeAfter(Reader.SPEED, 1, 4);
            int draft = takeAfter(Reader.DRAFT, 1, 40);
            int load = takeAfter(Reader.LOAD, 0, 40);
            if (reader.fault == 0) {
                sea.launch(name, look, speed, draft, load);
            }
        }

        /** The ship that is named here; NONE with a fault. */
        private int takeShip() {
            if (!reader.checkName()) {
                return NONE;
            }
            int ship = sea.shipNamed(reader.value);
            if (ship == NONE) {
                reader.refuse(3);
            } else {
                reader.step();
            }
            return ship;
        }

        private int takePlace() {
            reader.takeWord(Reader.AT);
            int column = reader.takeNumber(0, sea.columns - 1);
            int row = reader.takeNumber(0, sea.rows - 1);
            return row * WIDTH + column;
        }

        private void readSaying() {
            if (!beginStatement(sea.countSayings() >= SAYINGS)) {
                return;
            }
            int ship = takeShip();
            if (ship == NONE || !reader.checkNumber(0, HOURS - 1)) {
                return;
            }
            int hour = reader.value;
            if (sea.ships[ship].hasSaid(hour)) {
                reader.refuse(3);
                return;
            }
            reader.step();
            int place = takePlace();
            int laden = takeAfter(Reader.LADEN, 0, 1);
            if (reader.fault == 0) {
                sea.ships[ship].insert(hour, place, laden == 1);
            }
        }

        private void readBook() {
            if (!beginStatement(sea.countBooks() >= BOOKS)) {
                return;
            }
            int ship = takeShip();
            int place = takePlace();
            int from = takeAfter(Reader.FROM, 0, HOURS - 1);
            int to = takeAfter(Reader.TO, from, HOURS - 1);
            if (reader.fault == 0 && ship != NONE) {
                sea.ships[ship].enterBook(place, from, to);
            }
        }

        private void readSighting() {
            if (!beginStatement(sea.sights.count >= SIGHTINGS)) {
                return;
            }
            int look = reader.takeNumber(0, LOOKS - 1);
            int place = takePlace();
            int hour = takeAfter(Reader.HOUR, 0, HOURS - 1);
            if (reader.fault == 0) {
                sea.sights.append(look, place, hour);
            }
        }

        // Each turn of the loops below takes a word or sign of the text, and a fault ends them.

        private void readTest(int open) {
            readBoth(open);
            for (int turn = 0; turn < TAPE && reader.word == Reader.OR; turn++) {
                reader.step();
                readBoth(open);
                sea.formula.emit(Formula.OR);
            }
        }

        private void readBoth(int open) {
            readFact(open);
            for (int turn = 0; turn < TAPE && reader.word == Reader.AND; turn++) {
                reader.step();
                readFact(open);
                sea.formula.emit(Formula.AND);
            }
        }

        private void readFact(int open) {
            boolean denied = false;
            for (int turn = 0; turn < TAPE && reader.word == Reader.NOT; turn++) {
                reader.step();
                denied = !denied;
            }
            if (reader.isSign('[')) {
                if (takeOpening('[', open)) {
                    readTest(open + 1);
                    reader.takeSign(']');
                }
            } else if (reader.word == Reader.ALL) {
                reader.step();
                sea.formula.emit(1);
            } else {
                readSum(open);
                int step = takeComparison();
                readSum(open);
                sea.formula.emit(step);
            }
            if (denied) {
                sea.formula.emit(Formula.NOT);
            }
        }

        private int takeComparison() {
            if (reader.isSign('<')) {
                reader.step();
                return Formula.BELOW;
            }
            if (reader.isSign('>')) {
                reader.step();
                return Formula.ABOVE;
            }
            reader.takeSign('=');
            return Formula.ALIKE;
        }

        private void readSum(int open) {
            readProduct(open);
            for (int turn = 0; turn < TAPE && (reader.isSign('+') || reader.isSign('-')); turn++) {
                int step = reader.isSign('+') ? Formula.PLUS : Formula.MINUS;
                reader.step();
                readProduct(open);
                sea.formula.emit(step);
            }
        }

        private void readProduct(int open) {
            readPart(open);
            for (int turn = 0; turn < TAPE && timesSign() != 0; turn++) {
                int step = timesSign();
                reader.step();
                readPart(open);
                sea.formula.emit(step);
            }
        }

        private int timesSign() {
            if (reader.isSign('*')) {
                return Formula.TIMES;
            }
            if (reader.isSign('/')) {
                return Formula.OVER;
            }
            return reader.isSign('%') ? Formula.REST : 0;
        }

        private void readPart(int open) {
            if (reader.kind == Reader.NUMBER) {
                readLeaf(reader.value);
                return;
            }
            if (reader.isSign('(')) {
                if (takeOpening('(', open)) {
                    readSum(open + 1);
                    reader.takeSign(')');
                }
                return;
            }
            switch (reader.word) {
                case Reader.COLUMN:
                    readLeaf(Formula.COLUMN);
                    break;
                case Reader.ROW:
                    readLeaf(Formula.ROW);
                    break;
                case Reader.HOUR:
                    readLeaf(Formula.HOUR);
                    break;
                case Reader.DEPTH:
                    readLeaf(Formula.DEPTH);
                    break;
                case Reader.MIN:
                    readChoice(Formula.LESSER, open);
                    break;
                case Reader.MAX:
                    readChoice(Formula.GREATER, open);
                    break;
                default:
                    reader.refuse(1);
                    break;
            }
        }

        private void readLeaf(int step) {
            sea.formula.emit(step);
            reader.step();
        }

        private void readChoice(int step, int open) {
            reader.step();
            if (!takeOpening('(', open)) {
                return;
            }
            readSum(open + 1);
            reader.takeSign(',');
            readSum(open + 1);
            reader.takeSign(')');
            sea.formula.emit(step);
        }

        private boolean takeOpening(int sign, int open) {
            if (!reader.isSign(sign)) {
                reader.refuse(1);
                return false;
            }
            if (open >= OPEN) {
                reader.refuse(5);
                return false;
            }
            reader.step();
            return true;
        }
    }

    /** The water of one ship, and from each place asked for, where it gets to within each hour. */
    private static final class Waters {
        private static final long NOT_FIRST_COLUMN = 0xFFFEFFFEFFFEFFFEL;
        private static final long NOT_LAST_COLUMN = 0x7FFF7FFF7FFF7FFFL;

        final long[] water = new long[SETS];
        private int speed = 1;
        private final long[][] rings = new long[PLACES][];
        private final boolean[] known = new boolean[PLACES];
        private final long[] spread = new long[SETS];

        void begin(Sea sea, Ship ship) {
            speed = Math.max(1, ship.speed);
            Arrays.fill(water, 0L);
            for (int place = 0; place < PLACES; place++) {
                known[place] = false;
                if (sea.depth[place] >= ship.draft) {
                    water[place >> 6] |= 1L << (place & 63);
                }
            }
        }

        boolean isWater(int place) {
            return (water[place >> 6] >>> (place & 63) & 1L) != 0;
        }

        /** Whether it is no farther than so many hours, 0 .. 47, from place to place. */
        boolean isWithin(int from, int to, int hours) {
            return (ringsOf(from)[hours * SETS + (to >> 6)] >>> (to & 63) & 1L) != 0;
        }

        /** For each hour, the set of places that are no farther than it; made when first asked. */
        long[] ringsOf(int from) {
            long[] rows = rings[from];
            if (rows == null) {
                rows = new long[HOURS * SETS];
                rings[from] = rows;
            }
            if (known[from]) {
                return rows;
            }
            known[from] = true;
            Arrays.fill(rows, 0L);
            rows[from >> 6] = 1L << (from & 63) & water[from >> 6];
            boolean grows = true;
            for (int base = SETS; base < HOURS * SETS; base += SETS) {
                System.arraycopy(rows, base - SETS, rows, base, SETS);
                for (int step = 0; grows && step < speed; step++) {
                    grows = widen(rows, base);
                }
            }
            return rows;
        }

        /** One step side by side from every place of a set; whether it grew. */
        private boolean widen(long[] rows, int base) {
            boolean grew = false;
            long above = 0;
            for (int w = 0; w < SETS; w++) {
                long old = rows[base + w];
                long below = w + 1 < SETS ? rows[base + w + 1] : 0;
                long sideways = old << 1 & NOT_FIRST_COLUMN | old >>> 1 & NOT_LAST_COLUMN;
                long down = old << WIDTH | above >>> 64 - WIDTH;
                long up = old >>> WIDTH | below << 64 - WIDTH;
                rows[base + w] = (old | sideways | down | up) & water[w];
                grew |= rows[base + w] != old;
                above = old;
            }
            return grew;
        }

        /** May be more than there are hours, so the rings do not tell it. */
        int hoursBetween(int from, int to) {
            if (!isWater(from) || !isWater(to)) {
                return NONE;
            }
            Arrays.fill(spread, 0L);
            spread[from >> 6] = 1L << (from & 63);
            for (int steps = 0; steps < PLACES; steps++) {
                if ((spread[to >> 6] >>> (to & 63) & 1L) != 0) {
                    return (steps + speed - 1) / speed;
                }
                if (!widen(spread, 0)) {
                    return NONE;
                }
            }
            return NONE;
        }
    }

    /** Facts of one ship by hours: one place an hour at most, or they could not fit. */
    private static final class Line {
        final int[] places = new int[HOURS];

        void clear() {
            Arrays.fill(places, NONE);
        }

        boolean put(int hour, int place) {
            if (places[hour] != NONE && places[hour] != place) {
                return false;
            }
            places[hour] = place;
            return true;
        }

        /**
         * Whether all is on water and all twos go together. Ways add up, and hours rounded up do
         * not shrink by adding, so it is enough that each goes together with the one behind it.
         */
        boolean holds(Waters waters) {
            int last = NONE;
            for (int hour = 0; hour < HOURS; hour++) {
                int place = places[hour];
                if (place == NONE) {
                    continue;
                }
                if (!waters.isWater(place)
                        || last != NONE && !waters.isWithin(places[last], place, hour - last)) {
                    return false;
                }
                last = hour;
            }
            return true;
        }
    }

    /** What is to be thought of one ship. */
    private static final class Track {
        Ship ship;
        private Sea sea;
        final Waters waters = new Waters();
        private final Line line = new Line();
        private boolean isSettled;
        private boolean isCounted;
        boolean kindsKnown;
        int kinds;
        boolean booksFit;
        final boolean[] alone = new boolean[HOURS];
        final boolean[] kept = new boolean[HOURS];
        int keptCount;
        final long[] may = new long[HOURS * SETS];
        int unsaidHours;
        int gapCount;
        private final int[] marks = new int[HOURS];
        private final int[] queue = new int[HOURS];

        Track(Sea firstSea, Ship firstShip) {
            sea = firstSea;
            ship = firstShip;
        }

        void begin(Sea newSea, Ship newShip) {
            sea = newSea;
            ship = newShip;
            waters.begin(newSea, newShip);
            kindsKnown = false;
            forget();
        }

        void forget() {
            isSettled = false;
            isCounted = false;
        }

        boolean isSound(int place, boolean laden) {
            return sea.depth[place] >= ship.draft + (laden ? ship.load : 0);
        }

        boolean goTogether(int i, int j) {
            int hours = Math.abs(ship.hours[i] - ship.hours[j]);
            return waters.isWithin(ship.places[i], ship.places[j], hours);
        }

        // ---- facts that fit

        private boolean layBooks() {
            line.clear();
            for (int book = 0; book < ship.bookCount; book++) {
                for (int hour = ship.bookFroms[book]; hour <= ship.bookTos[book]; hour++) {
                    if (!line.put(hour, ship.bookPlaces[book])) {
                        return false;
                    }
                }
            }
            return true;
        }

        /** Sayings of a ship, maybe another one, as if this ship had said them. */
        private boolean laySayings(Ship sayer, int shift) {
            for (int i = 0; i < sayer.count; i++) {
                int hour = sayer.hours[i] + shift;
                if (isHour(hour) && (!isSound(sayer.places[i], sayer.laden[i])
                        || !line.put(hour, sayer.places[i]))) {
                    return false;
                }
            }
            return true;
        }

        /** Whether a ship's sayings, so many hours later, fit here with the books (and own sayings). */
        boolean fits(Ship sayer, int shift, boolean withOwn) {
            return layBooks() && (!withOwn || laySayings(ship, 0)) && laySayings(sayer, shift)
                    && line.holds(waters);
        }

        int firstBar() {
            boolean laid = layBooks();
            for (int i = 0; i < ship.count; i++) {
                if (!laid || !isSound(ship.places[i], ship.laden[i])
                        || !line.put(ship.hours[i], ship.places[i]) || !line.holds(waters)) {
                    return i;
                }
            }
            return NONE;
        }

        int findClock() {
            for (int size = 0; size <= CLOCK; size++) {
                if (staysWith(-size)) {
                    return -size;
                }
                if (staysWith(size)) {
                    return size;
                }
            }
            return NO_CLOCK;
        }

        private boolean staysWith(int shift) {
            boolean someLeft = ship.count > 0 && ship.hours[ship.count - 1] + shift >= 0
                    && ship.hours[0] + shift < HOURS;
            return someLeft && fits(ship, shift, false);
        }

        // ---- what is kept, where it may be

        void settle() {
            if (isSettled) {
                return;
            }
            isSettled = true;
            booksFit = layBooks() && line.holds(waters);
            markAlone();
            keptCount = 0;
            Arrays.fill(may, 0L);
            if (booksFit) {
                keep(countChains());
                findMay();
            }
        }

        /** Marks each saying that by itself is sound and goes together with all books; none is kept yet. */
        private void markAlone() {
            for (int i = 0; i < ship.count; i++) {
                int place = ship.places[i];
                kept[i] = false;
                alone[i] = isSound(place, ship.laden[i]);
                for (int book = 0; alone[i] && book < ship.bookCount; book++) {
                    int hours = ship.hoursToBook(ship.hours[i], book);
                    alone[i] = waters.isWithin(place, ship.bookPlaces[book], hours);
                }
            }
        }

        /** Marks each saying with the longest chain that it begins; the longest of all. */
        private int countChains() {
            int longest = 0;
            for (int i = ship.count - 1; i >= 0; i--) {
                marks[i] = 0;
                if (!alone[i]) {
                    continue;
                }
                long[] rings = waters.ringsOf(ship.places[i]);
                for (int j = i + 1; j < ship.count; j++) {
                    int at = (ship.hours[j] - ship.hours[i]) * SETS + (ship.places[j] >> 6);
                    if (marks[j] > marks[i] && (rings[at] >>> (ship.places[j] & 63) & 1L) != 0) {
                        marks[i] = marks[j];
                    }
                }
                marks[i]++;
                longest = Math.max(longest, marks[i]);
            }
            return longest;
        }

        /** The earliest saying that can go on with a longest chain is the one to take. */
        private void keep(int longest) {
            int last = NONE;
            for (int i = 0; i < ship.count; i++) {
                if (keptCount < longest && marks[i] == longest - keptCount
                        && (last == NONE || waters.isWithin(ship.places[last], ship.places[i],
                                ship.hours[i] - ship.hours[last]))) {
                    kept[i] = true;
                    keptCount++;
                    last = i;
                }
            }
        }

        /** Of facts that fit, those next to an hour on both sides are enough (see Line). */
        private void findMay() {
            for (int i = 0; i < ship.count; i++) {
                if (kept[i]) {
                    line.put(ship.hours[i], ship.places[i]);
                }
            }
            int fact = NONE;
            for (int hour = 0; hour < HOURS; hour++) {
                fact = line.places[hour] == NONE ? fact : hour;
                long[] from = fact == NONE ? waters.water : waters.ringsOf(line.places[fact]);
                int base = fact == NONE ? 0 : (hour - fact) * SETS;
                System.arraycopy(from, base, may, hour * SETS, SETS);
            }
            fact = NONE;
            for (int hour = HOURS - 1; hour >= 0; hour--) {
                fact = line.places[hour] == NONE ? fact : hour;
                for (int w = 0; fact != NONE && w < SETS; w++) {
                    may[hour * SETS + w] &=
                            waters.ringsOf(line.places[fact])[(fact - hour) * SETS + w];
                }
            }
        }

        boolean mayBe(int hour, int place) {
            return (may[hour * SETS + (place >> 6)] >>> (place & 63) & 1L) != 0;
        }

        int countMay(int hour) {
            return countShared(this, hour);
        }

        int countShared(Track other, int hour) {
            int count = 0;
            for (int at = hour * SETS; at < (hour + 1) * SETS; at++) {
                count += Long.bitCount(may[at] & other.may[at]);
            }
            return count;
        }

        // ---- what does not fit

        int clashAlone() {
            for (int i = 0; i < ship.count; i++) {
                if (!alone[i]) {
                    return i;
                }
            }
            return NONE;
        }

        /** Later times 48 and earlier of the first two, if they end ahead of that one; or NONE. */
        int clashOfTwo(int ahead) {
            int until = ahead == NONE ? ship.count : ahead;
            for (int later = 1; later < until; later++) {
                for (int earlier = 0; earlier < later; earlier++) {
                    if (!goTogether(earlier, later)) {
                        return later * HOURS + earlier;
                    }
                }
            }
            return NONE;
        }

        /** All kinds but NAME, for which others are asked. */
        int ownKinds() {
            if (ship.count == 0) {
                return 0;
            }
            if (keptCount == ship.count) {
                return 1 << (gapCount == 0 ? TRUE : SILENT);
            }
            int found = keptCount > 0 ? 1 << MOVED : 0;
            return found | (canPart() ? 1 << PAIR : 0);
        }

        /** Asked only if they do not all fit. Sets: 1 goes with the books, 2 is by itself. */
        private boolean canPart() {
            int queued = 0;
            for (int i = 0; i < ship.count; i++) {
                if (!booksFit || !isSound(ship.places[i], ship.laden[i])) {
                    return false;
                }
                marks[i] = alone[i] ? 0 : 2;
                if (!alone[i]) {
                    queue[queued] = i;
                    queued++;
                }
            }
            queued = pushApart(0, queued);
            for (int i = 0; i < ship.count; i++) {
                if (queued != NONE && marks[i] == 0) {
                    marks[i] = 1;
                    queue[queued] = i;
                    queued = pushApart(queued, queued + 1);
                }
            }
            return queued != NONE && isMarked(1) && isMarked(2);
        }

        /** Puts what can't be in one set with those queued into the other; NONE if that fails. */
        private int pushApart(int from, int to) {
            int queued = to;
            for (int k = from; k < queued && k < HOURS; k++) {
                int i = queue[k];
                for (int j = 0; j < ship.count; j++) {
                    int hours = Math.abs(ship.hours[i] - ship.hours[j]);
                    if (j == i || waters.isWithin(ship.places[i], ship.places[j], hours)) {
                        continue;
                    }
                    if (marks[j] == marks[i]) {
                        return NONE;
                    }
                    if (marks[j] == 0 && queued < HOURS) {
                        marks[j] = 3 - marks[i];
                        queue[queued] = j;
                        queued++;
                    }
                }
            }
            return queued;
        }

        private boolean isMarked(int mark) {
            for (int i = 0; i < ship.count; i++) {
                if (marks[i] == mark) {
                    return true;
                }
            }
            return false;
        }

        // ---- gaps, loads

        int hoursBetweenEnds() {
            return ship.count < 2 ? 0 : ship.hours[ship.count - 1] - ship.hours[0] - 1;
        }

        void countGaps() {
            if (isCounted) {
                return;
            }
            isCounted = true;
            settle();
            unsaidHours = 0;
            gapCount = 0;
            for (int i = 0; i + 1 < ship.count; i++) {
                for (int hour = ship.hours[i] + 1; hour < ship.hours[i + 1]; hour++) {
                    unsaidHours++;
                    gapCount += isHonest(hour) ? 0 : 1;
                }
            }
        }

        private boolean isHonest(int hour) {
            for (int w = 0; w < SETS; w++) {
                long left = may[hour * SETS + w];
                for (int place = w * 64; left != 0 && place < w * 64 + 64; place++) {
                    if ((left & 1L) != 0 && sea.isQuiet(place, hour)) {
                        return true;
                    }
                    left >>>= 1;
                }
            }
            return false;
        }

        /** Hours, as bits, in which it came to be not laden (or laden, if it was not). */
        long hoursOfChange(boolean wasLaden) {
            long hours = 0;
            int last = NONE;
            for (int i = 0; i < ship.count; i++) {
                if (!kept[i]) {
                    continue;
                }
                if (last != NONE && ship.laden[last] == wasLaden && ship.laden[i] != wasLaden) {
                    for (int hour = ship.hours[last] + 1; hour < ship.hours[i]; hour++) {
                        hours |= 1L << hour;
                    }
                }
                last = i;
            }
            return hours;
        }
    }
}
