import java.util.Arrays;

/** A house of rooms: guests who walk, servants who carry, errands, and a theft. See ../shared/DOC.md. */
public final class BackStairs {
    public static final int BAD = -1, NOT = -2, FULL = -3, NONE = -4, NULL = -11, CAST = -12, INDEX = -13, SIZE = -14;

    private static final int MOST_ROOMS = 10, MOST_DOORS = 16, MOST_GUESTS = 3, MOST_SERVANTS = 3;
    private static final int MOST_ERRANDS = 5, MOST_FOLK = 5, MOST_SAYINGS = 12;
    private static final int TICKS = 24, LAST = 23;
    /** A tick, or a distance, behind all ticks; it is also how late an errand is that is never done. */
    private static final int NEVER = 24;
    private static final int NO_DOOR = -1, OPEN = 0, BACK = 1;
    private static final int CALL = 0, COALS = 1;
    /** Above what any plan costs (5 errands of rank 9, each 24 late). */
    private static final int TOO_MUCH = 1000000;

    private final House house = new House();
    private final Staff staff = new Staff();
    private final Talk talk = new Talk();
    private final House keptHouse = new House();
    private final Staff keptStaff = new Staff();
    private final Talk keptTalk = new Talk();
    private boolean kept;
    private final Tape tape = new Tape();
    private final Sheets sheets = new Sheets();
    private final Trips trips = new Trips(house);
    private final Planner planner = new Planner(house, staff, trips);
    private final Inquiry inquiry = new Inquiry(house, talk);
    private final int[] path = new int[TICKS];
    private final int[][] clauses = new int[6][4];

    public BackStairs() {
    }

    // ---- 1 the house

    public int room() {
        if (house.rooms == MOST_ROOMS) {
            return FULL;
        }
        house.rooms++;
        doorsChanged();
        return house.rooms - 1;
    }

    public int door(int a, int b, int kind) {
        if (!house.arePair(a, b) || kind < OPEN || kind > BACK) {
            return BAD;
        }
        if (house.doorKind(a, b) != NO_DOOR) {
            return NOT;
        }
        if (house.doors == MOST_DOORS) {
            return FULL;
        }
        house.putDoor(a, b, kind);
        doorsChanged();
        return house.doors;
    }

    public int wall(int a, int b) {
        if (!house.arePair(a, b)) {
            return BAD;
        }
        int kind = house.doorKind(a, b);
        if (kind == NO_DOOR) {
            return NONE;
        }
        if (house.isWalked(a, b)) {
            return NOT;
        }
        house.takeDoor(a, b);
        doorsChanged();
        return kind;
    }

    public int type(long w, int n) {
        return tape.add(w, n);
    }

    public int walk() {
        int fault = tape.readWalk(house, path);
        tape.clear();
        if (fault != 0) {
            return fault;
        }
        if (house.guests == MOST_GUESTS) {
            return FULL;
        }
        System.arraycopy(path, 0, house.paths[house.guests], 0, TICKS);
        house.guests++;
        plansChanged();
        return house.guests - 1;
    }

    public int guest(int guest, int tick) {
        if (guest < 0 || guest >= house.guests || !isTick(tick)) {
            return BAD;
        }
        return house.paths[guest][tick];
    }

    public int trip(int from, int tick, int to, boolean coals, int at) {
        if (!house.hasRoom(from) || !isTick(tick) || !house.hasRoom(to) || at < -1 || at > LAST) {
            return BAD;
        }
        int end = trips.soonest(from, tick, to, coals);
        if (end == NEVER) {
            return NONE;
        }
        if (at == -1) {
            return end;
        }
        if (at < tick || at > end) {
            return NONE;
        }
        return trips.roomOnTrip(from, tick, end, coals, at);
    }

    // ---- 2 errands

    public int servant(int room) {
        if (!house.hasRoom(room)) {
            return BAD;
        }
        if (staff.servants == MOST_SERVANTS) {
            return FULL;
        }
        staff.starts[staff.servants] = room;
        staff.servants++;
        plansChanged();
        return staff.servants - 1;
    }

    public int ill(int servant, boolean is) {
        if (!staff.hasServant(servant)) {
            return BAD;
        }
        int was = staff.ill >> servant & 1;
        staff.ill = is ? staff.ill | 1 << servant : staff.ill & ~(1 << servant);
        plansChanged();
        return was;
    }

    public int cellar(int room) {
        if (!house.hasRoom(room)) {
            return BAD;
        }
        int was = staff.cellar;
        staff.cellar = room;
        plansChanged();
        return was;
    }

    public int errand(int kind, int room, int rank, int from, int due) {
        if (!isErrand(kind, room, rank, from, due)) {
            return BAD;
        }
        if (staff.errands == MOST_ERRANDS) {
            return FULL;
        }
        staff.addErrand(kind, room, rank, from, due);
        plansChanged();
        return staff.errands - 1;
    }

    public int told(int errand, int what) {
        if (!staff.hasErrand(errand) || what < 0 || what > 7) {
            return BAD;
        }
        if (what < 5) {
            return staff.asTold(errand, what);
        }
        if (what == 7 && staff.kinds[errand] != COALS) {
            return CAST;
        }
        if (staff.well() == 0) {
            return NOT;
        }
        planner.prepare();
        if (what == 5) {
            return planner.best.servantOf[errand];
        }
        int tick = what == 6 ? planner.best.done[errand] : planner.best.taken[errand];
        return tick == NEVER ? NONE : tick;
    }

    public int drop(int errand) {
        if (!staff.hasErrand(errand)) {
            return BAD;
        }
        staff.removeErrand(errand);
        plansChanged();
        return staff.errands;
    }

    public int cost(int how) {
        if (how < 0 || how > 1) {
            return BAD;
        }
        if (staff.well() == 0) {
            return NOT;
        }
        planner.prepare();
        return planner.plan(how).sum;
    }

    public int does(int how, int servant, int i) {
        if (how < 0 || how > 1 || !staff.hasServant(servant) || i < 0) {
            return BAD;
        }
        if (staff.well() == 0) {
            return NOT;
        }
        planner.prepare();
        int errand = planner.plan(how).errandOf(servant, i, staff.errands);
        return errand < 0 ? NONE : errand;
    }

    public int enough() {
        if (staff.well() == 0) {
            return NOT;
        }
        planner.prepare();
        return planner.best.sum > 0 ? NONE : planner.fewest();
    }

    public int missed(int servant) {
        if (!staff.hasServant(servant)) {
            return BAD;
        }
        int well = staff.well();
        int others = well & ~(1 << servant);
        if (others == 0) {
            return NOT;
        }
        if (others == well) {
            return 0;
        }
        planner.prepare();
        return planner.leastWith(others) - planner.best.sum;
    }

    public int opened(int a, int b) {
        if (!house.arePair(a, b)) {
            return BAD;
        }
        if (staff.well() == 0) {
            return NOT;
        }
        if (house.doorKind(a, b) != NO_DOOR) {
            return NONE;
        }
        planner.prepare();
        int before = planner.best.sum;
        house.putDoor(a, b, BACK);
        doorsChanged();
        planner.prepare();
        int behind = planner.best.sum;
        house.takeDoor(a, b);
        doorsChanged();
        return Math.max(0, before - behind);
    }

    // ---- 3 the theft

    public int folk(int kind) {
        if (kind < 0 || kind > 1) {
            return BAD;
        }
        if (talk.folk == MOST_FOLK) {
            return FULL;
        }
        talk.kinds[talk.folk] = kind;
        talk.folk++;
        return talk.folk - 1;
    }

    public int say(int by, int of, int room, int tick) {
        if (!talk.hasOne(by) || !talk.hasOne(of) || !house.hasRoom(room) || !isTick(tick)) {
            return BAD;
        }
        if (talk.sayings == MOST_SAYINGS) {
            return FULL;
        }
        talk.addSaying(by, of, room, tick);
        return talk.sayings - 1;
    }

    public int sayings() {
        int read = tape.readSayings(house.rooms, talk.folk, clauses);
        tape.clear();
        if (read < 0) {
            return read;
        }
        if (talk.sayings + read > MOST_SAYINGS) {
            return FULL;
        }
        for (int k = 0; k < read; k++) {
            int[] clause = clauses[k];
            talk.addSaying(clause[0], clause[1], clause[2], clause[3]);
        }
        return read;
    }

    public int unsay(int saying) {
        if (saying < 0 || saying >= talk.sayings) {
            return BAD;
        }
        talk.removeSaying(saying);
        return talk.sayings;
    }

    public int liars() {
        if (house.rooms == 0) {
            return NOT;
        }
        return inquiry.findLiars(-1);
    }

    public int maybe(int one, int tick) {
        if (!talk.hasOne(one) || !isTick(tick)) {
            return BAD;
        }
        if (house.rooms == 0) {
            return NOT;
        }
        inquiry.findLiars(-1);
        return inquiry.roomsOf(one, tick);
    }

    public int theft(int room, int from, int to) {
        if (!house.hasRoom(room) || !isTick(from) || !isTick(to) || to < from) {
            return BAD;
        }
        talk.stolen = true;
        talk.theftRoom = room;
        talk.theftFrom = from;
        talk.theftTo = to;
        return 1;
    }

    public int suspects() {
        if (!talk.stolen) {
            return NOT;
        }
        inquiry.findLiars(-1);
        int set = 0;
        for (int one = 0; one < talk.folk; one++) {
            if (inquiry.isSuspect(one)) {
                set |= 1 << one;
            }
        }
        return set;
    }

    public int clears(int one) {
        if (!talk.hasOne(one)) {
            return BAD;
        }
        if (!talk.stolen) {
            return NOT;
        }
        inquiry.findLiars(-1);
        if (inquiry.isSuspect(one)) {
            return NONE;
        }
        int set = 0;
        for (int saying = 0; saying < talk.sayings; saying++) {
            inquiry.findLiars(saying);
            if (inquiry.isSuspect(one)) {
                set |= 1 << saying;
            }
        }
        return set;
    }

    public int count(int what) {
        switch (what) {
            case 0: return house.rooms;
            case 1: return house.doors;
            case 2: return house.guests;
            case 3: return staff.servants;
            case 4: return Integer.bitCount(staff.ill);
            case 5: return staff.errands;
            case 6: return talk.folk;
            case 7: return talk.sayings;
            default: return BAD;
        }
    }

    public int image() {
        keptHouse.become(house);
        keptStaff.become(staff);
        keptTalk.become(talk);
        kept = true;
        return 1;
    }

    public int restore() {
        if (!kept) {
            return NONE;
        }
        house.become(keptHouse);
        staff.become(keptStaff);
        talk.become(keptTalk);
        doorsChanged();
        return 1;
    }

    // ---- 4 sheets

    public int errands(int sheet, int lane, int i, int n) {
        if (!sheets.isSheet(sheet) || !sheets.isLane(lane) || n < 1 || n > 4) {
            return BAD;
        }
        if (sheets.isNothing(sheet)) {
            return NULL;
        }
        if (sheets.lanes[sheet] != lane) {
            return CAST;
        }
        if (!sheets.holds(sheet, i, 5 * n)) {
            return INDEX;
        }
        int[] row = sheets.rows[sheet];
        for (int k = i; k < i + 5 * n; k += 5) {
            if (!isErrand(row[k], row[k + 1], row[k + 2], row[k + 3], row[k + 4])) {
                return NOT;
            }
        }
        if (staff.errands + n > MOST_ERRANDS) {
            return FULL;
        }
        for (int k = i; k < i + 5 * n; k += 5) {
            staff.addErrand(row[k], row[k + 1], row[k + 2], row[k + 3], row[k + 4]);
        }
        plansChanged();
        return staff.errands;
    }

    public int sheet(int sheet, int lane, int n) {
        if (!sheets.isSheet(sheet) || !sheets.isLane(lane) || n > Sheets.MOST_ITEMS) {
            return BAD;
        }
        if (n < 0) {
            return SIZE;
        }
        sheets.renew(sheet, lane, n);
        return n;
    }

    public int empty(int sheet) {
        if (!sheets.isSheet(sheet)) {
            return BAD;
        }
        if (sheets.isNothing(sheet)) {
            return NULL;
        }
        int had = sheets.sizes[sheet];
        sheets.makeNothing(sheet);
        return had;
    }

    public int item(int sheet, int lane, int i, int v) {
        if (!sheets.isSheet(sheet) || !sheets.isLane(lane)) {
            return BAD;
        }
        if (sheets.isNothing(sheet)) {
            return NULL;
        }
        if (sheets.lanes[sheet] != lane) {
            return CAST;
        }
        if (!sheets.holds(sheet, i, 1)) {
            return INDEX;
        }
        sheets.put(sheet, i, v);
        return 1;
    }

    public int copy(int from, int i, int to, int j, int n) {
        if (!sheets.isSheet(from) || !sheets.isSheet(to)) {
            return BAD;
        }
        if (sheets.isNothing(from) || sheets.isNothing(to)) {
            return NULL;
        }
        if (sheets.lanes[from] != sheets.lanes[to]) {
            return CAST;
        }
        if (!sheets.holds(from, i, n) || !sheets.holds(to, j, n)) {
            return INDEX;
        }
        System.arraycopy(sheets.rows[from], i, sheets.rows[to], j, n);
        return n;
    }

    // ---- what the calls share

    private static boolean isTick(int tick) {
        return tick >= 0 && tick < TICKS;
    }

    private boolean isErrand(int kind, int room, int rank, int from, int due) {
        return (kind == CALL || kind == COALS) && house.hasRoom(room) && rank >= 1 && rank <= 9
            && isTick(from) && isTick(due) && due >= from;
    }

    private void doorsChanged() {
        house.measure();
        plansChanged();
    }

    /** Trips and plans are made anew when they are asked for next. */
    private void plansChanged() {
        trips.fresh = false;
        planner.fresh = false;
    }

    /** Rooms, doors and walks; the distances follow from the doors. */
    private static final class House {
        int rooms;
        int doors;
        int guests;
        /** For each room the set of rooms behind its doors of a kind. */
        final int[] open = new int[MOST_ROOMS];
        final int[] back = new int[MOST_ROOMS];
        final int[][] paths = new int[MOST_GUESTS][TICKS];
        final int[][] guestWay = new int[MOST_ROOMS][MOST_ROOMS];
        final int[][] servantWay = new int[MOST_ROOMS][MOST_ROOMS];

        boolean hasRoom(int room) {
            return room >= 0 && room < rooms;
        }

        boolean arePair(int a, int b) {
            return hasRoom(a) && hasRoom(b) && a != b;
        }

        int doorKind(int a, int b) {
            if ((open[a] >> b & 1) != 0) {
                return OPEN;
            }
            return (back[a] >> b & 1) != 0 ? BACK : NO_DOOR;
        }

        void putDoor(int a, int b, int kind) {
            int[] sides = kind == OPEN ? open : back;
            sides[a] |= 1 << b;
            sides[b] |= 1 << a;
            doors++;
        }

        void takeDoor(int a, int b) {
            open[a] &= ~(1 << b);
            open[b] &= ~(1 << a);
            back[a] &= ~(1 << b);
            back[b] &= ~(1 << a);
            doors--;
        }

        boolean isWalked(int a, int b) {
            for (int g = 0; g < guests; g++) {
                for (int t = 0; t < LAST; t++) {
                    int here = paths[g][t];
                    int there = paths[g][t + 1];
                    if (here == a && there == b || here == b && there == a) {
                        return true;
                    }
                }
            }
            return false;
        }

        /** A room and all rooms one door from it. */
        int around(int room, boolean withBack) {
            int set = 1 << room | open[room];
            return withBack ? set | back[room] : set;
        }

        void measure() {
            for (int room = 0; room < rooms; room++) {
                measureFrom(room, false, guestWay[room]);
                measureFrom(room, true, servantWay[room]);
            }
        }

        private void measureFrom(int from, boolean withBack, int[] way) {
            Arrays.fill(way, NEVER);
            int seen = 0;
            int edge = 1 << from;
            for (int far = 0; far < MOST_ROOMS && edge != 0; far++) {
                int next = 0;
                for (int room = 0; room < rooms; room++) {
                    if ((edge >> room & 1) != 0) {
                        way[room] = far;
                        next |= around(room, withBack);
                    }
                }
                seen |= edge;
                edge = next & ~seen;
            }
        }

        /** The distances are left out: the caller measures anew. */
        void become(House other) {
            rooms = other.rooms;
            doors = other.doors;
            guests = other.guests;
            System.arraycopy(other.open, 0, open, 0, MOST_ROOMS);
            System.arraycopy(other.back, 0, back, 0, MOST_ROOMS);
            for (int g = 0; g < MOST_GUESTS; g++) {
                System.arraycopy(other.paths[g], 0, paths[g], 0, TICKS);
            }
        }
    }

    /** Servants and errands. */
    private static final class Staff {
        int servants;
        int ill;
        int cellar;
        int errands;
        final int[] starts = new int[MOST_SERVANTS];
        final int[] kinds = new int[MOST_ERRANDS];
        final int[] rooms = new int[MOST_ERRANDS];
        final int[] ranks = new int[MOST_ERRANDS];
        final int[] froms = new int[MOST_ERRANDS];
        final int[] dues = new int[MOST_ERRANDS];

        boolean hasServant(int servant) {
            return servant >= 0 && servant < servants;
        }

        boolean hasErrand(int errand) {
            return errand >= 0 && errand < errands;
        }

        int well() {
            return (1 << servants) - 1 & ~ill;
        }

        void addErrand(int kind, int room, int rank, int from, int due) {
            kinds[errands] = kind;
            rooms[errands] = room;
            ranks[errands] = rank;
            froms[errands] = from;
            dues[errands] = due;
            errands++;
        }

        void removeErrand(int errand) {
            errands--;
            for (int e = errand; e < errands; e++) {
                kinds[e] = kinds[e + 1];
                rooms[e] = rooms[e + 1];
                ranks[e] = ranks[e + 1];
                froms[e] = froms[e + 1];
                dues[e] = dues[e + 1];
            }
        }

        int asTold(int errand, int what) {
            switch (what) {
                case 0: return kinds[errand];
                case 1: return rooms[errand];
                case 2: return ranks[errand];
                case 3: return froms[errand];
                default: return dues[errand];
            }
        }

        int weight(int errand, int done) {
            int late = done == NEVER ? NEVER : Math.max(0, done - dues[errand]);
            return ranks[errand] * late;
        }

        void become(Staff other) {
            servants = other.servants;
            ill = other.ill;
            cellar = other.cellar;
            errands = other.errands;
            System.arraycopy(other.starts, 0, starts, 0, MOST_SERVANTS);
            System.arraycopy(other.kinds, 0, kinds, 0, MOST_ERRANDS);
            System.arraycopy(other.rooms, 0, rooms, 0, MOST_ERRANDS);
            System.arraycopy(other.ranks, 0, ranks, 0, MOST_ERRANDS);
            System.arraycopy(other.froms, 0, froms, 0, MOST_ERRANDS);
            System.arraycopy(other.dues, 0, dues, 0, MOST_ERRANDS);
        }
    }

    /** Folk, what they said, and the theft. */
    private static final class Talk {
        int folk;
        int sayings;
        boolean stolen;
        int theftRoom;
        int theftFrom;
        int theftTo;
        final int[] kinds = new int[MOST_FOLK];
        final int[] speakers = new int[MOST_SAYINGS];
        final int[] seen = new int[MOST_SAYINGS];
        final int[] rooms = new int[MOST_SAYINGS];
        final int[] ticks = new int[MOST_SAYINGS];

        boolean hasOne(int one) {
            return one >= 0 && one < folk;
        }

        void addSaying(int by, int of, int room, int tick) {
            speakers[sayings] = by;
            seen[sayings] = of;
            rooms[sayings] = room;
            ticks[sayings] = tick;
            sayings++;
        }

        void removeSaying(int saying) {
            sayings--;
            for (int k = saying; k < sayings; k++) {
                speakers[k] = speakers[k + 1];
                seen[k] = seen[k + 1];
                rooms[k] = rooms[k + 1];
                ticks[k] = ticks[k + 1];
            }
        }

        void become(Talk other) {
            folk = other.folk;
            sayings = other.sayings;
            stolen = other.stolen;
            theftRoom = other.theftRoom;
            theftFrom = other.theftFrom;
            theftTo = other.theftTo;
            System.arraycopy(other.kinds, 0, kinds, 0, MOST_FOLK);
            System.arraycopy(other.speakers, 0, speakers, 0, MOST_SAYINGS);
            System.arraycopy(other.seen, 0, seen, 0, MOST_SAYINGS);
            System.arraycopy(other.rooms, 0, rooms, 0, MOST_SAYINGS);
            System.arraycopy(other.ticks, 0, ticks, 0, MOST_SAYINGS);
        }
    }

    /** THE TAPE and the reading of its texts. */
    private static final class Tape {
        static final int MOST_BYTES = 80, MOST_STAYS = 8, MOST_CLAUSES = 6;

        int length;
        final int[] bytes = new int[MOST_BYTES];
        /** Where the reader stands. */
        private int next;
        /** Where what was read last begins: the place that a fault tells. */
        private int place;

        int add(long w, int n) {
            if (n < 1 || n > 8) {
                return BAD;
            }
            for (int k = 0; k < n; k++) {
                int sign = byteOf(w, k);
                if (sign < 32 || sign > 126) {
                    return BAD;
                }
            }
            if (length + n > MOST_BYTES) {
                return FULL;
            }
            for (int k = n - 1; k >= 0; k--) {
                bytes[length] = byteOf(w, k);
                length++;
            }
            return length;
        }

        private static int byteOf(long w, int k) {
            return (int) (w >> 8 * k) & 255;
        }

        void clear() {
            length = 0;
        }

        /** 0 if the text is a walk, which is in path then; otherwise the fault. */
        int readWalk(House house, int[] path) {
            next = 0;
            int ahead = -1;
            int total = 0;
            for (int stay = 0; stay < MOST_STAYS; stay++) {
                int room = letter(house.rooms);
                if (room < 0 || ahead >= 0 && house.doorKind(ahead, room) != OPEN) {
                    return fault();
                }
                int ticks = number(1, TICKS - total);
                if (ticks < 0) {
                    return fault();
                }
                // whatever comes behind overwrites the rest: where he is last he stays
                Arrays.fill(path, total, TICKS, room);
                total += ticks;
                ahead = room;
                if (peek() < 0) {
                    return 0;
                }
            }
            return fault();
        }

        /** How many clauses the text has, which are in rows then; otherwise the fault. */
        int readSayings(int rooms, int folk, int[][] rows) {
            next = 0;
            for (int clause = 0; clause < MOST_CLAUSES; clause++) {
                int[] row = rows[clause];
                row[0] = letter(folk);
                if (row[0] < 0) {
                    return fault();
                }
                row[1] = letter(folk);
                if (row[1] < 0) {
                    return fault();
                }
                row[2] = letter(rooms);
                if (row[2] < 0) {
                    return fault();
                }
                row[3] = number(0, LAST);
                if (row[3] < 0) {
                    return fault();
                }
                int sign = peek();
                if (sign < 0) {
                    return clause + 1;
                }
                if (sign != ';') {
                    return fault();
                }
                // a semicolon behind the last clause that may be is the fault's place
                next++;
            }
            return fault();
        }

        private int fault() {
            return -20 - place;
        }

        /** The byte behind blanks, -1 at the end; its place is what a fault would tell. */
        private int peek() {
            while (next < length && bytes[next] == 32) {
                next++;
            }
            place = next;
            return next < length ? bytes[next] : -1;
        }

        /** Which of the first letters comes next, -1 if none. */
        private int letter(int most) {
            int which = peek() - 'a';
            if (which < 0 || which >= most) {
                return -1;
            }
            next++;
            return which;
        }

        /** The number that comes next, -1 if there is none or it is out of bounds. */
        private int number(int least, int most) {
            peek();
            int value = -1;
            while (next < length && bytes[next] >= '0' && bytes[next] <= '9') {
                // held low so that many digits do not run over
                value = Math.min(1000, Math.max(value, 0) * 10 + bytes[next] - '0');
                next++;
            }
            return value < least || value > most ? -1 : value;
        }
    }

    /** SHEETS: rows of fixed length, of which the first items count. */
    private static final class Sheets {
        static final int MOST_SHEETS = 4, MOST_ITEMS = 24, NOTHING = -1;

        final int[] lanes = new int[MOST_SHEETS];
        final int[] sizes = new int[MOST_SHEETS];
        final int[][] rows = new int[MOST_SHEETS][MOST_ITEMS];

        Sheets() {
            Arrays.fill(lanes, NOTHING);
        }

        boolean isSheet(int sheet) {
            return sheet >= 0 && sheet < MOST_SHEETS;
        }

        boolean isLane(int lane) {
            return lane >= 0 && lane <= 2;
        }

        boolean isNothing(int sheet) {
            return lanes[sheet] == NOTHING;
        }

        /** Whether n items from i on are there; written so that no sum runs over. */
        boolean holds(int sheet, int i, int n) {
            return i >= 0 && n >= 0 && i <= sizes[sheet] && n <= sizes[sheet] - i;
        }

        void renew(int sheet, int lane, int n) {
            lanes[sheet] = lane;
            sizes[sheet] = n;
            Arrays.fill(rows[sheet], 0);
        }

        void makeNothing(int sheet) {
            lanes[sheet] = NOTHING;
        }

        void put(int sheet, int i, int v) {
            switch (lanes[sheet]) {
                case 0: rows[sheet][i] = (byte) v; break;
                case 1: rows[sheet][i] = (short) v; break;
                default: rows[sheet][i] = v; break;
            }
        }
    }

    /** TRIPS through the house, with and without coals. */
    private static final class Trips {
        private final House house;
        /** Whether the tables below are as the house is. */
        boolean fresh;
        private final int[] guestsIn = new int[TICKS];
        /** Where one with coals may be at the next tick, by tick and room. */
        private final int[][] carry = new int[TICKS][MOST_ROOMS];
        private final int[] reached = new int[TICKS];
        private final int[] useful = new int[TICKS];

        Trips(House house) {
            this.house = house;
        }

        /** Makes the tables anew if the house has changed. */
        void prepare() {
            if (fresh) {
                return;
            }
            Arrays.fill(guestsIn, 0);
            for (int g = 0; g < house.guests; g++) {
                for (int t = 0; t < TICKS; t++) {
                    guestsIn[t] |= 1 << house.paths[g][t];
                }
            }
            for (int t = 0; t < LAST; t++) {
                for (int room = 0; room < house.rooms; room++) {
                    carry[t][room] = house.around(room, true) & ~guestsIn[t + 1] & ~comersInto(room, t);
                }
            }
            fresh = true;
        }

        /** The rooms from which a guest comes into a room just then: these doors are taken. */
        private int comersInto(int room, int t) {
            int set = 0;
            for (int g = 0; g < house.guests; g++) {
                if (house.paths[g][t + 1] == room) {
                    set |= 1 << house.paths[g][t];
                }
            }
            return set;
        }

        boolean mayBegin(int room, int tick, boolean coals) {
            return !coals || (guestsIn[tick] >> room & 1) == 0;
        }

        private int step(int room, int t, boolean coals) {
            return coals ? carry[t][room] : house.around(room, true);
        }

        int onward(int set, int t, boolean coals) {
            int next = 0;
            for (int room = 0; room < house.rooms; room++) {
                if ((set >> room & 1) != 0) {
                    next |= step(room, t, coals);
                }
            }
            return next;
        }

        /** The tick of a trip's end; leaves the rooms reached by then for roomOnTrip. */
        int soonest(int from, int tick, int to, boolean coals) {
            prepare();
            if (!mayBegin(from, tick, coals)) {
                return NEVER;
            }
            reached[tick] = 1 << from;
            for (int t = tick; t < TICKS; t++) {
                if ((reached[t] >> to & 1) != 0) {
                    useful[t] = 1 << to;
                    return t;
                }
                if (t < LAST) {
                    reached[t + 1] = onward(reached[t], t, coals);
                }
            }
            return NEVER;
        }

        /** Its room at a tick, on the trip that soonest has just found. */
        int roomOnTrip(int from, int tick, int end, boolean coals, int at) {
            for (int t = end - 1; t >= tick; t--) {
                useful[t] = 0;
                for (int room = 0; room < house.rooms; room++) {
                    if ((reached[t] >> room & 1) != 0 && (step(room, t, coals) & useful[t + 1]) != 0) {
                        useful[t] |= 1 << room;
                    }
                }
            }
            int room = from;
            for (int t = tick; t < at; t++) {
                room = lowest(step(room, t, coals) & useful[t + 1]);
            }
            return room;
        }

        private int lowest(int set) {
            for (int room = 0; room < MOST_ROOMS; room++) {
                if ((set >> room & 1) != 0) {
                    return room;
                }
            }
            return 0;
        }
    }

    /** Who does which errand, in which order, and what comes of it. */
    private static final class Plan {
        int sum;
        final int[] order = new int[MOST_ERRANDS];
        final int[] servantOf = new int[MOST_ERRANDS];
        final int[] done = new int[MOST_ERRANDS];
        final int[] taken = new int[MOST_ERRANDS];

        int errandOf(int servant, int i, int errands) {
            int left = i;
            for (int k = 0; k < errands; k++) {
                if (servantOf[order[k]] == servant) {
                    if (left == 0) {
                        return order[k];
                    }
                    left--;
                }
            }
            return -1;
        }
    }

    /** THE BEST and THE RULE. */
    private static final class Planner {
        private static final int SETS = 32, MOST_ORDERS = 120;

        private final House house;
        private final Staff staff;
        private final Trips trips;
        /** Whether the plans are as house and staff are. */
        boolean fresh;
        final Plan best = new Plan();
        private final Plan rule = new Plan();
        /** The end of a trip with coals from the cellar, by the tick of its begin and its room. */
        private final int[][] ends = new int[TICKS][MOST_ROOMS];
        /** For each servant and set of errands the cost of these in his best order. */
        private final int[][] least = new int[MOST_SERVANTS][SETS];
        private final int[] shares = new int[MOST_SERVANTS];
        private final int[] where = new int[MOST_SERVANTS];
        private final int[] free = new int[MOST_SERVANTS];
        /** Which sharing out leastWith found, as a number with a digit of base 3 for each errand. */
        private int leastSharing;

        Planner(House house, Staff staff, Trips trips) {
            this.house = house;
            this.staff = staff;
            this.trips = trips;
        }

        Plan plan(int how) {
            return how == 0 ? best : rule;
        }

        /** Makes both plans; somebody must be well. */
        void prepare() {
            if (fresh) {
                return;
            }
            trips.prepare();
            for (int t = 0; t < TICKS; t++) {
                fillEnds(t);
            }
            int well = staff.well();
            for (int s = 0; s < staff.servants; s++) {
                if ((well >> s & 1) != 0) {
                    fillLeast(s);
                }
            }
            makeBest(well);
            makeRule(well);
            fresh = true;
        }

        private void fillEnds(int tick) {
            int[] row = ends[tick];
            Arrays.fill(row, NEVER);
            int seen = 0;
            int set = trips.mayBegin(staff.cellar, tick, true) ? 1 << staff.cellar : 0;
            for (int t = tick; t < TICKS && set != 0; t++) {
                int first = set & ~seen;
                for (int room = 0; room < house.rooms && first != 0; room++) {
                    if ((first >> room & 1) != 0) {
                        row[room] = t;
                    }
                }
                seen |= set;
                set = t < LAST ? trips.onward(set, t, true) : 0;
            }
        }

        /** When one takes coals for an errand, who is free in a room at a tick. */
        private int takenAt(int errand, int room, int tick) {
            int begin = Math.max(tick, staff.froms[errand]);
            int target = staff.rooms[errand];
            for (int t = begin + house.servantWay[room][staff.cellar]; t < TICKS; t++) {
                if (ends[t][target] != NEVER) {
                    return t;
                }
            }
            return NEVER;
        }

        /** When an errand is done by one who is free in a room at a tick; who is never free does nothing more. */
        private int doneAt(int errand, int room, int tick) {
            if (tick == NEVER) {
                return NEVER;
            }
            if (staff.kinds[errand] == CALL) {
                int begin = Math.max(tick, staff.froms[errand]);
                return Math.min(NEVER, begin + house.servantWay[room][staff.rooms[errand]]);
            }
            int taken = takenAt(errand, room, tick);
            return taken == NEVER ? NEVER : ends[taken][staff.rooms[errand]];
        }

        private void firstOrder(int[] order) {
            for (int k = 0; k < MOST_ERRANDS; k++) {
                order[k] = k;
            }
        }

        /** The next row of all errands, false behind the last. */
        private boolean nextOrder(int[] order) {
            int n = staff.errands;
            int i = n - 2;
            while (i >= 0 && order[i] > order[i + 1]) {
                i--;
            }
            if (i < 0) {
                return false;
            }
            int j = n - 1;
            while (j > i && order[j] < order[i]) {
                j--;
            }
            swap(order, i, j);
            for (int low = i + 1, high = n - 1; low < high; low++, high--) {
                swap(order, low, high);
            }
            return true;
        }

        private void swap(int[] row, int i, int j) {
            int was = row[i];
            row[i] = row[j];
            row[j] = was;
        }

        private void fillLeast(int servant) {
            int[] row = least[servant];
            Arrays.fill(row, TOO_MUCH);
            row[0] = 0;
            int[] order = best.order;
            firstOrder(order);
            for (int k = 0; k < MOST_ORDERS; k++) {
                int room = staff.starts[servant];
                int tick = 0;
                int sum = 0;
                int set = 0;
                for (int i = 0; i < staff.errands; i++) {
                    int e = order[i];
                    tick = doneAt(e, room, tick);
                    room = staff.rooms[e];
                    sum += staff.weight(e, tick);
                    set |= 1 << e;
                    row[set] = Math.min(row[set], sum);
                }
                if (!nextOrder(order)) {
                    return;
                }
            }
        }

        /** The least cost with a set of servants; the first sharing out that has it is kept. */
        int leastWith(int set) {
            int sharings = 1;
            for (int e = 0; e < staff.errands; e++) {
                sharings *= MOST_SERVANTS;
            }
            int lowest = TOO_MUCH;
            for (int sharing = 0; sharing < sharings; sharing++) {
                int sum = costOf(sharing, set);
                if (sum < lowest) {
                    lowest = sum;
                    leastSharing = sharing;
                }
            }
            return lowest;
        }

        private int costOf(int sharing, int set) {
            Arrays.fill(shares, 0);
            int rest = sharing;
            // the first errand has the highest digit, so that sharings come as rows do
            for (int e = staff.errands - 1; e >= 0; e--) {
                int servant = rest % MOST_SERVANTS;
                if ((set >> servant & 1) == 0) {
                    return TOO_MUCH;
                }
                shares[servant] |= 1 << e;
                rest /= MOST_SERVANTS;
            }
            int sum = 0;
            for (int s = 0; s < staff.servants; s++) {
                if (shares[s] != 0) {
                    sum += least[s][shares[s]];
                }
            }
            return sum;
        }

        private void makeBest(int well) {
            int sum = leastWith(well);
            int rest = leastSharing;
            for (int e = staff.errands - 1; e >= 0; e--) {
                best.servantOf[e] = rest % MOST_SERVANTS;
                rest /= MOST_SERVANTS;
            }
            firstOrder(best.order);
            for (int k = 0; k < MOST_ORDERS; k++) {
                follow(best);
                if (best.sum == sum || !nextOrder(best.order)) {
                    return;
                }
            }
        }

        private void allHome() {
            for (int s = 0; s < staff.servants; s++) {
                where[s] = staff.starts[s];
                free[s] = 0;
            }
        }

        private void follow(Plan plan) {
            allHome();
            plan.sum = 0;
            for (int k = 0; k < staff.errands; k++) {
                carryOut(plan, plan.order[k]);
            }
        }

        /** The errand's servant does it behind what he did. */
        private void carryOut(Plan plan, int e) {
            int s = plan.servantOf[e];
            plan.done[e] = doneAt(e, where[s], free[s]);
            plan.taken[e] = plan.done[e] == NEVER ? NEVER : takenAt(e, where[s], free[s]);
            plan.sum += staff.weight(e, plan.done[e]);
            where[s] = staff.rooms[e];
            free[s] = plan.done[e];
        }

        private void makeRule(int well) {
            firstOrder(rule.order);
            for (int k = 1; k < staff.errands; k++) {
                for (int i = k; i > 0 && isAhead(rule.order[i], rule.order[i - 1]); i--) {
                    swap(rule.order, i, i - 1);
                }
            }
            allHome();
            rule.sum = 0;
            for (int k = 0; k < staff.errands; k++) {
                int e = rule.order[k];
                rule.servantOf[e] = soonestFor(e, well);
                carryOut(rule, e);
            }
        }

        private boolean isAhead(int e, int other) {
            if (staff.froms[e] != staff.froms[other]) {
                return staff.froms[e] < staff.froms[other];
            }
            if (staff.ranks[e] != staff.ranks[other]) {
                return staff.ranks[e] > staff.ranks[other];
            }
            return e < other;
        }

        private int soonestFor(int e, int well) {
            int first = -1;
            int soonest = NEVER;
            for (int s = 0; s < staff.servants; s++) {
                if ((well >> s & 1) != 0) {
                    int done = doneAt(e, where[s], free[s]);
                    if (first < 0 || done < soonest) {
                        first = s;
                        soonest = done;
                    }
                }
            }
            return Math.max(first, 0);
        }

        /** The fewest servants with whom nothing is late; with all that are well nothing is. */
        int fewest() {
            int well = staff.well();
            for (int size = 1; size < staff.servants; size++) {
                for (int set = 1; set < 1 << staff.servants; set++) {
                    if ((set & ~well) == 0 && Integer.bitCount(set) == size && leastWith(set) == 0) {
                        return set;
                    }
                }
            }
            return well;
        }
    }

    /** LIARS, MAY BE and SUSPECTS. */
    private static final class Inquiry {
        private static final int FREE = -1;

        private final House house;
        private final Talk talk;
        /** Where each one must have been at a tick, by all but the liars found last. */
        private final int[][] pins = new int[MOST_FOLK][TICKS];

        Inquiry(House house, Talk talk) {
            this.house = house;
            this.talk = talk;
        }

        /** LIARS as if one saying were not (-1: all are), and the pins that the others' sayings leave. */
        int findLiars(int without) {
            int speakers = 0;
            for (int k = 0; k < talk.sayings; k++) {
                if (k != without) {
                    speakers |= 1 << talk.speakers[k];
                }
            }
            for (int size = 0; size < talk.folk; size++) {
                for (int set = 0; set < 1 << talk.folk; set++) {
                    // who says nothing is never among the fewest
                    if ((set & ~speakers) == 0 && Integer.bitCount(set) == size && haveWays(set, without)) {
                        return set;
                    }
                }
            }
            int all = (1 << talk.folk) - 1;
            haveWays(all, without);
            return all;
        }

        private boolean haveWays(int liars, int without) {
            for (int one = 0; one < talk.folk; one++) {
                Arrays.fill(pins[one], FREE);
            }
            for (int k = 0; k < talk.sayings; k++) {
                if (k == without || (liars >> talk.speakers[k] & 1) != 0) {
                    continue;
                }
                if (!pin(talk.speakers[k], talk.rooms[k], talk.ticks[k])
                    || !pin(talk.seen[k], talk.rooms[k], talk.ticks[k])) {
                    return false;
                }
            }
            for (int one = 0; one < talk.folk; one++) {
                if (!hasWay(one)) {
                    return false;
                }
            }
            return true;
        }

        /** False if he must have been in another room at that tick. */
        private boolean pin(int one, int room, int tick) {
            int was = pins[one][tick];
            pins[one][tick] = room;
            return was == FREE || was == room;
        }

        private int[][] wayOf(int one) {
            return talk.kinds[one] == 0 ? house.guestWay : house.servantWay;
        }

        /** He may stay wherever he is, so a way is there if he has time from each pin to the next. */
        private boolean hasWay(int one) {
            int[][] way = wayOf(one);
            int ahead = -1;
            for (int t = 0; t < TICKS; t++) {
                int room = pins[one][t];
                if (room != FREE) {
                    if (ahead >= 0 && way[pins[one][ahead]][room] > t - ahead) {
                        return false;
                    }
                    ahead = t;
                }
            }
            return true;
        }

        /** MAY BE: the rooms to which there is time from the pin ahead, and from which to the next. */
        int roomsOf(int one, int tick) {
            int ahead = tick;
            while (ahead >= 0 && pins[one][ahead] == FREE) {
                ahead--;
            }
            int behind = tick;
            while (behind < TICKS && pins[one][behind] == FREE) {
                behind++;
            }
            int[][] way = wayOf(one);
            int set = 0;
            for (int room = 0; room < house.rooms; room++) {
                if ((ahead < 0 || way[pins[one][ahead]][room] <= tick - ahead)
                    && (behind == TICKS || way[room][pins[one][behind]] <= behind - tick)) {
                    set |= 1 << room;
                }
            }
            return set;
        }

        boolean isSuspect(int one) {
            for (int t = talk.theftFrom; t <= talk.theftTo; t++) {
                if ((roomsOf(one, t) >> talk.theftRoom & 1) != 0 && othersMayBeElsewhere(one, t)) {
                    return true;
                }
            }
            return false;
        }

        private boolean othersMayBeElsewhere(int one, int t) {
            for (int other = 0; other < talk.folk; other++) {
                if (other != one && (roomsOf(other, t) & ~(1 << talk.theftRoom)) == 0) {
                    return false;
                }
            }
            return true;
        }
    }
}
