/**
 * Oxen who know the way home: farms with whistles, fields with furrows, yokes that plough until
 * one of them heeds a whistle, and laws in a small language that say who heeds what.
 *
 * <p>Nothing is made after the constructors: each call works in rows that are used again.
 */
public final class OxenHome {
    public static final int NONE = -1;

    private static final int OTHERS = -2;
    private static final int MOST_FARMS = 5;
    private static final int MOST_FIELDS = 4;
    private static final int MOST_OXEN = 8;
    private static final int MOST_TEXTS = 4;
    private static final int MOST_CALLS = 8;
    private static final int MOST_STEPS = 20;
    private static final int MOST_BYTES = 300;
    private static final int FEED_BYTES = 20;
    private static final int PITCHES = 10;
    private static final int HOURS = 24;
    private static final int FIRST_HOUR = 6;
    private static final int NIGHTS_TO_LEARN = 3;

    // Where an OX is AT: a FARM's number, or a FIELD's and this.
    private static final int IN_FIELD = 10;

    // The numbers of an OX, in the order in which "of" tells them.
    private static final int HOME = 0;
    private static final int SECOND = 1;
    private static final int STRENGTH = 2;
    private static final int EAR = 3;
    private static final int OWNER = 4;
    private static final int NIGHTS = 5;
    private static final int AT = 6;
    private static final int MATE = 7;
    private static final int OX_NUMBERS = 8;

    private final Row tape;
    private int bytes;
    private final Yard now;
    private final Yard kept;
    private final Herd tried;
    private final Reader reader;
    private final Laws laws;
    private final Stays stays;
    private final Planner planner;
    private final Odds odds;
    private final Pitches pitches;

    public OxenHome() {
        Yard yard = new Yard();
        Row bytesFed = new Row(MOST_BYTES);
        Texts texts = new Texts();
        Laws rules = new Laws(yard, texts);
        Stays hours = new Stays(yard, rules);
        tape = bytesFed;
        now = yard;
        kept = new Yard();
        tried = new Herd();
        reader = new Reader(bytesFed, texts);
        laws = rules;
        stays = hours;
        planner = new Planner(yard, hours);
        odds = new Odds(yard, rules);
        pitches = new Pitches(yard, rules);
    }

    public int farm(int x, int y, int pitch) {
        int number = now.farms;
        if (number >= MOST_FARMS || !isPlace(x, y) || !isDigit(pitch)) {
            return NONE;
        }
        now.farmX.put(number, x);
        now.farmY.put(number, y);
        now.pitch.put(number, pitch);
        now.farms = number + 1;
        return number;
    }

    public int field(int x, int y, int soil, int furrows) {
        int number = now.herd.fields();
        if (number >= MOST_FIELDS || !isPlace(x, y) || !isDigit(soil) || !within(furrows, 0, 99)) {
            return NONE;
        }
        now.fieldX.put(number, x);
        now.fieldY.put(number, y);
        now.soil.put(number, soil);
        now.herd.addField(furrows);
        return number;
    }

    public int ox(int home, int second, int strength, int ear) {
        int number = now.herd.oxen();
        if (number >= MOST_OXEN || !isFarm(home) || !isFarmOrNone(second)) {
            return NONE;
        }
        if (!within(strength, 1, 9) || !isDigit(ear)) {
            return NONE;
        }
        now.herd.addOx(home, second, strength, ear);
        return number;
    }

    public int feed(int a, int b, int c, int d, int e) {
        if (bytes > MOST_BYTES - FEED_BYTES) {
            return NONE;
        }
        feedFour(a);
        feedFour(b);
        feedFour(c);
        feedFour(d);
        feedFour(e);
        return bytes;
    }

    private void feedFour(int four) {
        for (int shift = 24; shift >= 0; shift -= 8) {
            tape.put(bytes, four >>> shift & 255);
            bytes++;
        }
    }

    public int end(int n) {
        if (!within(n, 0, bytes)) {
            return NONE;
        }
        bytes = n;
        return n;
    }

    public int text() {
        int number = now.texts;
        if (number >= MOST_TEXTS) {
            return NONE;
        }
        int length = bytes;
        bytes = 0;
        if (!reader.read(length, number)) {
            return NONE;
        }
        now.texts = number + 1;
        return number;
    }

    public int fault(int what) {
        if (what == 0) {
            return reader.fault;
        }
        return what == 1 ? reader.faultPlace : NONE;
    }

    public boolean by(int text) {
        if (!within(text, NONE, now.texts - 1)) {
            return false;
        }
        now.ruling = text;
        return true;
    }

    public boolean yoke(int one, int other, int field) {
        if (!isPair(one, other) || !isField(field)) {
            return false;
        }
        if (!canBeYoked(one, field) || !canBeYoked(other, field)) {
            return false;
        }
        now.keepStep();
        now.herd.put(one, AT, IN_FIELD + field);
        now.herd.put(other, AT, IN_FIELD + field);
        now.herd.put(one, MATE, other);
        now.herd.put(other, MATE, one);
        return true;
    }

    private boolean canBeYoked(int ox, int field) {
        int at = now.herd.get(ox, AT);
        return at < IN_FIELD || at == IN_FIELD + field && now.herd.get(ox, MATE) == NONE;
    }

    public boolean loose(int ox) {
        if (!isOx(ox) || now.herd.get(ox, MATE) == NONE) {
            return false;
        }
        now.keepStep();
        now.herd.unyoke(ox);
        return true;
    }

    public boolean drive(int ox, int farm) {
        if (!isOx(ox) || !isFarm(farm) || now.herd.get(ox, MATE) != NONE) {
            return false;
        }
        now.keepStep();
        now.herd.put(ox, AT, farm);
        return true;
    }

    public boolean sell(int ox, int farm) {
        if (!isOx(ox) || !isFarm(farm) || now.herd.get(ox, OWNER) == farm) {
            return false;
        }
        now.keepStep();
        now.herd.put(ox, OWNER, farm);
        now.herd.put(ox, NIGHTS, 0);
        return true;
    }

    public int whistle(int farm) {
        if (!isFarm(farm)) {
            return NONE;
        }
        now.keepStep();
        return blow(now.herd, farm, now.pitch.get(farm));
    }

    /** All are asked ahead of the first that goes: that a mate goes alters no answer. */
    private int blow(Herd herd, int farm, int pitch) {
        int going = 0;
        int toSecond = 0;
        for (int ox = 0; ox < herd.oxen(); ox++) {
            int field = herd.get(ox, AT) - IN_FIELD;
            if (field >= 0) {
                laws.ask(ox, farm, pitch, field, herd.get(ox, MATE) != NONE, herd.hour());
                if (laws.heeded()) {
                    going |= 1 << ox;
                    toSecond |= laws.toSecond() ? 1 << ox : 0;
                }
            }
        }
        for (int ox = 0; ox < herd.oxen(); ox++) {
            if (isIn(going, ox)) {
                herd.unyoke(ox);
                herd.put(ox, AT, herd.get(ox, isIn(toSecond, ox) ? SECOND : HOME));
            }
        }
        return going;
    }

    public int plough() {
        now.keepStep();
        Herd herd = now.herd;
        int ploughed = 0;
        for (int ox = 0; ox < herd.oxen(); ox++) {
            int mate = herd.get(ox, MATE);
            if (mate > ox) {
                int field = herd.get(ox, AT) - IN_FIELD;
                int left = herd.furrows(field);
                int work = Math.min(left, laws.work(ox, mate, field, herd.hour()));
                herd.setFurrows(field, left - work);
                ploughed += work;
            }
        }
        herd.setHour((herd.hour() + 1) % HOURS);
        return ploughed;
    }

    public int night() {
        now.keepStep();
        int learned = 0;
        for (int ox = 0; ox < now.herd.oxen(); ox++) {
            if (now.herd.sleepAtOwner(ox)) {
                learned |= 1 << ox;
            }
        }
        return learned;
    }

    public int undo() {
        return now.steps.takeBack(now.herd);
    }

    public int of(int ox, int what) {
        return isOx(ox) && within(what, HOME, MATE) ? now.herd.get(ox, what) : OTHERS;
    }

    public boolean heeds(int ox, int farm, int pitch, int field, boolean yoked) {
        if (!isOx(ox) || !isFarm(farm) || !isDigit(pitch) || !isField(field)) {
            return false;
        }
        laws.ask(ox, farm, pitch, field, yoked, now.herd.hour());
        return laws.heeded();
    }

    public int call(int hour, int farm) {
        if (now.calls >= MOST_CALLS || !isHour(hour) || !isFarm(farm)) {
            return NONE;
        }
        now.callHour.put(now.calls, hour);
        now.callFarm.put(now.calls, farm);
        now.calls++;
        return now.calls;
    }

    public int hush() {
        int were = now.calls;
        now.calls = 0;
        return were;
    }

    public int stay(int one, int other, int field, int n, boolean done) {
        if (!isPair(one, other) || !isField(field) || !within(n, 1, HOURS)) {
            return NONE;
        }
        int hours = Math.min(stays.hoursTill(one, field, n), stays.hoursTill(other, field, n));
        return done ? stays.doneIn(one, other, field, hours) : hours;
    }

    public int plan(int n, int field) {
        if (!within(n, 1, HOURS) || field != NONE && !isField(field)) {
            return OTHERS;
        }
        planner.search(n);
        return field == NONE ? planner.most : planner.best.get(field);
    }

    public int longest(int field, int n) {
        return isField(field) && within(n, 1, HOURS) ? stays.longestPair(field, n) : NONE;
    }

    public long dark(int field, int hour, int set, int went, int farm, int what) {
        if (!isField(field) || !isHour(hour) || !isFarm(farm) || !within(what, 0, 1)) {
            return NONE;
        }
        if (!within(set, 0, (1 << now.herd.oxen()) - 1) || (went & ~set) != 0) {
            return NONE;
        }
        odds.weighAll(field, hour, set, went, farm);
        if (odds.all == 0) {
            return NONE;
        }
        return what == 0 ? odds.lowestUpper() : odds.lowestLower();
    }

    public int apart(int d, int field, int farm) {
        if (!isDigit(d) || !isField(field) || !isFarmOrNone(farm)) {
            return NONE;
        }
        pitches.search(d, field);
        if (pitches.least == NONE || farm == NONE) {
            return pitches.least;
        }
        return pitches.best.get(farm);
    }

    public int thunder(int seed, int n) {
        if (!within(seed, 0, 9999) || !within(n, 1, 99)) {
            return NONE;
        }
        tried.copyFrom(now.herd);
        int gone = 0;
        int x = seed * 13 + 2;
        for (int i = 0; i < n; i++) {
            gone += Integer.bitCount(blow(tried, NONE, x % PITCHES));
            x = (x * 163 + 47) % 30059;
        }
        return gone;
    }

    public int image() {
        kept.copyFrom(now);
        return now.herd.hour();
    }

    public int back() {
        now.copyFrom(kept);
        return now.herd.hour();
    }

    public int about(int what) {
        if (isFarm(what - 10)) {
            return now.pitch.get(what - 10);
        }
        if (isField(what - 20)) {
            return now.herd.furrows(what - 20);
        }
        switch (what) {
            case 0:
                return now.farms;
            case 1:
                return now.herd.fields();
            case 2:
                return now.herd.oxen();
            case 3:
                return now.herd.hour();
            case 4:
                return now.texts;
            case 5:
                return now.ruling;
            case 6:
                return now.calls;
            case 7:
                return now.steps.count();
            case 8:
                return bytes;
            default:
                return OTHERS;
        }
    }

    private static boolean within(int value, int least, int most) {
        return value >= least && value <= most;
    }

    private static boolean isIn(int set, int ox) {
        return (set >> ox & 1) != 0;
    }

    private static boolean isPlace(int x, int y) {
        return within(x, 0, 19) && within(y, 0, 19);
    }

    private static boolean isDigit(int value) {
        return within(value, 0, 9);
    }

    private static boolean isHour(int value) {
        return within(value, 0, HOURS - 1);
    }

    private boolean isFarm(int number) {
        return within(number, 0, now.farms - 1);
    }

    private boolean isFarmOrNone(int number) {
        return number == NONE || isFarm(number);
    }

    private boolean isField(int number) {
        return within(number, 0, now.herd.fields() - 1);
    }

    private boolean isOx(int number) {
        return within(number, 0, now.herd.oxen() - 1);
    }

    private boolean isPair(int one, int other) {
        return one != other && isOx(one) && isOx(other);
    }

    /** Numbers in a row; outside of it nothing is kept and 0 is told, so that no index fails. */
    private static final class Row {
        private final int[] cells;

        Row(int size) {
            cells = new int[size > 0 ? size : 0];
        }

        int get(int index) {
            return index >= 0 && index < cells.length ? cells[index] : 0;
        }

        void put(int index, int value) {
            if (index >= 0 && index < cells.length) {
                cells[index] = value;
            }
        }

        void copyFrom(Row other) {
            for (int i = 0; i < cells.length && i < other.cells.length; i++) {
                cells[i] = other.cells[i];
            }
        }

        void copyPart(int to, Row other, int from, int count) {
            for (int i = 0; i < count; i++) {
                put(to + i, other.get(from + i));
            }
        }
    }

    /** What a STEP may change: HOUR, FURROWS and OXEN, in one row that is quick to copy. */
    private static final class Herd {
        private static final int HOUR_CELL = 0;
        private static final int FIELDS_CELL = 1;
        private static final int OXEN_CELL = 2;
        private static final int FURROWS_CELL = 3;
        private static final int OX_CELL = FURROWS_CELL + MOST_FIELDS;
        private static final int SIZE = OX_CELL + MOST_OXEN * OX_NUMBERS;

        private final Row cells;

        Herd() {
            cells = new Row(SIZE);
            cells.put(HOUR_CELL, FIRST_HOUR);
        }

        int hour() {
            return cells.get(HOUR_CELL);
        }

        void setHour(int hour) {
            cells.put(HOUR_CELL, hour);
        }

        int fields() {
            return cells.get(FIELDS_CELL);
        }

        int oxen() {
            return cells.get(OXEN_CELL);
        }

        int furrows(int field) {
            return cells.get(FURROWS_CELL + field);
        }

        void setFurrows(int field, int furrows) {
            cells.put(FURROWS_CELL + field, furrows);
        }

        int get(int ox, int what) {
            return cells.get(OX_CELL + ox * OX_NUMBERS + what);
        }

        void put(int ox, int what, int value) {
            cells.put(OX_CELL + ox * OX_NUMBERS + what, value);
        }

        void addField(int furrows) {
            setFurrows(fields(), furrows);
            cells.put(FIELDS_CELL, fields() + 1);
        }

        void addOx(int home, int second, int strength, int ear) {
            int ox = oxen();
            put(ox, HOME, home);
            put(ox, SECOND, second);
            put(ox, STRENGTH, strength);
            put(ox, EAR, ear);
            put(ox, OWNER, home);
            put(ox, NIGHTS, 0);
            put(ox, AT, home);
            put(ox, MATE, NONE);
            cells.put(OXEN_CELL, ox + 1);
        }

        void unyoke(int ox) {
            int mate = get(ox, MATE);
            if (mate != NONE) {
                put(mate, MATE, NONE);
                put(ox, MATE, NONE);
            }
        }

        /** Whether the OX has another HOME behind this night. */
        boolean sleepAtOwner(int ox) {
            int owner = get(ox, OWNER);
            if (get(ox, AT) != owner || get(ox, HOME) == owner) {
                return false;
            }
            int nights = get(ox, NIGHTS) + 1;
            boolean learned = nights >= NIGHTS_TO_LEARN;
            put(ox, NIGHTS, learned ? 0 : nights);
            if (learned) {
                put(ox, HOME, owner);
            }
            return learned;
        }

        void copyFrom(Herd other) {
            cells.copyFrom(other.cells);
        }

        void writeTo(Row past, int start) {
            past.copyPart(start, cells, 0, SIZE);
        }

        /** Only what was there then goes back: FIELDS and OXEN told since stay as they are. */
        void readBack(Row past, int start) {
            setHour(past.get(start + HOUR_CELL));
            cells.copyPart(FURROWS_CELL, past, start + FURROWS_CELL, past.get(start + FIELDS_CELL));
            int numbers = past.get(start + OXEN_CELL) * OX_NUMBERS;
            cells.copyPart(OX_CELL, past, start + OX_CELL, numbers);
        }
    }

    /** The latest STEPS: what stood ahead of each, in a ring. */
    private static final class Steps {
        private final Row past;
        private int next;
        private int count;

        Steps() {
            past = new Row(MOST_STEPS * Herd.SIZE);
        }

        int count() {
            return count;
        }

        void keep(Herd herd) {
            herd.writeTo(past, next * Herd.SIZE);
            next = (next + 1) % MOST_STEPS;
            count = Math.min(count + 1, MOST_STEPS);
        }

        int takeBack(Herd herd) {
            if (count == 0) {
                return NONE;
            }
            next = (next + MOST_STEPS - 1) % MOST_STEPS;
            count--;
            herd.readBack(past, next * Herd.SIZE);
            return count;
        }

        void copyFrom(Steps other) {
            past.copyFrom(other.past);
            next = other.next;
            count = other.count;
        }
    }

    /** All that an IMAGE holds. */
    private static final class Yard {
        private int farms;
        private final Row farmX;
        private final Row farmY;
        private final Row pitch;
        private final Row fieldX;
        private final Row fieldY;
        private final Row soil;
        private final Herd herd;
        private final Steps steps;
        private int calls;
        private final Row callHour;
        private final Row callFarm;
        private int texts;
        private int ruling;

        Yard() {
            farmX = new Row(MOST_FARMS);
            farmY = new Row(MOST_FARMS);
            pitch = new Row(MOST_FARMS);
            fieldX = new Row(MOST_FIELDS);
            fieldY = new Row(MOST_FIELDS);
            soil = new Row(MOST_FIELDS);
            herd = new Herd();
            steps = new Steps();
            callHour = new Row(MOST_CALLS);
            callFarm = new Row(MOST_CALLS);
            ruling = NONE;
        }

        void keepStep() {
            steps.keep(herd);
        }

        /**
         * The TEXTS themselves need no copy: a new one stands behind those that are counted, and
         * there are never fewer than THE IMAGE counts.
         */
        void copyFrom(Yard other) {
            farms = other.farms;
            farmX.copyFrom(other.farmX);
            farmY.copyFrom(other.farmY);
            pitch.copyFrom(other.pitch);
            fieldX.copyFrom(other.fieldX);
            fieldY.copyFrom(other.fieldY);
            soil.copyFrom(other.soil);
            herd.copyFrom(other.herd);
            steps.copyFrom(other.steps);
            calls = other.calls;
            callHour.copyFrom(other.callHour);
            callFarm.copyFrom(other.callFarm);
            texts = other.texts;
            ruling = other.ruling;
        }

        int far(int farm, int field) {
            int x = farmX.get(farm) - fieldX.get(field);
            int y = farmY.get(farm) - fieldY.get(field);
            return Math.abs(x) + Math.abs(y);
        }
    }

    /** The TEXTS, each clause as codes in the order in which a stack takes them. */
    private static final class Texts {
        private static final int HEEDS = 0;
        private static final int TO_SECOND = 1;
        private static final int SLIP = 2;
        private static final int CALLS = 3;
        private static final int WORK = 4;
        private static final int CLAUSES = 5;

        // A code below NAMES is a NUMBER, below TOKENS a NAME, else the token of an operation.
        private static final int NAMES = 10000;
        private static final int TOKENS = 20000;

        private final Row codes;
        private final Row first;
        private final Row last;

        Texts() {
            codes = new Row(MOST_TEXTS * MOST_BYTES);
            first = new Row(MOST_TEXTS * CLAUSES);
            last = new Row(MOST_TEXTS * CLAUSES);
        }

        void clear(int text) {
            for (int clause = 0; clause < CLAUSES; clause++) {
                setClause(text, clause, 0, 0);
            }
        }

        void setClause(int text, int clause, int from, int to) {
            first.put(text * CLAUSES + clause, text * MOST_BYTES + from);
            last.put(text * CLAUSES + clause, text * MOST_BYTES + to);
        }

        boolean has(int text, int clause) {
            return first.get(text * CLAUSES + clause) < last.get(text * CLAUSES + clause);
        }
    }

    /** Reads a tape, token by token, into the codes of a TEXT. */
    private static final class Reader {
        // Each word ends with a blank; its number is its token.
        private static final String WORDS =
            "hour pitch farm ear own far yoked ox strength weaker soil heeds second slip calls work or and not ";
        private static final String SIGNS = "<>=#+-*/();";

        private static final int NAME_HOUR = 0;
        private static final int NAME_PITCH = 1;
        private static final int NAME_FARM = 2;
        private static final int NAME_EAR = 3;
        private static final int NAME_OWN = 4;
        private static final int NAME_FAR = 5;
        private static final int NAME_YOKED = 6;
        private static final int NAME_OX = 7;
        private static final int NAME_STRENGTH = 8;
        private static final int NAME_WEAKER = 9;
        private static final int NAME_SOIL = 10;
        private static final int NAME_COUNT = 11;
        private static final int FIRST_CLAUSE = 11;
        private static final int OR = 16;
        private static final int AND = 17;
        private static final int NOT = 18;
        private static final int FIRST_SIGN = 20;
        private static final int BELOW = 20;
        private static final int ABOVE = 21;
        private static final int SAME = 22;
        private static final int UNLIKE = 23;
        private static final int PLUS = 24;
        private static final int MINUS = 25;
        private static final int TIMES = 26;
        private static final int OVER = 27;
        private static final int OPEN = 28;
        private static final int CLOSE = 29;
        private static final int SEMICOLON = 30;
        private static final int AT_MOST = 31;
        private static final int AT_LEAST = 32;
        private static final int NEGATE = 33;
        private static final int NUMBER = 34;
        private static final int END = 35;
        private static final int NO_TOKEN = 36;

        private static final int MISPLACED = 1;
        private static final int TOO_GREAT = 2;
        private static final int TOO_DEEP = 3;
        private static final int CLAUSE_AGAIN = 4;
        private static final int FOREIGN_NAME = 5;

        // What binds looser has the lower rank.
        private static final int EITHER = 0;
        private static final int BOTH = 1;
        private static final int ASK = 2;
        private static final int SUM = 3;
        private static final int ONE = 5;

        private static final int MOST_NUMBER = 9999;
        private static final int MOST_OPEN = 8;

        private final Row tape;
        private final Texts texts;
        private int fault;
        private int faultPlace;
        private int length;
        private int slot;
        private int clause;
        private int codeCount;
        private int place;
        private int ahead;
        private int token;
        private int number;

        Reader(Row bytes, Texts all) {
            tape = bytes;
            texts = all;
            fault = NONE;
            faultPlace = NONE;
        }

        /** Whether the tape's first bytes are a TEXT; its codes stand in the slot then. */
        boolean read(int count, int text) {
            length = count;
            slot = text;
            fault = 0;
            faultPlace = NONE;
            codeCount = 0;
            ahead = 0;
            texts.clear(text);
            step();
            for (int i = 0; i <= Texts.CLAUSES && fault == 0 && token != END; i++) {
                readClause();
            }
            return fault == 0;
        }

        private void fail(int kind) {
            if (fault == 0) {
                fault = kind;
                faultPlace = place;
            }
        }

        private void emit(int code) {
            texts.codes.put(slot * MOST_BYTES + codeCount, code);
            codeCount++;
        }

        private void readClause() {
            clause = token - FIRST_CLAUSE;
            if (clause < 0 || clause >= Texts.CLAUSES) {
                fail(MISPLACED);
                return;
            }
            if (texts.has(slot, clause)) {
                fail(CLAUSE_AGAIN);
                return;
            }
            int from = codeCount;
            step();
            boolean asks = clause == Texts.HEEDS || clause == Texts.TO_SECOND;
            readRank(asks ? EITHER : SUM, 0);
            if (fault == 0 && token != SEMICOLON) {
                fail(MISPLACED);
            }
            if (fault == 0) {
                texts.setClause(slot, clause, from, codeCount);
                step();
            }
        }

        /** Reads an EITHER, BOTH, ASK, SUM, PRODUCT or ONE; open: how many are open around it. */
        private void readRank(int rank, int open) {
            if (rank == ASK) {
                readAsk(open);
            } else if (rank >= ONE) {
                readOne(open);
            } else {
                readJoined(rank, open);
            }
        }

        private void readJoined(int rank, int open) {
            readRank(rank + 1, open);
            for (int i = 0; i < length && fault == 0 && joins(rank, token); i++) {
                int sign = token;
                step();
                readRank(rank + 1, open);
                emit(Texts.TOKENS + sign);
            }
        }

        private void readAsk(int open) {
            if (token == NOT) {
                readOpened(ASK, open);
                emit(Texts.TOKENS + NOT);
                return;
            }
            readRank(SUM, open);
            int sign = token;
            if (fault != 0 || !isComparison(sign)) {
                fail(MISPLACED);
                return;
            }
            step();
            readRank(SUM, open);
            emit(Texts.TOKENS + sign);
        }

        private void readOne(int open) {
            if (token == NUMBER) {
                readNumber();
            } else if (token >= 0 && token < NAME_COUNT) {
                readName();
            } else if (token == MINUS) {
                readOpened(ONE, open);
                emit(Texts.TOKENS + NEGATE);
            } else if (token == OPEN) {
                readOpened(SUM, open);
                close();
            } else {
                fail(MISPLACED);
            }
        }

        /** Reads what stands behind a token that opens, unless too many are open around that. */
        private void readOpened(int rank, int open) {
            if (open >= MOST_OPEN) {
                fail(TOO_DEEP);
                return;
            }
            step();
            readRank(rank, open + 1);
        }

        private void close() {
            if (token == CLOSE) {
                step();
            } else {
                fail(MISPLACED);
            }
        }

        private void readNumber() {
            if (number > MOST_NUMBER) {
                fail(TOO_GREAT);
                return;
            }
            emit(number);
            step();
        }

        private void readName() {
            if (!isNameOf(clause, token)) {
                fail(FOREIGN_NAME);
                return;
            }
            emit(Texts.NAMES + token);
            step();
        }

        private static boolean joins(int rank, int token) {
            switch (rank) {
                case EITHER:
                    return token == OR;
                case BOTH:
                    return token == AND;
                case SUM:
                    return token == PLUS || token == MINUS;
                default:
                    return token == TIMES || token == OVER;
            }
        }

        private static boolean isComparison(int sign) {
            return sign >= BELOW && sign <= UNLIKE || sign == AT_MOST || sign == AT_LEAST;
        }

        private static boolean isNameOf(int clause, int name) {
            if (clause == Texts.WORK) {
                return name == NAME_HOUR || name >= NAME_STRENGTH;
            }
            if (clause == Texts.CALLS) {
                return name <= NAME_FARM;
            }
            return name <= NAME_STRENGTH;
        }

        private void step() {
            for (int i = 0; i < length && ahead < length && isBlank(tape.get(ahead)); i++) {
                ahead++;
            }
            place = ahead;
            if (ahead >= length) {
                token = END;
                return;
            }
            int sign = tape.get(ahead);
            if (isLetter(sign)) {
                passLetters();
                token = wordAt(place, ahead);
            } else if (isFigure(sign)) {
                takeNumber();
            } else {
                takeSign(sign);
            }
        }

        private void passLetters() {
            for (int i = 0; i < length && ahead < length && isLetter(tape.get(ahead)); i++) {
                ahead++;
            }
        }

        private int wordAt(int from, int to) {
            int word = 0;
            int at = from;
            boolean same = true;
            for (int i = 0; i < WORDS.length(); i++) {
                char letter = WORDS.charAt(i);
                if (letter != ' ') {
                    same = same && at < to && tape.get(at) == letter;
                    at++;
                } else if (same && at == to) {
                    return word;
                } else {
                    word++;
                    at = from;
                    same = true;
                }
            }
            return NO_TOKEN;
        }

        private void takeNumber() {
            token = NUMBER;
            number = 0;
            for (int i = 0; i < length && ahead < length && isFigure(tape.get(ahead)); i++) {
                // Kept small, or a long NUMBER would run over and seem to be a low one.
                number = Math.min(number * 10 + tape.get(ahead) - '0', MOST_NUMBER + 1);
                ahead++;
            }
        }

        private void takeSign(int sign) {
            ahead++;
            token = NO_TOKEN;
            for (int i = 0; i < SIGNS.length(); i++) {
                if (SIGNS.charAt(i) == sign) {
                    token = FIRST_SIGN + i;
                }
            }
            if (ahead < length && tape.get(ahead) == '=' && (token == BELOW || token == ABOVE)) {
                ahead++;
                token = token == BELOW ? AT_MOST : AT_LEAST;
            }
        }

        private static boolean isBlank(int sign) {
            return sign == 32 || sign == 10;
        }

        private static boolean isLetter(int sign) {
            return sign >= 'a' && sign <= 'z' || sign >= 'A' && sign <= 'Z';
        }

        private static boolean isFigure(int sign) {
            return sign >= '0' && sign <= '9';
        }
    }

    /** What THE TEXT says, or what holds without it, of what was last asked. */
    private static final class Laws {
        private static final int MOST = 1000000;
        // Eight open around one another and five ranks of signs never pile up more than this.
        private static final int STACK = 64;

        private final Yard yard;
        private final Texts texts;
        private final Row names;
        private final Row stack;
        private int asked;

        Laws(Yard all, Texts told) {
            yard = all;
            texts = told;
            names = new Row(Reader.NAME_COUNT);
            stack = new Row(STACK);
        }

        /** What the questions of one OX are about; FARM NONE is thunder. */
        void ask(int ox, int farm, int pitch, int field, boolean yoked, int hour) {
            asked = ox;
            Herd herd = yard.herd;
            boolean own = herd.get(ox, HOME) == farm || herd.get(ox, SECOND) == farm;
            askCall(farm, pitch, hour);
            names.put(Reader.NAME_EAR, herd.get(ox, EAR));
            names.put(Reader.NAME_OWN, own && farm != NONE ? 1 : 0);
            names.put(Reader.NAME_FAR, farm == NONE ? 0 : yard.far(farm, field));
            names.put(Reader.NAME_YOKED, yoked ? 1 : 0);
            names.put(Reader.NAME_OX, ox);
            names.put(Reader.NAME_STRENGTH, herd.get(ox, STRENGTH));
        }

        private void askCall(int farm, int pitch, int hour) {
            names.put(Reader.NAME_HOUR, hour);
            names.put(Reader.NAME_PITCH, pitch);
            names.put(Reader.NAME_FARM, farm);
        }

        boolean heeded() {
            return value(Texts.HEEDS, names.get(Reader.NAME_OWN)) != 0;
        }

        boolean toSecond() {
            return yard.herd.get(asked, SECOND) != NONE && value(Texts.TO_SECOND, 0) != 0;
        }

        int slip() {
            return between(value(Texts.SLIP, 0), 0, 9);
        }

        int weight(int farm, int pitch, int hour) {
            askCall(farm, pitch, hour);
            return between(value(Texts.CALLS, 1), 0, 9);
        }

        int work(int one, int other, int field, int hour) {
            int first = yard.herd.get(one, STRENGTH);
            int second = yard.herd.get(other, STRENGTH);
            names.put(Reader.NAME_HOUR, hour);
            names.put(Reader.NAME_STRENGTH, first + second);
            names.put(Reader.NAME_WEAKER, Math.min(first, second));
            names.put(Reader.NAME_SOIL, yard.soil.get(field));
            return between(value(Texts.WORK, first + second), 0, 99);
        }

        /** What THE TEXT's clause comes to, or what holds without it. */
        private int value(int clause, int without) {
            if (yard.ruling == NONE) {
                return without;
            }
            int from = texts.first.get(yard.ruling * Texts.CLAUSES + clause);
            int to = texts.last.get(yard.ruling * Texts.CLAUSES + clause);
            if (from >= to) {
                return without;
            }
            int top = NONE;
            for (int i = from; i < to; i++) {
                int code = texts.codes.get(i);
                if (code < Texts.NAMES) {
                    top++;
                    stack.put(top, code);
                } else if (code < Texts.TOKENS) {
                    top++;
                    stack.put(top, names.get(code - Texts.NAMES));
                } else if (code == Texts.TOKENS + Reader.NOT) {
                    stack.put(top, 1 - stack.get(top));
                } else if (code == Texts.TOKENS + Reader.NEGATE) {
                    stack.put(top, -stack.get(top));
                } else {
                    top--;
                    long both = joined(code - Texts.TOKENS, stack.get(top), stack.get(top + 1));
                    stack.put(top, between(both, -MOST, MOST));
                }
            }
            return stack.get(top);
        }

        private static long joined(int token, long left, long right) {
            switch (token) {
                case Reader.OR:
                    return left | right;
                case Reader.AND:
                    return left & right;
                case Reader.BELOW:
                    return left < right ? 1 : 0;
                case Reader.AT_MOST:
                    return left <= right ? 1 : 0;
                case Reader.ABOVE:
                    return left > right ? 1 : 0;
                case Reader.AT_LEAST:
                    return left >= right ? 1 : 0;
                case Reader.SAME:
                    return left == right ? 1 : 0;
                case Reader.UNLIKE:
                    return left != right ? 1 : 0;
                case Reader.PLUS:
                    return left + right;
                case Reader.MINUS:
                    return left - right;
                case Reader.TIMES:
                    return left * right;
                default:
                    return right == 0 ? 0 : left / right;
            }
        }

        private static int between(long value, int least, int most) {
            return value < least ? least : value > most ? most : (int) value;
        }
    }

    /** How long OXEN stay on a FIELD with the CALLS that are told, and what they plough there. */
    private static final class Stays {
        private final Yard yard;
        private final Laws laws;
        private final Row till;

        Stays(Yard all, Laws rules) {
            yard = all;
            laws = rules;
            till = new Row(MOST_OXEN);
        }

        /** HOUR itself is the first of the n, so a CALL of it that is heeded leaves none. */
        int hoursTill(int ox, int field, int n) {
            for (int gone = 0; gone < n; gone++) {
                if (heedsCallAt(ox, field, (yard.herd.hour() + gone) % HOURS)) {
                    return gone;
                }
            }
            return n;
        }

        private boolean heedsCallAt(int ox, int field, int hour) {
            for (int i = 0; i < yard.calls; i++) {
                if (yard.callHour.get(i) == hour) {
                    int farm = yard.callFarm.get(i);
                    laws.ask(ox, farm, yard.pitch.get(farm), field, true, hour);
                    if (laws.heeded()) {
                        return true;
                    }
                }
            }
            return false;
        }

        int doneIn(int one, int other, int field, int hours) {
            int furrows = yard.herd.furrows(field);
            int done = 0;
            for (int gone = 0; gone < hours && done < furrows; gone++) {
                done += laws.work(one, other, field, (yard.herd.hour() + gone) % HOURS);
            }
            return Math.min(done, furrows);
        }

        /** Measures each OX once, so that pairs need no more than compare. */
        void measure(int field, int n) {
            for (int ox = 0; ox < yard.herd.oxen(); ox++) {
                till.put(ox, hoursTill(ox, field, n));
            }
        }

        int measured(int one, int other) {
            return Math.min(till.get(one), till.get(other));
        }

        int longestPair(int field, int n) {
            measure(field, n);
            int best = NONE;
            int hours = NONE;
            for (int one = 0; one < yard.herd.oxen(); one++) {
                for (int other = one + 1; other < yard.herd.oxen(); other++) {
                    if (measured(one, other) > hours) {
                        hours = measured(one, other);
                        best = one * 10 + other;
                    }
                }
            }
            return best;
        }
    }

    /** The PLAN: what FIELDS from one on can yield yet, by the OXEN that those before them use. */
    private static final class Planner {
        private static final int PAIRS = 100;
        private static final int SETS = 1 << MOST_OXEN;

        private final Yard yard;
        private final Stays stays;
        private final Row done;
        private final Row yields;
        private final Row picked;
        private final Row best;
        private int most;

        Planner(Yard all, Stays hours) {
            yard = all;
            stays = hours;
            done = new Row(MOST_FIELDS * PAIRS);
            yields = new Row(MOST_FIELDS * SETS);
            picked = new Row(MOST_FIELDS * SETS);
            best = new Row(MOST_FIELDS);
        }

        void search(int n) {
            for (int field = 0; field < yard.herd.fields(); field++) {
                stays.measure(field, n);
                measurePairs(field);
                for (int used = 0; used < SETS; used++) {
                    yields.put(field * SETS + used, NONE);
                }
            }
            most = yieldFrom(0, 0);
            follow();
        }

        private void measurePairs(int field) {
            for (int one = 0; one < yard.herd.oxen(); one++) {
                for (int other = one + 1; other < yard.herd.oxen(); other++) {
                    int hours = stays.measured(one, other);
                    int furrows = stays.doneIn(one, other, field, hours);
                    done.put(field * PAIRS + one * 10 + other, furrows);
                }
            }
        }

        /** The most that this FIELD and those behind it yield without the OXEN used. */
        private int yieldFrom(int field, int used) {
            if (field >= yard.herd.fields() || field >= MOST_FIELDS) {
                return 0;
            }
            int cell = field * SETS + used;
            if (yields.get(cell) == NONE) {
                yields.put(cell, yieldFrom(field + 1, used));
                picked.put(cell, NONE);
                for (int one = 0; one < yard.herd.oxen(); one++) {
                    for (int other = one + 1; other < yard.herd.oxen(); other++) {
                        tryPair(field, used, one, other);
                    }
                }
            }
            return yields.get(cell);
        }

        /** The first of like pairs is the lowest, so only a better one may take its place. */
        private void tryPair(int field, int used, int one, int other) {
            int both = 1 << one | 1 << other;
            if ((used & both) != 0) {
                return;
            }
            int pair = one * 10 + other;
            int sum = done.get(field * PAIRS + pair) + yieldFrom(field + 1, used | both);
            if (sum > yields.get(field * SETS + used)) {
                yields.put(field * SETS + used, sum);
                picked.put(field * SETS + used, pair);
            }
        }

        private void follow() {
            int used = 0;
            for (int field = 0; field < yard.herd.fields(); field++) {
                int pair = picked.get(field * SETS + used);
                best.put(field, pair);
                used |= pair == NONE ? 0 : 1 << pair / 10 | 1 << pair % 10;
            }
        }
    }

    /** Who called in the DARK. */
    private static final class Odds {
        private final Yard yard;
        private final Laws laws;
        private long own;
        private long all;

        Odds(Yard told, Laws rules) {
            yard = told;
            laws = rules;
        }

        void weighAll(int field, int hour, int set, int went, int farm) {
            own = 0;
            all = 0;
            for (int caller = 0; caller < yard.farms; caller++) {
                for (int pitch = 0; pitch < PITCHES; pitch++) {
                    long weight = laws.weight(caller, pitch, hour);
                    for (int ox = 0; ox < yard.herd.oxen() && weight != 0; ox++) {
                        if (isIn(set, ox)) {
                            laws.ask(ox, caller, pitch, field, false, hour);
                            weight *= times(isIn(went, ox));
                        }
                    }
                    all += weight;
                    own += caller == farm ? weight : 0;
                }
            }
        }

        private int times(boolean went) {
            int slip = laws.slip();
            return laws.heeded() == went ? 10 - slip : slip;
        }

        long lowestUpper() {
            long divisor = divisor();
            return divisor == 0 ? own : own / divisor;
        }

        long lowestLower() {
            long divisor = divisor();
            return divisor == 0 ? all : all / divisor;
        }

        private long divisor() {
            long great = all;
            long small = own;
            // A remainder is at most half of what it was two rounds ago: 128 rounds end any long.
            for (int i = 0; i < 128 && small != 0; i++) {
                long rest = great % small;
                great = small;
                small = rest;
            }
            return great;
        }
    }

    /** The cheapest way to set PITCHES APART. */
    private static final class Pitches {
        private final Yard yard;
        private final Laws laws;
        private final Row fits;
        private final Row picked;
        private final Row best;
        private int distance;
        private int least;

        Pitches(Yard all, Laws rules) {
            yard = all;
            laws = rules;
            fits = new Row(MOST_FARMS * PITCHES);
            picked = new Row(MOST_FARMS);
            best = new Row(MOST_FARMS);
        }

        void search(int d, int field) {
            distance = d;
            least = NONE;
            for (int farm = 0; farm < yard.farms; farm++) {
                for (int pitch = 0; pitch < PITCHES; pitch++) {
                    fits.put(farm * PITCHES + pitch, fitsAll(farm, pitch, field) ? 1 : 0);
                }
            }
            choose(0, 0);
        }

        private boolean fitsAll(int farm, int pitch, int field) {
            Herd herd = yard.herd;
            for (int ox = 0; ox < herd.oxen(); ox++) {
                laws.ask(ox, farm, pitch, field, false, herd.hour());
                boolean heeds = laws.heeded();
                boolean home = herd.get(ox, HOME) == farm;
                boolean stranger = !home && herd.get(ox, SECOND) != farm;
                if (home && !heeds || stranger && heeds) {
                    return false;
                }
            }
            return true;
        }

        /** The first of like ones is the lowest, so only a cheaper one may take its place. */
        private void choose(int farm, int change) {
            if (farm >= yard.farms || farm >= MOST_FARMS) {
                least = change;
                best.copyFrom(picked);
                return;
            }
            for (int pitch = 0; pitch < PITCHES; pitch++) {
                if (fits.get(farm * PITCHES + pitch) != 0 && isFree(farm, pitch)) {
                    pick(farm, pitch, change + Math.abs(pitch - yard.pitch.get(farm)));
                }
            }
        }

        private void pick(int farm, int pitch, int change) {
            if (least == NONE || change < least) {
                picked.put(farm, pitch);
                choose(farm + 1, change);
            }
        }

        private boolean isFree(int farm, int pitch) {
            for (int lower = 0; lower < farm; lower++) {
                if (Math.abs(pitch - picked.get(lower)) < distance) {
                    return false;
                }
            }
            return true;
        }
    }
}
