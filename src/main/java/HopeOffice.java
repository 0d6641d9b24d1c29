/** Hopes in settled funds: told, reckoned, sold, undone and paid, as ../shared/DOC.md promises. */
public final class HopeOffice {
    /** There is none. */
    public static final int NONE = -1;

    private static final int FIRST_YEAR = 1700;
    private static final int LAST_YEAR = 1999;
    private static final int FIRST_BIRTH = 1600;
    private static final int MOST_PERSONS = 16;
    private static final int ALL_PERSONS = 65535;
    private static final int MOST_PAPERS = 100;
    private static final int TABLES = 4;
    private static final int TABLE_ROWS = 12;
    private static final int MOST_LIVES = 200;
    private static final int MOST_YEARS = 400;
    private static final int LAST_AGE = 110;
    private static final int MOST_INTEREST = 20;
    private static final int MOST_DUTY = 50;
    private static final int ONE_WHOLE = 1000000;
    private static final long MOST_BACK = 1000000000000L;
    private static final int TAPE_BYTES = 100;
    private static final int ACT_BYTES = 60;
    private static final int MOST_SUM = 100000;
    private static final int THOUSAND = 1000;
    private static final int MOST_SETTLEMENTS = 10;
    private static final int MOST_CLAUSES = 8;
    private static final int MOST_TAKERS = 4;
    private static final int MOST_OPEN = 6;
    private static final int MOST_LIVING = 4;
    private static final int MOST_DOUBTFUL = 8;
    private static final int MOST_SALES = 40;
    private static final int MOST_CHARGES = 20;
    private static final int MINUTES = 527040;

    private static final int CANT_STAND = 1;
    private static final int TENANT_NAMED = 2;
    private static final int SEVENTH_DIGIT = 2;
    private static final int NINTH_CLAUSE = 3;
    private static final int FIFTH_TAKER = 4;
    private static final int TOO_DEEP = 5;

    private final People people;
    private final LifeTables tables;
    private final Tape tape;
    private final Settlement[] settlements;
    private final Known known;
    private final Fall fall;
    private final Chances chances;
    private final Sales sales;
    private final Charges charges;
    private final Holdings holdings;
    private Act currentAct;
    private Act spareAct;
    private boolean actStands;
    private int settlementCount;
    private int thisYear;
    private int duty;

    public HopeOffice() {
        people = new People();
        tables = new LifeTables();
        tape = new Tape();
        settlements = new Settlement[MOST_SETTLEMENTS];
        for (int i = 0; i < MOST_SETTLEMENTS; i++) {
            settlements[i] = new Settlement();
        }
        known = new Known();
        fall = new Fall();
        chances = new Chances(people, tables, known, fall);
        sales = new Sales();
        charges = new Charges();
        holdings = new Holdings(sales, known, fall);
        currentAct = new Act();
        spareAct = new Act();
        thisYear = FIRST_YEAR;
    }

    public boolean now(int year) {
        if (year < thisYear || year > LAST_YEAR) {
            return false;
        }
        thisYear = year;
        return true;
    }

    public int person(int born, int parent) {
        if (born < FIRST_BIRTH || born > thisYear || people.size >= MOST_PERSONS) {
            return NONE;
        }
        if (parent != NONE && (!people.has(parent) || born < people.born[parent])) {
            return NONE;
        }
        return people.add(born, parent, thisYear);
    }

    public boolean dies(int o, int year) {
        if (!people.has(o) || people.deathYear[o] != NONE) {
            return false;
        }
        if (year < people.born[o] || year > thisYear) {
            return false;
        }
        people.deathYear[o] = year;
        people.deathToldIn[o] = thisYear;
        return true;
    }

    public boolean table(int t, int i, int n) {
        return tables.put(t, i, n);
    }

    public int lives(int t, int age) {
        if (t < 0 || t >= TABLES || age < 0 || age > MOST_YEARS) {
            return NONE;
        }
        return tables.livesAt(t, age);
    }

    public boolean number(int what, int n) {
        if (what == 0 && n >= 0 && n <= MOST_INTEREST) {
            tables.interest = n;
            return true;
        }
        if (what == 1 && n >= 0 && n <= MOST_DUTY) {
            duty = n;
            return true;
        }
        return false;
    }

    public int discount(int k) {
        if (k < 0 || k > MOST_YEARS) {
            return NONE;
        }
        return tables.discountOf(k);
    }

    public int feed(int a, int b, int c, int d, int e) {
        if (tape.size > TAPE_BYTES - 20) {
            return NONE;
        }
        tape.append(a);
        tape.append(b);
        tape.append(c);
        tape.append(d);
        tape.append(e);
        return tape.size;
    }

    public int settle(int fund, int tenant, int table, int n) {
        if (fund < 1 || fund > MOST_SUM || !people.has(tenant) || table < 0 || table >= TABLES) {
            return NONE;
        }
        if (n < 1 || n > TAPE_BYTES || n > tape.size || settlementCount >= MOST_SETTLEMENTS) {
            return NONE;
        }
        // The next row is free to be written on: until the count grows nobody reads it.
        Settlement next = settlements[settlementCount];
        if (next == null) {
            return NONE;
        }
        next.begin(fund, tenant, table);
        tape.open(n);
        boolean stands = next.readText(tape);
        tape.size = 0;
        if (!stands) {
            return tape.fault;
        }
        settlementCount++;
        return settlementCount - 1;
    }

    public int named(int s, int t) {
        Settlement settlement = settlementOf(s);
        if (settlement == null || !isYear(t)) {
            return NONE;
        }
        known.learn(people, t);
        return Integer.bitCount(known.namedIn(settlement));
    }

    public int falls(int s, int alive, int o) {
        Settlement settlement = settlementOf(s);
        if (settlement == null || !people.has(o) || (alive >>> people.size) != 0) {
            return NONE;
        }
        known.learn(people, thisYear);
        fall.divide(settlement, known, alive & known.namedIn(settlement));
        return fall.givenTo(o);
    }

    public long chance(int s, int o, int t, int y, int what) {
        if (what < 0 || what > 1 || !reckons(s, o, t, y)) {
            return NONE;
        }
        return what == 0 ? chances.hopeful() : chances.whole;
    }

    public long worth(int s, int o, int t, int y) {
        return reckons(s, o, t, y) ? chances.worthNow() : NONE;
    }

    public int sale(int o, int s, int parts, int buyer, int price, boolean advised) {
        Settlement settlement = settlementOf(s);
        if (settlement == null || !people.has(o) || !people.has(buyer) || o == buyer) {
            return NONE;
        }
        if (!isParts(parts) || price < 0 || price > MOST_SUM || sales.size >= MOST_SALES) {
            return NONE;
        }
        if (people.knownDead(settlement.tenant, thisYear)) {
            return NONE;
        }
        int i = sales.add(o, s, buyer, thisYear);
        if (!sales.has(i)) {
            return NONE;
        }
        sales.parts[i] = parts;
        sales.price[i] = price;
        sales.advised[i] = advised;
        return i;
    }

    public boolean notice(int i, int minute) {
        if (!sales.has(i) || sales.noticeYear[i] != NONE || minute < 0 || minute >= MINUTES) {
            return false;
        }
        sales.noticeYear[i] = thisYear;
        sales.noticeMinute[i] = minute;
        return true;
    }

    public int charge(int o, int s, int b, int sum) {
        if (!people.has(o) || !people.has(b) || o == b || settlementOf(s) == null) {
            return NONE;
        }
        if (sum < 1 || sum > MOST_SUM || charges.size >= MOST_CHARGES) {
            return NONE;
        }
        return charges.add(o, s, b, sum, thisYear);
    }

    public int act(int n) {
        if (n < 1 || n > ACT_BYTES || n > tape.size) {
            return NONE;
        }
        tape.open(n);
        boolean stands = spareAct.readText(tape);
        tape.size = 0;
        if (!stands) {
            return tape.fault;
        }
        Act former = currentAct;
        currentAct = spareAct;
        spareAct = former;
        actStands = true;
        return 0;
    }

    public int hard(int i) {
        if (!sales.has(i)) {
            return NONE;
        }
        return isHard(i) ? 1 : 0;
    }

    public long undo(int i) {
        if (!sales.has(i) || sales.undoneYear[i] != NONE) {
            return NONE;
        }
        Settlement settlement = settlementOf(sales.settlement[i]);
        if (settlement == null || people.knownDead(settlement.tenant, thisYear) || !isHard(i)) {
            return NONE;
        }
        sales.undoneYear[i] = thisYear;
        return tables.grown(sales.price[i], thisYear - sales.year[i]);
    }

    public int least(int o, int s, int parts, boolean advised) {
        Settlement settlement = settlementOf(s);
        if (settlement == null || !people.has(o) || !isParts(parts)) {
            return NONE;
        }
        if (!weighs(settlement, o, parts, advised, thisYear)) {
            return 0;
        }
        for (int price = 0; price <= MOST_SUM; price++) {
            if (!currentAct.condemns(price)) {
                return price;
            }
        }
        return NONE;
    }

    public long cover(int s, int o, int sum) {
        Settlement settlement = settlementOf(s);
        if (settlement == null || !people.has(o) || sum < 1 || sum > MOST_SUM) {
            return NONE;
        }
        int tenant = settlement.tenant;
        if (o == tenant || !people.has(tenant)) {
            return NONE;
        }
        if (people.knownDead(o, thisYear) || people.knownDead(tenant, thisYear)) {
            return NONE;
        }
        int age = thisYear - people.born[o];
        int tenantAge = thisYear - people.born[tenant];
        return tables.coverOf(settlement.tableNumber, age, tenantAge, sum);
    }

    public int gain(int s, int o, int t) {
        return gainOf(s, o, t);
    }

    public int paid(int s, int o, int x, int t) {
        if (!people.has(x)) {
            return NONE;
        }
        int gained = gainOf(s, o, t);
        if (gained == NONE) {
            return NONE;
        }
        int left = gained - gained * duty / 100;
        int payment = 0;
        for (int i = 0; i < charges.size && i < MOST_CHARGES; i++) {
            int part = charges.binds(i, o, s, t) ? Math.min(left, charges.due[i]) : 0;
            left -= part;
            payment += charges.payee[i] == x ? part : 0;
        }
        int parted = left;
        for (int i = 0; i < sales.size && i < MOST_SALES; i++) {
            int part = sales.binds(i, o, s) ? parted * sales.partsReached(i, t) / THOUSAND : 0;
            left -= part;
            payment += sales.buyer[i] == x ? part : 0;
        }
        return x == o ? payment + left : payment;
    }

    public int holds(int b, int what) {
        if (!people.has(b) || what < 0 || what > 3) {
            return NONE;
        }
        known.learn(people, thisYear);
        holdings.gather(b, settlements, settlementCount, thisYear);
        if (what == 0) {
            return holdings.saleCount;
        }
        if (what == 1) {
            return holdings.partsTogether;
        }
        if (!holdings.reckonWorst(settlements, settlementCount)) {
            return NONE;
        }
        return what == 2 ? holdings.worst : holdings.worstWays;
    }

    public boolean papers(int o, int year) {
        if (!people.has(o) || year < 0 || year > thisYear || people.paperCount >= MOST_PAPERS) {
            return false;
        }
        people.addPaper(o, year);
        return true;
    }

    public int falseOnes() {
        int set = 0;
        for (int o = 0; o < people.size && o < MOST_PERSONS; o++) {
            if (people.isFalse(o)) {
                set |= 1 << o;
            }
        }
        return set;
    }

    public int look(int i, int what) {
        if (!sales.has(i)) {
            return NONE;
        }
        switch (what) {
            case 0: return sales.seller[i];
            case 1: return sales.settlement[i];
            case 2: return sales.parts[i];
            case 3: return sales.buyer[i];
            case 4: return sales.price[i];
            case 5: return sales.year[i];
            case 6: return sales.noticeYear[i];
            case 7: return sales.noticeMinute[i];
            case 8: return sales.undoneYear[i];
            default: return NONE;
        }
    }

    public int count(int what) {
        switch (what) {
            case 0: return thisYear;
            case 1: return people.size;
            case 2: return settlementCount;
            case 3: return sales.size;
            case 4: return charges.size;
            case 5: return people.paperCount;
            case 6: return tape.size;
            case 7: return actStands ? 1 : 0;
            case 8: return tables.interest;
            case 9: return duty;
            default: return countBeyond(what);
        }
    }

    private int countBeyond(int what) {
        if (what >= 20 && what < 20 + MOST_SETTLEMENTS) {
            Settlement settlement = settlementOf(what - 20);
            return settlement == null ? NONE : settlement.clauseCount;
        }
        if (what >= 40 && what < 40 + MOST_PERSONS && people.has(what - 40)) {
            return people.deathYear[what - 40];
        }
        return NONE;
    }

    private Settlement settlementOf(int s) {
        return s >= 0 && s < settlementCount && s < settlements.length ? settlements[s] : null;
    }

    // The document bounds a year of knowledge only as a YEAR, not by NOW: ahead of
    // its coming, what was told by it is all that was told.
    private static boolean isYear(int t) {
        return t >= FIRST_YEAR && t <= LAST_YEAR;
    }

    private static boolean isParts(int parts) {
        return parts >= 1 && parts <= THOUSAND;
    }

    private boolean reckons(int s, int o, int t, int y) {
        Settlement settlement = settlementOf(s);
        if (settlement == null || !people.has(o) || !isYear(t) || y < t || y > LAST_YEAR) {
            return false;
        }
        return chances.reckon(settlement, o, t, y);
    }

    private boolean isHard(int i) {
        if (!sales.has(i)) {
            return false;
        }
        Settlement settlement = settlementOf(sales.settlement[i]);
        if (settlement == null) {
            return false;
        }
        boolean ready = weighs(settlement, sales.seller[i], sales.parts[i], sales.advised[i], sales.year[i]);
        return ready && currentAct.condemns(sales.price[i]);
    }

    /** Readies the act for prices of such a sale in a year; false: no price of it is hard. */
    private boolean weighs(Settlement settlement, int o, int parts, boolean advised, int year) {
        if (!actStands || !people.has(o) || !chances.reckon(settlement, o, year, year)) {
            return false;
        }
        long sold = chances.worthNow() * parts / THOUSAND;
        currentAct.reduce(sold, year - people.born[o], advised ? 1 : 0, parts);
        return true;
    }

    private int gainOf(int s, int o, int t) {
        Settlement settlement = settlementOf(s);
        if (settlement == null || !people.has(o) || !isYear(t)) {
            return NONE;
        }
        int tenant = settlement.tenant;
        if (!people.has(tenant) || !people.knownDead(tenant, t)) {
            return NONE;
        }
        known.learn(people, t);
        int survivors = people.survivorsOf(people.deathYear[tenant], t);
        fall.divide(settlement, known, survivors & known.namedIn(settlement));
        return fall.givenTo(o);
    }

    /** Births, deaths and papers, with the years in which births and deaths were told. */
    private static final class People {
        final int[] born = new int[MOST_PERSONS];
        final int[] parent = new int[MOST_PERSONS];
        final int[] toldIn = new int[MOST_PERSONS];
        final int[] deathYear = new int[MOST_PERSONS];
        final int[] deathToldIn = new int[MOST_PERSONS];
        // Whether papers can be is settled by the first and the last year of them.
        final int[] firstPaper = new int[MOST_PERSONS];
        final int[] lastPaper = new int[MOST_PERSONS];
        int size;
        int paperCount;

        boolean has(int o) {
            return o >= 0 && o < size && o < MOST_PERSONS;
        }

        int add(int bornIn, int parentNumber, int year) {
            if (size < 0 || size >= MOST_PERSONS) {
                return NONE;
            }
            int o = size;
            born[o] = bornIn;
            parent[o] = parentNumber;
            toldIn[o] = year;
            deathYear[o] = NONE;
            deathToldIn[o] = NONE;
            firstPaper[o] = NONE;
            lastPaper[o] = NONE;
            size++;
            return o;
        }

        boolean knownDead(int o, int t) {
            return has(o) && deathYear[o] != NONE && deathToldIn[o] <= t;
        }

        /** Who was born by a year and is not known on t to have died by it. */
        int survivorsOf(int year, int t) {
            int set = 0;
            for (int o = 0; o < size && o < MOST_PERSONS; o++) {
                boolean outlives = !knownDead(o, t) || deathYear[o] > year;
                if (born[o] <= year && outlives) {
                    set |= 1 << o;
                }
            }
            return set;
        }

        void addPaper(int o, int year) {
            if (!has(o)) {
                return;
            }
            if (firstPaper[o] == NONE || year < firstPaper[o]) {
                firstPaper[o] = year;
            }
            lastPaper[o] = Math.max(lastPaper[o], year);
            paperCount++;
        }

        boolean isFalse(int o) {
            if (!has(o) || firstPaper[o] == NONE) {
                return false;
            }
            return firstPaper[o] < born[o] || (deathYear[o] != NONE && lastPaper[o] > deathYear[o]);
        }
    }

    /** Tables of lives, and the interest that discounts what they promise. */
    private static final class LifeTables {
        final int[] rows = new int[TABLES * TABLE_ROWS];
        int interest = 5;

        boolean put(int t, int i, int n) {
            if (t < 0 || t >= TABLES || i < 0 || i > TABLE_ROWS - 2 || n < 0 || n > MOST_LIVES) {
                return false;
            }
            int at = t * TABLE_ROWS + i;
            if ((i > 0 && n > rows[at - 1]) || n < rows[at + 1]) {
                return false;
            }
            rows[at] = n;
            return true;
        }

        int livesAt(int t, int age) {
            if (t < 0 || t >= TABLES || age < 0 || age >= LAST_AGE) {
                return 0;
            }
            int at = t * TABLE_ROWS + age / 10;
            return rows[at] - (rows[at] - rows[at + 1]) * (age % 10) / 10;
        }

        long discounted(long sum) {
            int through = 100 + interest;
            return through > 0 ? sum * 100 / through : 0;
        }

        int discountOf(int k) {
            long part = ONE_WHOLE;
            for (int i = 0; i < k; i++) {
                part = discounted(part);
            }
            return (int) part;
        }

        long grown(long price, int years) {
            long sum = price;
            for (int i = 0; i < years; i++) {
                sum = Math.min(sum * (100 + interest) / 100, MOST_BACK);
            }
            return sum;
        }

        long coverOf(int t, int age, int tenantAge, long sum) {
            long both = (long) livesAt(t, age) * livesAt(t, tenantAge);
            if (both <= 0) {
                return NONE;
            }
            long cost = 0;
            long part = ONE_WHOLE;
            for (int k = 0; k < LAST_AGE; k++) {
                part = discounted(part);
                long dying = livesAt(t, age + k) - livesAt(t, age + k + 1);
                long due = sum * dying * livesAt(t, tenantAge + k) / both;
                cost += due * part / ONE_WHOLE;
            }
            return cost;
        }
    }

    /** The bytes that were fed, and the reading of them up to the first fault. */
    private static final class Tape {
        static final int END = -1;
        final int[] bytes = new int[TAPE_BYTES];
        int size;
        int end;
        int place;
        int fault;

        void append(int four) {
            for (int shift = 24; shift >= 0 && size < TAPE_BYTES; shift -= 8) {
                bytes[size] = (four >>> shift) & 255;
                size++;
            }
        }

        void open(int n) {
            end = n;
            place = 0;
            fault = 0;
        }

        int peek() {
            return place >= 0 && place < end && place < TAPE_BYTES ? bytes[place] : END;
        }

        boolean take(int sign) {
            if (peek() != sign) {
                return false;
            }
            place++;
            return true;
        }

        /** Takes a digit from the lowest on to 9; NONE if none stands there. */
        int takeDigit(int lowest) {
            int digit = peek() - '0';
            if (digit < lowest || digit > 9) {
                return NONE;
            }
            place++;
            return digit;
        }

        boolean atDigit() {
            return peek() >= '0' && peek() <= '9';
        }

        /** The person whose letter stands there; NONE if none does. */
        int letter() {
            int o = peek() - 'a';
            return o >= 0 && o < MOST_PERSONS ? o : NONE;
        }

        boolean refuse(int number) {
            fault = -1000 * number - place;
            return false;
        }
    }

    /** A fund and its text, read into shares and into conditions whose signs follow what they join. */
    private static final class Settlement {
        static final int NOT = -1;
        static final int AND = -2;
        static final int OR = -3;
        static final int CHILDREN = 16;
        static final int FEWER = 100;
        static final int MORE = 200;
        static final int JUST = 300;

        final int[] shareEnd = new int[MOST_CLAUSES];
        final int[] codeEnd = new int[MOST_CLAUSES];
        final int[] taker = new int[MOST_CLAUSES * MOST_TAKERS];
        final int[] divisor = new int[MOST_CLAUSES * MOST_TAKERS];
        final int[] code = new int[TAPE_BYTES];
        int fund;
        int tenant;
        int tableNumber;
        int clauseCount;
        int shareCount;
        int codeSize;
        int letters;
        int starred;

        void begin(int theFund, int theTenant, int theTable) {
            fund = theFund;
            tenant = theTenant;
            tableNumber = theTable;
            clauseCount = 0;
            shareCount = 0;
            codeSize = 0;
            letters = 0;
            starred = 0;
        }

        boolean readText(Tape tape) {
            for (int i = 0; i <= MOST_CLAUSES; i++) {
                if (!opensTaker(tape)) {
                    return tape.refuse(CANT_STAND);
                }
                if (i == MOST_CLAUSES) {
                    return tape.refuse(NINTH_CLAUSE);
                }
                if (!readShares(tape)) {
                    return false;
                }
                if (tape.take('(') && !(readEither(tape, 1) && closes(tape))) {
                    return false;
                }
                shareEnd[i] = shareCount;
                codeEnd[i] = codeSize;
                clauseCount = i + 1;
                if (tape.peek() == Tape.END) {
                    return true;
                }
                if (!tape.take(';')) {
                    return tape.refuse(CANT_STAND);
                }
            }
            return false;
        }

        private static boolean opensTaker(Tape tape) {
            return tape.peek() == '*' || tape.letter() != NONE;
        }

        private boolean readShares(Tape tape) {
            for (int i = 0; i <= MOST_TAKERS; i++) {
                if (!opensTaker(tape)) {
                    return tape.refuse(CANT_STAND);
                }
                if (i == MOST_TAKERS) {
                    return tape.refuse(FIFTH_TAKER);
                }
                if (!readShare(tape)) {
                    return false;
                }
                if (!tape.take(',')) {
                    return true;
                }
            }
            return false;
        }

        private boolean readShare(Tape tape) {
            int who = readWho(tape);
            if (who == NONE || shareCount >= taker.length) {
                return false;
            }
            int part = 1;
            if (tape.take('/')) {
                part = tape.takeDigit(2);
                if (part == NONE) {
                    return tape.refuse(CANT_STAND);
                }
            }
            taker[shareCount] = who;
            divisor[shareCount] = part;
            shareCount++;
            return true;
        }

        /** A person, or CHILDREN and a person; NONE: a fault. */
        private int readWho(Tape tape) {
            boolean children = tape.take('*');
            int o = tape.letter();
            if (o == NONE) {
                tape.refuse(CANT_STAND);
                return NONE;
            }
            if (!children && o == tenant) {
                tape.refuse(TENANT_NAMED);
                return NONE;
            }
            tape.place++;
            if (children) {
                starred |= 1 << o;
                return CHILDREN + o;
            }
            letters |= 1 << o;
            return o;
        }

        private static boolean closes(Tape tape) {
            return tape.take(')') || tape.refuse(CANT_STAND);
        }

        private boolean readEither(Tape tape, int open) {
            if (!readAll(tape, open)) {
                return false;
            }
            for (int i = 0; i < TAPE_BYTES && tape.take('|'); i++) {
                if (!readAll(tape, open)) {
                    return false;
                }
                emit(OR);
            }
            return true;
        }

        private boolean readAll(Tape tape, int open) {
            if (!readPiece(tape, open)) {
                return false;
            }
            for (int i = 0; i < TAPE_BYTES && tape.take('&'); i++) {
                if (!readPiece(tape, open)) {
                    return false;
                }
                emit(AND);
            }
            return true;
        }

        private boolean readPiece(Tape tape, int open) {
            int sign = tape.peek();
            if (sign == '!' || sign == '(') {
                if (open >= MOST_OPEN) {
                    return tape.refuse(TOO_DEEP);
                }
                tape.place++;
                return sign == '!' ? readNot(tape, open + 1) : readEither(tape, open + 1) && closes(tape);
            }
            if (sign == '#') {
                tape.place++;
                return readHowMany(tape);
            }
            int who = readWho(tape);
            if (who == NONE) {
                return false;
            }
            emit(who);
            return true;
        }

        private boolean readNot(Tape tape, int open) {
            if (!readPiece(tape, open)) {
                return false;
            }
            emit(NOT);
            return true;
        }

        private boolean readHowMany(Tape tape) {
            int kind = tape.take('<') ? FEWER : tape.take('>') ? MORE : tape.take('=') ? JUST : NONE;
            if (kind == NONE) {
                return tape.refuse(CANT_STAND);
            }
            int n = tape.takeDigit(0);
            if (n == NONE) {
                return tape.refuse(CANT_STAND);
            }
            int second = tape.takeDigit(0);
            emit(kind + (second == NONE ? n : n * 10 + second));
            return true;
        }

        private void emit(int word) {
            if (codeSize >= 0 && codeSize < code.length) {
                code[codeSize] = word;
                codeSize++;
            }
        }

        int shareFrom(int clause) {
            return clause > 0 && clause <= MOST_CLAUSES ? shareEnd[clause - 1] : 0;
        }

        int codeFrom(int clause) {
            return clause > 0 && clause <= MOST_CLAUSES ? codeEnd[clause - 1] : 0;
        }

        /** The first clause whose condition holds by the facts; NONE if no one's does. */
        int firstHolding(int facts) {
            for (int clause = 0; clause < clauseCount && clause < MOST_CLAUSES; clause++) {
                int from = codeFrom(clause);
                int truths = from == codeEnd[clause] ? 1 : 0;
                for (int i = from; i < codeEnd[clause] && i < code.length; i++) {
                    truths = joined(truths, code[i], facts);
                }
                if ((truths & 1) == 1) {
                    return clause;
                }
            }
            return NONE;
        }

        // Truths wait as bits, the latest lowest: nesting is shallow enough for an int.
        private static int joined(int truths, int word, int facts) {
            if (word == NOT) {
                return truths ^ 1;
            }
            if (word == AND) {
                return (truths >>> 1) & (truths | ~1);
            }
            if (word == OR) {
                return (truths >>> 1) | (truths & 1);
            }
            int many = Integer.bitCount(facts & ALL_PERSONS);
            boolean truth = word < FEWER ? (facts >>> word & 1) == 1
                : word < MORE ? many < word - FEWER
                : word < JUST ? many > word - MORE : many == word - JUST;
            return truths << 1 | (truth ? 1 : 0);
        }
    }

    /** Sets of persons as known on a year: who is there, who is dead, whose children. */
    private static final class Known {
        final int[] children = new int[MOST_PERSONS];
        int there;
        int dead;

        void learn(People people, int t) {
            there = 0;
            dead = 0;
            for (int o = 0; o < MOST_PERSONS; o++) {
                children[o] = 0;
            }
            for (int o = 0; o < people.size && o < MOST_PERSONS; o++) {
                if (people.toldIn[o] > t) {
                    continue;
                }
                there |= 1 << o;
                dead |= people.knownDead(o, t) ? 1 << o : 0;
                int parent = people.parent[o];
                if (parent >= 0 && parent < MOST_PERSONS) {
                    children[parent] |= 1 << o;
                }
            }
        }

        /** Who is alive, and above these bits likewise who has a child that is. */
        int factsOf(int alive) {
            int facts = alive;
            for (int o = 0; o < MOST_PERSONS; o++) {
                if ((children[o] & alive) != 0) {
                    facts |= 1 << (Settlement.CHILDREN + o);
                }
            }
            return facts;
        }

        int childrenOf(int o) {
            return o >= 0 && o < MOST_PERSONS ? children[o] : 0;
        }

        int namedIn(Settlement settlement) {
            int set = settlement.letters & there;
            for (int o = 0; o < MOST_PERSONS; o++) {
                if ((settlement.starred >>> o & 1) == 1) {
                    set |= children[o];
                }
            }
            return set & ~(1 << settlement.tenant);
        }
    }

    /** What a fund gives to each, once it is said who of the named is alive. */
    private static final class Fall {
        final int[] given = new int[MOST_PERSONS];
        int left;

        void divide(Settlement settlement, Known known, int alive) {
            for (int o = 0; o < MOST_PERSONS; o++) {
                given[o] = 0;
            }
            left = settlement.fund;
            int clause = settlement.firstHolding(known.factsOf(alive));
            if (clause < 0 || clause >= MOST_CLAUSES) {
                return;
            }
            for (int i = settlement.shareFrom(clause); i < settlement.shareEnd[clause]; i++) {
                giveShare(settlement, i, known, alive);
            }
        }

        private void giveShare(Settlement settlement, int i, Known known, int alive) {
            if (i < 0 || i >= settlement.taker.length || settlement.divisor[i] <= 0) {
                return;
            }
            int who = settlement.taker[i];
            boolean children = who >= Settlement.CHILDREN;
            int takers = alive & (children ? known.childrenOf(who - Settlement.CHILDREN) : 1 << who);
            int many = Integer.bitCount(takers);
            if (many == 0) {
                return;
            }
            int each = settlement.fund / settlement.divisor[i] / many;
            for (int o = 0; o < MOST_PERSONS; o++) {
                if ((takers >>> o & 1) == 1) {
                    give(o, each);
                }
            }
        }

        private void give(int o, int sum) {
            int reached = Math.min(sum, left);
            given[o] += reached;
            left -= reached;
        }

        int givenTo(int o) {
            return o >= 0 && o < MOST_PERSONS ? given[o] : 0;
        }
    }

    /** All branches of one person's hope: in which year the tenant dies, and who is alive then. */
    private static final class Chances {
        final People people;
        final LifeTables tables;
        final Known known;
        final Fall fall;
        final int[] age = new int[MOST_LIVING];
        final int[] has = new int[MOST_LIVING];
        final int[] person = new int[MOST_LIVING];
        final int[] alive = new int[MOST_LIVING];
        // What each set of the living brings; it is the same in every year.
        final int[] gift = new int[1 << MOST_LIVING];
        int living;
        int tableNumber;
        int tenantAge;
        long whole;

        Chances(People thePeople, LifeTables theTables, Known theKnown, Fall theFall) {
            people = thePeople;
            tables = theTables;
            known = theKnown;
            fall = theFall;
        }

        /** Readies the branches; false: they are not reckoned. */
        boolean reckon(Settlement settlement, int o, int t, int y) {
            known.learn(people, t);
            int tenant = settlement.tenant;
            if (!people.has(tenant) || (known.there & ~known.dead & 1 << tenant) == 0) {
                return false;
            }
            tableNumber = settlement.tableNumber;
            tenantAge = y - people.born[tenant];
            whole = tables.livesAt(tableNumber, tenantAge);
            if (whole <= 0 || !listLiving(known.namedIn(settlement) & ~known.dead, y)) {
                return false;
            }
            for (int set = 0; set < 1 << living && set < gift.length; set++) {
                fall.divide(settlement, known, personsOf(set));
                gift[set] = fall.givenTo(o);
            }
            return true;
        }

        private boolean listLiving(int persons, int y) {
            living = 0;
            for (int o = 0; o < people.size && o < MOST_PERSONS; o++) {
                if ((persons >>> o & 1) == 0) {
                    continue;
                }
                int hasNow = tables.livesAt(tableNumber, y - people.born[o]);
                if (living >= MOST_LIVING || hasNow <= 0) {
                    return false;
                }
                person[living] = o;
                age[living] = y - people.born[o];
                has[living] = hasNow;
                whole *= hasNow;
                living++;
            }
            return true;
        }

        private int personsOf(int set) {
            int persons = 0;
            for (int i = 0; i < living && i < MOST_LIVING; i++) {
                if ((set >>> i & 1) == 1) {
                    persons |= 1 << person[i];
                }
            }
            return persons;
        }

        /** Sets who is alive behind the k-th year, and tells of how many tenants die in it. */
        private long enterYear(int k) {
            for (int i = 0; i < living && i < MOST_LIVING; i++) {
                alive[i] = tables.livesAt(tableNumber, age[i] + k + 1);
            }
            return tables.livesAt(tableNumber, tenantAge + k) - tables.livesAt(tableNumber, tenantAge + k + 1);
        }

        private long weightOf(int set, long dying) {
            long weight = dying;
            for (int i = 0; i < living && i < MOST_LIVING; i++) {
                weight *= (set >>> i & 1) == 1 ? alive[i] : has[i] - alive[i];
            }
            return weight;
        }

        /** The weight of all branches that bring something. */
        long hopeful() {
            long together = 0;
            for (int k = 0; k < LAST_AGE; k++) {
                long dying = enterYear(k);
                for (int set = 0; set < 1 << living && set < gift.length; set++) {
                    together += gift[set] > 0 ? weightOf(set, dying) : 0;
                }
            }
            return together;
        }

        long worthNow() {
            if (whole <= 0) {
                return NONE;
            }
            long sum = 0;
            long part = ONE_WHOLE;
            for (int k = 0; k < LAST_AGE; k++) {
                long dying = enterYear(k);
                long weighed = 0;
                for (int set = 0; set < 1 << living && set < gift.length; set++) {
                    weighed += weightOf(set, dying) * gift[set];
                }
                part = tables.discounted(part);
                sum += weighed / whole * part / ONE_WHOLE;
            }
            return sum;
        }
    }

    /** Sales by number, and what is left of a thousand for each in the order of notice. */
    private static final class Sales {
        final int[] seller = new int[MOST_SALES];
        final int[] settlement = new int[MOST_SALES];
        final int[] parts = new int[MOST_SALES];
        final int[] buyer = new int[MOST_SALES];
        final int[] price = new int[MOST_SALES];
        final boolean[] advised = new boolean[MOST_SALES];
        final int[] year = new int[MOST_SALES];
        final int[] noticeYear = new int[MOST_SALES];
        final int[] noticeMinute = new int[MOST_SALES];
        final int[] undoneYear = new int[MOST_SALES];
        int size;

        boolean has(int i) {
            return i >= 0 && i < size && i < MOST_SALES;
        }

        int add(int o, int s, int b, int toldIn) {
            if (size < 0 || size >= MOST_SALES) {
                return NONE;
            }
            int i = size;
            seller[i] = o;
            settlement[i] = s;
            buyer[i] = b;
            year[i] = toldIn;
            noticeYear[i] = NONE;
            noticeMinute[i] = NONE;
            undoneYear[i] = NONE;
            size++;
            return i;
        }

        private boolean noticed(int i, int t) {
            return noticeYear[i] != NONE && noticeYear[i] <= t;
        }

        private boolean goesAhead(int i, int other, int t) {
            if (noticed(i, t) != noticed(other, t)) {
                return noticed(i, t);
            }
            if (noticed(i, t) && noticeYear[i] != noticeYear[other]) {
                return noticeYear[i] < noticeYear[other];
            }
            if (noticed(i, t) && noticeMinute[i] != noticeMinute[other]) {
                return noticeMinute[i] < noticeMinute[other];
            }
            return i < other;
        }

        // No sale or undoing can be told once the fall is known, so a year of
        // knowledge behind the fall matters to notices alone.
        boolean binds(int i, int o, int s) {
            return has(i) && seller[i] == o && settlement[i] == s && undoneYear[i] == NONE;
        }

        /** The thousandths that reach a sale behind those that go ahead of it, as known on t. */
        int partsReached(int i, int t) {
            if (!has(i)) {
                return 0;
            }
            int ahead = 0;
            for (int j = 0; j < size && j < MOST_SALES; j++) {
                if (j != i && binds(j, seller[i], settlement[i]) && goesAhead(j, i, t)) {
                    ahead += parts[j];
                }
            }
            return Math.max(0, Math.min(parts[i], THOUSAND - ahead));
        }
    }

    /** Charges by number, each paid as far as what comes to it reaches. */
    private static final class Charges {
        final int[] person = new int[MOST_CHARGES];
        final int[] settlement = new int[MOST_CHARGES];
        final int[] payee = new int[MOST_CHARGES];
        final int[] due = new int[MOST_CHARGES];
        final int[] toldIn = new int[MOST_CHARGES];
        int size;

        int add(int o, int s, int b, int sum, int year) {
            if (size < 0 || size >= MOST_CHARGES) {
                return NONE;
            }
            int i = size;
            person[i] = o;
            settlement[i] = s;
            payee[i] = b;
            due[i] = sum;
            toldIn[i] = year;
            size++;
            return i;
        }

        boolean binds(int i, int o, int s, int t) {
            return i >= 0 && i < size && i < MOST_CHARGES && person[i] == o && settlement[i] == s && toldIn[i] <= t;
        }
    }

    /** What one buyer holds, and the least that it could bring. */
    private static final class Holdings {
        final Sales sales;
        final Known known;
        final Fall fall;
        // The thousandths that reach each sale held; NONE for a sale that is not held.
        final int[] reached = new int[MOST_SALES];
        int saleCount;
        int partsTogether;
        int inSettlements;
        int worst;
        int worstWays;

        Holdings(Sales theSales, Known theKnown, Fall theFall) {
            sales = theSales;
            known = theKnown;
            fall = theFall;
        }

        /** Lists what is held in a year that is known already. */
        void gather(int b, Settlement[] settlements, int settlementCount, int year) {
            saleCount = 0;
            partsTogether = 0;
            inSettlements = 0;
            for (int i = 0; i < sales.size && i < MOST_SALES; i++) {
                int s = sales.settlement[i];
                reached[i] = NONE;
                if (sales.buyer[i] != b || sales.undoneYear[i] != NONE) {
                    continue;
                }
                if (s < 0 || s >= settlementCount || s >= settlements.length || hasFallen(settlements[s])) {
                    continue;
                }
                reached[i] = sales.partsReached(i, year);
                saleCount++;
                partsTogether += sales.parts[i];
                inSettlements |= 1 << s;
            }
        }

        private boolean hasFallen(Settlement settlement) {
            return settlement == null || (known.dead >>> settlement.tenant & 1) == 1;
        }

        /** False: more of the named may be alive or not than are reckoned. */
        boolean reckonWorst(Settlement[] settlements, int settlementCount) {
            int doubtful = doubtfulOnes(settlements, settlementCount);
            int many = Integer.bitCount(doubtful);
            if (many > MOST_DOUBTFUL) {
                return false;
            }
            worst = 0;
            worstWays = 0;
            int alive = 0;
            for (int way = 0; way < 1 << many; way++) {
                tally(broughtBy(alive, settlements, settlementCount));
                // The next set within the doubtful ones.
                alive = (alive - doubtful) & doubtful;
            }
            return true;
        }

        private void tally(int sum) {
            if (worstWays == 0 || sum < worst) {
                worst = sum;
                worstWays = 1;
            } else if (sum == worst) {
                worstWays++;
            }
        }

        private int doubtfulOnes(Settlement[] settlements, int settlementCount) {
            int named = 0;
            int tenants = 0;
            for (int s = 0; s < settlementCount && s < settlements.length; s++) {
                Settlement settlement = settlements[s];
                if (settlement != null && (inSettlements >>> s & 1) == 1) {
                    named |= known.namedIn(settlement);
                    tenants |= 1 << settlement.tenant;
                }
            }
            return named & ~known.dead & ~tenants;
        }

        private int broughtBy(int alive, Settlement[] settlements, int settlementCount) {
            int together = 0;
            for (int s = 0; s < settlementCount && s < settlements.length; s++) {
                Settlement settlement = settlements[s];
                if (settlement == null || (inSettlements >>> s & 1) == 0) {
                    continue;
                }
                fall.divide(settlement, known, alive & known.namedIn(settlement));
                for (int i = 0; i < sales.size && i < MOST_SALES; i++) {
                    if (sales.settlement[i] == s && reached[i] != NONE) {
                        together += fall.givenTo(sales.seller[i]) * reached[i] / THOUSAND;
                    }
                }
            }
            return together;
        }
    }

    /**
     * An act's words. With all but the price known each side is a polynomial of the price,
     * and by 64 bits that wrap around it answers what the words themselves would.
     */
    private static final class Act {
        static final int PRICE = -1;
        static final int FIRST_GIVEN = -2;
        static final int PLUS = -6;
        static final int MINUS = -7;
        static final int TIMES = -8;
        static final int MOST_DIGITS = 6;
        // Sixty bytes hold no more than thirty prices, and seven levels two waiting sides each.
        static final int TERMS = 32;
        static final int WAITING = 16;

        final int[] code = new int[ACT_BYTES];
        final long[] given = new long[4];
        final long[][] stack = new long[WAITING][TERMS];
        final long[] product = new long[TERMS];
        final long[] left = new long[TERMS];
        final long[] right = new long[TERMS];
        int codeSize;
        int middle;
        int height;
        int degree;
        boolean less;

        boolean readText(Tape tape) {
            codeSize = 0;
            if (!readSum(tape, 0)) {
                return false;
            }
            middle = codeSize;
            less = tape.take('<');
            if (!less && !tape.take('>')) {
                return tape.refuse(CANT_STAND);
            }
            if (!readSum(tape, 0)) {
                return false;
            }
            return tape.peek() == Tape.END || tape.refuse(CANT_STAND);
        }

        private boolean readSum(Tape tape, int open) {
            if (!readProduct(tape, open)) {
                return false;
            }
            for (int i = 0; i < TAPE_BYTES; i++) {
                int joins = tape.take('+') ? PLUS : tape.take('-') ? MINUS : 0;
                if (joins == 0) {
                    return true;
                }
                if (!readProduct(tape, open)) {
                    return false;
                }
                emit(joins);
            }
            return true;
        }

        private boolean readProduct(Tape tape, int open) {
            if (!readFactor(tape, open)) {
                return false;
            }
            for (int i = 0; i < TAPE_BYTES && tape.take('*'); i++) {
                if (!readFactor(tape, open)) {
                    return false;
                }
                emit(TIMES);
            }
            return true;
        }

        private boolean readFactor(Tape tape, int open) {
            if (tape.peek() == '(') {
                if (open >= MOST_OPEN) {
                    return tape.refuse(TOO_DEEP);
                }
                tape.place++;
                return readSum(tape, open + 1) && (tape.take(')') || tape.refuse(CANT_STAND));
            }
            if (tape.atDigit()) {
                return readNumber(tape);
            }
            int word = wordOf(tape.peek());
            if (word == 0) {
                return tape.refuse(CANT_STAND);
            }
            tape.place++;
            emit(word);
            return true;
        }

        private boolean readNumber(Tape tape) {
            int n = 0;
            for (int i = 0; i < MOST_DIGITS && tape.atDigit(); i++) {
                n = n * 10 + tape.takeDigit(0);
            }
            if (tape.atDigit()) {
                return tape.refuse(SEVENTH_DIGIT);
            }
            emit(n);
            return true;
        }

        private static int wordOf(int sign) {
            switch (sign) {
                case 'p': return PRICE;
                case 'w': return FIRST_GIVEN;
                case 'a': return FIRST_GIVEN - 1;
                case 'v': return FIRST_GIVEN - 2;
                case 't': return FIRST_GIVEN - 3;
                default: return 0;
            }
        }

        private void emit(int word) {
            if (codeSize >= 0 && codeSize < code.length) {
                code[codeSize] = word;
                codeSize++;
            }
        }

        /** Leaves the price alone open. */
        void reduce(long worthSold, long age, long advised, long parts) {
            given[0] = worthSold;
            given[1] = age;
            given[2] = advised;
            given[3] = parts;
            reduceSide(0, middle, left);
            reduceSide(middle, codeSize, right);
            degree = 0;
            for (int i = 0; i < TERMS; i++) {
                if (left[i] != 0 || right[i] != 0) {
                    degree = i;
                }
            }
        }

        private void reduceSide(int from, int to, long[] side) {
            height = 0;
            for (int i = from; i < to && i < code.length; i++) {
                int word = code[i];
                if (word == PLUS || word == MINUS) {
                    addTop(word == PLUS ? 1 : -1);
                } else if (word == TIMES) {
                    multiplyTop();
                } else {
                    push(word);
                }
            }
            System.arraycopy(stack[0], 0, side, 0, TERMS);
        }

        private void push(int word) {
            if (height < 0 || height >= WAITING) {
                return;
            }
            long[] top = stack[height];
            for (int i = 0; i < TERMS; i++) {
                top[i] = 0;
            }
            if (word == PRICE) {
                top[1] = 1;
            } else if (word >= 0) {
                top[0] = word;
            } else {
                int at = FIRST_GIVEN - word;
                top[0] = at >= 0 && at < given.length ? given[at] : 0;
            }
            height++;
        }

        private boolean drop() {
            if (height < 2 || height > WAITING) {
                return false;
            }
            height--;
            return true;
        }

        private void addTop(long sign) {
            if (!drop()) {
                return;
            }
            for (int i = 0; i < TERMS; i++) {
                stack[height - 1][i] += sign * stack[height][i];
            }
        }

        private void multiplyTop() {
            if (!drop()) {
                return;
            }
            for (int i = 0; i < TERMS; i++) {
                product[i] = 0;
                for (int j = 0; j <= i; j++) {
                    product[i] += stack[height - 1][j] * stack[height][i - j];
                }
            }
            System.arraycopy(product, 0, stack[height - 1], 0, TERMS);
        }

        /** Whether the words hold for a price. */
        boolean condemns(long price) {
            long leftSum = 0;
            long rightSum = 0;
            for (int i = Math.min(degree, TERMS - 1); i >= 0; i--) {
                leftSum = leftSum * price + left[i];
                rightSum = rightSum * price + right[i];
            }
            return less ? leftSum < rightSum : leftSum > rightSum;
        }
    }
}
