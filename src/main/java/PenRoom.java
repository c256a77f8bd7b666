/**
 * A desk of signatures: papers, the people who may sign them, and the rules that say whose hands are needed.
 * Every row is made once and used again, so a call makes no object but a new paper.
 */
public final class PenRoom {
    public static final int NONE = -1;

    private static final int MAX_PEOPLE = 14;
    private static final int MAX_AWAY = 30;
    private static final int MAX_DEPUTIES = 30;
    private static final int MAX_PAPERS = 40;
    private static final int MAX_TAPE = 1000;
    private static final int MAX_RULES = 20;
    private static final int MAX_TESTS = 60;
    private static final int MAX_STEPS = 4;
    private static final int MAX_NEEDS = 3;
    private static final int MAX_HANDS_OF_NEED = 3;
    private static final int MAX_SLOTS = 8;
    private static final int MAX_DEPTH = 8;
    private static final int MAX_WORD = 8;
    private static final int MAX_DIGITS = 7;
    private static final int MAX_SPAN = 30;
    private static final int MAX_LATER = 1000;
    private static final int MAX_TRIES = 100000;

    private static final int KINDS = 4;
    private static final int ROLES = 8;
    private static final int PLACES = 8;
    private static final int LAST_DAY = 100000;
    private static final int GREATEST_SUM = 1000000;
    private static final int DAYS_OF_MONTH = 30;

    private static final int UNDER_WAY = 0;
    private static final int DONE = 1;
    private static final int WITHOUT_RULE = 2;
    private static final int WITHDRAWN = 3;

    private static final int NO_WAY = -2;
    private static final int TOO_MANY_TRIES = -3;

    /** All people, as bits; those who are not there yet have no role and act for nobody. */
    private static final int EVERYONE = (1 << MAX_PEOPLE) - 1;

    /** Far above all that 40 papers can add up to, so that what was signed can be taken off it. */
    private static final int NO_LIMIT = 1000000000;

    /** There are at most 30 deputies, 112 limits of names in roles and 60 tests at which an answer can change. */
    private static final int MAX_TURNS = 1000;

    private final Staff staff = new Staff();
    private final Cabinet cabinet = new Cabinet();
    private final Reader reader = new Reader();
    private final Search search = new Search(staff, cabinet);
    private RuleBook book = new RuleBook();
    private RuleBook spareBook = new RuleBook();
    private int today = 0;
    private int reach = 0;
    private final int[] wayHand = new int[MAX_SLOTS];
    private final int[] wayName = new int[MAX_SLOTS];

    public PenRoom() {
        for (int i = 0; i < MAX_SLOTS; i++) {
            wayHand[i] = NONE;
            wayName[i] = NONE;
        }
    }

    public int person(int roles) {
        return staff.addPerson(roles);
    }

    public boolean roles(int person, int roles) {
        return staff.setRoles(person, roles);
    }

    public boolean away(int person, int from, int to) {
        return staff.addAway(person, from, to);
    }

    public int deputy(int person, int by, int from, int to, int upto) {
        return staff.addDeputy(person, by, from, to, upto);
    }

    public boolean end(int deputy) {
        return staff.endDeputy(deputy);
    }

    public int acts(int person, int sum, int day) {
        if (!staff.has(person) || !isSum(sum) || day < 0) {
            return NONE;
        }
        return staff.actingFor(person, sum, day, staff.awayOn(day));
    }

    public int later(int days) {
        if (days < 0 || days > MAX_LATER || today + days > LAST_DAY) {
            return NONE;
        }
        today += days;
        return today;
    }

    public int feed(int a, int b, int c, int d, int e) {
        if (!reader.hasRoomFor(20)) {
            return NONE;
        }
        reader.put(a);
        reader.put(b);
        reader.put(c);
        reader.put(d);
        reader.put(e);
        return reader.size();
    }

    public int cut(int n) {
        return reader.shorten(n);
    }

    public int rules() {
        boolean good = reader.readInto(spareBook);
        reader.shorten(0);
        if (!good) {
            return NONE;
        }
        RuleBook old = book;
        book = spareBook;
        spareBook = old;
        return book.ruleCount();
    }

    public int fault(int what) {
        switch (what) {
            case 0: return reader.faultNumber();
            case 1: return reader.faultPlace();
            default: return NONE;
        }
    }

    public boolean span(int days) {
        if (days < 0 || days > MAX_SPAN) {
            return false;
        }
        reach = days;
        return true;
    }

    public int paper(int kind, int sum, int maker, int place, boolean urgent) {
        if (!canBePaper(kind, maker, place) || !isSum(sum)) {
            return NONE;
        }
        int number = cabinet.add(new Paper(kind, sum, maker, place, urgent));
        begin(number);
        return number;
    }

    public int of(int paper, int what) {
        Paper p = cabinet.at(paper);
        if (p == null) {
            return NONE;
        }
        switch (what) {
            case 0: return p.state;
            case 1: return p.joined;
            case 2: return p.slots;
            case 3: return p.signedSlots();
            case 4: return p.firstOpenStep();
            case 5: return p.begunOn;
            default: return NONE;
        }
    }

    public int slot(int paper, int slot, int what) {
        Paper p = cabinet.at(paper);
        if (p == null || slot < 0 || slot >= p.slots) {
            return NONE;
        }
        switch (what) {
            case 0: return p.role[slot];
            case 1: return p.step[slot];
            case 2: return p.hand[slot];
            case 3: return p.name[slot];
            default: return NONE;
        }
    }

    public boolean sign(int paper, int slot, int hand, int name) {
        Paper p = cabinet.at(paper);
        if (p == null || !p.isOpenNow(slot) || !staff.has(hand) || !staff.has(name)) {
            return false;
        }
        search.lookAtLimits(book, today);
        search.lookAtPeople(p.sum, today, EVERYONE);
        if (!search.allows(p.role[slot], name, hand, p.taken())) {
            return false;
        }
        p.put(slot, hand, name, today);
        return true;
    }

    public boolean back(int paper) {
        Paper p = cabinet.at(paper);
        if (p == null || p.state != UNDER_WAY) {
            return false;
        }
        begin(paper);
        return true;
    }

    public boolean withdraw(int paper) {
        Paper p = cabinet.at(paper);
        if (p == null || (p.state != UNDER_WAY && p.state != WITHOUT_RULE)) {
            return false;
        }
        p.state = WITHDRAWN;
        return true;
    }

    public long signed(int name, int role, int day, boolean month) {
        if (!staff.has(name) || role < 0 || role >= ROLES || day < 0) {
            return NONE;
        }
        return cabinet.total(name, role, day, month);
    }

    public int way(int paper) {
        Paper p = cabinet.at(paper);
        if (p == null || p.state != UNDER_WAY) {
            return NONE;
        }
        search.lookAtLimits(book, today);
        search.lookAtPeople(p.sum, today, EVERYONE);
        search.openSlotsOf(p);
        int answer = search.seekWay(p.taken());
        if (answer >= 0) {
            search.copyWay(wayHand, wayName);
        }
        return answer;
    }

    public int wayOf(int slot, int what) {
        if (slot < 0 || slot >= MAX_SLOTS) {
            return NONE;
        }
        switch (what) {
            case 0: return wayHand[slot];
            case 1: return wayName[slot];
            default: return NONE;
        }
    }

    public int holders(int paper) {
        Paper p = cabinet.at(paper);
        if (p == null) {
            return NONE;
        }
        if (p.state != UNDER_WAY) {
            return 0;
        }
        search.lookAtLimits(book, today);
        search.lookAtPeople(p.sum, today, EVERYONE);
        int taken = p.taken();
        int holding = 0;
        for (int slot = 0; slot < p.slots; slot++) {
            if (p.isOpenNow(slot)) {
                holding |= search.handsFor(p.role[slot], taken);
            }
        }
        return holding;
    }

    public int greatest(int kind, int place, boolean urgent, int maker, int people) {
        if (!canBePaper(kind, maker, place) || !staff.areAllThere(people)) {
            return NONE;
        }
        int others = cabinet.sumOfOthers(NONE, kind, maker, place, today - reach);
        search.lookAtLimits(book, today);
        int sum = GREATEST_SUM;
        for (int turn = 0; turn < MAX_TURNS && sum >= 0; turn++) {
            int rule = book.ruleFor(kind, others + sum, place, urgent);
            int answer = rule == NONE ? NO_WAY : seekByRule(rule, sum, maker, people);
            if (answer == TOO_MANY_TRIES) {
                return TOO_MANY_TRIES;
            }
            if (answer != NO_WAY) {
                return sum;
            }
            sum = nextSum(kind, others, sum);
        }
        return NO_WAY;
    }

    public int about(int what) {
        switch (what) {
            case 0: return today;
            case 1: return staff.size();
            case 2: return staff.awayCount();
            case 3: return staff.deputyCount();
            case 4: return book.ruleCount();
            case 5: return book.limitCount();
            case 6: return cabinet.size();
            case 7: return reader.size();
            default: return NONE;
        }
    }

    private boolean canBePaper(int kind, int maker, int place) {
        return kind >= 0 && kind < KINDS && staff.has(maker) && place >= 0 && place < PLACES && !cabinet.isFull();
    }

    private void begin(int number) {
        Paper p = cabinet.at(number);
        if (p == null) {
            return;
        }
        p.begunOn = today;
        p.joined = p.sum + cabinet.sumOfOthers(number, p.kind, p.maker, p.place, today - reach);
        p.clearSlots();
        int rule = book.ruleFor(p.kind, p.joined, p.place, p.urgent);
        p.state = rule == NONE ? WITHOUT_RULE : UNDER_WAY;
        if (rule != NONE) {
            book.copySlots(rule, p);
        }
    }

    private int seekByRule(int rule, int sum, int maker, int people) {
        search.lookAtPeople(sum, today, people);
        search.openSlotsOfRule(book, rule);
        return search.seekWay(1 << maker);
    }

    /**
     * The greatest lower sum at which a search can go otherwise; all sums between have the same tries.
     * A name stands once on a paper, so its limits ask for this sum alone, and each has one such point.
     */
    private int nextSum(int kind, int others, int sum) {
        int byDeputy = staff.amountBelow(sum, today);
        int byLimit = search.roomBelow(sum);
        int byTest = book.testBelow(kind, others, sum);
        return Math.max(byDeputy, Math.max(byLimit, byTest));
    }

    private static boolean isSum(int sum) {
        return sum >= 0 && sum <= GREATEST_SUM;
    }

    private static boolean isIn(int bits, int number) {
        return (bits >> number & 1) != 0;
    }

    /** The people, their days away and their deputies. */
    private static final class Staff {
        private int people = 0;
        private final int[] rolesOf = new int[MAX_PEOPLE];
        private int spans = 0;
        private final int[] awayWho = new int[MAX_AWAY];
        private final int[] awayFrom = new int[MAX_AWAY];
        private final int[] awayTo = new int[MAX_AWAY];
        private int deputies = 0;
        private final int[] deputyOf = new int[MAX_DEPUTIES];
        private final int[] deputyBy = new int[MAX_DEPUTIES];
        private final int[] deputyFrom = new int[MAX_DEPUTIES];
        private final int[] deputyTo = new int[MAX_DEPUTIES];
        private final int[] deputyUpto = new int[MAX_DEPUTIES];
        private final boolean[] deputyEnded = new boolean[MAX_DEPUTIES];

        int size() {
            return people;
        }

        int awayCount() {
            return spans;
        }

        int deputyCount() {
            return deputies;
        }

        boolean has(int person) {
            return person >= 0 && person < people;
        }

        boolean areAllThere(int bits) {
            return bits >= 0 && bits < 1 << people;
        }

        boolean hasRole(int person, int role) {
            return has(person) && isIn(rolesOf[person], role);
        }

        int addPerson(int roles) {
            if (!areRoles(roles) || people >= MAX_PEOPLE) {
                return NONE;
            }
            rolesOf[people] = roles;
            people++;
            return people - 1;
        }

        boolean setRoles(int person, int roles) {
            if (!has(person) || !areRoles(roles)) {
                return false;
            }
            rolesOf[person] = roles;
            return true;
        }

        boolean addAway(int person, int from, int to) {
            if (!has(person) || !areDays(from, to) || spans >= MAX_AWAY) {
                return false;
            }
            awayWho[spans] = person;
            awayFrom[spans] = from;
            awayTo[spans] = to;
            spans++;
            return true;
        }

        int addDeputy(int person, int by, int from, int to, int upto) {
            if (!has(person) || !has(by) || person == by || !areDays(from, to) || !isSum(upto)) {
                return NONE;
            }
            if (deputies >= MAX_DEPUTIES) {
                return NONE;
            }
            deputyOf[deputies] = person;
            deputyBy[deputies] = by;
            deputyFrom[deputies] = from;
            deputyTo[deputies] = to;
            deputyUpto[deputies] = upto;
            deputies++;
            return deputies - 1;
        }

        boolean endDeputy(int deputy) {
            if (deputy < 0 || deputy >= deputies || deputyEnded[deputy]) {
                return false;
            }
            deputyEnded[deputy] = true;
            return true;
        }

        int awayOn(int day) {
            int gone = 0;
            for (int i = 0; i < spans; i++) {
                if (day >= awayFrom[i] && day <= awayTo[i]) {
                    gone |= 1 << awayWho[i];
                }
            }
            return gone;
        }

        /** Each turn goes one deputy further; whom it reached already it does not go through again. */
        int actingFor(int person, int sum, int day, int gone) {
            int reached = 1 << person;
            int fresh = reached & gone;
            for (int turn = 0; turn < MAX_PEOPLE && fresh != 0; turn++) {
                int next = deputiesOf(fresh, sum, day) & ~reached;
                reached |= next;
                fresh = next & gone;
            }
            return reached & ~gone;
        }

        private int deputiesOf(int persons, int sum, int day) {
            int found = 0;
            for (int i = 0; i < deputies; i++) {
                if (isIn(persons, deputyOf[i]) && sum <= deputyUpto[i] && standsOn(i, day)) {
                    found |= 1 << deputyBy[i];
                }
            }
            return found;
        }

        private boolean standsOn(int deputy, int day) {
            return !deputyEnded[deputy] && day >= deputyFrom[deputy] && day <= deputyTo[deputy];
        }

        /** The greatest amount of a deputy of that day that is below a sum. */
        int amountBelow(int sum, int day) {
            int best = NONE;
            for (int i = 0; i < deputies; i++) {
                if (deputyUpto[i] < sum && standsOn(i, day)) {
                    best = Math.max(best, deputyUpto[i]);
                }
            }
            return best;
        }

        private static boolean areRoles(int roles) {
            return roles >= 0 && roles < 1 << ROLES;
        }

        private static boolean areDays(int from, int to) {
            return from >= 0 && from <= to && to <= LAST_DAY;
        }
    }

    /** One paper with the slots that its rule told as it was begun. */
    private static final class Paper {
        private final int kind;
        private final int sum;
        private final int maker;
        private final int place;
        private final boolean urgent;
        private int state = WITHOUT_RULE;
        private int joined = 0;
        private int begunOn = 0;
        private int slots = 0;
        private final int[] role = new int[MAX_SLOTS];
        private final int[] step = new int[MAX_SLOTS];
        private final int[] hand = new int[MAX_SLOTS];
        private final int[] name = new int[MAX_SLOTS];
        private final int[] signedOn = new int[MAX_SLOTS];

        Paper(int kind, int sum, int maker, int place, boolean urgent) {
            this.kind = kind;
            this.sum = sum;
            this.maker = maker;
            this.place = place;
            this.urgent = urgent;
        }

        void clearSlots() {
            slots = 0;
        }

        void addSlot(int slotRole, int slotStep) {
            if (slots >= MAX_SLOTS) {
                return;
            }
            role[slots] = slotRole;
            step[slots] = slotStep;
            hand[slots] = NONE;
            name[slots] = NONE;
            slots++;
        }

        boolean isSigned(int slot) {
            return hand[slot] != NONE;
        }

        int signedSlots() {
            int count = 0;
            for (int i = 0; i < slots; i++) {
                if (isSigned(i)) {
                    count++;
                }
            }
            return count;
        }

        int firstOpenStep() {
            for (int i = 0; i < slots; i++) {
                if (!isSigned(i)) {
                    return step[i];
                }
            }
            return slots == 0 ? 0 : step[slots - 1] + 1;
        }

        boolean isOpenNow(int slot) {
            return state == UNDER_WAY && slot >= 0 && slot < slots && !isSigned(slot) && step[slot] == firstOpenStep();
        }

        /** Who can't be hand or name of a further slot: the maker, and all hands and names so far. */
        int taken() {
            int bits = 1 << maker;
            for (int i = 0; i < slots; i++) {
                if (isSigned(i)) {
                    bits |= 1 << hand[i] | 1 << name[i];
                }
            }
            return bits;
        }

        void put(int slot, int byHand, int inName, int day) {
            hand[slot] = byHand;
            name[slot] = inName;
            signedOn[slot] = day;
            if (signedSlots() == slots) {
                state = DONE;
            }
        }
    }

    /** All papers, in the order in which they came. */
    private static final class Cabinet {
        private final Paper[] papers = new Paper[MAX_PAPERS];
        private int count = 0;

        int size() {
            return count;
        }

        boolean isFull() {
            return count >= MAX_PAPERS;
        }

        Paper at(int number) {
            return number < 0 || number >= count ? null : papers[number];
        }

        int add(Paper paper) {
            if (isFull()) {
                return NONE;
            }
            papers[count] = paper;
            count++;
            return count - 1;
        }

        /** What a paper begun now is joined with: all others were begun earlier, whatever their numbers. */
        int sumOfOthers(int number, int kind, int maker, int place, int firstDay) {
            int sum = 0;
            for (int i = 0; i < count; i++) {
                Paper p = papers[i];
                if (i == number || p == null || p.state == WITHDRAWN || p.begunOn < firstDay) {
                    continue;
                }
                if (p.kind == kind && p.maker == maker && p.place == place) {
                    sum += p.sum;
                }
            }
            return sum;
        }

        long total(int name, int role, int day, boolean month) {
            long sum = 0;
            for (int i = 0; i < count; i++) {
                Paper p = papers[i];
                if (p == null) {
                    continue;
                }
                for (int s = 0; s < p.slots; s++) {
                    if (p.name[s] == name && p.role[s] == role && isWithin(p.signedOn[s], day, month)) {
                        sum += p.sum;
                    }
                }
            }
            return sum;
        }

        private static boolean isWithin(int signedOn, int day, boolean month) {
            return month ? signedOn / DAYS_OF_MONTH == day / DAYS_OF_MONTH : signedOn == day;
        }
    }

    /** The rules and limits of one text. A rule's when is kept as operations behind their operands. */
    private static final class RuleBook {
        private static final int SUM_BELOW = 0;
        private static final int SUM_ABOVE = 1;
        private static final int PLACE_IS = 2;
        private static final int IS_URGENT = 3;
        private static final int NOT = 4;
        private static final int AND = 5;
        private static final int OR = 6;

        /** 60 tests, the 59 words that join them, and a not for each four of 1,000 bytes. */
        private static final int MAX_OPERATIONS = 400;

        private int rules = 0;
        private final int[] kindOf = new int[MAX_RULES];
        private final int[] firstOperation = new int[MAX_RULES];
        private final int[] endOfOperations = new int[MAX_RULES];
        private final int[] slotsOf = new int[MAX_RULES];
        private final int[] slotRole = new int[MAX_RULES * MAX_SLOTS];
        private final int[] slotStep = new int[MAX_RULES * MAX_SLOTS];
        private int operations = 0;
        private final int[] operation = new int[MAX_OPERATIONS];
        private final int[] operand = new int[MAX_OPERATIONS];
        private int tests = 0;
        private int limits = 0;
        private final int[] dayLimit = new int[ROLES];
        private final int[] monthLimit = new int[ROLES];

        RuleBook() {
            clear();
        }

        void clear() {
            rules = 0;
            operations = 0;
            tests = 0;
            limits = 0;
            for (int i = 0; i < ROLES; i++) {
                dayLimit[i] = NO_LIMIT;
                monthLimit[i] = NO_LIMIT;
            }
        }

        int ruleCount() {
            return rules;
        }

        int limitCount() {
            return limits;
        }

        boolean hasRoomForRule() {
            return rules < MAX_RULES;
        }

        boolean hasRoomForLimit() {
            return limits < ROLES;
        }

        boolean hasRoomForTest() {
            return tests < MAX_TESTS;
        }

        boolean hasLimit(int role) {
            return dayLimit[role] != NO_LIMIT || monthLimit[role] != NO_LIMIT;
        }

        void addLimit(int role, int day, int month) {
            dayLimit[role] = day;
            monthLimit[role] = month;
            limits++;
        }

        void addRule(int kind) {
            if (!hasRoomForRule()) {
                return;
            }
            kindOf[rules] = kind;
            firstOperation[rules] = operations;
            endOfOperations[rules] = operations;
            slotsOf[rules] = 0;
            rules++;
        }

        void addTest(int code, int number) {
            tests++;
            addOperation(code, number);
        }

        /** Operations and slots go to the newest rule. */
        void addOperation(int code, int number) {
            if (operations >= MAX_OPERATIONS || rules == 0) {
                return;
            }
            operation[operations] = code;
            operand[operations] = number;
            operations++;
            endOfOperations[rules - 1] = operations;
        }

        boolean hasRoomForSlots(int number) {
            return rules > 0 && slotsOf[rules - 1] + number <= MAX_SLOTS;
        }

        void addSlots(int number, int role, int step) {
            if (!hasRoomForSlots(number)) {
                return;
            }
            int rule = rules - 1;
            for (int i = 0; i < number; i++) {
                int at = rule * MAX_SLOTS + slotsOf[rule];
                slotRole[at] = role;
                slotStep[at] = step;
                slotsOf[rule]++;
            }
        }

        int slotCount(int rule) {
            return slotsOf[rule];
        }

        int roleOfSlot(int rule, int slot) {
            return slotRole[rule * MAX_SLOTS + slot];
        }

        void copySlots(int rule, Paper paper) {
            for (int i = 0; i < slotsOf[rule]; i++) {
                int at = rule * MAX_SLOTS + i;
                paper.addSlot(slotRole[at], slotStep[at]);
            }
        }

        int ruleFor(int kind, int joined, int place, boolean urgent) {
            for (int i = 0; i < rules; i++) {
                if (kindOf[i] == kind && holds(i, joined, place, urgent)) {
                    return i;
                }
            }
            return NONE;
        }

        /** The values that wait are bits of one number, the latest lowest: under twenty ever wait. */
        private boolean holds(int rule, int joined, int place, boolean urgent) {
            if (firstOperation[rule] == endOfOperations[rule]) {
                return true;
            }
            int values = 0;
            for (int i = firstOperation[rule]; i < endOfOperations[rule]; i++) {
                switch (operation[i]) {
                    case NOT:
                        values ^= 1;
                        break;
                    case AND:
                        values = values >> 2 << 1 | (values >> 1 & values & 1);
                        break;
                    case OR:
                        values = values >> 2 << 1 | ((values >> 1 | values) & 1);
                        break;
                    default:
                        values = values << 1 | (passes(i, joined, place, urgent) ? 1 : 0);
                        break;
                }
            }
            return (values & 1) != 0;
        }

        private boolean passes(int test, int joined, int place, boolean urgent) {
            switch (operation[test]) {
                case SUM_BELOW: return joined < operand[test];
                case SUM_ABOVE: return joined > operand[test];
                case PLACE_IS: return place == operand[test];
                default: return urgent;
            }
        }

        /** The greatest sum below the given one that passes another way than the next higher one. */
        int testBelow(int kind, int others, int sum) {
            int best = NONE;
            for (int i = 0; i < rules; i++) {
                if (kindOf[i] != kind) {
                    continue;
                }
                for (int k = firstOperation[i]; k < endOfOperations[i]; k++) {
                    int point = changePoint(k, others);
                    if (point < sum) {
                        best = Math.max(best, point);
                    }
                }
            }
            return best;
        }

        private int changePoint(int at, int others) {
            switch (operation[at]) {
                case SUM_BELOW: return operand[at] - 1 - others;
                case SUM_ABOVE: return operand[at] - others;
                default: return NONE;
            }
        }
    }

    /** The tape, and the reading of its text into a book; it stops at the first fault. */
    private static final class Reader {
        private static final int NO_FAULT = 0;
        private static final int NO_TOKEN = 1;
        private static final int WRONG_TOKEN = 2;
        private static final int LIMIT_TOLD = 3;
        private static final int WRONG_NUMBER = 4;

        /** Tokens: a sign is its own byte, a known word FIRST_WORD and its place in WORDS. */
        private static final int END = 0;
        private static final int BAD = 1;
        private static final int NUMBER = 2;
        private static final int OTHER_WORD = 3;
        private static final int FIRST_WORD = 200;
        private static final String WORDS = "rule limit when then and or not sum place urgent day month bill order pay trip clerk head chief money law board guard owner ";
        private static final int RULE = 200;
        private static final int LIMIT = 201;
        private static final int WHEN = 202;
        private static final int THEN = 203;
        private static final int AND = 204;
        private static final int OR = 205;
        private static final int NOT = 206;
        private static final int SUM = 207;
        private static final int PLACE = 208;
        private static final int URGENT = 209;
        private static final int DAY = 210;
        private static final int MONTH = 211;
        private static final int FIRST_KIND = 212;
        private static final int FIRST_ROLE = 216;

        private final byte[] tape = new byte[MAX_TAPE];
        private int length = 0;
        private int at = 0;
        private int start = 0;
        private int token = END;
        private int number = 0;
        private int fault = NO_FAULT;
        private int place = NONE;

        int size() {
            return length;
        }

        int faultNumber() {
            return fault;
        }

        int faultPlace() {
            return place;
        }

        boolean hasRoomFor(int bytes) {
            return length + bytes <= MAX_TAPE;
        }

        void put(int four) {
            if (!hasRoomFor(4)) {
                return;
            }
            for (int shift = 24; shift >= 0; shift -= 8) {
                tape[length] = (byte) (four >> shift);
                length++;
            }
        }

        int shorten(int n) {
            if (n < 0 || n > length) {
                return NONE;
            }
            length = n;
            return n;
        }

        boolean readInto(RuleBook book) {
            book.clear();
            fault = NO_FAULT;
            place = NONE;
            at = 0;
            advance();
            for (int line = 0; line < MAX_TAPE && token != END; line++) {
                boolean good = token == LIMIT
                    ? readLimit(book)
                    : readKind(book) && (token != WHEN || readEither(book, 0)) && readSteps(book);
                if (!good) {
                    return false;
                }
            }
            return true;
        }

        private boolean readKind(RuleBook book) {
            if (token != RULE || !book.hasRoomForRule()) {
                return wrongToken();
            }
            advance();
            if (token < FIRST_KIND || token >= FIRST_KIND + KINDS) {
                return wrongToken();
            }
            book.addRule(token - FIRST_KIND);
            advance();
            return true;
        }

        /** It stands at the sign or word in front of each need: a colon, a then or an and. */
        private boolean readSteps(RuleBook book) {
            if (token != ':') {
                return wrongToken();
            }
            int step = 0;
            int needs = 0;
            for (int need = 0; need < MAX_STEPS * MAX_NEEDS; need++) {
                advance();
                if (!readNeed(book, step)) {
                    return false;
                }
                needs++;
                if (token == THEN && step < MAX_STEPS - 1) {
                    step++;
                    needs = 0;
                } else if (token != AND || needs >= MAX_NEEDS) {
                    return take(';');
                }
            }
            return wrongToken();
        }

        private boolean readNeed(RuleBook book, int step) {
            if (token != NUMBER) {
                return wrongToken();
            }
            int hands = number;
            if (hands < 1 || hands > MAX_HANDS_OF_NEED || !book.hasRoomForSlots(hands)) {
                return wrong(WRONG_NUMBER);
            }
            advance();
            if (!isRole()) {
                return wrongToken();
            }
            book.addSlots(hands, token - FIRST_ROLE, step);
            advance();
            return true;
        }

        /** It stands at the sign or word in front of each one: a when, a bracket, an or or an and. */
        private boolean readEither(RuleBook book, int depth) {
            for (int ors = 0; ors < MAX_TAPE; ors++) {
                for (int ands = 0; ands == 0 || (ands < MAX_TAPE && token == AND); ands++) {
                    advance();
                    if (!readOne(book, depth)) {
                        return false;
                    }
                    if (ands > 0) {
                        book.addOperation(RuleBook.AND, 0);
                    }
                }
                if (ors > 0) {
                    book.addOperation(RuleBook.OR, 0);
                }
                if (token != OR) {
                    return true;
                }
            }
            return wrongToken();
        }

        /** The depth is how many others it is within; an e has its first token here, too. */
        private boolean readOne(RuleBook book, int depth) {
            if (depth >= MAX_DEPTH) {
                return wrongToken();
            }
            switch (token) {
                case NOT:
                    advance();
                    if (!readOne(book, depth + 1)) {
                        return false;
                    }
                    book.addOperation(RuleBook.NOT, 0);
                    return true;
                case '(':
                    return readEither(book, depth + 1) && take(')');
                case SUM:
                    return readSumTest(book);
                case PLACE:
                    return readPlaceTest(book);
                case URGENT:
                    return readUrgentTest(book);
                default:
                    return wrongToken();
            }
        }

        private boolean readSumTest(RuleBook book) {
            if (!book.hasRoomForTest()) {
                return wrongToken();
            }
            advance();
            if (token != '<' && token != '>') {
                return wrongToken();
            }
            int code = token == '<' ? RuleBook.SUM_BELOW : RuleBook.SUM_ABOVE;
            advance();
            if (token != NUMBER) {
                return wrongToken();
            }
            book.addTest(code, number);
            advance();
            return true;
        }

        private boolean readPlaceTest(RuleBook book) {
            if (!book.hasRoomForTest()) {
                return wrongToken();
            }
            advance();
            if (token != '=') {
                return wrongToken();
            }
            advance();
            if (token != NUMBER) {
                return wrongToken();
            }
            if (number >= PLACES) {
                return wrong(WRONG_NUMBER);
            }
            book.addTest(RuleBook.PLACE_IS, number);
            advance();
            return true;
        }

        private boolean readUrgentTest(RuleBook book) {
            if (!book.hasRoomForTest()) {
                return wrongToken();
            }
            book.addTest(RuleBook.IS_URGENT, 0);
            advance();
            return true;
        }

        private boolean readLimit(RuleBook book) {
            if (!book.hasRoomForLimit()) {
                return wrongToken();
            }
            advance();
            if (!isRole()) {
                return wrongToken();
            }
            int role = token - FIRST_ROLE;
            if (book.hasLimit(role)) {
                return wrong(LIMIT_TOLD);
            }
            advance();
            if (token != DAY && token != MONTH) {
                return wrongToken();
            }
            int day = readAmount(DAY);
            int month = day == NONE ? NONE : readAmount(MONTH);
            if (month == NONE) {
                return false;
            }
            book.addLimit(role, day, month);
            return take(';');
        }

        /** The amount behind a word, NO_LIMIT if the word is not there, NONE if there is a fault. */
        private int readAmount(int word) {
            if (token != word) {
                return NO_LIMIT;
            }
            advance();
            if (token != NUMBER) {
                wrongToken();
                return NONE;
            }
            int amount = number;
            advance();
            return amount;
        }

        private boolean take(int sign) {
            if (token != sign) {
                return wrongToken();
            }
            advance();
            return true;
        }

        private boolean isRole() {
            return token >= FIRST_ROLE && token < FIRST_ROLE + ROLES;
        }

        private boolean wrongToken() {
            return wrong(token == BAD ? NO_TOKEN : WRONG_TOKEN);
        }

        /** Answers false, so that a reader can end with it. */
        private boolean wrong(int what) {
            fault = what;
            place = start;
            return false;
        }

        private void advance() {
            while (at < length && (tape[at] == 32 || tape[at] == 10)) {
                at++;
            }
            start = at;
            if (at >= length) {
                token = END;
            } else if (isLetter(at)) {
                skipLetters();
                token = at - start > MAX_WORD ? BAD : wordToken();
            } else if (isDigit(at)) {
                readNumber();
            } else {
                token = isSign(tape[at]) ? tape[at] : BAD;
                at++;
            }
        }

        private void skipLetters() {
            while (at < length && isLetter(at)) {
                at++;
            }
        }

        private void readNumber() {
            number = 0;
            while (at < length && isDigit(at)) {
                number = number * 10 + tape[at] - '0';
                at++;
            }
            token = at - start > MAX_DIGITS || isLetter(at) ? BAD : NUMBER;
        }

        private int wordToken() {
            int word = FIRST_WORD;
            int i = start;
            boolean same = true;
            for (int k = 0; k < WORDS.length(); k++) {
                char c = WORDS.charAt(k);
                if (c != ' ') {
                    same = same && i < at && tape[i] == c;
                    i++;
                } else if (same && i == at) {
                    return word;
                } else {
                    word++;
                    i = start;
                    same = true;
                }
            }
            return OTHER_WORD;
        }

        private boolean isLetter(int where) {
            return where < length && tape[where] >= 'a' && tape[where] <= 'z';
        }

        private boolean isDigit(int where) {
            return where < length && tape[where] >= '0' && tape[where] <= '9';
        }

        private static boolean isSign(int c) {
            return c == ':' || c == ';' || c == '(' || c == ')' || c == '<' || c == '>' || c == '=';
        }
    }

    /** Who may sign what today, and the search for a way. */
    private static final class Search {
        private final Staff staff;
        private final Cabinet cabinet;
        private final int[] dayRoom = new int[MAX_PEOPLE * ROLES];
        private final int[] monthRoom = new int[MAX_PEOPLE * ROLES];
        private final int[] namesOf = new int[ROLES];
        private final int[] handsOf = new int[MAX_PEOPLE];
        private int open = 0;
        private final int[] openSlot = new int[MAX_SLOTS];
        private final int[] openRole = new int[MAX_SLOTS];
        private final int[] foundHand = new int[MAX_SLOTS];
        private final int[] foundName = new int[MAX_SLOTS];
        private int tries = 0;

        Search(Staff staff, Cabinet cabinet) {
            this.staff = staff;
            this.cabinet = cabinet;
        }

        /** How much more each name may sign in each role today, and this month. */
        void lookAtLimits(RuleBook book, int today) {
            for (int i = 0; i < MAX_PEOPLE * ROLES; i++) {
                dayRoom[i] = book.dayLimit[i % ROLES];
                monthRoom[i] = book.monthLimit[i % ROLES];
            }
            for (int i = 0; i < cabinet.size(); i++) {
                Paper p = cabinet.at(i);
                if (p != null) {
                    takeOff(p, today);
                }
            }
        }

        private void takeOff(Paper p, int today) {
            for (int s = 0; s < p.slots; s++) {
                if (!p.isSigned(s)) {
                    continue;
                }
                int at = p.name[s] * ROLES + p.role[s];
                if (Cabinet.isWithin(p.signedOn[s], today, false)) {
                    dayRoom[at] -= p.sum;
                }
                if (Cabinet.isWithin(p.signedOn[s], today, true)) {
                    monthRoom[at] -= p.sum;
                }
            }
        }

        private int room(int name, int role) {
            int at = name * ROLES + role;
            return Math.min(dayRoom[at], monthRoom[at]);
        }

        /** Who may be name in each role with a sum, and hand, if of the set, for each name. */
        void lookAtPeople(int sum, int today, int set) {
            int gone = staff.awayOn(today);
            for (int name = 0; name < staff.size(); name++) {
                handsOf[name] = staff.actingFor(name, sum, today, gone) & set;
            }
            for (int role = 0; role < ROLES; role++) {
                namesOf[role] = 0;
                for (int name = 0; name < staff.size(); name++) {
                    if (staff.hasRole(name, role) && sum <= room(name, role)) {
                        namesOf[role] |= 1 << name;
                    }
                }
            }
        }

        boolean allows(int role, int name, int hand, int taken) {
            return isIn(namesOf[role] & ~taken, name) && isIn(handsOf[name] & ~taken, hand);
        }

        int handsFor(int role, int taken) {
            int hands = 0;
            for (int name = 0; name < staff.size(); name++) {
                if (isIn(namesOf[role] & ~taken, name)) {
                    hands |= handsOf[name] & ~taken;
                }
            }
            return hands;
        }

        /** The greatest room of a name in a role that is below a sum. */
        int roomBelow(int sum) {
            int best = NONE;
            for (int name = 0; name < staff.size(); name++) {
                for (int role = 0; role < ROLES; role++) {
                    int room = room(name, role);
                    if (room < sum && staff.hasRole(name, role)) {
                        best = Math.max(best, room);
                    }
                }
            }
            return best;
        }

        void openSlotsOf(Paper p) {
            open = 0;
            for (int slot = 0; slot < p.slots; slot++) {
                if (!p.isSigned(slot)) {
                    addOpen(slot, p.role[slot]);
                }
            }
        }

        void openSlotsOfRule(RuleBook book, int rule) {
            open = 0;
            for (int slot = 0; slot < book.slotCount(rule); slot++) {
                addOpen(slot, book.roleOfSlot(rule, slot));
            }
        }

        private void addOpen(int slot, int role) {
            if (open >= MAX_SLOTS) {
                return;
            }
            openSlot[open] = slot;
            openRole[open] = role;
            open++;
        }

        int seekWay(int taken) {
            tries = 0;
            if (seekFrom(0, taken)) {
                return open;
            }
            return tries > MAX_TRIES ? TOO_MANY_TRIES : NO_WAY;
        }

        /** Pairs that can't sign are counted as tries together, not looked at one by one. */
        private boolean seekFrom(int depth, int taken) {
            if (depth >= open) {
                return true;
            }
            int people = staff.size();
            int names = namesOf[openRole[depth]] & ~taken;
            int counted = 0;
            for (int name = 0; name < people; name++) {
                int hands = isIn(names, name) ? handsOf[name] & ~taken : 0;
                for (int hand = 0; hand < people && hands >> hand != 0; hand++) {
                    if (!isIn(hands, hand)) {
                        continue;
                    }
                    int pairs = name * people + hand + 1;
                    tries += pairs - counted;
                    counted = pairs;
                    if (tries > MAX_TRIES) {
                        return false;
                    }
                    foundName[depth] = name;
                    foundHand[depth] = hand;
                    if (seekFrom(depth + 1, taken | 1 << name | 1 << hand)) {
                        return true;
                    }
                    if (tries > MAX_TRIES) {
                        return false;
                    }
                }
            }
            tries += people * people - counted;
            return false;
        }

        void copyWay(int[] hands, int[] names) {
            for (int i = 0; i < MAX_SLOTS; i++) {
                hands[i] = NONE;
                names[i] = NONE;
            }
            for (int i = 0; i < open; i++) {
                hands[openSlot[i]] = foundHand[i];
                names[openSlot[i]] = foundName[i];
            }
        }
    }
}
