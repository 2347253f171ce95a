import java.util.NoSuchElementException;

/** A chapel that keeps unfinished bridges. README.md tells how to use it. */
public final class BridgeChapel {
    private static final int JOINTS = 8;
    private static final int MOST_MEMBERS = 16;
    private static final int MOST_STRENGTH = 99;
    private static final int MOST_CRACK = 9;
    private static final int MOST_LOAD = 99;
    private static final int NICHE_PLACES = 4;
    private static final int MOST_WEIGHT = 20;
    private static final int FIRST_STEEL = 30;
    private static final int FIRST_FORGE = 5;
    private static final int MOST_FORGE = 20;
    private static final int MOST_VOWS = 8;
    private static final int MOST_AMOUNT = 99;
    private static final int LONGEST_VOW = 50;
    private static final int MOST_DAYS = 30;
    private static final int MOST_UNDO = 8;
    private static final int TEXT_ROOM = 60;
    private static final char CANDLES = 'c';
    private static final char LAMPS = 'l';
    private static final int NONE = -1;

    // A fault tells which exception a call deserves. Scripts ask for faults instead of catching exceptions,
    // so that a failing command is known before it has touched anything.
    private static final int FINE = 0;
    private static final int NO_INDEX = 1;
    private static final int BAD_ARGUMENT = 2;
    private static final int BAD_STATE = 3;
    private static final int NO_ELEMENT = 4;
    private static final int NOT_POSSIBLE = 5;
    private static final int NO_DIVISOR = 6;

    private final State state = new State();
    private final State snapshot = new State();
    private final State beforeScript = new State();
    private final History history = new History();
    private final Ways ways = new Ways();
    private final CriticalSearch criticalSearch = new CriticalSearch();
    private final RepairPlan repairPlan = new RepairPlan();
    private final Script script = new Script();
    private final Text output = new Text();
    private boolean hasSnapshot = false;
    private int lastErrorPosition = NONE;
    private int lastFailedCommand = NONE;

    public BridgeChapel() {
    }

    // ---- Changes ----

    public int addMember(int one, int other, int strength)
            throws IndexOutOfBoundsException, IllegalArgumentException, IllegalStateException {
        refuse(memberFault(one, other, strength));
        history.remember(state);
        return state.members.append(one, other, strength);
    }

    public int procession(int from, int to, int load)
            throws IndexOutOfBoundsException, IllegalArgumentException, NoSuchElementException,
            UnsupportedOperationException {
        refuse(walkFault(from, to, load));
        history.remember(state);
        return walk(from, to, load);
    }

    public int makeVow(int dueDay, int amount) throws IllegalArgumentException, IllegalStateException {
        refuse(vowFault(dueDay, amount));
        history.remember(state);
        return state.treasury.promise(dueDay, amount);
    }

    public int setForge(int units) throws IllegalArgumentException {
        refuse(forgeFault(units));
        history.remember(state);
        return state.treasury.heatForge(units);
    }

    public int repair(int member)
            throws IndexOutOfBoundsException, IllegalStateException, UnsupportedOperationException {
        refuse(mendFault(member));
        history.remember(state);
        return mend(member);
    }

    public int abandon(int member) throws IndexOutOfBoundsException, IllegalStateException {
        refuse(leaveFault(member, false));
        history.remember(state);
        return state.members.leave(member, true);
    }

    public int resume(int member) throws IndexOutOfBoundsException, IllegalStateException {
        refuse(leaveFault(member, true));
        history.remember(state);
        return state.members.leave(member, false);
    }

    public int setNiche(char kind) throws IllegalArgumentException {
        refuse(nicheFault(kind));
        history.remember(state);
        return state.niche.dedicate(kind);
    }

    public int put(int place, char kind, int weight)
            throws IndexOutOfBoundsException, IllegalArgumentException, UnsupportedOperationException,
            IllegalStateException {
        refuse(placeFault(place, kind, weight));
        history.remember(state);
        return state.niche.place(place, weight);
    }

    public int passDays(int days) throws IllegalArgumentException {
        refuse(daysFault(days));
        history.remember(state);
        return state.treasury.pass(days);
    }

    // ---- Members ----

    public int memberCount() {
        return state.members.count;
    }

    public int firstJoint(int member) throws IndexOutOfBoundsException {
        refuse(indexFault(member));
        return state.members.first[member];
    }

    public int secondJoint(int member) throws IndexOutOfBoundsException {
        refuse(indexFault(member));
        return state.members.second[member];
    }

    public int crack(int member) throws IndexOutOfBoundsException {
        refuse(indexFault(member));
        return state.members.crack[member];
    }

    public int wear(int member) throws IndexOutOfBoundsException {
        refuse(indexFault(member));
        return state.members.wear[member];
    }

    public boolean isAbandoned(int member) throws IndexOutOfBoundsException {
        refuse(indexFault(member));
        return state.members.abandoned[member];
    }

    public int bearing(int member) throws IndexOutOfBoundsException {
        refuse(indexFault(member));
        return state.members.bearingOf(member);
    }

    public int repairCost(int member) throws IndexOutOfBoundsException {
        refuse(indexFault(member));
        return state.members.costOf(member);
    }

    public float strain(int member, int load) throws IndexOutOfBoundsException, ArithmeticException {
        refuse(strainFault(member));
        return strainOf(member, load);
    }

    public int strainBits(int member, int load) throws IndexOutOfBoundsException, ArithmeticException {
        refuse(strainFault(member));
        return bitsOf(strainOf(member, load));
    }

    public int memberByBearing(int rank) throws NoSuchElementException {
        int member = state.members.atRank(rank);
        refuse(member == NONE ? NO_ELEMENT : FINE);
        return member;
    }

    public double meanBearing() throws ArithmeticException {
        int count = state.members.count;
        refuse(count == 0 ? NO_DIVISOR : FINE);
        return (double) state.members.bearingSum() / (double) count;
    }

    public float crackedShare() throws ArithmeticException {
        int count = state.members.count;
        refuse(count == 0 ? NO_DIVISOR : FINE);
        return (float) state.members.crackedCount() / (float) count;
    }

    // ---- Ways ----

    public long links() {
        ways.survey(state.members);
        return ways.linkBits();
    }

    public int widestLoad(int from, int to)
            throws IndexOutOfBoundsException, IllegalArgumentException, NoSuchElementException {
        refuse(pairFault(from, to));
        ways.survey(state.members);
        return found(ways.widestByGrowing(from, to));
    }

    public int widestLoadByTrial(int from, int to)
            throws IndexOutOfBoundsException, IllegalArgumentException, NoSuchElementException {
        refuse(pairFault(from, to));
        return found(widestByTrial(from, to));
    }

    public int wayLength(int from, int to)
            throws IndexOutOfBoundsException, IllegalArgumentException, NoSuchElementException {
        refuse(wayFault(from, to));
        return ways.length;
    }

    public int wayJoint(int from, int to, int position)
            throws IndexOutOfBoundsException, IllegalArgumentException, NoSuchElementException {
        refuse(wayFault(from, to));
        refuse(position < 0 || position > ways.length ? NO_ELEMENT : FINE);
        return ways.joints[position];
    }

    public boolean isCritical(int member) throws IndexOutOfBoundsException {
        refuse(indexFault(member));
        return criticalBySearch(member);
    }

    public boolean isCriticalByRemoval(int member) throws IndexOutOfBoundsException {
        refuse(indexFault(member));
        return criticalByRemoval(member);
    }

    public int affordableLoad(int from, int to)
            throws IndexOutOfBoundsException, IllegalArgumentException, NoSuchElementException {
        refuse(pairFault(from, to));
        return found(repairPlan.loadByWays(state.members, state.treasury.steel, from, to));
    }

    public int affordableLoadByTable(int from, int to)
            throws IndexOutOfBoundsException, IllegalArgumentException, NoSuchElementException {
        refuse(pairFault(from, to));
        repairPlan.fillTable(state.members, state.treasury.steel);
        return found(repairPlan.tableLoad[from][to]);
    }

    // ---- The niche ----

    public char nicheKind() {
        return state.niche.kind;
    }

    public int nicheWeight() {
        return state.niche.total();
    }

    // ---- Steel and vows ----

    public int vowCount() {
        return state.treasury.waiting;
    }

    public int vowAt(int position) throws NoSuchElementException {
        int slot = state.treasury.slotAtRank(position);
        refuse(slot == NONE ? NO_ELEMENT : FINE);
        return state.treasury.ids[slot];
    }

    public int dueDay(int vow) throws NoSuchElementException {
        int slot = state.treasury.slotOf(vow);
        refuse(slot == NONE ? NO_ELEMENT : FINE);
        return state.treasury.dueDays[slot];
    }

    public int amount(int vow) throws NoSuchElementException {
        int slot = state.treasury.slotOf(vow);
        refuse(slot == NONE ? NO_ELEMENT : FINE);
        return state.treasury.amounts[slot];
    }

    public boolean canKeepAll() {
        return state.treasury.keepsAllDayByDay();
    }

    public boolean canKeepAllBySums() {
        return state.treasury.keepsAllBySums();
    }

    public int greatestVow(int dueDay) throws IllegalArgumentException, NoSuchElementException {
        refuse(state.treasury.isDueDayAllowed(dueDay) ? FINE : BAD_ARGUMENT);
        refuse(state.treasury.keepsAllDayByDay() ? FINE : NO_ELEMENT);
        return state.treasury.greatestFurther(dueDay);
    }

    public int keptTotal() {
        return state.treasury.kept;
    }

    public int brokenTotal() {
        return state.treasury.broken;
    }

    public int steel() {
        return state.treasury.steel;
    }

    public int steelByAccounts() {
        return state.treasury.accountedSteel();
    }

    public int day() {
        return state.treasury.today;
    }

    // ---- The whole state ----

    public boolean isConsistent() {
        return waysAgree() && criticalMembersAgree()
                && state.treasury.keepsAllDayByDay() == state.treasury.keepsAllBySums()
                && state.treasury.steel == state.treasury.accountedSteel();
    }

    public int undo() throws IllegalStateException {
        refuse(history.count == 0 ? BAD_STATE : FINE);
        history.takeBack(state);
        return history.count;
    }

    public int save() {
        snapshot.copyFrom(state);
        hasSnapshot = true;
        return state.members.count;
    }

    public int restore() throws IllegalStateException {
        refuse(hasSnapshot ? FINE : BAD_STATE);
        state.copyFrom(snapshot);
        history.forget();
        return state.members.count;
    }

    // ---- The output text ----

    public int renderMember(int member) throws IndexOutOfBoundsException {
        refuse(indexFault(member));
        Members members = state.members;
        output.clear();
        output.appendNumber(member);
        output.append(':');
        output.appendNumber(members.first[member]);
        output.append('-');
        output.appendNumber(members.second[member]);
        output.append('s');
        output.appendNumber(members.strength[member]);
        output.append('c');
        output.appendNumber(members.crack[member]);
        output.append('w');
        output.appendNumber(members.wear[member]);
        if (members.abandoned[member]) {
            output.append('x');
        }
        return output.length;
    }

    public int renderWay(int from, int to)
            throws IndexOutOfBoundsException, IllegalArgumentException, NoSuchElementException {
        refuse(wayFault(from, to));
        output.clear();
        for (int position = 0; position <= ways.length && position < JOINTS; position++) {
            if (position > 0) {
                output.append('>');
            }
            output.appendNumber(ways.joints[position]);
        }
        return output.length;
    }

    public char outputAt(int index) throws IndexOutOfBoundsException {
        refuse(output.has(index) ? FINE : NO_INDEX);
        return output.at(index);
    }

    // ---- Scripts ----

    public int type(char character) throws IllegalArgumentException, IllegalStateException {
        refuse(character < 32 || character > 126 ? BAD_ARGUMENT : FINE);
        refuse(script.text.length >= TEXT_ROOM ? BAD_STATE : FINE);
        script.text.append(character);
        return script.text.length;
    }

    public int runScript() throws IllegalArgumentException, IllegalStateException {
        boolean wellFormed = script.parse();
        script.text.clear();
        if (!wellFormed) {
            lastErrorPosition = script.position;
            throw new IllegalArgumentException("the script does not have the required form");
        }
        int failed = runCommands();
        if (failed != NONE) {
            lastFailedCommand = failed;
            throw new IllegalStateException("a command of the script failed");
        }
        return script.count;
    }

    public int errorPosition() throws NoSuchElementException {
        refuse(lastErrorPosition == NONE ? NO_ELEMENT : FINE);
        return lastErrorPosition;
    }

    public int failedCommand() throws NoSuchElementException {
        refuse(lastFailedCommand == NONE ? NO_ELEMENT : FINE);
        return lastFailedCommand;
    }

    // ---- Faults ----

    private static void refuse(int fault) {
        switch (fault) {
            case NO_INDEX:
                throw new IndexOutOfBoundsException("there is no such index");
            case BAD_ARGUMENT:
                throw new IllegalArgumentException("an argument is not allowed");
            case BAD_STATE:
                throw new IllegalStateException("the chapel is not in a state for this call");
            case NO_ELEMENT:
                throw new NoSuchElementException("there is no such thing");
            case NOT_POSSIBLE:
                throw new UnsupportedOperationException("this is not possible now");
            case NO_DIVISOR:
                throw new ArithmeticException("there is nothing to divide by");
            default:
                return;
        }
    }

    private static int found(int load) {
        refuse(load == 0 ? NO_ELEMENT : FINE);
        return load;
    }

    private static boolean isJoint(int joint) {
        return joint >= 0 && joint < JOINTS;
    }

    private static boolean isKind(char kind) {
        return kind == CANDLES || kind == LAMPS;
    }

    private static int pairFault(int one, int other) {
        if (!isJoint(one) || !isJoint(other)) {
            return NO_INDEX;
        }
        return one == other ? BAD_ARGUMENT : FINE;
    }

    private int indexFault(int member) {
        return state.members.has(member) ? FINE : NO_INDEX;
    }

    /** As a side effect, the best way between the joints stands in ways when there is no fault. */
    private int wayFault(int from, int to) {
        int fault = pairFault(from, to);
        if (fault != FINE) {
            return fault;
        }
        ways.survey(state.members);
        return ways.findBest(from, to) == 0 ? NO_ELEMENT : FINE;
    }

    private int strainFault(int member) {
        if (!state.members.has(member)) {
            return NO_INDEX;
        }
        return state.members.bearingOf(member) == 0 ? NO_DIVISOR : FINE;
    }

    private int memberFault(int one, int other, int strength) {
        int fault = pairFault(one, other);
        if (fault != FINE) {
            return fault;
        }
        if (strength < 1 || strength > MOST_STRENGTH) {
            return BAD_ARGUMENT;
        }
        boolean full = state.members.count >= MOST_MEMBERS;
        return full || state.members.between(one, other) != NONE ? BAD_STATE : FINE;
    }

    private int walkFault(int from, int to, int load) {
        int fault = pairFault(from, to);
        if (fault != FINE) {
            return fault;
        }
        if (load < 1 || load > MOST_LOAD) {
            return BAD_ARGUMENT;
        }
        ways.survey(state.members);
        int widest = ways.widestByGrowing(from, to);
        if (widest == 0) {
            return NO_ELEMENT;
        }
        return widest < load + state.niche.total() ? NOT_POSSIBLE : FINE;
    }

    private int vowFault(int dueDay, int amount) {
        if (!state.treasury.isDueDayAllowed(dueDay) || amount < 1 || amount > MOST_AMOUNT) {
            return BAD_ARGUMENT;
        }
        return state.treasury.waiting >= MOST_VOWS ? BAD_STATE : FINE;
    }

    private static int forgeFault(int units) {
        return units < 0 || units > MOST_FORGE ? BAD_ARGUMENT : FINE;
    }

    private int mendFault(int member) {
        if (!state.members.has(member)) {
            return NO_INDEX;
        }
        if (state.members.abandoned[member]) {
            return BAD_STATE;
        }
        return state.treasury.steel < state.members.costOf(member) ? NOT_POSSIBLE : FINE;
    }

    private int leaveFault(int member, boolean wantedAbandoned) {
        if (!state.members.has(member)) {
            return NO_INDEX;
        }
        return state.members.abandoned[member] == wantedAbandoned ? FINE : BAD_STATE;
    }

    private static int nicheFault(char kind) {
        return isKind(kind) ? FINE : BAD_ARGUMENT;
    }

    private int placeFault(int place, char kind, int weight) {
        if (place < 0 || place >= NICHE_PLACES) {
            return NO_INDEX;
        }
        if (!isKind(kind) || weight < 1 || weight > MOST_WEIGHT) {
            return BAD_ARGUMENT;
        }
        if (kind != state.niche.kind) {
            return NOT_POSSIBLE;
        }
        return state.niche.weights[place] > 0 ? BAD_STATE : FINE;
    }

    private static int daysFault(int days) {
        return days < 1 || days > MOST_DAYS ? BAD_ARGUMENT : FINE;
    }

    // ---- What the calls share ----

    private int walk(int from, int to, int load) {
        Members members = state.members;
        int fullLoad = load + state.niche.total();
        ways.survey(members);
        ways.findBest(from, to);
        for (int step = 0; step < ways.length && step + 1 < JOINTS; step++) {
            int member = members.between(ways.joints[step], ways.joints[step + 1]);
            if (member != NONE) {
                members.wearDown(member, fullLoad);
            }
        }
        return ways.length;
    }

    private int mend(int member) {
        int cost = state.members.costOf(member);
        state.treasury.payRepair(cost);
        state.members.renew(member);
        return cost;
    }

    private float strainOf(int member, int load) {
        int bearing = state.members.bearingOf(member);
        return bearing == 0 ? 0.0f : (float) load / (float) bearing;
    }

    /** The bits are worked out by arithmetic because LANGUAGE.md leaves Float.floatToIntBits out. */
    private static int bitsOf(float value) {
        if (value == 0.0f) {
            return 0;
        }
        int sign = value < 0.0f ? 1 << 31 : 0;
        float size = value < 0.0f ? -value : value;
        int exponent = 127;
        // A strain lies between 1/99 and 2 to the power of 31, so 32 halvings or doublings are enough.
        for (int step = 0; step < 32 && size >= 2.0f; step++) {
            size = size / 2.0f;
            exponent++;
        }
        for (int step = 0; step < 32 && size < 1.0f; step++) {
            size = size * 2.0f;
            exponent--;
        }
        int fraction = (int) ((size - 1.0f) * 8388608.0f);
        return sign | exponent << 23 | fraction;
    }

    private int widestByTrial(int from, int to) {
        for (int load = MOST_LOAD; load >= 1; load--) {
            // Only a load that some member just bears can be the greatest one.
            if (state.members.someBears(load) && state.members.connects(from, to, load, NONE)) {
                return load;
            }
        }
        return 0;
    }

    private boolean criticalBySearch(int member) {
        Members members = state.members;
        if (members.bearingOf(member) == 0) {
            return false;
        }
        ways.survey(members);
        return criticalSearch.separates(ways.bearing, members.first[member], members.second[member]);
    }

    private boolean criticalByRemoval(int member) {
        Members members = state.members;
        return members.bearingOf(member) > 0
                && !members.connects(members.first[member], members.second[member], 1, member);
    }

    private boolean waysAgree() {
        Members members = state.members;
        int steel = state.treasury.steel;
        ways.survey(members);
        repairPlan.fillTable(members, steel);
        for (int from = 0; from < JOINTS; from++) {
            for (int to = 0; to < JOINTS; to++) {
                if (from == to) {
                    continue;
                }
                if (ways.widestByGrowing(from, to) != widestByTrial(from, to)
                        || repairPlan.loadByWays(members, steel, from, to) != repairPlan.tableLoad[from][to]) {
                    return false;
                }
            }
        }
        return true;
    }

    private boolean criticalMembersAgree() {
        for (int member = 0; member < state.members.count; member++) {
            if (criticalBySearch(member) != criticalByRemoval(member)) {
                return false;
            }
        }
        return true;
    }

    /** Runs all commands of the parsed script or none; answers the index of the one that failed, or NONE. */
    private int runCommands() {
        // The history is full at times, so the way back from a failing script has a state of its own.
        beforeScript.copyFrom(state);
        for (int index = 0; index < script.count; index++) {
            if (commandFault(index) != FINE) {
                state.copyFrom(beforeScript);
                return index;
            }
            carryOut(index);
        }
        history.remember(beforeScript);
        return NONE;
    }

    private int commandFault(int index) {
        int one = script.argument(index, 0);
        int two = script.argument(index, 1);
        int three = script.argument(index, 2);
        switch (script.kindAt(index)) {
            case Script.MEMBER:
                return memberFault(one, two, three);
            case Script.WALK:
                return walkFault(one, two, three);
            case Script.VOW:
                return vowFault(one, two);
            case Script.FORGE:
                return forgeFault(one);
            case Script.REPAIR:
                return mendFault(one);
            case Script.ABANDON:
                return leaveFault(one, false);
            case Script.RESUME:
                return leaveFault(one, true);
            case Script.NICHE:
                return nicheFault((char) one);
            case Script.PUT:
                return placeFault(one, (char) two, three);
            case Script.DAY:
                return daysFault(one);
            default:
                return BAD_ARGUMENT;
        }
    }

    /** Asks nothing: commandFault has found no fault in the command. */
    private void carryOut(int index) {
        int one = script.argument(index, 0);
        int two = script.argument(index, 1);
        int three = script.argument(index, 2);
        switch (script.kindAt(index)) {
            case Script.MEMBER:
                state.members.append(one, two, three);
                break;
            case Script.WALK:
                walk(one, two, three);
                break;
            case Script.VOW:
                state.treasury.promise(one, two);
                break;
            case Script.FORGE:
                state.treasury.heatForge(one);
                break;
            case Script.REPAIR:
                mend(one);
                break;
            case Script.ABANDON:
                state.members.leave(one, true);
                break;
            case Script.RESUME:
                state.members.leave(one, false);
                break;
            case Script.NICHE:
                state.niche.dedicate((char) one);
                break;
            case Script.PUT:
                state.niche.place(one, three);
                break;
            case Script.DAY:
                state.treasury.pass(one);
                break;
            default:
                break;
        }
    }

    /** The members of the bridge, each with the same index in every row. */
    private static final class Members {
        private int count = 0;
        private final int[] first = new int[MOST_MEMBERS];
        private final int[] second = new int[MOST_MEMBERS];
        private final int[] strength = new int[MOST_MEMBERS];
        private final int[] crack = new int[MOST_MEMBERS];
        private final int[] wear = new int[MOST_MEMBERS];
        private final boolean[] abandoned = new boolean[MOST_MEMBERS];

        void copyFrom(Members other) {
            count = other.count;
            System.arraycopy(other.first, 0, first, 0, MOST_MEMBERS);
            System.arraycopy(other.second, 0, second, 0, MOST_MEMBERS);
            System.arraycopy(other.strength, 0, strength, 0, MOST_MEMBERS);
            System.arraycopy(other.crack, 0, crack, 0, MOST_MEMBERS);
            System.arraycopy(other.wear, 0, wear, 0, MOST_MEMBERS);
            // LANGUAGE.md has System.arraycopy for arrays of numbers alone.
            for (int member = 0; member < MOST_MEMBERS; member++) {
                abandoned[member] = other.abandoned[member];
            }
        }

        boolean has(int member) {
            return member >= 0 && member < count;
        }

        int bearingOf(int member) {
            return abandoned[member] ? 0 : strength[member] * (10 - crack[member]) / 10;
        }

        int costOf(int member) {
            return (strength[member] + 9) / 10 * crack[member];
        }

        int between(int one, int other) {
            for (int member = 0; member < count; member++) {
                if (first[member] == one && second[member] == other
                        || first[member] == other && second[member] == one) {
                    return member;
                }
            }
            return NONE;
        }

        int append(int one, int other, int strong) {
            int member = count;
            if (member >= MOST_MEMBERS) {
                return NONE;
            }
            first[member] = Math.min(one, other);
            second[member] = Math.max(one, other);
            strength[member] = strong;
            crack[member] = 0;
            wear[member] = 0;
            abandoned[member] = false;
            count++;
            return member;
        }

        void wearDown(int member, int fullLoad) {
            int worn = wear[member] + fullLoad;
            crack[member] = Math.min(MOST_CRACK, crack[member] + worn / 100);
            wear[member] = worn % 100;
        }

        void renew(int member) {
            crack[member] = 0;
            wear[member] = 0;
        }

        /** Answers how many members are abandoned afterwards. */
        int leave(int member, boolean isLeft) {
            abandoned[member] = isLeft;
            int left = 0;
            for (int index = 0; index < count; index++) {
                if (abandoned[index]) {
                    left++;
                }
            }
            return left;
        }

        int bearingSum() {
            int sum = 0;
            for (int member = 0; member < count; member++) {
                sum += bearingOf(member);
            }
            return sum;
        }

        int crackedCount() {
            int cracked = 0;
            for (int member = 0; member < count; member++) {
                if (crack[member] > 0) {
                    cracked++;
                }
            }
            return cracked;
        }

        int atRank(int rank) {
            for (int member = 0; member < count; member++) {
                if (rankOf(member) == rank) {
                    return member;
                }
            }
            return NONE;
        }

        private int rankOf(int member) {
            int rank = 0;
            for (int other = 0; other < count; other++) {
                if (comesBefore(other, member)) {
                    rank++;
                }
            }
            return rank;
        }

        private boolean comesBefore(int one, int other) {
            int oneBearing = bearingOf(one);
            int otherBearing = bearingOf(other);
            if (oneBearing != otherBearing) {
                return oneBearing < otherBearing;
            }
            if (crack[one] != crack[other]) {
                return crack[one] > crack[other];
            }
            return one < other;
        }

        boolean someBears(int load) {
            for (int member = 0; member < count; member++) {
                if (bearingOf(member) == load) {
                    return true;
                }
            }
            return false;
        }

        /** Whether members that bear the load, one of them left out, lead from one joint to the other one. */
        boolean connects(int from, int to, int load, int leftOut) {
            int reached = 1 << from;
            // Each round but the last reaches a new joint, so seven rounds reach all that can be reached.
            for (int round = 1; round < JOINTS; round++) {
                for (int member = 0; member < count; member++) {
                    int ends = 1 << first[member] | 1 << second[member];
                    if (member != leftOut && (reached & ends) != 0 && bearingOf(member) >= load) {
                        reached = reached | ends;
                    }
                }
            }
            return (reached & 1 << to) != 0;
        }
    }

    /** The niche; a weight of 0 means that the place is free. */
    private static final class Niche {
        private char kind = CANDLES;
        private final int[] weights = new int[NICHE_PLACES];

        void copyFrom(Niche other) {
            kind = other.kind;
            System.arraycopy(other.weights, 0, weights, 0, NICHE_PLACES);
        }

        int total() {
            int sum = 0;
            for (int place = 0; place < NICHE_PLACES; place++) {
                sum += weights[place];
            }
            return sum;
        }

        int dedicate(char newKind) {
            int before = total();
            kind = newKind;
            for (int place = 0; place < NICHE_PLACES; place++) {
                weights[place] = 0;
            }
            return before;
        }

        int place(int place, int weight) {
            weights[place] = weight;
            return total();
        }
    }

    /** Days, steel and the vows that wait; the vows stand in ascending order of ids. */
    private static final class Treasury {
        private int today = 0;
        private int steel = FIRST_STEEL;
        private int forge = FIRST_FORGE;
        private int forged = 0;
        private int givenForVows = 0;
        private int givenForRepairs = 0;
        private int kept = 0;
        private int broken = 0;
        private int nextId = 0;
        private int waiting = 0;
        private final int[] ids = new int[MOST_VOWS];
        private final int[] dueDays = new int[MOST_VOWS];
        private final int[] amounts = new int[MOST_VOWS];

        void copyFrom(Treasury other) {
            today = other.today;
            steel = other.steel;
            forge = other.forge;
            forged = other.forged;
            givenForVows = other.givenForVows;
            givenForRepairs = other.givenForRepairs;
            kept = other.kept;
            broken = other.broken;
            nextId = other.nextId;
            waiting = other.waiting;
            System.arraycopy(other.ids, 0, ids, 0, MOST_VOWS);
            System.arraycopy(other.dueDays, 0, dueDays, 0, MOST_VOWS);
            System.arraycopy(other.amounts, 0, amounts, 0, MOST_VOWS);
        }

        boolean isDueDayAllowed(int due) {
            return due > today && due <= today + LONGEST_VOW;
        }

        int promise(int due, int units) {
            if (waiting >= MOST_VOWS) {
                return NONE;
            }
            int id = nextId;
            ids[waiting] = id;
            dueDays[waiting] = due;
            amounts[waiting] = units;
            waiting++;
            nextId++;
            return id;
        }

        int heatForge(int units) {
            int before = forge;
            forge = units;
            return before;
        }

        void payRepair(int cost) {
            steel -= cost;
            givenForRepairs += cost;
        }

        /** Answers how many vows were kept in these days. */
        int pass(int days) {
            int keptBefore = kept;
            for (int passed = 0; passed < days; passed++) {
                today++;
                steel += forge;
                forged += forge;
                settleDueVows();
            }
            return kept - keptBefore;
        }

        private void settleDueVows() {
            int stillWaiting = 0;
            for (int slot = 0; slot < waiting; slot++) {
                if (dueDays[slot] <= today) {
                    settle(amounts[slot]);
                } else {
                    ids[stillWaiting] = ids[slot];
                    dueDays[stillWaiting] = dueDays[slot];
                    amounts[stillWaiting] = amounts[slot];
                    stillWaiting++;
                }
            }
            waiting = stillWaiting;
        }

        private void settle(int units) {
            if (steel >= units) {
                steel -= units;
                givenForVows += units;
                kept++;
            } else {
                broken++;
            }
        }

        int accountedSteel() {
            return FIRST_STEEL + forged - givenForVows - givenForRepairs;
        }

        int slotOf(int id) {
            for (int slot = 0; slot < waiting; slot++) {
                if (ids[slot] == id) {
                    return slot;
                }
            }
            return NONE;
        }

        int slotAtRank(int rank) {
            for (int slot = 0; slot < waiting; slot++) {
                if (rankOfSlot(slot) == rank) {
                    return slot;
                }
            }
            return NONE;
        }

        private int rankOfSlot(int slot) {
            int rank = 0;
            for (int other = 0; other < waiting; other++) {
                boolean sameDay = dueDays[other] == dueDays[slot];
                if (dueDays[other] < dueDays[slot] || sameDay && ids[other] < ids[slot]) {
                    rank++;
                }
            }
            return rank;
        }

        boolean keepsAllDayByDay() {
            int units = steel;
            // No vow waits longer than this, so later days settle nothing.
            for (int ahead = 1; ahead <= LONGEST_VOW; ahead++) {
                units += forge;
                for (int slot = 0; slot < waiting; slot++) {
                    if (dueDays[slot] == today + ahead) {
                        units -= amounts[slot];
                    }
                }
                if (units < 0) {
                    return false;
                }
            }
            return true;
        }

        boolean keepsAllBySums() {
            for (int slot = 0; slot < waiting; slot++) {
                if (spareOn(dueDays[slot]) < 0) {
                    return false;
                }
            }
            return true;
        }

        /** What is left on a day of the steel made by then if all vows due by then are kept. */
        private int spareOn(int due) {
            int spare = steel + forge * (due - today);
            for (int slot = 0; slot < waiting; slot++) {
                if (dueDays[slot] <= due) {
                    spare -= amounts[slot];
                }
            }
            return spare;
        }

        /** Asks for a state in which all vows would be kept; so the answer is never below 0. */
        int greatestFurther(int due) {
            int greatest = spareOn(due);
            for (int slot = 0; slot < waiting; slot++) {
                // A later vow needs its steel too, but an earlier one is settled before.
                if (dueDays[slot] > due) {
                    greatest = Math.min(greatest, spareOn(dueDays[slot]));
                }
            }
            return greatest;
        }
    }

    /** All that undo and the snapshot cover. */
    private static final class State {
        private final Members members = new Members();
        private final Niche niche = new Niche();
        private final Treasury treasury = new Treasury();

        void copyFrom(State other) {
            members.copyFrom(other.members);
            niche.copyFrom(other.niche);
            treasury.copyFrom(other.treasury);
        }
    }

    /** The states before the latest changes, in a ring. */
    private static final class History {
        private final State[] states = new State[MOST_UNDO];
        private int next = 0;
        private int count = 0;

        History() {
            for (int slot = 0; slot < MOST_UNDO; slot++) {
                states[slot] = new State();
            }
        }

        void remember(State state) {
            states[next].copyFrom(state);
            next = (next + 1) % MOST_UNDO;
            count = Math.min(count + 1, MOST_UNDO);
        }

        void takeBack(State state) {
            if (count == 0) {
                return;
            }
            next = (next + MOST_UNDO - 1) % MOST_UNDO;
            count--;
            state.copyFrom(states[next]);
        }

        void forget() {
            count = 0;
        }
    }

    /** Finds ways over the members as they were at the latest survey. */
    private static final class Ways {
        /** 0 where no member that can be walked joins the two joints. */
        private final int[][] bearing = new int[JOINTS][JOINTS];
        private final int[] width = new int[JOINTS];
        private final boolean[] grown = new boolean[JOINTS];
        private final int[] distance = new int[JOINTS];
        /** The joints of the way that was found last; it has one more joint than its length. */
        private final int[] joints = new int[JOINTS];
        private int length = 0;

        void survey(Members members) {
            for (int one = 0; one < JOINTS; one++) {
                for (int other = 0; other < JOINTS; other++) {
                    bearing[one][other] = 0;
                }
            }
            for (int member = 0; member < members.count; member++) {
                int one = members.first[member];
                int other = members.second[member];
                bearing[one][other] = members.bearingOf(member);
                bearing[other][one] = bearing[one][other];
            }
        }

        long linkBits() {
            long bits = 0L;
            for (int one = 0; one < JOINTS; one++) {
                for (int other = 0; other < JOINTS; other++) {
                    if (bearing[one][other] > 0) {
                        bits = bits | 1L << 8 * one + other;
                    }
                }
            }
            return bits;
        }

        /** Answers 0 if there is no way. */
        int widestByGrowing(int from, int to) {
            for (int joint = 0; joint < JOINTS; joint++) {
                width[joint] = bearing[from][joint];
                grown[joint] = joint == from;
            }
            for (int step = 1; step < JOINTS; step++) {
                int next = widestOutside();
                if (next == NONE) {
                    return width[to];
                }
                grown[next] = true;
                for (int joint = 0; joint < JOINTS; joint++) {
                    width[joint] = Math.max(width[joint], Math.min(width[next], bearing[next][joint]));
                }
            }
            return width[to];
        }

        private int widestOutside() {
            int best = NONE;
            int bestWidth = 0;
            for (int joint = 0; joint < JOINTS; joint++) {
                if (!grown[joint] && width[joint] > bestWidth) {
                    best = joint;
                    bestWidth = width[joint];
                }
            }
            return best;
        }

        /** Answers the bearing of the best way, which stands in joints then, or 0 if there is none. */
        int findBest(int from, int to) {
            length = 0;
            int load = widestByGrowing(from, to);
            if (load == 0) {
                return 0;
            }
            measureFrom(to, load);
            joints[0] = from;
            // The distances lead downhill, so taking the lowest joint each time gives the first of the shortest ways.
            for (int position = 1; position < JOINTS && joints[position - 1] != to; position++) {
                joints[position] = lowestNearer(joints[position - 1], load);
                length = position;
            }
            return load;
        }

        /** Fills the distances to a joint over members that bear the load; JOINTS where there is no way. */
        private void measureFrom(int target, int load) {
            for (int joint = 0; joint < JOINTS; joint++) {
                distance[joint] = joint == target ? 0 : JOINTS;
            }
            for (int reach = 0; reach < JOINTS - 1; reach++) {
                for (int joint = 0; joint < JOINTS; joint++) {
                    if (distance[joint] == reach) {
                        spread(joint, load);
                    }
                }
            }
        }

        private void spread(int joint, int load) {
            for (int next = 0; next < JOINTS; next++) {
                if (bearing[joint][next] >= load) {
                    distance[next] = Math.min(distance[next], distance[joint] + 1);
                }
            }
        }

        private int lowestNearer(int joint, int load) {
            for (int next = 0; next < JOINTS; next++) {
                if (bearing[joint][next] >= load && distance[next] < distance[joint]) {
                    return next;
                }
            }
            return joint;
        }
    }

    /** Numbers the joints in the order in which one search comes to them. */
    private static final class CriticalSearch {
        private final int[] number = new int[JOINTS];
        /** The lowest number that the search can get back to from a joint without the member it came by. */
        private final int[] lowest = new int[JOINTS];
        private int numbered = 0;

        /** Whether the member between two joints that it joins is the only way between them. */
        boolean separates(int[][] bearing, int one, int other) {
            numbered = 0;
            for (int joint = 0; joint < JOINTS; joint++) {
                number[joint] = 0;
                lowest[joint] = 0;
            }
            visit(this, bearing, one, NONE, 1);
            // Had the search come to the other joint by another member, it would have seen the first joint from there.
            return lowest[other] > number[one];
        }

        /** Static because LANGUAGE.md lets only static methods call themselves. */
        private static void visit(CriticalSearch search, int[][] bearing, int joint, int cameFrom, int depth) {
            if (depth > JOINTS) {
                return;
            }
            search.numbered++;
            search.number[joint] = search.numbered;
            search.lowest[joint] = search.numbered;
            for (int next = 0; next < JOINTS; next++) {
                if (next == cameFrom || bearing[joint][next] == 0) {
                    continue;
                }
                if (search.number[next] == 0) {
                    visit(search, bearing, next, joint, depth + 1);
                    search.lowest[joint] = Math.min(search.lowest[joint], search.lowest[next]);
                } else {
                    search.lowest[joint] = Math.min(search.lowest[joint], search.number[next]);
                }
            }
        }
    }

    /** Finds which loads are affordable. */
    private static final class RepairPlan {
        /** Above all that eight joints full of repairs can cost, and small enough to be added up. */
        private static final int NEVER = 1000000;

        private final int[][] price = new int[JOINTS][JOINTS];
        private final int[] cost = new int[JOINTS];
        private final boolean[] settled = new boolean[JOINTS];
        private final int[][] tableLoad = new int[JOINTS][JOINTS];

        /** Answers 0 if no load is affordable. */
        int loadByWays(Members members, int steel, int from, int to) {
            for (int load = MOST_LOAD; load >= 1; load--) {
                if (isWorthTrying(members, load)) {
                    setPrices(members, load);
                    if (cheapestWay(from, to) <= steel) {
                        return load;
                    }
                }
            }
            return 0;
        }

        /** Fills tableLoad with the greatest affordable load for each pair, 0 where there is none. */
        void fillTable(Members members, int steel) {
            for (int from = 0; from < JOINTS; from++) {
                for (int to = 0; to < JOINTS; to++) {
                    tableLoad[from][to] = 0;
                }
            }
            for (int load = MOST_LOAD; load >= 1; load--) {
                if (isWorthTrying(members, load)) {
                    setPrices(members, load);
                    closePrices();
                    noteAffordable(load, steel);
                }
            }
        }

        private void noteAffordable(int load, int steel) {
            for (int from = 0; from < JOINTS; from++) {
                for (int to = 0; to < JOINTS; to++) {
                    if (tableLoad[from][to] == 0 && price[from][to] <= steel) {
                        tableLoad[from][to] = load;
                    }
                }
            }
        }

        /** The greatest load is always one that a member in use just bears, as it is or repaired. */
        private boolean isWorthTrying(Members members, int load) {
            for (int member = 0; member < members.count; member++) {
                boolean repaired = members.strength[member] == load && !members.abandoned[member];
                if (repaired || members.bearingOf(member) == load) {
                    return true;
                }
            }
            return false;
        }

        private void setPrices(Members members, int load) {
            for (int one = 0; one < JOINTS; one++) {
                for (int other = 0; other < JOINTS; other++) {
                    price[one][other] = NEVER;
                }
            }
            for (int member = 0; member < members.count; member++) {
                int one = members.first[member];
                int other = members.second[member];
                price[one][other] = priceOf(members, member, load);
                price[other][one] = price[one][other];
            }
        }

        private int priceOf(Members members, int member, int load) {
            if (members.abandoned[member] || members.strength[member] < load) {
                return NEVER;
            }
            return members.bearingOf(member) >= load ? 0 : members.costOf(member);
        }

        private int cheapestWay(int from, int to) {
            for (int joint = 0; joint < JOINTS; joint++) {
                cost[joint] = joint == from ? 0 : NEVER;
                settled[joint] = false;
            }
            for (int step = 0; step < JOINTS; step++) {
                int next = cheapestUnsettled();
                if (next == NONE) {
                    return cost[to];
                }
                settled[next] = true;
                for (int joint = 0; joint < JOINTS; joint++) {
                    cost[joint] = Math.min(cost[joint], cost[next] + price[next][joint]);
                }
            }
            return cost[to];
        }

        private int cheapestUnsettled() {
            int best = NONE;
            int bestCost = NEVER;
            for (int joint = 0; joint < JOINTS; joint++) {
                if (!settled[joint] && cost[joint] < bestCost) {
                    best = joint;
                    bestCost = cost[joint];
                }
            }
            return best;
        }

        private void closePrices() {
            for (int middle = 0; middle < JOINTS; middle++) {
                for (int from = 0; from < JOINTS; from++) {
                    for (int to = 0; to < JOINTS; to++) {
                        price[from][to] = Math.min(price[from][to], price[from][middle] + price[middle][to]);
                    }
                }
            }
        }
    }

    /** A short text in a row that is used again. */
    private static final class Text {
        private final char[] characters = new char[TEXT_ROOM];
        private int length = 0;

        void clear() {
            length = 0;
        }

        boolean has(int index) {
            return index >= 0 && index < length;
        }

        /** Answers a character that no script has where the text has ended. */
        char at(int index) {
            return has(index) ? characters[index] : (char) 0;
        }

        void append(char character) {
            if (length < TEXT_ROOM) {
                characters[length] = character;
                length++;
            }
        }

        /** For numbers up to 99; the chapel renders no greater ones. */
        void appendNumber(int number) {
            if (number >= 10) {
                append((char) ('0' + number / 10 % 10));
            }
            append((char) ('0' + number % 10));
        }
    }

    /** The script buffer and the commands that were read from it. */
    private static final class Script {
        private static final int MEMBER = 0;
        private static final int WALK = 1;
        private static final int VOW = 2;
        private static final int FORGE = 3;
        private static final int REPAIR = 4;
        private static final int ABANDON = 5;
        private static final int RESUME = 6;
        private static final int NICHE = 7;
        private static final int PUT = 8;
        private static final int DAY = 9;
        private static final int KINDS = 10;

        /** The shortest command and its semicolon take 4 of the 60 characters. */
        private static final int MOST_COMMANDS = 16;
        private static final int MOST_ARGUMENTS = 3;

        private final Text text = new Text();
        private final int[] kinds = new int[MOST_COMMANDS];
        private final int[][] arguments = new int[MOST_COMMANDS][MOST_ARGUMENTS];
        private int count = 0;
        /** Where reading goes on; after a fault, the first character that cannot continue a script. */
        private int position = 0;

        int kindAt(int index) {
            return index >= 0 && index < count ? kinds[index] : NONE;
        }

        int argument(int index, int which) {
            boolean known = index >= 0 && index < count && which >= 0 && which < MOST_ARGUMENTS;
            return known ? arguments[index][which] : 0;
        }

        boolean parse() {
            count = 0;
            position = 0;
            boolean more = true;
            while (more && count < MOST_COMMANDS) {
                int kind = readWord();
                if (kind == NONE || !readArguments(kind)) {
                    return false;
                }
                kinds[count] = kind;
                count++;
                more = accept(';');
            }
            return position == text.length;
        }

        private int readWord() {
            int longest = 0;
            for (int kind = 0; kind < KINDS; kind++) {
                int matched = matchedLength(wordOf(kind));
                if (matched == wordOf(kind).length()) {
                    position += matched;
                    return kind;
                }
                longest = Math.max(longest, matched);
            }
            position += longest;
            return NONE;
        }

        private int matchedLength(String word) {
            int matched = 0;
            while (matched < word.length() && text.at(position + matched) == word.charAt(matched)) {
                matched++;
            }
            return matched;
        }

        private static String wordOf(int kind) {
            switch (kind) {
                case MEMBER:
                    return "member ";
                case WALK:
                    return "walk ";
                case VOW:
                    return "vow ";
                case FORGE:
                    return "forge ";
                case REPAIR:
                    return "repair ";
                case ABANDON:
                    return "abandon ";
                case RESUME:
                    return "resume ";
                case NICHE:
                    return "niche ";
                case PUT:
                    return "put ";
                default:
                    return "day";
            }
        }

        /** d stands for a digit, n for a number, k for a kind; other characters for themselves. */
        private static String formOf(int kind) {
            switch (kind) {
                case MEMBER:
                case WALK:
                    return "dd n";
                case VOW:
                    return "n n";
                case NICHE:
                    return "k";
                case PUT:
                    return "d kn";
                case DAY:
                    return " n";
                default:
                    return "n";
            }
        }

        private boolean readArguments(int kind) {
            int[] row = arguments[count];
            if (kind == DAY && text.at(position) != ' ') {
                row[0] = 1;
                return true;
            }
            String form = formOf(kind);
            int filled = 0;
            for (int index = 0; index < form.length(); index++) {
                char part = form.charAt(index);
                if (part == ' ') {
                    if (!accept(' ')) {
                        return false;
                    }
                } else {
                    int value = readValue(part);
                    if (value == NONE || filled >= MOST_ARGUMENTS) {
                        return false;
                    }
                    row[filled] = value;
                    filled++;
                }
            }
            return true;
        }

        private int readValue(char part) {
            if (part == 'k') {
                int kind = text.at(position);
                return accept(CANDLES) || accept(LAMPS) ? kind : NONE;
            }
            int mostDigits = part == 'n' ? 3 : 1;
            int value = 0;
            int digits = 0;
            while (digits < mostDigits && isDigit(text.at(position))) {
                value = value * 10 + text.at(position) - '0';
                position++;
                digits++;
            }
            return digits == 0 ? NONE : value;
        }

        private static boolean isDigit(char character) {
            return character >= '0' && character <= '9';
        }

        private boolean accept(char expected) {
            if (text.at(position) != expected) {
                return false;
            }
            position++;
            return true;
        }
    }
}
