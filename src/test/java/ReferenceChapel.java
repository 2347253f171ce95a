import java.util.ArrayDeque;
import java.util.ArrayList;
import java.util.Deque;
import java.util.HashSet;
import java.util.List;
import java.util.NoSuchElementException;
import java.util.Set;

/**
 * The document again, written for plainness alone: it lists all ways, tries all sets of repairs and lets days
 * pass on copies. RandomRunsTest compares BridgeChapel with it.
 */
final class ReferenceChapel {
    static final class Member {
        int low;
        int high;
        int strength;
        int crack;
        int wear;
        boolean abandoned;

        Member copy() {
            Member copy = new Member();
            copy.low = low;
            copy.high = high;
            copy.strength = strength;
            copy.crack = crack;
            copy.wear = wear;
            copy.abandoned = abandoned;
            return copy;
        }

        int bearing() {
            return abandoned ? 0 : strength * (10 - crack) / 10;
        }

        int cost() {
            return (int) Math.ceil(strength / 10.0) * crack;
        }
    }

    record Vow(int id, int due, int amount) {
    }

    static final class World {
        List<Member> members = new ArrayList<>();
        List<Vow> vows = new ArrayList<>();
        int[] things = new int[4];
        char kind = 'c';
        int steel = 30;
        int forge = 5;
        int day = 0;
        int kept = 0;
        int broken = 0;
        int nextId = 0;

        World copy() {
            World copy = new World();
            for (Member member : members) {
                copy.members.add(member.copy());
            }
            copy.vows.addAll(vows);
            copy.things = things.clone();
            copy.kind = kind;
            copy.steel = steel;
            copy.forge = forge;
            copy.day = day;
            copy.kept = kept;
            copy.broken = broken;
            copy.nextId = nextId;
            return copy;
        }

        void nextDay() {
            day++;
            steel += forge;
            List<Vow> later = new ArrayList<>();
            for (Vow vow : vows) {
                if (vow.due() > day) {
                    later.add(vow);
                } else if (steel >= vow.amount()) {
                    steel -= vow.amount();
                    kept++;
                } else {
                    broken++;
                }
            }
            vows = later;
        }
    }

    World world = new World();
    private final Deque<World> past = new ArrayDeque<>();
    private World snapshot = null;
    private String script = "";
    private String output = "";
    private Integer errorPosition = null;
    private Integer failedCommand = null;

    private static void demand(boolean holds, RuntimeException otherwise) {
        if (!holds) {
            throw otherwise;
        }
    }

    private static void demandPair(int from, int to) {
        demand(from >= 0 && from <= 7 && to >= 0 && to <= 7, new IndexOutOfBoundsException());
        demand(from != to, new IllegalArgumentException());
    }

    private Member at(int member) {
        demand(member >= 0 && member < world.members.size(), new IndexOutOfBoundsException());
        return world.members.get(member);
    }

    private void change() {
        past.addLast(world.copy());
        if (past.size() > 8) {
            past.removeFirst();
        }
    }

    int addMember(int one, int other, int strength) {
        demandPair(one, other);
        demand(strength >= 1 && strength <= 99, new IllegalArgumentException());
        demand(world.members.size() < 16, new IllegalStateException());
        for (Member member : world.members) {
            demand(member.low != Math.min(one, other) || member.high != Math.max(one, other),
                    new IllegalStateException());
        }
        change();
        Member member = new Member();
        member.low = Math.min(one, other);
        member.high = Math.max(one, other);
        member.strength = strength;
        world.members.add(member);
        return world.members.size() - 1;
    }

    /** All ways as lists of joints, over the members that bear at least 1. */
    private static void collect(World world, List<Integer> begun, int to, Member without, List<List<Integer>> ways) {
        int last = begun.get(begun.size() - 1);
        if (last == to) {
            ways.add(new ArrayList<>(begun));
            return;
        }
        for (Member member : world.members) {
            if (member == without || member.bearing() < 1 || member.low != last && member.high != last) {
                continue;
            }
            int next = member.low + member.high - last;
            if (!begun.contains(next)) {
                begun.add(next);
                collect(world, begun, to, without, ways);
                begun.remove(begun.size() - 1);
            }
        }
    }

    private static List<List<Integer>> waysOf(World world, int from, int to, Member without) {
        List<List<Integer>> ways = new ArrayList<>();
        List<Integer> begun = new ArrayList<>();
        begun.add(from);
        collect(world, begun, to, without, ways);
        return ways;
    }

    private static Member joining(World world, int one, int other) {
        for (Member member : world.members) {
            if (member.low == Math.min(one, other) && member.high == Math.max(one, other)) {
                return member;
            }
        }
        throw new AssertionError("no member joins " + one + " and " + other);
    }

    private static List<Member> membersOf(World world, List<Integer> way) {
        List<Member> members = new ArrayList<>();
        for (int place = 0; place + 1 < way.size(); place++) {
            members.add(joining(world, way.get(place), way.get(place + 1)));
        }
        return members;
    }

    private static int bearingOf(World world, List<Integer> way) {
        int bearing = 99;
        for (Member member : membersOf(world, way)) {
            bearing = Math.min(bearing, member.bearing());
        }
        return bearing;
    }

    private static boolean isBetter(World world, List<Integer> one, List<Integer> other) {
        int difference = bearingOf(world, one) - bearingOf(world, other);
        if (difference != 0) {
            return difference > 0;
        }
        if (one.size() != other.size()) {
            return one.size() < other.size();
        }
        for (int place = 0; place < one.size(); place++) {
            if (!one.get(place).equals(other.get(place))) {
                return one.get(place) < other.get(place);
            }
        }
        return false;
    }

    private static List<Integer> bestOf(World world, int from, int to) {
        List<Integer> best = null;
        for (List<Integer> way : waysOf(world, from, to, null)) {
            if (best == null || isBetter(world, way, best)) {
                best = way;
            }
        }
        return best;
    }

    private List<Integer> best(int from, int to) {
        demandPair(from, to);
        List<Integer> best = bestOf(world, from, to);
        demand(best != null, new NoSuchElementException());
        return best;
    }

    int procession(int from, int to, int load) {
        demandPair(from, to);
        demand(load >= 1 && load <= 99, new IllegalArgumentException());
        List<Integer> best = best(from, to);
        int fullLoad = load + nicheWeight();
        demand(bearingOf(world, best) >= fullLoad, new UnsupportedOperationException());
        change();
        for (Member member : membersOf(world, best)) {
            member.wear += fullLoad;
            if (member.wear >= 100) {
                member.crack = Math.min(9, member.crack + member.wear / 100);
                member.wear = member.wear % 100;
            }
        }
        return best.size() - 1;
    }

    int makeVow(int dueDay, int amount) {
        demand(dueDay >= world.day + 1 && dueDay <= world.day + 50, new IllegalArgumentException());
        demand(amount >= 1 && amount <= 99, new IllegalArgumentException());
        demand(world.vows.size() < 8, new IllegalStateException());
        change();
        world.vows.add(new Vow(world.nextId, dueDay, amount));
        return world.nextId++;
    }

    int setForge(int units) {
        demand(units >= 0 && units <= 20, new IllegalArgumentException());
        change();
        int before = world.forge;
        world.forge = units;
        return before;
    }

    int repair(int member) {
        demand(!at(member).abandoned, new IllegalStateException());
        int cost = at(member).cost();
        demand(world.steel >= cost, new UnsupportedOperationException());
        change();
        world.steel -= cost;
        at(member).crack = 0;
        at(member).wear = 0;
        return cost;
    }

    private int abandonedCount() {
        int count = 0;
        for (Member member : world.members) {
            count += member.abandoned ? 1 : 0;
        }
        return count;
    }

    int abandon(int member) {
        demand(!at(member).abandoned, new IllegalStateException());
        change();
        at(member).abandoned = true;
        return abandonedCount();
    }

    int resume(int member) {
        demand(at(member).abandoned, new IllegalStateException());
        change();
        at(member).abandoned = false;
        return abandonedCount();
    }

    int setNiche(char kind) {
        demand(kind == 'c' || kind == 'l', new IllegalArgumentException());
        change();
        int before = nicheWeight();
        world.kind = kind;
        world.things = new int[4];
        return before;
    }

    int put(int place, char kind, int weight) {
        demand(place >= 0 && place <= 3, new IndexOutOfBoundsException());
        demand(kind == 'c' || kind == 'l', new IllegalArgumentException());
        demand(weight >= 1 && weight <= 20, new IllegalArgumentException());
        demand(kind == world.kind, new UnsupportedOperationException());
        demand(world.things[place] == 0, new IllegalStateException());
        change();
        world.things[place] = weight;
        return nicheWeight();
    }

    int passDays(int days) {
        demand(days >= 1 && days <= 30, new IllegalArgumentException());
        change();
        int before = world.kept;
        for (int passed = 0; passed < days; passed++) {
            world.nextDay();
        }
        return world.kept - before;
    }

    int memberCount() {
        return world.members.size();
    }

    int firstJoint(int member) {
        return at(member).low;
    }

    int secondJoint(int member) {
        return at(member).high;
    }

    int crack(int member) {
        return at(member).crack;
    }

    int wear(int member) {
        return at(member).wear;
    }

    boolean isAbandoned(int member) {
        return at(member).abandoned;
    }

    int bearing(int member) {
        return at(member).bearing();
    }

    int repairCost(int member) {
        return at(member).cost();
    }

    float strain(int member, int load) {
        demand(at(member).bearing() != 0, new ArithmeticException());
        return (float) load / (float) at(member).bearing();
    }

    int strainBits(int member, int load) {
        return Float.floatToIntBits(strain(member, load));
    }

    long links() {
        long bits = 0;
        for (Member member : world.members) {
            if (member.bearing() >= 1) {
                bits += 1L << (8 * member.low + member.high);
                bits += 1L << (8 * member.high + member.low);
            }
        }
        return bits;
    }

    int widestLoad(int from, int to) {
        return bearingOf(world, best(from, to));
    }

    int wayLength(int from, int to) {
        return best(from, to).size() - 1;
    }

    int wayJoint(int from, int to, int position) {
        List<Integer> best = best(from, to);
        demand(position >= 0 && position < best.size(), new NoSuchElementException());
        return best.get(position);
    }

    boolean isCritical(int member) {
        Member one = at(member);
        return one.bearing() >= 1 && waysOf(world, one.low, one.high, one).isEmpty();
    }

    int affordableLoad(int from, int to) {
        demandPair(from, to);
        List<Integer> cracked = new ArrayList<>();
        for (int member = 0; member < world.members.size(); member++) {
            if (world.members.get(member).crack > 0 && !world.members.get(member).abandoned) {
                cracked.add(member);
            }
        }
        int load = cracked.size() <= 5 ? affordableBySets(cracked, from, to) : affordableByWays(from, to);
        demand(load >= 1, new NoSuchElementException());
        return load;
    }

    private int affordableBySets(List<Integer> cracked, int from, int to) {
        int greatest = 0;
        for (int set = 0; set < 1 << cracked.size(); set++) {
            World tried = world.copy();
            int cost = 0;
            for (int place = 0; place < cracked.size(); place++) {
                if ((set >> place & 1) == 1) {
                    Member member = tried.members.get(cracked.get(place));
                    cost += member.cost();
                    member.crack = 0;
                }
            }
            List<Integer> best = cost <= world.steel ? bestOf(tried, from, to) : null;
            greatest = best == null ? greatest : Math.max(greatest, bearingOf(tried, best));
        }
        return greatest;
    }

    private int affordableByWays(int from, int to) {
        World renewed = world.copy();
        for (Member member : renewed.members) {
            member.crack = 0;
        }
        int greatest = 0;
        for (List<Integer> way : waysOf(renewed, from, to, null)) {
            for (int load = 1; load <= bearingOf(renewed, way); load++) {
                int cost = 0;
                for (Member member : membersOf(world, way)) {
                    cost += member.bearing() < load ? member.cost() : 0;
                }
                greatest = cost <= world.steel ? Math.max(greatest, load) : greatest;
            }
        }
        return greatest;
    }

    int memberByBearing(int rank) {
        List<Integer> order = new ArrayList<>();
        for (int member = 0; member < world.members.size(); member++) {
            order.add(member);
        }
        order.sort((one, other) -> {
            int byBearing = Integer.compare(at(one).bearing(), at(other).bearing());
            int byCrack = Integer.compare(at(other).crack, at(one).crack);
            return byBearing != 0 ? byBearing : byCrack != 0 ? byCrack : Integer.compare(one, other);
        });
        demand(rank >= 0 && rank < order.size(), new NoSuchElementException());
        return order.get(rank);
    }

    char nicheKind() {
        return world.kind;
    }

    int nicheWeight() {
        return world.things[0] + world.things[1] + world.things[2] + world.things[3];
    }

    int vowCount() {
        return world.vows.size();
    }

    int vowAt(int position) {
        List<Vow> order = new ArrayList<>(world.vows);
        order.sort((one, other) -> one.due() != other.due()
                ? Integer.compare(one.due(), other.due()) : Integer.compare(one.id(), other.id()));
        demand(position >= 0 && position < order.size(), new NoSuchElementException());
        return order.get(position).id();
    }

    private Vow vow(int id) {
        for (Vow vow : world.vows) {
            if (vow.id() == id) {
                return vow;
            }
        }
        throw new NoSuchElementException();
    }

    int dueDay(int vow) {
        return vow(vow).due();
    }

    int amount(int vow) {
        return vow(vow).amount();
    }

    private static boolean keepsAll(World world) {
        World tried = world.copy();
        for (int passed = 0; passed < 50; passed++) {
            tried.nextDay();
        }
        return tried.broken == world.broken;
    }

    boolean canKeepAll() {
        return keepsAll(world);
    }

    int greatestVow(int dueDay) {
        demand(dueDay >= world.day + 1 && dueDay <= world.day + 50, new IllegalArgumentException());
        demand(keepsAll(world), new NoSuchElementException());
        int possible = 0;
        int impossible = world.steel + 20 * 50 + 1;
        while (impossible - possible > 1) {
            int amount = (possible + impossible) / 2;
            World tried = world.copy();
            tried.vows.add(new Vow(tried.nextId, dueDay, amount));
            if (keepsAll(tried)) {
                possible = amount;
            } else {
                impossible = amount;
            }
        }
        return possible;
    }

    int keptTotal() {
        return world.kept;
    }

    int brokenTotal() {
        return world.broken;
    }

    int steel() {
        return world.steel;
    }

    int day() {
        return world.day;
    }

    double meanBearing() {
        demand(!world.members.isEmpty(), new ArithmeticException());
        double sum = 0;
        for (Member member : world.members) {
            sum += member.bearing();
        }
        return sum / world.members.size();
    }

    float crackedShare() {
        demand(!world.members.isEmpty(), new ArithmeticException());
        float cracked = 0;
        for (Member member : world.members) {
            cracked += member.crack > 0 ? 1 : 0;
        }
        return cracked / world.members.size();
    }

    boolean isConsistent() {
        return true;
    }

    int renderMember(int member) {
        Member one = at(member);
        output = member + ":" + one.low + "-" + one.high + "s" + one.strength + "c" + one.crack + "w" + one.wear
                + (one.abandoned ? "x" : "");
        return output.length();
    }

    int renderWay(int from, int to) {
        StringBuilder text = new StringBuilder();
        for (int joint : best(from, to)) {
            text.append(text.length() == 0 ? "" : ">").append(joint);
        }
        output = text.toString();
        return output.length();
    }

    char outputAt(int index) {
        demand(index >= 0 && index < output.length(), new IndexOutOfBoundsException());
        return output.charAt(index);
    }

    int type(char character) {
        demand(character >= 32 && character <= 126, new IllegalArgumentException());
        demand(script.length() < 60, new IllegalStateException());
        script += character;
        return script.length();
    }

    /** Each command as rows of character classes: # for a digit, @ for a kind, else the character itself. */
    private static List<String> commandRows() {
        String[] forms = {"member ## N", "walk ## N", "vow N N", "forge N", "repair N", "abandon N", "resume N",
            "niche @", "put # @N", "day", "day N"};
        List<String> rows = new ArrayList<>();
        for (String form : forms) {
            rows.add(form);
        }
        for (int index = 0; index < rows.size(); index++) {
            String row = rows.get(index);
            if (row.indexOf('N') >= 0) {
                rows.set(index, row.replaceFirst("N", "#"));
                rows.add(row.replaceFirst("N", "##"));
                rows.add(row.replaceFirst("N", "###"));
                index--;
            }
        }
        return rows;
    }

    private static final List<String> ROWS = commandRows();

    private static boolean suits(char wanted, char given) {
        if (wanted == '#') {
            return given >= '0' && given <= '9';
        }
        return wanted == '@' ? given == 'c' || given == 'l' : wanted == given;
    }

    /** Answers -1 if the text has the form; it follows all rows at once. */
    static int errorPositionOf(String text) {
        Set<Integer> states = new HashSet<>();
        for (int row = 0; row < ROWS.size(); row++) {
            states.add(row * 100);
        }
        for (int index = 0; index < text.length(); index++) {
            Set<Integer> next = new HashSet<>();
            for (int state : states) {
                String row = ROWS.get(state / 100);
                int place = state % 100;
                if (place < row.length() && suits(row.charAt(place), text.charAt(index))) {
                    next.add(state + 1);
                }
                if (place == row.length() && text.charAt(index) == ';') {
                    for (int begun = 0; begun < ROWS.size(); begun++) {
                        next.add(begun * 100);
                    }
                }
            }
            if (next.isEmpty()) {
                return index;
            }
            states = next;
        }
        for (int state : states) {
            if (state % 100 == ROWS.get(state / 100).length()) {
                return -1;
            }
        }
        return text.length();
    }

    private void execute(String command) {
        String[] words = command.split(" ");
        switch (words[0]) {
            case "member" -> addMember(words[1].charAt(0) - '0', words[1].charAt(1) - '0', Integer.parseInt(words[2]));
            case "walk" -> procession(words[1].charAt(0) - '0', words[1].charAt(1) - '0', Integer.parseInt(words[2]));
            case "vow" -> makeVow(Integer.parseInt(words[1]), Integer.parseInt(words[2]));
            case "forge" -> setForge(Integer.parseInt(words[1]));
            case "repair" -> repair(Integer.parseInt(words[1]));
            case "abandon" -> abandon(Integer.parseInt(words[1]));
            case "resume" -> resume(Integer.parseInt(words[1]));
            case "niche" -> setNiche(words[1].charAt(0));
            case "put" -> put(Integer.parseInt(words[1]), words[2].charAt(0), Integer.parseInt(words[2].substring(1)));
            case "day" -> passDays(words.length == 1 ? 1 : Integer.parseInt(words[1]));
            default -> throw new AssertionError(command);
        }
    }

    int runScript() {
        String text = script;
        script = "";
        int error = errorPositionOf(text);
        if (error >= 0) {
            errorPosition = error;
            throw new IllegalArgumentException();
        }
        World before = world.copy();
        List<World> pastBefore = new ArrayList<>(past);
        String[] commands = text.split(";");
        for (int index = 0; index < commands.length; index++) {
            try {
                execute(commands[index]);
            } catch (RuntimeException e) {
                world = before;
                past.clear();
                past.addAll(pastBefore);
                failedCommand = index;
                throw new IllegalStateException();
            }
        }
        World after = world;
        past.clear();
        past.addAll(pastBefore);
        world = before;
        change();
        world = after;
        return commands.length;
    }

    int errorPosition() {
        demand(errorPosition != null, new NoSuchElementException());
        return errorPosition;
    }

    int failedCommand() {
        demand(failedCommand != null, new NoSuchElementException());
        return failedCommand;
    }

    int undo() {
        demand(!past.isEmpty(), new IllegalStateException());
        world = past.removeLast();
        return past.size();
    }

    int save() {
        snapshot = world.copy();
        return world.members.size();
    }

    int restore() {
        demand(snapshot != null, new IllegalStateException());
        world = snapshot.copy();
        past.clear();
        return world.members.size();
    }
}
