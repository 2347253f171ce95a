import java.util.Objects;

/** Long runs of calls, made by a fixed rule, that BridgeChapel and ReferenceChapel must answer alike. */
public final class RandomRunsTest {
    private static final int RUNS = 2000;
    /** The document promises nothing about an object after so many calls. */
    private static final int MOST_CALLS = 512;
    private static final int[] ODD_NUMBERS = {-1, 0, 7, 8, 15, 16, 20, 21, 30, 31, 99, 100, 127, 255, 1000,
        Integer.MAX_VALUE, Integer.MIN_VALUE};
    private static final String[] FRAGMENTS = {"member ", "walk ", "vow ", "forge ", "repair ", "abandon ", "resume ",
        "niche ", "put ", "day", " ", ";", "c", "l", "0", "9", "12", "re", "mem", "x", "D", "  ", "1234", "/", ":"};

    private interface Call {
        Object answer();
    }

    private long seed;
    private BridgeChapel chapel;
    private ReferenceChapel reference;
    private final StringBuilder told = new StringBuilder();
    private int calls = 0;
    private int wrong = 0;

    private RandomRunsTest(long seed) {
        this.seed = seed;
    }

    public static void main(String[] args) {
        int wrong = 0;
        for (int run = 0; run < RUNS && wrong < 5; run++) {
            RandomRunsTest test = new RandomRunsTest(run * 7919L + 17);
            test.run(run);
            wrong += test.wrong;
        }
        System.out.println(wrong == 0 ? "all answers are alike" : wrong + " runs went apart");
        System.exit(wrong == 0 ? 0 : 1);
    }

    private int below(int bound) {
        seed = seed * 6364136223846793005L + 1442695040888963407L;
        return (int) ((seed >>> 33) % bound);
    }

    private boolean chance(int percent) {
        return below(100) < percent;
    }

    private static Object outcome(Call call) {
        try {
            return call.answer();
        } catch (RuntimeException e) {
            return "throws." + e.getClass().getSimpleName();
        }
    }

    private void compare(String name, Call real, Call due) {
        if (calls >= MOST_CALLS) {
            return;
        }
        calls++;
        Object answered = outcome(real);
        Object wanted = outcome(due);
        told.append(name).append(" = ").append(answered).append('\n');
        if (!Objects.equals(answered, wanted)) {
            wrong++;
            System.out.println(told);
            System.out.println("... but due is " + wanted);
        }
    }

    private void run(int run) {
        chapel = new BridgeChapel();
        reference = new ReferenceChapel();
        boolean weak = run % 5 == 0;
        boolean poor = run % 3 == 0;
        while (calls < MOST_CALLS && wrong == 0) {
            int choice = below(100);
            if (choice < (calls < 40 ? 60 : 3)) {
                addMember(weak);
            } else if (choice < 30) {
                procession();
            } else if (choice < 44) {
                smallChange(poor);
            } else if (choice < 47) {
                script();
            } else if (choice < 50) {
                backAndForth();
            } else {
                question(below(43));
            }
        }
    }

    private int odd(int usual) {
        return chance(3) ? ODD_NUMBERS[below(ODD_NUMBERS.length)] : usual;
    }

    private int joint() {
        return odd(below(8));
    }

    private int member() {
        return odd(below(Math.max(1, reference.memberCount())));
    }

    private char kind() {
        char kind = reference.nicheKind();
        return chance(90) ? kind : chance(90) ? (char) ('c' + 'l' - kind) : 'x';
    }

    private void addMember(boolean weak) {
        int one = joint();
        int other = joint();
        int strength = odd(weak ? 1 + below(15) : 1 + below(99));
        compare("addMember " + one + " " + other + " " + strength, () -> chapel.addMember(one, other, strength),
                () -> reference.addMember(one, other, strength));
    }

    private void procession() {
        int from = joint();
        int to = joint();
        int load = odd(1 + below(99));
        if (from >= 0 && from < 8 && to >= 0 && to < 8 && from != to && chance(85)) {
            Object widest = outcome(() -> reference.widestLoad(from, to));
            if (widest instanceof Integer bearing) {
                load = bearing - reference.nicheWeight() + (chance(10) ? 1 : 0) - (chance(60) ? 0 : below(20));
            }
        }
        int chosen = load;
        compare("procession " + from + " " + to + " " + chosen, () -> chapel.procession(from, to, chosen),
                () -> reference.procession(from, to, chosen));
    }

    private void smallChange(boolean poor) {
        int member = member();
        switch (below(12)) {
            case 0, 1 -> {
                int due = reference.day() + odd(chance(5) ? 49 + below(4) : below(30));
                int amount = odd(1 + below(poor ? 99 : 30));
                compare("makeVow " + due + " " + amount, () -> chapel.makeVow(due, amount),
                        () -> reference.makeVow(due, amount));
            }
            case 2 -> {
                int units = odd(below(poor ? 4 : 22));
                compare("setForge " + units, () -> chapel.setForge(units), () -> reference.setForge(units));
            }
            case 3, 4 -> compare("repair " + member, () -> chapel.repair(member), () -> reference.repair(member));
            case 5 -> compare("abandon " + member, () -> chapel.abandon(member), () -> reference.abandon(member));
            case 6, 7 -> {
                int chosen = chance(80) ? abandonedMember() : member;
                compare("resume " + chosen, () -> chapel.resume(chosen), () -> reference.resume(chosen));
            }
            case 8 -> {
                char kind = chance(95) ? chance(50) ? 'c' : 'l' : (char) below(128);
                compare("setNiche " + kind, () -> chapel.setNiche(kind), () -> reference.setNiche(kind));
            }
            case 9, 10 -> {
                int place = odd(below(5));
                char kind = kind();
                int weight = odd(chance(50) ? below(3) : below(22));
                compare("put " + place + " " + kind + weight, () -> chapel.put(place, kind, weight),
                        () -> reference.put(place, kind, weight));
            }
            default -> {
                int days = odd(chance(70) ? 1 : below(31));
                compare("passDays " + days, () -> chapel.passDays(days), () -> reference.passDays(days));
            }
        }
    }

    private int abandonedMember() {
        for (int member = 0; member < reference.memberCount(); member++) {
            if (reference.isAbandoned(member)) {
                return member;
            }
        }
        return 0;
    }

    private String command() {
        int joints = below(100);
        String pair = (joints / 10 % 8) + "" + (joints % 8);
        return switch (below(10)) {
            case 0 -> "member " + pair + " " + (1 + below(99));
            case 1 -> "walk " + pair + " " + (1 + below(30));
            case 2 -> "vow " + (reference.day() + 1 + below(9)) + " " + below(40);
            case 3 -> "forge " + below(22);
            case 4 -> "repair " + below(Math.max(1, reference.memberCount()));
            case 5 -> "abandon " + below(Math.max(1, reference.memberCount()));
            case 6 -> "resume " + abandonedMember();
            case 7 -> chance(50) ? "niche c" : "niche l";
            case 8 -> "put " + below(4) + " " + reference.nicheKind() + below(22);
            default -> chance(50) ? "day" : "day " + below(32);
        };
    }

    private void script() {
        StringBuilder text = new StringBuilder(command());
        int commands = 1 + below(9);
        for (int index = 1; index < commands; index++) {
            text.append(';').append(command());
        }
        if (chance(15)) {
            text.setLength(below(text.length() + 1));
        }
        while (chance(25)) {
            int place = below(text.length() + 1);
            text.insert(place, FRAGMENTS[below(FRAGMENTS.length)]);
        }
        if (chance(15) && text.length() > 0) {
            text.deleteCharAt(below(text.length()));
        }
        int length = chance(80) ? Math.min(text.length(), text.lastIndexOf(";", 60) > 20
                ? text.lastIndexOf(";", 60) : 60) : Math.min(text.length(), 62);
        for (int index = 0; index < length; index++) {
            char character = chance(1) ? (char) (30 + below(100)) : text.charAt(index);
            compare("type " + (int) character, () -> chapel.type(character), () -> reference.type(character));
        }
        compare("runScript", () -> chapel.runScript(), () -> reference.runScript());
        compare("errorPosition", () -> chapel.errorPosition(), () -> reference.errorPosition());
        compare("failedCommand", () -> chapel.failedCommand(), () -> reference.failedCommand());
        compareState();
    }

    private void backAndForth() {
        switch (below(8)) {
            case 0 -> compare("save", () -> chapel.save(), () -> reference.save());
            case 1 -> {
                if (chance(30)) {
                    compare("restore", () -> chapel.restore(), () -> reference.restore());
                }
            }
            default -> {
                int times = chance(10) ? 9 : 1 + below(3);
                for (int time = 0; time < times; time++) {
                    compare("undo", () -> chapel.undo(), () -> reference.undo());
                }
            }
        }
        compareState();
    }

    private void compareState() {
        for (int question = 0; question < 12; question++) {
            question(question);
        }
    }

    private void question(int which) {
        int from = joint();
        int to = joint();
        int place = odd(below(9));
        int member = member();
        int load = chance(50) ? below(200) - 100 : odd(below(1 << 30));
        switch (which) {
            case 0 -> compare("memberCount", () -> chapel.memberCount(), () -> reference.memberCount());
            case 1 -> compare("steel", () -> chapel.steel(), () -> reference.steel());
            case 2 -> compare("steelByAccounts", () -> chapel.steelByAccounts(), () -> reference.steel());
            case 3 -> compare("day", () -> chapel.day(), () -> reference.day());
            case 4 -> compare("keptTotal", () -> chapel.keptTotal(), () -> reference.keptTotal());
            case 5 -> compare("brokenTotal", () -> chapel.brokenTotal(), () -> reference.brokenTotal());
            case 6 -> compare("vowCount", () -> chapel.vowCount(), () -> reference.vowCount());
            case 7 -> compare("nicheWeight", () -> chapel.nicheWeight(), () -> reference.nicheWeight());
            case 8 -> compare("nicheKind", () -> chapel.nicheKind(), () -> reference.nicheKind());
            case 9 -> compare("links", () -> chapel.links(), () -> reference.links());
            case 10 -> {
                compare("renderMember " + member, () -> chapel.renderMember(member),
                        () -> reference.renderMember(member));
                compareOutput();
            }
            case 11 -> compare("isConsistent", () -> chapel.isConsistent(), () -> reference.isConsistent());
            case 12 -> compare("firstJoint " + member, () -> chapel.firstJoint(member),
                    () -> reference.firstJoint(member));
            case 13 -> compare("secondJoint " + member, () -> chapel.secondJoint(member),
                    () -> reference.secondJoint(member));
            case 14 -> compare("crack " + member, () -> chapel.crack(member), () -> reference.crack(member));
            case 15 -> compare("wear " + member, () -> chapel.wear(member), () -> reference.wear(member));
            case 16 -> compare("isAbandoned " + member, () -> chapel.isAbandoned(member),
                    () -> reference.isAbandoned(member));
            case 17 -> compare("bearing " + member, () -> chapel.bearing(member), () -> reference.bearing(member));
            case 18 -> compare("repairCost " + member, () -> chapel.repairCost(member),
                    () -> reference.repairCost(member));
            case 19 -> compare("strain " + member + " " + load, () -> chapel.strain(member, load),
                    () -> reference.strain(member, load));
            case 20 -> compare("strainBits " + member + " " + load, () -> chapel.strainBits(member, load),
                    () -> reference.strainBits(member, load));
            default -> wayQuestion(which, from, to, place, member);
        }
    }

    private void wayQuestion(int which, int from, int to, int place, int member) {
        String pair = from + " " + to;
        switch (which) {
            case 21, 22 -> compare("widestLoad " + pair, () -> chapel.widestLoad(from, to),
                    () -> reference.widestLoad(from, to));
            case 23 -> compare("widestLoadByTrial " + pair, () -> chapel.widestLoadByTrial(from, to),
                    () -> reference.widestLoad(from, to));
            case 24 -> compare("wayLength " + pair, () -> chapel.wayLength(from, to),
                    () -> reference.wayLength(from, to));
            case 25 -> compare("wayJoint " + pair + " " + place, () -> chapel.wayJoint(from, to, place),
                    () -> reference.wayJoint(from, to, place));
            case 26, 27 -> compare("isCritical " + member, () -> chapel.isCritical(member),
                    () -> reference.isCritical(member));
            case 28 -> compare("isCriticalByRemoval " + member, () -> chapel.isCriticalByRemoval(member),
                    () -> reference.isCritical(member));
            case 29, 30 -> compare("affordableLoad " + pair, () -> chapel.affordableLoad(from, to),
                    () -> reference.affordableLoad(from, to));
            case 31 -> compare("affordableLoadByTable " + pair, () -> chapel.affordableLoadByTable(from, to),
                    () -> reference.affordableLoad(from, to));
            case 32 -> compare("memberByBearing " + place, () -> chapel.memberByBearing(place),
                    () -> reference.memberByBearing(place));
            case 33 -> compare("vowAt " + place, () -> chapel.vowAt(place), () -> reference.vowAt(place));
            case 34, 35 -> vowQuestion();
            case 36 -> compare("canKeepAll", () -> chapel.canKeepAll(), () -> reference.canKeepAll());
            case 37 -> compare("canKeepAllBySums", () -> chapel.canKeepAllBySums(), () -> reference.canKeepAll());
            case 38 -> {
                int due = reference.day() + odd(below(52));
                compare("greatestVow " + due, () -> chapel.greatestVow(due), () -> reference.greatestVow(due));
            }
            case 39 -> compare("meanBearing", () -> chapel.meanBearing(), () -> reference.meanBearing());
            case 40 -> compare("crackedShare", () -> chapel.crackedShare(), () -> reference.crackedShare());
            default -> {
                compare("renderWay " + pair, () -> chapel.renderWay(from, to), () -> reference.renderWay(from, to));
                compareOutput();
            }
        }
    }

    private void vowQuestion() {
        int vow = odd(Math.max(0, reference.world.nextId - below(10)));
        compare("dueDay " + vow, () -> chapel.dueDay(vow), () -> reference.dueDay(vow));
        compare("amount " + vow, () -> chapel.amount(vow), () -> reference.amount(vow));
    }

    private void compareOutput() {
        for (int index = 0; index <= 16; index += 1 + below(3)) {
            int place = odd(index);
            compare("outputAt " + place, () -> chapel.outputAt(place), () -> reference.outputAt(place));
        }
    }
}
