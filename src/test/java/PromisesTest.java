/** The promises 1 to 58, one method each: ordinary inputs, the edges that the document names, and wrong inputs. */
public final class PromisesTest extends Checks {
    /** All that a caller can see, without the output text. */
    private static String stateOf(BridgeChapel chapel) {
        StringBuilder text = new StringBuilder();
        for (int member = 0; member < chapel.memberCount(); member++) {
            text.append(outputOf(chapel, chapel.renderMember(member))).append(' ');
        }
        for (int position = 0; position < chapel.vowCount(); position++) {
            int vow = chapel.vowAt(position);
            text.append('v').append(vow).append('d').append(chapel.dueDay(vow)).append('a')
                    .append(chapel.amount(vow)).append(' ');
        }
        return text.append(chapel.nicheKind()).append(chapel.nicheWeight()).append(" day ").append(chapel.day())
                .append(" steel ").append(chapel.steel()).append('=').append(chapel.steelByAccounts())
                .append(" kept ").append(chapel.keptTotal()).append(" broken ").append(chapel.brokenTotal())
                .toString();
    }

    private static void promise1() {
        BridgeChapel chapel = new BridgeChapel();
        due(0, chapel.memberCount());
        due(0, chapel.vowCount());
        due(0, chapel.day());
        due(30, chapel.steel());
        due('c', chapel.nicheKind());
        due(0, chapel.nicheWeight());
        due(0, chapel.keptTotal());
        due(0, chapel.brokenTotal());
        due(5, chapel.setForge(7));
        due(0, chapel.makeVow(1, 1));
        due(5, chapel.put(0, 'c', 5));
    }

    private static void promise2() {
        BridgeChapel chapel = new BridgeChapel();
        refusesPairs((one, other) -> chapel.addMember(one, other, 5));
        refused(INDEX, () -> chapel.addMember(8, 8, 0));
        refused(ARGUMENT, () -> chapel.addMember(0, 1, 0));
        refused(ARGUMENT, () -> chapel.addMember(0, 1, 100));
        refused(ARGUMENT, () -> chapel.addMember(0, 1, LEAST));
        due(0, chapel.memberCount());
        due(0, chapel.addMember(3, 0, 1));
        due(1, chapel.addMember(7, 6, 99));
        due("0:0-3s1c0w0", outputOf(chapel, chapel.renderMember(0)));
        due("1:6-7s99c0w0", outputOf(chapel, chapel.renderMember(1)));
        refused(STATE, () -> chapel.addMember(0, 3, 5));
        refused(STATE, () -> chapel.addMember(3, 0, 5));
        refused(ARGUMENT, () -> chapel.addMember(0, 3, 100));
        int count = 2;
        for (int one = 0; one < 4 && count < 16; one++) {
            for (int other = 4; other < 8 && count < 16; other++) {
                due(count++, chapel.addMember(one, other, 9));
            }
        }
        due(16, chapel.memberCount());
        refused(STATE, () -> chapel.addMember(0, 1, 5));
        refused(ARGUMENT, () -> chapel.addMember(0, 0, 5));
        due(16, chapel.memberCount());
    }

    private static void promise3() {
        BridgeChapel chapel = ring();
        refusesPairs((from, to) -> chapel.procession(from, to, 1));
        refused(ARGUMENT, () -> chapel.procession(0, 1, 0));
        refused(ARGUMENT, () -> chapel.procession(0, 1, 100));
        refused(ARGUMENT, () -> chapel.procession(0, 7, 0));
        refused(ELEMENT, () -> chapel.procession(0, 7, 99));
        refused(UNSUPPORTED, () -> chapel.procession(0, 3, 51));
        due(3, chapel.procession(0, 3, 50));
        due(50, chapel.wear(0));
        due(50, chapel.wear(2));
        due(0, chapel.wear(3));
        due(3, chapel.procession(3, 0, 49));
        due(99, chapel.wear(1));
        due(0, chapel.crack(1));
        due(1, chapel.procession(1, 2, 1));
        due(0, chapel.wear(1));
        due(1, chapel.crack(1));
        chapel.put(0, 'c', 20);
        refused(UNSUPPORTED, () -> chapel.procession(1, 2, 26));
        due(1, chapel.procession(2, 1, 25));
        due(45, chapel.wear(1));

        BridgeChapel strong = new BridgeChapel();
        strong.addMember(0, 1, 99);
        strong.addMember(1, 2, 9);
        crackTo(strong, 0, 9);
        due(9, strong.bearing(0));
        for (int walk = 0; walk < 30; walk++) {
            strong.procession(0, 1, 9);
        }
        due(9, strong.crack(0));
        due(true, strong.wear(0) < 100);
        strong.abandon(0);
        refused(ELEMENT, () -> strong.procession(0, 1, 1));
    }

    private static void promise4() {
        BridgeChapel chapel = new BridgeChapel();
        chapel.passDays(10);
        refused(ARGUMENT, () -> chapel.makeVow(10, 5));
        refused(ARGUMENT, () -> chapel.makeVow(61, 5));
        refused(ARGUMENT, () -> chapel.makeVow(LEAST, 5));
        refused(ARGUMENT, () -> chapel.makeVow(MOST, 5));
        refused(ARGUMENT, () -> chapel.makeVow(11, 0));
        refused(ARGUMENT, () -> chapel.makeVow(11, 100));
        due(0, chapel.makeVow(11, 1));
        due(1, chapel.makeVow(60, 99));
        for (int id = 2; id < 8; id++) {
            due(id, chapel.makeVow(20, 1));
        }
        refused(STATE, () -> chapel.makeVow(20, 1));
        refused(ARGUMENT, () -> chapel.makeVow(20, 0));
        chapel.passDays(1);
        due(8, chapel.makeVow(20, 1));
        due(8, chapel.vowCount());
    }

    private static void promise5() {
        BridgeChapel chapel = new BridgeChapel();
        refused(ARGUMENT, () -> chapel.setForge(-1));
        refused(ARGUMENT, () -> chapel.setForge(21));
        due(5, chapel.setForge(20));
        chapel.passDays(2);
        due(70, chapel.steel());
        due(20, chapel.setForge(0));
        chapel.passDays(3);
        due(70, chapel.steel());
        due(0, chapel.setForge(0));
    }

    private static void promise6() {
        BridgeChapel chapel = new BridgeChapel();
        chapel.addMember(0, 1, 91);
        refusesMembers(1, chapel::repair);
        due(0, chapel.repair(0));
        crackTo(chapel, 0, 3);
        due(30, chapel.repairCost(0));
        due(true, chapel.wear(0) > 0);
        chapel.abandon(0);
        refused(STATE, () -> chapel.repair(0));
        chapel.resume(0);
        due(30, chapel.repair(0));
        due(0, chapel.steel());
        due("0:0-1s91c0w0", outputOf(chapel, chapel.renderMember(0)));
        crackTo(chapel, 0, 1);
        refused(UNSUPPORTED, () -> chapel.repair(0));
        due(1, chapel.crack(0));
        chapel.abandon(0);
        refused(STATE, () -> chapel.repair(0));
        chapel.resume(0);
        chapel.passDays(2);
        due(10, chapel.repair(0));
        due(0, chapel.steel());
        chapel.procession(0, 1, 30);
        due(0, chapel.repair(0));
        due(0, chapel.wear(0));
    }

    private static void promise7() {
        BridgeChapel chapel = ring();
        refusesMembers(5, chapel::abandon);
        due(1, chapel.abandon(4));
        due(2, chapel.abandon(0));
        refused(STATE, () -> chapel.abandon(0));
        due(true, chapel.isAbandoned(0));
        due(false, chapel.isAbandoned(1));
        due(5, chapel.memberCount());
    }

    private static void promise8() {
        BridgeChapel chapel = ring();
        chapel.procession(3, 4, 99);
        chapel.procession(3, 4, 30);
        chapel.abandon(4);
        chapel.abandon(1);
        refusesMembers(5, chapel::resume);
        refused(STATE, () -> chapel.resume(0));
        due(1, chapel.resume(4));
        due("4:3-4s99c1w29", outputOf(chapel, chapel.renderMember(4)));
        refused(STATE, () -> chapel.resume(4));
        due(0, chapel.resume(1));
    }

    private static void promise9() {
        BridgeChapel chapel = new BridgeChapel();
        char[] noKinds = {'x', 'C', 'L', 0, 'd', Character.MAX_VALUE};
        for (char kind : noKinds) {
            refused(ARGUMENT, () -> chapel.setNiche(kind));
        }
        chapel.put(0, 'c', 5);
        chapel.put(3, 'c', 20);
        due(25, chapel.setNiche('l'));
        due('l', chapel.nicheKind());
        due(0, chapel.nicheWeight());
        due(7, chapel.put(3, 'l', 7));
        due(7, chapel.setNiche('l'));
        due(0, chapel.nicheWeight());
        due(0, chapel.setNiche('c'));
        due('c', chapel.nicheKind());
    }

    private static void promise10() {
        BridgeChapel chapel = new BridgeChapel();
        refused(INDEX, () -> chapel.put(-1, 'x', 0));
        refused(INDEX, () -> chapel.put(4, 'c', 5));
        refused(INDEX, () -> chapel.put(LEAST, 'c', 5));
        refused(ARGUMENT, () -> chapel.put(0, 'x', 5));
        refused(ARGUMENT, () -> chapel.put(0, 'l', 0));
        refused(ARGUMENT, () -> chapel.put(0, 'c', 21));
        refused(UNSUPPORTED, () -> chapel.put(0, 'l', 5));
        due(1, chapel.put(0, 'c', 1));
        due(21, chapel.put(3, 'c', 20));
        refused(UNSUPPORTED, () -> chapel.put(0, 'l', 5));
        refused(STATE, () -> chapel.put(0, 'c', 5));
        refused(ARGUMENT, () -> chapel.put(0, 'c', 0));
        due(24, chapel.put(1, 'c', 3));
        due(24, chapel.nicheWeight());
    }

    private static void promise11() {
        BridgeChapel chapel = new BridgeChapel();
        refused(ARGUMENT, () -> chapel.passDays(0));
        refused(ARGUMENT, () -> chapel.passDays(-1));
        refused(ARGUMENT, () -> chapel.passDays(31));
        chapel.makeVow(3, 46);
        chapel.makeVow(3, 45);
        chapel.makeVow(2, 99);
        chapel.makeVow(4, 5);
        due(0, chapel.passDays(2));
        due(1, chapel.brokenTotal());
        due(40, chapel.steel());
        due(1, chapel.passDays(1));
        due(2, chapel.brokenTotal());
        due(0, chapel.steel());
        due(1, chapel.passDays(30));
        due(33, chapel.day());
        due(145, chapel.steel());
        BridgeChapel order = new BridgeChapel();
        order.makeVow(1, 30);
        order.makeVow(1, 10);
        order.makeVow(1, 5);
        due(2, order.passDays(1));
        due(1, order.brokenTotal());
        due(0, order.steel());
    }

    private static void promise12() {
        BridgeChapel chapel = ring();
        due(5, chapel.memberCount());
        chapel.abandon(0);
        due(5, chapel.memberCount());
        chapel.addMember(6, 7, 1);
        due(6, chapel.memberCount());
    }

    private static void promises13And14() {
        BridgeChapel chapel = new BridgeChapel();
        chapel.addMember(6, 2, 5);
        chapel.addMember(0, 7, 5);
        refusesMembers(2, chapel::firstJoint);
        due(2, chapel.firstJoint(0));
        due(0, chapel.firstJoint(1));
        about = "promise 14";
        refusesMembers(2, chapel::secondJoint);
        due(6, chapel.secondJoint(0));
        due(7, chapel.secondJoint(1));
    }

    private static void promises15To17() {
        BridgeChapel chapel = ring();
        refusesMembers(5, chapel::crack);
        due(0, chapel.crack(4));
        chapel.procession(3, 4, 99);
        chapel.procession(3, 4, 98);
        due(1, chapel.crack(4));
        due(0, chapel.crack(0));
        about = "promise 16";
        refusesMembers(5, chapel::wear);
        due(97, chapel.wear(4));
        due(0, chapel.wear(0));
        about = "promise 17";
        refusesMembers(5, chapel::isAbandoned);
        due(false, chapel.isAbandoned(4));
        chapel.abandon(4);
        due(true, chapel.isAbandoned(4));
    }

    private static void promise18() {
        BridgeChapel chapel = new BridgeChapel();
        chapel.addMember(0, 1, 99);
        chapel.addMember(2, 3, 1);
        refusesMembers(2, chapel::bearing);
        int[] bearings = {99, 89, 79, 69, 59, 49, 39, 29, 19, 9};
        for (int crack = 0; crack < 10; crack++) {
            crackTo(chapel, 0, crack);
            due(bearings[crack], chapel.bearing(0));
        }
        chapel.abandon(0);
        due(0, chapel.bearing(0));
        chapel.resume(0);
        due(9, chapel.bearing(0));
        for (int walk = 0; walk < 100; walk++) {
            chapel.procession(2, 3, 1);
        }
        due(1, chapel.crack(1));
        due(0, chapel.bearing(1));
    }

    private static void promise19() {
        BridgeChapel chapel = new BridgeChapel();
        chapel.addMember(0, 1, 30);
        chapel.addMember(1, 2, 31);
        refusesMembers(2, chapel::repairCost);
        due(0, chapel.repairCost(0));
        crackTo(chapel, 0, 2);
        crackTo(chapel, 1, 2);
        due(6, chapel.repairCost(0));
        due(8, chapel.repairCost(1));
        chapel.abandon(1);
        due(8, chapel.repairCost(1));
    }

    private static void promises20And21() {
        BridgeChapel chapel = new BridgeChapel();
        chapel.addMember(0, 1, 99);
        chapel.addMember(1, 2, 36);
        refusesMembers(2, member -> chapel.strain(member, 5));
        due(0.5f, chapel.strain(1, 18));
        due(0.0f, chapel.strain(1, 0));
        due(1.0f / 99.0f, chapel.strain(0, 1));
        due((float) LEAST / 36.0f, chapel.strain(1, LEAST));
        due((float) MOST / 99.0f, chapel.strain(0, MOST));
        about = "promise 21";
        refusesMembers(2, member -> chapel.strainBits(member, 5));
        int[] loads = {0, 1, -1, 2, 17, 18, 36, 37, -99, 99, 16777217, -16777219, LEAST, LEAST + 1, MOST, 1 << 30};
        for (int member = 0; member < 2; member++) {
            for (int load : loads) {
                float strain = (float) load / (float) chapel.bearing(member);
                due(Float.floatToIntBits(strain), chapel.strainBits(member, load));
            }
        }
        chapel.abandon(0);
        refused(ARITHMETIC, () -> chapel.strainBits(0, 5));
        about = "promise 20";
        refused(ARITHMETIC, () -> chapel.strain(0, 5));
        refused(ARITHMETIC, () -> chapel.strain(0, 0));

        // Every bearing from 1 to 99 with many loads, for the bits are made by arithmetic.
        about = "promise 21";
        for (int strength = 1; strength <= 99; strength++) {
            BridgeChapel one = new BridgeChapel();
            one.addMember(0, 1, strength);
            for (int factor = -250; factor <= 250; factor++) {
                int load = factor * 7919;
                due(Float.floatToIntBits((float) load / (float) strength), one.strainBits(0, load));
            }
        }
    }

    private static void promise22() {
        BridgeChapel chapel = new BridgeChapel();
        due(0L, chapel.links());
        chapel.addMember(1, 0, 5);
        due((1L << 1) + (1L << 8), chapel.links());
        chapel.undo();
        due(0L, chapel.links());
        chapel.addMember(1, 0, 5);
        due((1L << 1) + (1L << 8), chapel.links());
        chapel.addMember(6, 7, 5);
        due((1L << 1) + (1L << 8) + (1L << 55) + (1L << 62), chapel.links());
        chapel.abandon(0);
        due((1L << 55) + (1L << 62), chapel.links());
        chapel.addMember(2, 3, 1);
        chapel.addMember(4, 5, 1);
        due((1L << 55) + (1L << 62) + (1L << 19) + (1L << 26) + (1L << 37) + (1L << 44), chapel.links());
        chapel.undo();
        for (int walk = 0; walk < 99; walk++) {
            chapel.procession(2, 3, 1);
        }
        due((1L << 55) + (1L << 62) + (1L << 19) + (1L << 26), chapel.links());
        chapel.procession(2, 3, 1);
        due((1L << 55) + (1L << 62), chapel.links());
    }

    private static void widest(BridgeChapel chapel, int want, int from, int to) {
        about = "promise 23";
        due(want, chapel.widestLoad(from, to));
        due(want, chapel.widestLoad(to, from));
        about = "promise 24";
        due(want, chapel.widestLoadByTrial(from, to));
        due(want, chapel.widestLoadByTrial(to, from));
    }

    private static void noWay(BridgeChapel chapel, int from, int to) {
        about = "promise 23";
        refused(ELEMENT, () -> chapel.widestLoad(from, to));
        about = "promise 24";
        refused(ELEMENT, () -> chapel.widestLoadByTrial(from, to));
        about = "promise 25";
        refused(ELEMENT, () -> chapel.wayLength(from, to));
        about = "promise 26";
        refused(ELEMENT, () -> chapel.wayJoint(from, to, 0));
        about = "promise 50";
        refused(ELEMENT, () -> chapel.renderWay(from, to));
    }

    private static void promises23And24() {
        BridgeChapel chapel = ring();
        refusesPairs(chapel::widestLoad);
        about = "promise 24";
        refusesPairs(chapel::widestLoadByTrial);
        widest(chapel, 50, 0, 3);
        widest(chapel, 50, 0, 4);
        widest(chapel, 99, 3, 4);
        widest(chapel, 60, 0, 1);
        noWay(chapel, 0, 7);
        noWay(chapel, 6, 7);
        chapel.abandon(1);
        widest(chapel, 40, 0, 3);
        widest(chapel, 40, 1, 2);
        chapel.abandon(4);
        noWay(chapel, 4, 0);
        BridgeChapel line = new BridgeChapel();
        for (int joint = 0; joint < 7; joint++) {
            line.addMember(joint, joint + 1, joint == 3 ? 1 : 10 + joint);
        }
        widest(line, 1, 0, 7);
        widest(line, 10, 0, 3);
        widest(line, 14, 4, 7);
        // A weak direct member does not hide a long way that bears more.
        line.addMember(4, 7, 2);
        widest(line, 14, 4, 7);
        for (int walk = 0; walk < 100; walk++) {
            line.procession(3, 4, 1);
        }
        noWay(line, 0, 7);
    }

    private static void promises25And26() {
        BridgeChapel chapel = ring();
        refusesPairs(chapel::wayLength);
        due(3, chapel.wayLength(0, 3));
        due(4, chapel.wayLength(0, 4));
        due(1, chapel.wayLength(4, 3));
        about = "promise 26";
        refusesPairs((from, to) -> chapel.wayJoint(from, to, 0));
        refusesPairs((from, to) -> chapel.wayJoint(from, to, -1));
        for (int position = 0; position <= 3; position++) {
            due(position, chapel.wayJoint(0, 3, position));
            due(3 - position, chapel.wayJoint(3, 0, position));
        }
        refused(ELEMENT, () -> chapel.wayJoint(0, 3, 4));
        refused(ELEMENT, () -> chapel.wayJoint(0, 3, -1));
        refused(ELEMENT, () -> chapel.wayJoint(0, 3, LEAST));
        refused(ELEMENT, () -> chapel.wayJoint(0, 3, MOST));

        // Of ways that bear the same, the shortest; of these, the lower joint where they part.
        BridgeChapel equal = new BridgeChapel();
        equal.addMember(0, 6, 20);
        equal.addMember(6, 7, 20);
        equal.addMember(0, 5, 20);
        equal.addMember(5, 1, 20);
        equal.addMember(1, 7, 20);
        due("0>6>7", outputOf(equal, equal.renderWay(0, 7)));
        equal.addMember(5, 7, 30);
        due("0>5>7", outputOf(equal, equal.renderWay(0, 7)));
        due("7>5>0", outputOf(equal, equal.renderWay(7, 0)));
        equal.abandon(3);
        equal.abandon(5);
        equal.addMember(2, 5, 20);
        equal.addMember(2, 7, 20);
        equal.abandon(1);
        due("0>5>2>7", outputOf(equal, equal.renderWay(0, 7)));
        equal.addMember(0, 3, 20);
        equal.addMember(3, 4, 20);
        equal.addMember(4, 7, 20);
        due("0>3>4>7", outputOf(equal, equal.renderWay(0, 7)));
        due("7>2>5>0", outputOf(equal, equal.renderWay(7, 0)));
        BridgeChapel line = new BridgeChapel();
        for (int joint = 0; joint < 7; joint++) {
            line.addMember(joint, joint + 1, 20);
        }
        due(7, line.wayLength(7, 0));
        due("0>1>2>3>4>5>6>7", outputOf(line, line.renderWay(0, 7)));
        due("7>6>5>4>3>2>1>0", outputOf(line, line.renderWay(7, 0)));
        line.addMember(2, 6, 20);
        due("0>1>2>6>7", outputOf(line, line.renderWay(0, 7)));
        due(7, line.wayJoint(0, 7, 4));
        due(3, equal.wayLength(7, 0));
        due(2, equal.wayJoint(7, 0, 1));
        due(3, equal.wayJoint(0, 7, 1));
    }

    private static void critical(BridgeChapel chapel, boolean want, int member) {
        about = "promise 27";
        due(want, chapel.isCritical(member));
        about = "promise 28";
        due(want, chapel.isCriticalByRemoval(member));
    }

    private static void promises27And28() {
        BridgeChapel chapel = ring();
        refusesMembers(5, chapel::isCritical);
        about = "promise 28";
        refusesMembers(5, chapel::isCriticalByRemoval);
        for (int member = 0; member < 4; member++) {
            critical(chapel, false, member);
        }
        critical(chapel, true, 4);
        chapel.abandon(2);
        critical(chapel, false, 2);
        critical(chapel, true, 0);
        critical(chapel, true, 1);
        critical(chapel, true, 3);
        chapel.resume(2);
        chapel.addMember(5, 4, 1);
        chapel.addMember(5, 6, 1);
        chapel.addMember(6, 4, 1);
        critical(chapel, true, 4);
        critical(chapel, false, 5);
        critical(chapel, false, 6);
        for (int walk = 0; walk < 100; walk++) {
            chapel.procession(5, 6, 1);
        }
        due(0, chapel.bearing(6));
        critical(chapel, false, 6);
        critical(chapel, true, 5);
        critical(chapel, true, 7);
        // What one search numbered is nothing to the next one.
        BridgeChapel row = new BridgeChapel();
        row.addMember(0, 3, 5);
        row.addMember(1, 3, 5);
        row.addMember(1, 2, 5);
        critical(row, true, 0);
        critical(row, true, 1);
        critical(row, true, 2);
        critical(row, true, 0);
        row.addMember(0, 2, 5);
        critical(row, false, 1);
        critical(row, false, 3);
    }

    private static void affordable(BridgeChapel chapel, int want, int from, int to) {
        about = "promise 29";
        due(want, chapel.affordableLoad(from, to));
        due(want, chapel.affordableLoad(to, from));
        about = "promise 30";
        due(want, chapel.affordableLoadByTable(from, to));
        due(want, chapel.affordableLoadByTable(to, from));
    }

    private static void notAffordable(BridgeChapel chapel, int from, int to) {
        about = "promise 29";
        refused(ELEMENT, () -> chapel.affordableLoad(from, to));
        about = "promise 30";
        refused(ELEMENT, () -> chapel.affordableLoadByTable(from, to));
    }

    private static void promises29And30() {
        BridgeChapel chapel = ring();
        refusesPairs(chapel::affordableLoad);
        about = "promise 30";
        refusesPairs(chapel::affordableLoadByTable);
        affordable(chapel, 50, 0, 3);
        notAffordable(chapel, 0, 7);
        crackTo(chapel, 4, 3);
        due(30, chapel.repairCost(4));
        affordable(chapel, 99, 3, 4);
        affordable(chapel, 50, 0, 4);
        chapel.makeVow(1, 6);
        chapel.passDays(1);
        due(29, chapel.steel());
        affordable(chapel, 69, 3, 4);
        chapel.put(0, 'c', 20);
        affordable(chapel, 69, 3, 4);
        chapel.abandon(4);
        notAffordable(chapel, 3, 4);
        chapel.resume(4);

        // Two cracked members in a row: the steel is for both or for the weaker one.
        BridgeChapel row = new BridgeChapel();
        row.addMember(0, 1, 80);
        row.addMember(1, 2, 90);
        crackTo(row, 0, 2);
        crackTo(row, 1, 2);
        due(16, row.repairCost(0));
        due(18, row.repairCost(1));
        due(64, row.bearing(0));
        due(72, row.bearing(1));
        affordable(row, 72, 0, 2);
        row.setForge(3);
        row.passDays(1);
        affordable(row, 72, 0, 2);
        // A member that needs no repair takes nothing from the cost.
        row.addMember(2, 3, 95);
        affordable(row, 72, 0, 3);
        row.setForge(1);
        row.passDays(1);
        affordable(row, 80, 0, 2);
        affordable(row, 80, 0, 3);
        // A member of 1 that cannot be walked can after its repair.
        row.addMember(6, 7, 1);
        for (int walk = 0; walk < 100; walk++) {
            row.procession(6, 7, 1);
        }
        about = "promise 23";
        refused(ELEMENT, () -> row.widestLoad(6, 7));
        affordable(row, 1, 6, 7);
        row.setForge(0);
        row.makeVow(3, row.steel());
        row.passDays(1);
        due(0, row.steel());
        notAffordable(row, 6, 7);
        affordable(row, 64, 0, 2);
        affordableByDetours();
    }

    /** The cheapest way for a load is neither the shortest one nor the one whose first repair is the cheapest. */
    private static void affordableByDetours() {
        BridgeChapel chapel = new BridgeChapel();
        chapel.addMember(0, 7, 90);
        chapel.addMember(0, 1, 80);
        chapel.addMember(1, 2, 80);
        chapel.addMember(2, 7, 80);
        chapel.addMember(0, 6, 80);
        chapel.addMember(6, 7, 80);
        crackTo(chapel, 0, 5);
        crackTo(chapel, 1, 1);
        crackTo(chapel, 2, 1);
        crackTo(chapel, 3, 1);
        crackTo(chapel, 5, 4);
        due(45, chapel.repairCost(0));
        due(8, chapel.repairCost(1));
        due(32, chapel.repairCost(5));
        affordable(chapel, 80, 0, 7);
        chapel.makeVow(1, 12);
        chapel.passDays(1);
        due(23, chapel.steel());
        affordable(chapel, 72, 0, 7);
        chapel.setForge(1);
        chapel.passDays(1);
        affordable(chapel, 80, 0, 7);
        chapel.abandon(2);
        affordable(chapel, 48, 0, 7);
        chapel.setForge(8);
        chapel.passDays(1);
        affordable(chapel, 80, 0, 7);
        affordable(chapel, 72, 1, 7);
    }

    private static void promise31() {
        BridgeChapel chapel = new BridgeChapel();
        refused(ELEMENT, () -> chapel.memberByBearing(0));
        chapel.addMember(0, 1, 50);
        chapel.addMember(0, 2, 45);
        chapel.addMember(0, 3, 45);
        chapel.addMember(0, 4, 60);
        crackTo(chapel, 0, 1);
        chapel.abandon(3);
        int[] order = {3, 0, 1, 2};
        for (int rank = 0; rank < 4; rank++) {
            due(order[rank], chapel.memberByBearing(rank));
        }
        refused(ELEMENT, () -> chapel.memberByBearing(4));
        refused(ELEMENT, () -> chapel.memberByBearing(-1));
        refused(ELEMENT, () -> chapel.memberByBearing(LEAST));
        chapel.abandon(0);
        due(0, chapel.memberByBearing(0));
        due(3, chapel.memberByBearing(1));
    }

    private static void promises32And33() {
        BridgeChapel chapel = new BridgeChapel();
        due('c', chapel.nicheKind());
        chapel.setNiche('l');
        due('l', chapel.nicheKind());
        about = "promise 33";
        for (int place = 0; place < 4; place++) {
            due(20 * place, chapel.nicheWeight());
            chapel.put(place, 'l', 20);
        }
        due(80, chapel.nicheWeight());
    }

    private static void promises34To37() {
        BridgeChapel chapel = new BridgeChapel();
        due(0, chapel.vowCount());
        chapel.makeVow(5, 10);
        chapel.makeVow(3, 11);
        chapel.makeVow(5, 12);
        chapel.makeVow(3, 13);
        due(4, chapel.vowCount());
        about = "promise 35";
        int[] order = {1, 3, 0, 2};
        for (int position = 0; position < 4; position++) {
            due(order[position], chapel.vowAt(position));
        }
        refused(ELEMENT, () -> chapel.vowAt(4));
        refused(ELEMENT, () -> chapel.vowAt(-1));
        refused(ELEMENT, () -> chapel.vowAt(MOST));
        about = "promise 36";
        due(5, chapel.dueDay(0));
        due(3, chapel.dueDay(3));
        refused(ELEMENT, () -> chapel.dueDay(4));
        refused(ELEMENT, () -> chapel.dueDay(-1));
        about = "promise 37";
        due(10, chapel.amount(0));
        due(13, chapel.amount(3));
        refused(ELEMENT, () -> chapel.amount(4));
        refused(ELEMENT, () -> chapel.amount(-1));
        chapel.passDays(3);
        about = "promise 34";
        due(2, chapel.vowCount());
        about = "promise 35";
        due(0, chapel.vowAt(0));
        due(2, chapel.vowAt(1));
        refused(ELEMENT, () -> chapel.vowAt(2));
        about = "promise 36";
        refused(ELEMENT, () -> chapel.dueDay(1));
        due(5, chapel.dueDay(2));
        about = "promise 37";
        refused(ELEMENT, () -> chapel.amount(3));
        due(12, chapel.amount(2));
    }

    private static void keepable(BridgeChapel chapel, boolean want) {
        about = "promise 38";
        due(want, chapel.canKeepAll());
        about = "promise 39";
        due(want, chapel.canKeepAllBySums());
    }

    private static void promises38And39() {
        BridgeChapel chapel = new BridgeChapel();
        keepable(chapel, true);
        chapel.makeVow(1, 35);
        keepable(chapel, true);
        chapel.makeVow(2, 6);
        keepable(chapel, false);
        chapel.setForge(6);
        keepable(chapel, true);
        chapel.setForge(0);
        keepable(chapel, false);
        BridgeChapel late = new BridgeChapel();
        late.passDays(3);
        late.setForge(1);
        late.makeVow(53, 95);
        keepable(late, true);
        late.makeVow(52, 1);
        keepable(late, false);
        late.setForge(2);
        keepable(late, true);
    }

    private static void promise40() {
        BridgeChapel chapel = new BridgeChapel();
        refused(ARGUMENT, () -> chapel.greatestVow(0));
        refused(ARGUMENT, () -> chapel.greatestVow(51));
        refused(ARGUMENT, () -> chapel.greatestVow(LEAST));
        due(35, chapel.greatestVow(1));
        due(280, chapel.greatestVow(50));
        chapel.makeVow(10, 70);
        due(10, chapel.greatestVow(1));
        due(10, chapel.greatestVow(10));
        due(15, chapel.greatestVow(11));
        chapel.makeVow(3, 10);
        due(0, chapel.greatestVow(1));
        due(0, chapel.greatestVow(10));
        due(5, chapel.greatestVow(11));
        chapel.makeVow(50, 1);
        due(5, chapel.greatestVow(11));
        chapel.makeVow(10, 1);
        refused(ELEMENT, () -> chapel.greatestVow(1));
        refused(ELEMENT, () -> chapel.greatestVow(50));
        refused(ARGUMENT, () -> chapel.greatestVow(51));
        // It does not matter that no ninth vow could be made.
        BridgeChapel full = new BridgeChapel();
        for (int vow = 0; vow < 8; vow++) {
            full.makeVow(1, 1);
        }
        due(27, full.greatestVow(1));
    }

    private static void promises41To45() {
        BridgeChapel chapel = new BridgeChapel();
        chapel.addMember(0, 1, 99);
        chapel.makeVow(1, 99);
        chapel.makeVow(2, 9);
        chapel.makeVow(2, 8);
        due(0, chapel.keptTotal());
        chapel.passDays(2);
        due(2, chapel.keptTotal());
        about = "promise 42";
        due(1, chapel.brokenTotal());
        about = "promise 43";
        due(23, chapel.steel());
        about = "promise 44";
        due(23, chapel.steelByAccounts());
        crackTo(chapel, 0, 2);
        chapel.repair(0);
        due(3, chapel.steelByAccounts());
        about = "promise 43";
        due(3, chapel.steel());
        about = "promise 45";
        due(2, chapel.day());
        chapel.passDays(30);
        due(32, chapel.day());
        about = "promise 43";
        due(153, chapel.steel());
        about = "promise 44";
        due(153, chapel.steelByAccounts());
        chapel.undo();
        due(3, chapel.steelByAccounts());
        chapel.undo();
        due(23, chapel.steelByAccounts());
    }

    private static void promises46And47() {
        BridgeChapel chapel = new BridgeChapel();
        refused(ARITHMETIC, chapel::meanBearing);
        about = "promise 47";
        refused(ARITHMETIC, chapel::crackedShare);
        chapel.addMember(0, 1, 50);
        chapel.addMember(1, 2, 40);
        chapel.addMember(2, 3, 31);
        about = "promise 46";
        due(121.0 / 3.0, chapel.meanBearing());
        about = "promise 47";
        due(0.0f, chapel.crackedShare());
        crackTo(chapel, 0, 1);
        due(1.0f / 3.0f, chapel.crackedShare());
        crackTo(chapel, 0, 2);
        due(1.0f / 3.0f, chapel.crackedShare());
        about = "promise 46";
        due(111.0 / 3.0, chapel.meanBearing());
        chapel.abandon(0);
        due(71.0 / 3.0, chapel.meanBearing());
        about = "promise 47";
        due(1.0f / 3.0f, chapel.crackedShare());
    }

    private static void promise48() {
        BridgeChapel chapel = new BridgeChapel();
        due(true, chapel.isConsistent());
        BridgeChapel busy = ring();
        crackTo(busy, 4, 3);
        busy.makeVow(2, 99);
        due(true, busy.isConsistent());
        busy.abandon(2);
        busy.passDays(2);
        due(true, busy.isConsistent());
        String before = stateOf(busy);
        due(true, busy.isConsistent());
        due(before, stateOf(busy));
    }

    private static void promise49() {
        BridgeChapel chapel = ring();
        refusesMembers(5, chapel::renderMember);
        due(12, chapel.renderMember(3));
        due("3:0-3s40c0w0", outputOf(chapel, 12));
        crackTo(chapel, 4, 9);
        due("4:3-4s99c9w" + chapel.wear(4), outputOf(chapel, chapel.renderMember(4)));
        chapel.abandon(4);
        due("4:3-4s99c9w" + chapel.wear(4) + "x", outputOf(chapel, chapel.renderMember(4)));
        BridgeChapel document = new BridgeChapel();
        document.addMember(1, 2, 1);
        document.addMember(1, 3, 1);
        document.addMember(1, 4, 1);
        document.addMember(0, 5, 40);
        document.procession(0, 5, 40);
        document.procession(0, 5, 40);
        document.procession(0, 5, 40);
        document.procession(0, 5, 36);
        document.procession(0, 5, 36);
        document.procession(0, 5, 23);
        document.abandon(3);
        due("3:0-5s40c2w15x", outputOf(document, document.renderMember(3)));
        for (int other = 0; document.memberCount() < 16; other++) {
            document.addMember(6 + other / 6, other % 6, 10);
        }
        due(true, outputOf(document, document.renderMember(15)).startsWith("15:5-7s10c0w0"));
    }

    private static void promise50() {
        BridgeChapel chapel = ring();
        refusesPairs(chapel::renderWay);
        due(7, chapel.renderWay(0, 3));
        due("0>1>2>3", outputOf(chapel, 7));
        refused(ELEMENT, () -> chapel.renderWay(0, 7));
        refused(INDEX, () -> chapel.renderWay(0, 8));
        due("0>1>2>3", outputOf(chapel, 7));
        due(3, chapel.renderWay(4, 3));
        due("4>3", outputOf(chapel, 3));
    }

    private static void promise51() {
        BridgeChapel chapel = ring();
        refused(INDEX, () -> chapel.outputAt(0));
        refused(INDEX, () -> chapel.outputAt(-1));
        chapel.renderWay(4, 3);
        due('4', chapel.outputAt(0));
        due('>', chapel.outputAt(1));
        due('3', chapel.outputAt(2));
        refused(INDEX, () -> chapel.outputAt(3));
        refused(INDEX, () -> chapel.outputAt(-1));
        refused(INDEX, () -> chapel.outputAt(LEAST));
        refused(INDEX, () -> chapel.outputAt(MOST));
        chapel.undo();
        chapel.save();
        chapel.restore();
        due('4', chapel.outputAt(0));
    }

    private static void promise52() {
        BridgeChapel chapel = new BridgeChapel();
        char[] noCharacters = {0, 31, 127, 128, 255, Character.MAX_VALUE};
        for (char character : noCharacters) {
            refused(ARGUMENT, () -> chapel.type(character));
        }
        due(1, chapel.type((char) 32));
        due(2, chapel.type((char) 126));
        for (int length = 3; length <= 60; length++) {
            due(length, chapel.type('d'));
        }
        refused(STATE, () -> chapel.type('d'));
        refused(ARGUMENT, () -> chapel.type((char) 127));
        due(0, errorOf(chapel, ""));
        due(1, chapel.type('d'));
    }

    private static void promise53() {
        BridgeChapel chapel = new BridgeChapel();
        due(6, run(chapel, "member 01 40;member 12 30;put 0 c5;walk 02 25;day 3;repair 1"));
        due("0:0-1s40c0w30 1:1-2s30c0w0 c5 day 3 steel 45=45 kept 0 broken 0", stateOf(chapel));
        due(6, run(chapel, "vow 9 20;forge 7;abandon 0;resume 0;niche l;day"));
        due("0:0-1s40c0w30 1:1-2s30c0w0 v0d9a20 l0 day 4 steel 52=52 kept 0 broken 0", stateOf(chapel));
        due(15, run(chapel, "day;day;day;day;day;day;day;day;day;day;day;day;day;day;day"));
        due(19, chapel.day());
        due(1, run(chapel, "day 001"));
        due(1, run(chapel, "put 3 l020"));
        due(20, chapel.nicheWeight());
        due(2, run(chapel, "niche c;niche l"));
        due(0, chapel.nicheWeight());
        // The form is looked at before anything is executed, and the buffer is empty after each script.
        due(4, errorOf(chapel, "day;x"));
        due(20, chapel.day());
        due(1, run(chapel, "day"));
        due(21, chapel.day());
        // A whole script is one change.
        due(3, run(chapel, "day;day;day"));
        chapel.undo();
        due(21, chapel.day());
        scriptsAreOneChange();
        scriptsFail();
    }

    /** Two members, on day 20, with a lamp in the place 3. */
    private static void scriptsFail() {
        BridgeChapel chapel = new BridgeChapel();
        due(2, run(chapel, "member 01 40;member 12 30"));
        due(3, run(chapel, "niche l;put 3 l20;day 20"));
        String before = stateOf(chapel);
        due(2, failedOf(chapel, "day 2;put 0 l9;put 0 l9"));
        due(before, stateOf(chapel));
        due(0, failedOf(chapel, "member 08 5"));
        due(0, failedOf(chapel, "member 00 5;day"));
        due(1, failedOf(chapel, "day;walk 07 5"));
        due(1, failedOf(chapel, "day;walk 01 50"));
        due(0, failedOf(chapel, "walk 01 0"));
        due(0, failedOf(chapel, "vow 20 5"));
        due(0, failedOf(chapel, "vow 21 100"));
        due(0, failedOf(chapel, "forge 21"));
        due(0, failedOf(chapel, "repair 2"));
        due(0, failedOf(chapel, "abandon 999"));
        due(0, failedOf(chapel, "resume 0"));
        due(0, failedOf(chapel, "put 4 l1"));
        due(0, failedOf(chapel, "put 0 c1"));
        due(0, failedOf(chapel, "day 31"));
        due(0, failedOf(chapel, "day 0"));
        due(3, failedOf(chapel, "abandon 0;abandon 1;resume 1;resume 1"));
        due(before, stateOf(chapel));
    }

    private static void scriptsAreOneChange() {
        BridgeChapel chapel = new BridgeChapel();
        for (int change = 0; change < 8; change++) {
            chapel.passDays(1);
        }
        due(1, failedOf(chapel, "day;day 0"));
        due(2, errorOf(chapel, "night"));
        due(7, chapel.undo());
        due(3, run(chapel, "day 2;day 2;forge 9"));
        due(11, chapel.day());
        due(7, chapel.undo());
        due(7, chapel.day());
        due(5, chapel.setForge(9));
    }

    private static void promise54() {
        BridgeChapel chapel = new BridgeChapel();
        refused(ELEMENT, chapel::errorPosition);
        run(chapel, "day");
        failedOf(chapel, "day 0");
        refused(ELEMENT, chapel::errorPosition);
        String[] scripts = {"", "x", "m", "member", "member ", "member 0", "member 01", "member 01 ", "member 0a",
            "member 01 x", "member 01 1234", "member 01 12 ", "member  01", "mexber", "walk 0", "walk 01;", "walk 012",
            "vow 5", "vow 5;", "vow 5 ", "vow 1234 5", "vow 5 5 5", "vow  5", "forge ", "forge x", "forge 1 ", "re",
            "rex", "rep", "resu", "repair", "repairs", "resume x", "abandon ", "abandom", "niche ", "niche x",
            "niche cc", "niche c ", "niche cl", "put 0 c", "put 0 x", "put 0c", "put 00", "put 0 c5 ", "put 0 l1000",
            "da", "day ", "dayx", "day5", "day  5", "day 5 ", "day 1234", "day;", "day;;day", "day; day", ";day",
            "day;day;da", "Day", " day", "day 5;member 01 5;put", "day~"};
        int[] positions = {0, 0, 1, 6, 7, 8, 9, 10, 8,
            10, 13, 12, 7, 2, 6, 7, 7,
            5, 5, 6, 7, 7, 4, 6, 6, 7, 2,
            2, 3, 4, 6, 6, 7, 8, 6, 6, 6,
            7, 7, 7, 7, 6, 5, 5, 8, 10,
            2, 4, 3, 3, 4, 5, 7, 4, 4, 4, 0,
            10, 0, 0, 21, 3};
        for (int index = 0; index < scripts.length; index++) {
            BridgeChapel other = new BridgeChapel();
            due(scripts[index] + " " + positions[index], scripts[index] + " " + errorOf(other, scripts[index]));
            due(positions[index], ReferenceChapel.errorPositionOf(scripts[index]));
        }
        // Sixty characters hold fifteen commands; a sixteenth does not begin.
        due(60, errorOf(chapel, "day;day;day;day;day;day;day;day;day;day;day;day;day;day;day;"));
        due(59, errorOf(chapel, "day;day;day;day;day;day;day;day;day;day;day;day;day;day;day "
                .replace("day ", "dayx")));
        int last = chapel.errorPosition();
        run(chapel, "day");
        failedOf(chapel, "day 0");
        chapel.undo();
        chapel.save();
        chapel.restore();
        due(last, chapel.errorPosition());
        due(0, chapel.failedCommand());
    }

    private static void promise55() {
        BridgeChapel chapel = new BridgeChapel();
        refused(ELEMENT, chapel::failedCommand);
        run(chapel, "day");
        errorOf(chapel, "x");
        refused(ELEMENT, chapel::failedCommand);
        due(2, failedOf(chapel, "day;day;day 0;day 0"));
        run(chapel, "day");
        errorOf(chapel, "x");
        chapel.undo();
        due(2, chapel.failedCommand());
        due(0, failedOf(chapel, "forge 99"));
        due(0, chapel.failedCommand());
    }

    private static void promise56() {
        BridgeChapel chapel = new BridgeChapel();
        refused(STATE, chapel::undo);
        String[] states = new String[12];
        chapel.addMember(0, 1, 99);
        chapel.procession(0, 1, 99);
        chapel.procession(1, 0, 99);
        states[3] = stateOf(chapel);
        chapel.repair(0);
        states[4] = stateOf(chapel);
        chapel.abandon(0);
        states[5] = stateOf(chapel);
        chapel.resume(0);
        states[6] = stateOf(chapel);
        chapel.setNiche('l');
        states[7] = stateOf(chapel);
        chapel.put(1, 'l', 9);
        states[8] = stateOf(chapel);
        chapel.makeVow(1, 5);
        states[9] = stateOf(chapel);
        chapel.passDays(2);
        states[10] = stateOf(chapel);
        run(chapel, "day;forge 3");
        refused(ARGUMENT, () -> chapel.setForge(21));
        refused(ARGUMENT, () -> chapel.passDays(0));
        for (int left = 7; left >= 0; left--) {
            due(left, chapel.undo());
            due(states[3 + left], stateOf(chapel));
        }
        refused(STATE, chapel::undo);
        due(states[3], stateOf(chapel));
        undoIsNoChange();
        undoCoversVows();
        // A member that was undone leaves nothing behind in the next one.
        BridgeChapel again = new BridgeChapel();
        again.addMember(0, 1, 50);
        again.procession(0, 1, 50);
        again.abandon(0);
        again.undo();
        again.undo();
        again.undo();
        due(0, again.memberCount());
        again.addMember(2, 3, 20);
        due("0:2-3s20c0w0", outputOf(again, again.renderMember(0)));
    }

    /** The same state again is a change too, and what was undone does not come back. */
    private static void undoIsNoChange() {
        BridgeChapel chapel = new BridgeChapel();
        due(5, chapel.setForge(5));
        due(5, chapel.setForge(6));
        due(1, chapel.undo());
        due(5, chapel.setForge(7));
        due(1, chapel.undo());
        due(0, chapel.undo());
        due(0, chapel.makeVow(5, 5));
        chapel.undo();
        due(0, chapel.makeVow(5, 5));
        typeAll(chapel, "da");
        chapel.undo();
        due(3, chapel.type('y'));
    }

    private static void undoCoversVows() {
        BridgeChapel chapel = new BridgeChapel();
        for (int vow = 0; vow < 8; vow++) {
            chapel.makeVow(1 + vow % 3, 30 - vow);
        }
        String before = stateOf(chapel);
        chapel.passDays(2);
        due(2, chapel.vowCount());
        due(5, chapel.brokenTotal());
        chapel.undo();
        due(before, stateOf(chapel));
        due(0, chapel.brokenTotal());
        due(8, chapel.vowCount());
        refused(STATE, () -> chapel.makeVow(9, 9));
    }

    /** No row is too short when all places are taken. */
    private static void fullChapel() {
        BridgeChapel chapel = new BridgeChapel();
        for (int member = 0; member < 16; member++) {
            due(member, chapel.addMember(member / 4, 4 + member % 4, 50 + member));
        }
        for (int vow = 0; vow < 8; vow++) {
            due(vow, chapel.makeVow(9 - vow, 10));
        }
        for (int member = 0; member < 16; member++) {
            due(member, chapel.memberByBearing(member));
            critical(chapel, false, member);
        }
        about = "promise 48";
        due(true, chapel.isConsistent());
        about = "promise 46";
        due(57.5, chapel.meanBearing());
        about = "promise 47";
        due(0.0f, chapel.crackedShare());
        widest(chapel, 53, 0, 4);
        affordable(chapel, 53, 0, 4);
        about = "promise 3";
        due(3, chapel.procession(0, 4, 40));
        about = "promise 7";
        due(1, chapel.abandon(15));
        about = "promise 35";
        due(7, chapel.vowAt(0));
        refused(ELEMENT, () -> chapel.vowAt(8));
        about = "promise 36";
        due(2, chapel.dueDay(7));
        refused(ELEMENT, () -> chapel.dueDay(8));
        keepable(chapel, false);
        chapel.setForge(15);
        keepable(chapel, true);
        about = "promise 40";
        due(45, chapel.greatestVow(1));
        about = "promise 11";
        due(8, chapel.passDays(9));
    }

    private static void promises57And58() {
        BridgeChapel chapel = ring();
        about = "promise 58";
        refused(STATE, chapel::restore);
        about = "promise 57";
        chapel.procession(3, 4, 99);
        chapel.makeVow(9, 8);
        chapel.put(2, 'c', 3);
        String saved = stateOf(chapel);
        due(5, chapel.save());
        due(saved, stateOf(chapel));
        chapel.addMember(6, 7, 5);
        due(1, chapel.makeVow(8, 8));
        chapel.passDays(9);
        chapel.procession(3, 4, 9);
        chapel.setNiche('l');
        chapel.abandon(0);
        typeAll(chapel, "da");
        about = "promise 58";
        due(5, chapel.restore());
        due(saved, stateOf(chapel));
        refused(STATE, chapel::undo);
        due(3, chapel.type('y'));
        due(1, chapel.runScript());
        due(0, chapel.undo());
        due(1, chapel.makeVow(8, 8));
        chapel.passDays(1);
        due(5, chapel.restore());
        due(saved, stateOf(chapel));
        about = "promise 57";
        chapel.addMember(6, 7, 5);
        due(6, chapel.save());
        // A snapshot is no change, and undo does not touch it.
        due(0, chapel.undo());
        due(5, chapel.memberCount());
        about = "promise 58";
        due(6, chapel.restore());
        due(6, chapel.memberCount());
        // The snapshot has the members that were then, not those that took their places.
        BridgeChapel other = new BridgeChapel();
        other.addMember(0, 1, 10);
        other.makeVow(3, 4);
        String before = stateOf(other);
        other.save();
        other.undo();
        other.undo();
        other.addMember(2, 3, 20);
        other.makeVow(5, 6);
        other.restore();
        due(before, stateOf(other));
        due((1L << 1) + (1L << 8), other.links());
        fullChapel();
    }

    private static void check(int number) {
        switch (number) {
            case 1 -> promise1();
            case 2 -> promise2();
            case 3 -> promise3();
            case 4 -> promise4();
            case 5 -> promise5();
            case 6 -> promise6();
            case 7 -> promise7();
            case 8 -> promise8();
            case 9 -> promise9();
            case 10 -> promise10();
            case 11 -> promise11();
            case 12 -> promise12();
            case 13 -> promises13And14();
            case 15 -> promises15To17();
            case 18 -> promise18();
            case 19 -> promise19();
            case 20 -> promises20And21();
            case 22 -> promise22();
            case 23 -> promises23And24();
            case 25 -> promises25And26();
            case 27 -> promises27And28();
            case 29 -> promises29And30();
            case 31 -> promise31();
            case 32 -> promises32And33();
            case 34 -> promises34To37();
            case 38 -> promises38And39();
            case 40 -> promise40();
            case 41 -> promises41To45();
            case 46 -> promises46And47();
            case 48 -> promise48();
            case 49 -> promise49();
            case 50 -> promise50();
            case 51 -> promise51();
            case 52 -> promise52();
            case 53 -> promise53();
            case 54 -> promise54();
            case 55 -> promise55();
            case 56 -> promise56();
            case 57 -> promises57And58();
            default -> { }
        }
    }

    public static void main(String[] args) {
        for (int number = 1; number <= 58; number++) {
            about = "promise " + number;
            check(number);
        }
        System.out.println(checks + " checks, " + wrong + " wrong");
        System.exit(wrong == 0 ? 0 : 1);
    }
}
