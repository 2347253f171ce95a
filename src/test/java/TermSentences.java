/** The sentences of the document before its promises. No object here gets more than 512 calls. */
final class TermSentences extends Checks {
    private TermSentences() {
    }

    static void fill(Sentences tests) {
        tests.part("What it is");
        whatItIs(tests);
        tests.part("Terms");
        terms(tests);
        tests.part("Members");
        members(tests);
        tests.part("Ways");
        ways(tests);
        tests.part("Processions");
        processions(tests);
        tests.part("The niche");
        niche(tests);
        tests.part("Steel and vows");
        steelAndVows(tests);
        tests.part("Repairs");
        repairs(tests);
        tests.part("Scripts");
        ScriptSentences.fill(tests);
        tests.part("Changes");
        HistorySentences.fill(tests);
        tests.part("Not promised");
        tests.free("How the state is held inside the object is free, as are the speed of each call, the text of toString "
                + "and the behaviour of equals and hashCode.");
        tests.free("Use of one object from several threads at once is not promised to be safe.");
        tests.free("Nothing is promised beyond the answers and state changes described above, and nothing about an "
                + "object after its 512th call.");
    }

    /** One member from 0 to 1, which has the crack 0 and the wear 0. */
    static BridgeChapel single(int strength) {
        BridgeChapel chapel = new BridgeChapel();
        chapel.addMember(0, 1, strength);
        return chapel;
    }

    /** One member from 0 to 1, walked over until it has the crack. */
    static BridgeChapel cracked(int strength, int crack) {
        BridgeChapel chapel = single(strength);
        crackTo(chapel, 0, crack);
        return chapel;
    }

    /** The members 0-1, 1-2 and so on with these strengths. */
    static BridgeChapel line(int... strengths) {
        BridgeChapel chapel = new BridgeChapel();
        for (int joint = 0; joint < strengths.length; joint++) {
            chapel.addMember(joint, joint + 1, strengths[joint]);
        }
        return chapel;
    }

    /** Members with one strength along these joints, as in "0167". */
    static void lay(BridgeChapel chapel, String joints, int strength) {
        for (int place = 1; place < joints.length(); place++) {
            chapel.addMember(joints.charAt(place - 1) - '0', joints.charAt(place) - '0', strength);
        }
    }

    static BridgeChapel full() {
        BridgeChapel chapel = new BridgeChapel();
        for (int member = 0; member < 16; member++) {
            chapel.addMember(member / 4, 4 + member % 4, 20 + member);
        }
        return chapel;
    }

    static String wayOf(BridgeChapel chapel, int from, int to) {
        return outputOf(chapel, chapel.renderWay(from, to));
    }

    static String memberOf(BridgeChapel chapel, int member) {
        return outputOf(chapel, chapel.renderMember(member));
    }

    static void wornTo(BridgeChapel chapel, int member, int crack, int wear) {
        due(crack, chapel.crack(member));
        due(wear, chapel.wear(member));
    }

    private static void whatItIs(Sentences tests) {
        tests.free("A chapel that keeps unfinished bridges.");
        tests.test("An object is used for at most 512 calls after it has been made; what later calls answer is free.",
                () -> {
            BridgeChapel days = new BridgeChapel();
            for (int call = 1; call <= 511; call++) {
                due(0, days.passDays(30));
            }
            due(30 + 5 * 30 * 511, days.steel());

            BridgeChapel vows = new BridgeChapel();
            for (int call = 1; call <= 509; call += 2) {
                due(call / 2, vows.makeVow(call / 2 + 1, 1));
                due(1, vows.passDays(1));
            }
            due(255, vows.makeVow(305, 99));
            due(255, vows.keptTotal());

            BridgeChapel texts = new BridgeChapel();
            for (int call = 1; call <= 510; call += 2) {
                due(1, texts.type('x'));
                refused(ARGUMENT, texts::runScript);
            }
            due(1, texts.type('x'));
            due(0, texts.errorPosition());
        });
    }

    private static void terms(Sentences tests) {
        tests.free("Members join the joints of a bridge and crack under processions; steel is forged, promised by vows "
                + "with due days and used for repairs; and a niche of candles or lamps adds to every load.");
        tests.free("The class finds the widest way between two joints, the members without which two joints fall apart, "
                + "the load that a way could bear after repairs, and whether all vows can be kept, in two ways each, and "
                + "offers rankings, a small command language, undo and a snapshot.");
        tests.free("It is not thread-safe.");
        tests.test("All integer divisions round down.", () -> {
            // 99 * 9 / 10 is 89.1, 45 * 9 / 10 is 40.5, 9 * 9 / 10 is 8.1, 1 * 9 / 10 is 0.9.
            due(89, cracked(99, 1).bearing(0));
            due(40, cracked(45, 1).bearing(0));
            due(8, cracked(9, 1).bearing(0));
            due(0, cracked(1, 1).bearing(0));
            // 198 / 100 is 1.98.
            BridgeChapel worn = single(99);
            worn.procession(0, 1, 99);
            worn.procession(0, 1, 99);
            wornTo(worn, 0, 1, 98);
        });
    }

    private static void members(Sentences tests) {
        tests.test("There are the joints 0 to 7.", () -> {
            BridgeChapel chapel = line(10, 11, 12, 13, 14, 15, 16);
            due("0>1>2>3>4>5>6>7", wayOf(chapel, 0, 7));
            due(7, chapel.addMember(7, 0, 9));
            refused(INDEX, () -> chapel.addMember(-1, 3, 9));
            refused(INDEX, () -> chapel.addMember(3, -1, 9));
            refused(INDEX, () -> chapel.addMember(8, 3, 9));
            refused(INDEX, () -> chapel.addMember(3, 8, 9));
            due(8, chapel.memberCount());
        });
        tests.test("At most 16 members have the indices 0 to n - 1 in the order in which they were added; members are "
                + "never removed.", () -> {
            BridgeChapel chapel = new BridgeChapel();
            refused(INDEX, () -> chapel.crack(0));
            for (int member = 0; member < 16; member++) {
                due(member, chapel.addMember(7 - member % 4, member / 4, 20 + member));
                refused(INDEX, () -> chapel.crack(chapel.memberCount()));
            }
            refused(STATE, () -> chapel.addMember(0, 1, 20));
            for (int member = 0; member < 16; member++) {
                due(member / 4, chapel.firstJoint(member));
                due(7 - member % 4, chapel.secondJoint(member));
                due(20 + member, chapel.bearing(member));
            }
            chapel.abandon(0);
            chapel.abandon(15);
            chapel.repair(7);
            due(16, chapel.memberCount());
            due(0, chapel.firstJoint(0));
            refused(STATE, () -> chapel.addMember(0, 1, 20));
            refused(STATE, () -> chapel.addMember(0, 7, 20));
        });
        tests.test("A member joins two different joints, of which the lower one is its first joint and the other one its "
                + "second joint; two joints are joined by at most one member.", () -> {
            BridgeChapel chapel = new BridgeChapel();
            refused(ARGUMENT, () -> chapel.addMember(2, 2, 5));
            due(0, chapel.addMember(5, 2, 5));
            due(1, chapel.addMember(2, 6, 5));
            due(2, chapel.addMember(6, 5, 5));
            due("0:2-5s5c0w0", memberOf(chapel, 0));
            due("1:2-6s5c0w0", memberOf(chapel, 1));
            due("2:5-6s5c0w0", memberOf(chapel, 2));
            refused(STATE, () -> chapel.addMember(5, 2, 5));
            refused(STATE, () -> chapel.addMember(2, 5, 5));
            chapel.abandon(0);
            refused(STATE, () -> chapel.addMember(2, 5, 5));
            due(3, chapel.memberCount());
        });
        tests.test("A member has a strength from 1 to 99, a crack from 0 to 9, initially 0, and a wear from 0 to 99, "
                + "initially 0, and is in use or abandoned, initially in use.", () -> {
            BridgeChapel chapel = new BridgeChapel();
            refused(ARGUMENT, () -> chapel.addMember(0, 1, 0));
            refused(ARGUMENT, () -> chapel.addMember(0, 1, 100));
            chapel.addMember(0, 1, 1);
            chapel.addMember(2, 3, 99);
            for (int member = 0; member < 2; member++) {
                wornTo(chapel, member, 0, 0);
                due(false, chapel.isAbandoned(member));
            }
            chapel.procession(2, 3, 99);
            wornTo(chapel, 1, 0, 99);
            chapel.abandon(1);
            due(true, chapel.isAbandoned(1));
            wornTo(chapel, 1, 0, 99);
            chapel.resume(1);
            int greatestCrack = 0;
            for (int walk = 0; walk < 60; walk++) {
                chapel.procession(2, 3, chapel.bearing(1));
                greatestCrack = Math.max(greatestCrack, chapel.crack(1));
                due(true, chapel.wear(1) >= 0 && chapel.wear(1) <= 99);
            }
            due(9, greatestCrack);
        });
        tests.test("Its bearing is its strength multiplied by the difference of 10 and its crack, and this product "
                + "divided by 10; the bearing of an abandoned member is 0.", () -> {
            int[] bearings = {99, 89, 79, 69, 59, 49, 39, 29, 19, 9};
            for (int crack = 0; crack <= 9; crack++) {
                due(bearings[crack], cracked(99, crack).bearing(0));
            }
            due(1, single(1).bearing(0));
            due(1, cracked(10, 9).bearing(0));
            BridgeChapel chapel = cracked(35, 3);
            due(24, chapel.bearing(0));
            chapel.abandon(0);
            due(0, chapel.bearing(0));
            chapel.resume(0);
            due(24, chapel.bearing(0));
        });
        tests.test("A member can be walked if its bearing is at least 1.", () -> {
            BridgeChapel least = single(1);
            due(1, least.wayLength(0, 1));
            due(1, least.procession(0, 1, 1));
            BridgeChapel still = cracked(2, 1);
            due(1, still.bearing(0));
            due(1, still.procession(0, 1, 1));
            BridgeChapel gone = cracked(1, 1);
            due(0, gone.bearing(0));
            refused(ELEMENT, () -> gone.procession(0, 1, 1));
            refused(ELEMENT, () -> gone.wayLength(0, 1));
            BridgeChapel abandoned = single(99);
            abandoned.abandon(0);
            refused(ELEMENT, () -> abandoned.wayLength(0, 1));
        });
    }

    private static void ways(Sentences tests) {
        tests.test("A way between two different joints begins with one and ends with the other one, contains no joint "
                + "twice, and leads from each joint to the next one by a member that can be walked.", () -> {
            BridgeChapel chapel = new BridgeChapel();
            chapel.addMember(0, 1, 10);
            lay(chapel, "1231", 99);
            chapel.addMember(1, 7, 10);
            due("0>1>7", wayOf(chapel, 0, 7));
            due("7>1>0", wayOf(chapel, 7, 0));
            due("0>1", wayOf(chapel, 0, 1));
            refused(ARGUMENT, () -> chapel.wayLength(1, 1));
            refused(ELEMENT, () -> chapel.wayLength(0, 4));
            chapel.abandon(4);
            refused(ELEMENT, () -> chapel.wayLength(0, 7));
            due("0>1>2", wayOf(chapel, 0, 2));
            BridgeChapel gone = line(5, 1, 5);
            for (int walk = 0; walk < 100; walk++) {
                gone.procession(1, 2, 1);
            }
            refused(ELEMENT, () -> gone.wayLength(0, 3));
            due("2>3", wayOf(gone, 2, 3));
        });
        tests.test("Its bearing is the smallest bearing of its members.", () -> {
            due(20, line(20, 60, 50).widestLoad(0, 3));
            due(20, line(60, 20, 50).widestLoad(0, 3));
            due(20, line(60, 50, 20).widestLoad(0, 3));
            due(20, line(60, 50, 20).widestLoad(3, 0));
            due(60, line(60, 50, 20).widestLoad(0, 1));
            due(1, line(99, 99, 99, 1, 99, 99, 99).widestLoad(7, 0));
        });
        tests.test("The best way is the one with the greatest bearing; of several, the one with the fewest members; of "
                + "several of these, the one that has the lower joint at the first place at which they differ, seen from "
                + "the joint where the way begins.", () -> {
            BridgeChapel greatest = line(41, 41, 41, 41, 41, 41, 41);
            greatest.addMember(0, 7, 40);
            due("0>1>2>3>4>5>6>7", wayOf(greatest, 0, 7));
            BridgeChapel fewest = line(41, 41, 41, 41, 41, 41, 41);
            fewest.addMember(0, 7, 41);
            due("0>7", wayOf(fewest, 0, 7));
            fewest.abandon(7);
            fewest.addMember(0, 6, 99);
            due("0>6>7", wayOf(fewest, 0, 7));
            BridgeChapel lowest = new BridgeChapel();
            lay(lowest, "0527", 30);
            lay(lowest, "0347", 30);
            due("0>3>4>7", wayOf(lowest, 0, 7));
            due("7>2>5>0", wayOf(lowest, 7, 0));
            // A lower joint does not help a way that bears less.
            lay(lowest, "31", 29);
            lay(lowest, "17", 30);
            due("0>3>4>7", wayOf(lowest, 0, 7));
            // Nor does it help a way that has more members.
            BridgeChapel longer = new BridgeChapel();
            lay(longer, "347", 30);
            lay(longer, "3057", 30);
            due("3>4>7", wayOf(longer, 3, 7));
            due("7>4>3", wayOf(longer, 7, 3));
            BridgeChapel late = new BridgeChapel();
            lay(late, "0263", 30);
            lay(late, "253", 30);
            due("0>2>5>3", wayOf(late, 0, 3));
            due("3>5>2>0", wayOf(late, 3, 0));
        });
    }

    private static void processions(Sentences tests) {
        tests.test("A procession with a load follows the best way from one joint to another one.", () -> {
            BridgeChapel chapel = new BridgeChapel();
            lay(chapel, "0527", 30);
            lay(chapel, "0347", 30);
            chapel.addMember(0, 7, 29);
            due(3, chapel.procession(0, 7, 7));
            for (int member = 0; member < 7; member++) {
                due(member >= 3 && member <= 5 ? 7 : 0, chapel.wear(member));
            }
            due(3, chapel.procession(7, 0, 8));
            for (int member = 0; member < 7; member++) {
                due(member == 6 ? 0 : member >= 3 ? 7 : 8, chapel.wear(member));
            }
        });
        tests.test("Its full load is its load plus the weight of the niche.", () -> {
            BridgeChapel chapel = single(50);
            chapel.procession(0, 1, 4);
            due(4, chapel.wear(0));
            chapel.put(0, 'c', 1);
            chapel.procession(0, 1, 4);
            due(9, chapel.wear(0));
            chapel.put(3, 'c', 20);
            chapel.procession(0, 1, 4);
            due(34, chapel.wear(0));
            chapel.setNiche('l');
            chapel.procession(0, 1, 4);
            due(38, chapel.wear(0));
        });
        tests.test("It is possible if the bearing of the best way is at least the full load.", () -> {
            BridgeChapel chapel = line(60, 40, 50);
            refused(UNSUPPORTED, () -> chapel.procession(0, 3, 41));
            due(3, chapel.procession(0, 3, 40));
            chapel.put(0, 'c', 20);
            chapel.put(1, 'c', 19);
            refused(UNSUPPORTED, () -> chapel.procession(0, 3, 2));
            due(3, chapel.procession(0, 3, 1));
            chapel.put(2, 'c', 1);
            refused(UNSUPPORTED, () -> chapel.procession(0, 3, 1));
            due(80, chapel.wear(1));
        });
        tests.test("Then the wear of each member of the way increases by the full load.", () -> {
            BridgeChapel chapel = line(30, 31, 32, 33, 34, 35, 36);
            chapel.put(0, 'c', 2);
            chapel.procession(5, 2, 10);
            chapel.procession(0, 7, 3);
            for (int member = 0; member < 7; member++) {
                due(member >= 2 && member <= 4 ? 17 : 5, chapel.wear(member));
            }
            refused(UNSUPPORTED, () -> chapel.procession(0, 7, 99));
            due(5, chapel.wear(0));
        });
        tests.test("If the wear of a member is 100 or more then, its crack increases by the wear divided by 100, but not "
                + "above 9, and the wear becomes the remainder of this division.", () -> {
            BridgeChapel chapel = line(99, 99);
            chapel.procession(0, 1, 99);
            chapel.procession(1, 2, 98);
            wornTo(chapel, 0, 0, 99);
            chapel.procession(0, 2, 1);
            wornTo(chapel, 0, 1, 0);
            wornTo(chapel, 1, 0, 99);
            chapel.procession(1, 2, 99);
            wornTo(chapel, 1, 1, 98);
            chapel.procession(1, 2, 3);
            wornTo(chapel, 1, 2, 1);
            BridgeChapel broken = cracked(99, 9);
            int wear = broken.wear(0);
            for (int walk = 0; walk < 25; walk++) {
                broken.procession(0, 1, 9);
                wear = (wear + 9) % 100;
                wornTo(broken, 0, 9, wear);
            }
        });
    }

    private static void niche(Sentences tests) {
        tests.test("The niche is for candles or for lamps, initially for candles.", () -> {
            BridgeChapel chapel = new BridgeChapel();
            due('c', chapel.nicheKind());
            refused(UNSUPPORTED, () -> chapel.put(0, 'l', 5));
            refused(ARGUMENT, () -> chapel.setNiche('b'));
            refused(ARGUMENT, () -> chapel.setNiche('m'));
            due('c', chapel.nicheKind());
            chapel.setNiche('l');
            due('l', chapel.nicheKind());
            refused(UNSUPPORTED, () -> chapel.put(0, 'c', 5));
            chapel.setNiche('c');
            due('c', chapel.nicheKind());
            due(5, chapel.put(0, 'c', 5));
        });
        tests.test("It has the places 0 to 3; each place is free or holds a thing of the kind for which the niche is, "
                + "with a weight from 1 to 20.", () -> {
            BridgeChapel chapel = new BridgeChapel();
            refused(INDEX, () -> chapel.put(-1, 'c', 5));
            refused(INDEX, () -> chapel.put(4, 'c', 5));
            refused(ARGUMENT, () -> chapel.put(0, 'c', 0));
            refused(ARGUMENT, () -> chapel.put(0, 'c', 21));
            refused(UNSUPPORTED, () -> chapel.put(0, 'l', 5));
            due(1, chapel.put(0, 'c', 1));
            due(21, chapel.put(3, 'c', 20));
            due(23, chapel.put(1, 'c', 2));
            due(26, chapel.put(2, 'c', 3));
            for (int place = 0; place < 4; place++) {
                int taken = place;
                refused(STATE, () -> chapel.put(taken, 'c', 1));
            }
            chapel.setNiche('c');
            for (int place = 0; place < 4; place++) {
                due(place + 1, chapel.put(place, 'c', 1));
            }
        });
        tests.test("The weight of the niche is the sum of these weights.", () -> {
            BridgeChapel chapel = new BridgeChapel();
            due(0, chapel.nicheWeight());
            int[] weights = {1, 2, 4, 8};
            for (int place = 3; place >= 0; place--) {
                chapel.put(place, 'c', weights[place]);
            }
            due(15, chapel.nicheWeight());
            chapel.setNiche('l');
            due(0, chapel.nicheWeight());
            for (int place = 0; place < 4; place++) {
                chapel.put(place, 'l', 20);
            }
            due(80, chapel.nicheWeight());
        });
    }

    private static void steelAndVows(Sentences tests) {
        tests.test("The chapel has 30 units of steel at first.", () -> {
            due(30, new BridgeChapel().steel());
            due(30, new BridgeChapel().steelByAccounts());
        });
        tests.test("The forge makes a number of units a day, from 0 to 20, initially 5.", () -> {
            BridgeChapel chapel = new BridgeChapel();
            chapel.passDays(1);
            due(35, chapel.steel());
            refused(ARGUMENT, () -> chapel.setForge(-1));
            refused(ARGUMENT, () -> chapel.setForge(21));
            due(5, chapel.setForge(0));
            chapel.passDays(1);
            due(35, chapel.steel());
            due(0, chapel.setForge(20));
            chapel.passDays(1);
            due(55, chapel.steel());
        });
        tests.test("A vow is the promise to give an amount of steel from 1 to 99 on a due day.", () -> {
            BridgeChapel chapel = new BridgeChapel();
            refused(ARGUMENT, () -> chapel.makeVow(20, 0));
            refused(ARGUMENT, () -> chapel.makeVow(20, 100));
            chapel.makeVow(20, 1);
            chapel.makeVow(21, 99);
            due(1, chapel.amount(0));
            due(99, chapel.amount(1));
            due(0, chapel.passDays(19));
            due(125, chapel.steel());
            due(1, chapel.passDays(1));
            due(129, chapel.steel());
            due(1, chapel.passDays(1));
            due(35, chapel.steel());
        });
        tests.test("At most 8 vows wait; they get the ids 0, 1, 2 and so on in the order in which they are made.", () -> {
            BridgeChapel chapel = new BridgeChapel();
            for (int vow = 0; vow < 8; vow++) {
                due(vow, chapel.makeVow(vow == 5 ? 1 : 40 - vow, 1));
                due(vow + 1, chapel.vowCount());
            }
            refused(STATE, () -> chapel.makeVow(2, 1));
            chapel.passDays(1);
            due(7, chapel.vowCount());
            due(8, chapel.makeVow(2, 1));
            refused(STATE, () -> chapel.makeVow(2, 1));
            due(8, chapel.vowCount());
            chapel.passDays(30);
            chapel.passDays(9);
            due(0, chapel.vowCount());
            due(9, chapel.makeVow(50, 1));
        });
        tests.test("The day counter starts at 0.", () -> due(0, new BridgeChapel().day()));
        tests.test("When a day passes, the day counter increases by 1, and the steel by what the forge makes.", () -> {
            BridgeChapel chapel = new BridgeChapel();
            chapel.setForge(7);
            chapel.passDays(1);
            due(1, chapel.day());
            due(37, chapel.steel());
            chapel.passDays(30);
            due(31, chapel.day());
            due(247, chapel.steel());
            chapel.setForge(0);
            chapel.passDays(2);
            due(33, chapel.day());
            due(247, chapel.steel());
        });
        tests.test("Then the vows whose due day has come are visited in ascending order of ids: if there is at least as "
                + "much steel as the amount, the steel decreases by it and the vow is kept; otherwise the vow is broken, "
                + "and no steel is given for it.", TermSentences::vowsAreVisited);
        tests.test("In both cases the vow does not wait any more.", () -> {
            BridgeChapel chapel = new BridgeChapel();
            chapel.makeVow(1, 36);
            chapel.makeVow(1, 35);
            chapel.makeVow(2, 1);
            chapel.passDays(1);
            due(1, chapel.vowCount());
            due(2, chapel.vowAt(0));
            refused(ELEMENT, () -> chapel.amount(0));
            refused(ELEMENT, () -> chapel.amount(1));
            due(1, chapel.passDays(30));
            due(0, chapel.vowCount());
            due(1, chapel.brokenTotal());
            due(2, chapel.keptTotal());
        });
    }

    private static void vowsAreVisited() {
        BridgeChapel exact = new BridgeChapel();
        exact.makeVow(1, 35);
        due(1, exact.passDays(1));
        due(0, exact.steel());
        BridgeChapel short1 = new BridgeChapel();
        short1.makeVow(1, 36);
        due(0, short1.passDays(1));
        due(35, short1.steel());
        due(1, short1.brokenTotal());
        // Seen from the highest id on, the vow of 30 would be the broken one.
        BridgeChapel order = new BridgeChapel();
        order.makeVow(2, 30);
        order.makeVow(1, 30);
        order.makeVow(1, 4);
        order.makeVow(1, 2);
        order.makeVow(1, 1);
        due(3, order.passDays(1));
        due(0, order.steel());
        due(1, order.brokenTotal());
        due(0, order.passDays(1));
        due(5, order.steel());
        due(2, order.brokenTotal());
        // A vow waits for its day, with days that pass together too.
        BridgeChapel later = new BridgeChapel();
        later.makeVow(3, 40);
        later.makeVow(2, 20);
        due(1, later.passDays(30));
        due(1, later.brokenTotal());
        due(160, later.steel());
    }

    private static void repairs(Sentences tests) {
        tests.test("To repair a member costs as much steel as a tenth of its strength, rounded up, multiplied by its "
                + "crack.", () -> {
            int[] strengths = {1, 9, 10, 11, 19, 20, 21, 89, 90, 91, 99};
            int[] tenths = {1, 1, 1, 2, 2, 2, 3, 9, 9, 10, 10};
            for (int index = 0; index < strengths.length; index++) {
                due(0, single(strengths[index]).repairCost(0));
                BridgeChapel chapel = cracked(strengths[index], 1);
                due(tenths[index], chapel.repairCost(0));
                due(tenths[index], chapel.repair(0));
                due(30 - tenths[index], chapel.steel());
            }
            due(90, cracked(99, 9).repairCost(0));
            due(18, cracked(20, 9).repairCost(0));
            due(27, cracked(21, 9).repair(0));
        });
        tests.test("The crack and the wear of the member are 0 then.", () -> {
            BridgeChapel chapel = line(99, 99);
            chapel.procession(0, 2, 99);
            chapel.repair(0);
            wornTo(chapel, 0, 0, 0);
            wornTo(chapel, 1, 0, 99);
            chapel.procession(1, 2, 99);
            wornTo(chapel, 1, 1, 98);
            chapel.repair(1);
            wornTo(chapel, 1, 0, 0);
            due(99, chapel.bearing(1));
        });
        tests.test("A load is affordable between two joints if there are members in use whose repairs cost together at "
                + "most the steel that there is, and if the bearing of the best way between the joints would be at least "
                + "this load after these repairs.", TermSentences::loadsAreAffordable);
    }

    private static void loadsAreAffordable() {
        // Three members of 50 with the crack 1 cost 5 each, and bear 45 until they are repaired.
        BridgeChapel chapel = line(50, 50, 50);
        for (int member = 0; member < 3; member++) {
            crackTo(chapel, member, 1);
        }
        chapel.setForge(0);
        chapel.makeVow(1, 15);
        chapel.passDays(1);
        due(15, chapel.steel());
        due(50, chapel.affordableLoad(0, 3));
        due(50, chapel.affordableLoadByTable(0, 3));
        chapel.makeVow(2, 1);
        chapel.passDays(1);
        due(45, chapel.affordableLoad(0, 3));
        due(45, chapel.affordableLoadByTable(0, 3));
        due(50, chapel.affordableLoad(0, 2));
        // Without any repair, and with a member that nobody may repair.
        chapel.makeVow(3, 14);
        chapel.passDays(1);
        due(0, chapel.steel());
        due(45, chapel.affordableLoad(0, 2));
        due(45, chapel.affordableLoadByTable(0, 2));
        chapel.abandon(1);
        refused(ELEMENT, () -> chapel.affordableLoad(0, 2));
        refused(ELEMENT, () -> chapel.affordableLoadByTable(0, 2));
        // A repair that costs nothing needs no steel.
        chapel.addMember(0, 2, 44);
        due(44, chapel.affordableLoad(0, 2));
        due(44, chapel.affordableLoadByTable(0, 2));
    }
}
