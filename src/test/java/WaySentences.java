/** The sentences of the promises 23 to 30. No object here gets more than 512 calls. */
final class WaySentences extends PromiseSentences {
    private static final String NO_JOINT =
            "Throws `IndexOutOfBoundsException` if there is no such joint, for either argument";
    private static final String SAME_JOINTS = "Throws `IllegalArgumentException` if both joints are the same";
    private static final String NO_WAY = "Throws `NoSuchElementException` if there is no way between them";
    private static final String NO_MEMBER = "Throws `IndexOutOfBoundsException` if there is no such member";
    private static final String NO_LOAD = "Throws `NoSuchElementException` if no load from 1 on is affordable";

    private WaySentences() {
    }

    static void fill(Sentences tests) {
        tests.part("Promise 23");
        tests.test("Returns the bearing of the best way between two joints, found by growing a set of joints from one of "
                + "them, always by the greatest bearing.", () -> widestWays(BridgeChapel::widestLoad));
        tests.test("Returns the bearing.", () -> bearingsOfWays(BridgeChapel::widestLoad));
        noPairOrWay(tests, BridgeChapel::widestLoad);
        tests.part("Promise 24");
        tests.test("Returns the same number as widestLoad, found by trying loads from the greatest on with the members "
                + "that bear them.", () -> {
            widestWays(BridgeChapel::widestLoadByTrial);
            sameNumbers(BridgeChapel::widestLoad, BridgeChapel::widestLoadByTrial);
        });
        tests.test("Returns the bearing.", () -> bearingsOfWays(BridgeChapel::widestLoadByTrial));
        noPairOrWay(tests, BridgeChapel::widestLoadByTrial);
        wayLengths(tests);
        wayJoints(tests);
        criticalMembers(tests);
        tests.part("Promise 29");
        tests.test("Returns the greatest load that is affordable between two joints, found by cheapest ways for each "
                + "load; the weight of the niche does not count.", () -> affordableLoads(BridgeChapel::affordableLoad));
        affordableEdges(tests, BridgeChapel::affordableLoad);
        tests.part("Promise 30");
        tests.test("Returns the same number as affordableLoad, found with a table of the costs between all pairs of "
                + "joints.", () -> {
            affordableLoads(BridgeChapel::affordableLoadByTable);
            sameNumbers(BridgeChapel::affordableLoad, BridgeChapel::affordableLoadByTable);
        });
        affordableEdges(tests, BridgeChapel::affordableLoadByTable);
    }

    private static void noPair(Sentences tests, AskedOfPair asked) {
        tests.test(NO_JOINT, () -> noSuchJoint(asked));
        tests.test(SAME_JOINTS, () -> sameJoints(asked));
    }

    private static void noPairOrWay(Sentences tests, AskedOfPair asked) {
        noPair(tests, asked);
        tests.test(NO_WAY, () -> noWay(asked));
    }

    /** Any joint may be the one between two others, whatever its number. */
    private static void anyJointBetween(AskedOfPair asked) {
        for (int middle = 0; middle < 8; middle++) {
            for (int step = 1; step < 7; step++) {
                BridgeChapel chapel = new BridgeChapel();
                int from = (middle + step) % 8;
                int to = (middle + 7) % 8;
                chapel.addMember(from, middle, 20);
                chapel.addMember(to, middle, 30);
                chapel.addMember(from, to, 19);
                due(20, asked.answer(chapel, from, to));
                due(20, asked.answer(chapel, to, from));
            }
        }
    }

    private static void widestWays(AskedOfPair asked) {
        anyJointBetween(asked);
        // The wide detour through all joints, and the narrow members beside it.
        BridgeChapel chapel = TermSentences.line(31, 37, 36, 35, 34, 33, 32);
        due(31, asked.answer(chapel, 0, 7));
        due(31, asked.answer(chapel, 7, 0));
        due(32, asked.answer(chapel, 1, 7));
        due(35, asked.answer(chapel, 4, 1));
        chapel.addMember(0, 7, 30);
        due(31, asked.answer(chapel, 0, 7));
        chapel.abandon(7);
        chapel.addMember(7, 1, 33);
        due(31, asked.answer(chapel, 0, 7));
        due(33, asked.answer(chapel, 7, 3));
        chapel.addMember(0, 6, 99);
        due(33, asked.answer(chapel, 0, 7));
        due(33, asked.answer(chapel, 0, 1));
        // The niche takes nothing from the bearing of a way.
        chapel.put(0, 'c', 20);
        due(33, asked.answer(chapel, 0, 7));
        chapel.setNiche('c');
        crackTo(chapel, 9, 7);
        due(31, asked.answer(chapel, 0, 7));
        crackTo(chapel, 9, 8);
        due(31, asked.answer(chapel, 0, 7));
    }

    private static void bearingsOfWays(AskedOfPair asked) {
        due(1, asked.answer(TermSentences.single(1), 0, 1));
        due(99, asked.answer(TermSentences.single(99), 1, 0));
        due(1, asked.answer(TermSentences.cracked(2, 1), 0, 1));
        due(89, asked.answer(TermSentences.cracked(99, 1), 0, 1));
        due(99, asked.answer(TermSentences.line(99, 99, 99, 99, 99, 99, 99), 0, 7));
        due(1, asked.answer(TermSentences.line(1, 2, 2, 2, 2, 2, 2), 7, 0));
        due(23, asked.answer(TermSentences.full(), 0, 1));
        due(34, asked.answer(TermSentences.full(), 6, 7));
        due(35, asked.answer(TermSentences.full(), 3, 7));
    }

    /** Both ask the same of a chapel with 16 members that crack one after the other. */
    private static void sameNumbers(AskedOfPair one, AskedOfPair other) {
        for (int member = 0; member < 16; member++) {
            BridgeChapel chapel = TermSentences.full();
            for (int walk = 0; walk < 40; walk++) {
                int from = chapel.firstJoint((member + walk) % 16);
                int to = chapel.secondJoint((member + walk) % 16);
                outcome(() -> chapel.procession(from, to, 19));
            }
            chapel.abandon(member);
            for (int from = 0; from < 8; from++) {
                for (int to = 0; to < 8; to++) {
                    int begin = from;
                    int end = to;
                    due(outcome(() -> one.answer(chapel, begin, end)), outcome(() -> other.answer(chapel, begin, end)));
                }
            }
        }
    }

    private static void wayLengths(Sentences tests) {
        tests.part("Promise 25");
        tests.test("Returns the number of members of the best way between two joints.", () -> {
            BridgeChapel chapel = TermSentences.line(9, 9, 9, 9, 9, 9, 9);
            for (int from = 0; from < 8; from++) {
                for (int to = 0; to < 8; to++) {
                    if (from != to) {
                        due(Math.abs(from - to), chapel.wayLength(from, to));
                    }
                }
            }
            // Fewer members count only among the ways with the greatest bearing.
            chapel.addMember(0, 7, 8);
            due(7, chapel.wayLength(0, 7));
            chapel.addMember(0, 6, 9);
            due(2, chapel.wayLength(0, 7));
            chapel.addMember(1, 7, 99);
            due(2, chapel.wayLength(0, 7));
        });
        tests.test("Returns the number of members.", () -> {
            due(1, TermSentences.single(1).wayLength(1, 0));
            due(7, TermSentences.line(9, 9, 9, 9, 9, 9, 9).wayLength(0, 7));
            due(1, TermSentences.full().wayLength(3, 7));
            due(3, TermSentences.full().wayLength(0, 4));
        });
        noPairOrWay(tests, BridgeChapel::wayLength);
    }

    private static void wayJoints(Sentences tests) {
        tests.part("Promise 26");
        tests.test("Returns a joint of the best way between two joints.", () -> {
            BridgeChapel chapel = new BridgeChapel();
            TermSentences.lay(chapel, "0527", 30);
            TermSentences.lay(chapel, "0347", 30);
            int[] there = {0, 3, 4, 7};
            int[] back = {7, 2, 5, 0};
            for (int position = 0; position < 4; position++) {
                due(there[position], chapel.wayJoint(0, 7, position));
                due(back[position], chapel.wayJoint(7, 0, position));
            }
        });
        tests.test("- `position`: the position, 0 for the joint where it begins", () -> {
            BridgeChapel chapel = TermSentences.line(9, 9, 9, 9, 9, 9, 9);
            for (int joint = 0; joint < 8; joint++) {
                due(joint, chapel.wayJoint(joint, 7 - joint, 0));
            }
            due(1, chapel.wayJoint(0, 2, 1));
            due(1, chapel.wayJoint(2, 0, 1));
        });
        tests.test("Returns the joint.", () -> {
            BridgeChapel chapel = TermSentences.line(9, 9, 9, 9, 9, 9, 9);
            for (int position = 0; position < 8; position++) {
                due(position, chapel.wayJoint(0, 7, position));
                due(7 - position, chapel.wayJoint(7, 0, position));
            }
            due(5, chapel.wayJoint(6, 5, 1));
        });
        noPair(tests, (chapel, from, to) -> chapel.wayJoint(from, to, 0));
        tests.test("Throws `NoSuchElementException` if there is no way between them, or no such position", () -> {
            noWay((chapel, from, to) -> chapel.wayJoint(from, to, 0));
            noWay((chapel, from, to) -> chapel.wayJoint(from, to, 1));
            BridgeChapel chapel = TermSentences.line(9, 9, 9, 9, 9, 9, 9);
            chapel.wayJoint(0, 7, 7);
            int[] positions = {-1, 8, 9, LEAST, MOST};
            for (int position : positions) {
                refused(ELEMENT, () -> chapel.wayJoint(0, 7, position));
                refused(ELEMENT, () -> chapel.wayJoint(3, 4, position));
            }
            for (int to = 1; to < 8; to++) {
                int end = to;
                due(end, chapel.wayJoint(0, end, end));
                refused(ELEMENT, () -> chapel.wayJoint(0, end, end + 1));
            }
        });
    }

    private static void criticalMembers(Sentences tests) {
        tests.part("Promise 27");
        tests.test("Returns whether a member is critical, that is, whether it can be walked and there is no way between "
                + "its joints without it; found by one search through the joints that numbers them in the order in which "
                + "it comes to them.", () -> criticalOnes(BridgeChapel::isCritical));
        tests.test("Returns true if it is critical.", () -> criticalExtremes(BridgeChapel::isCritical));
        tests.test(NO_MEMBER, () -> noSuchMember(BridgeChapel::isCritical));
        tests.part("Promise 28");
        tests.test("Returns the same as isCritical, found by looking for a way without the member.", () -> {
            criticalOnes(BridgeChapel::isCriticalByRemoval);
            sameCriticalOnes();
        });
        tests.test("Returns true if it is critical.", () -> criticalExtremes(BridgeChapel::isCriticalByRemoval));
        tests.test(NO_MEMBER, () -> noSuchMember(BridgeChapel::isCriticalByRemoval));
    }

    /** One letter for each member, 'x' for a critical one. */
    private static String criticalOf(BridgeChapel chapel, AskedOfMember asked) {
        StringBuilder text = new StringBuilder();
        for (int member = 0; member < chapel.memberCount(); member++) {
            text.append(asked.answer(chapel, member).equals(true) ? 'x' : '-');
        }
        return text.toString();
    }

    private static void criticalOnes(AskedOfMember asked) {
        // Two triangles with a member between them, and one by itself.
        BridgeChapel chapel = new BridgeChapel();
        TermSentences.lay(chapel, "0120", 9);
        TermSentences.lay(chapel, "23", 1);
        TermSentences.lay(chapel, "3453", 9);
        TermSentences.lay(chapel, "67", 9);
        due("---x---x", criticalOf(chapel, asked));
        chapel.abandon(1);
        due("x-xx---x", criticalOf(chapel, asked));
        crackTo(chapel, 3, 1);
        due(0, chapel.bearing(3));
        due("x-x----x", criticalOf(chapel, asked));
        chapel.repair(3);
        chapel.resume(1);
        chapel.addMember(0, 5, 1);
        due("-------x-", criticalOf(chapel, asked));
        chapel.addMember(1, 6, 1);
        due("-------x-x", criticalOf(chapel, asked));
        chapel.addMember(7, 4, 1);
        due("-----------", criticalOf(chapel, asked));
    }

    private static void criticalExtremes(AskedOfMember asked) {
        due("x", criticalOf(TermSentences.single(1), asked));
        due("-", criticalOf(TermSentences.cracked(1, 1), asked));
        due("xxxxxxx", criticalOf(TermSentences.line(1, 1, 1, 1, 1, 1, 1), asked));
        due("----------------", criticalOf(TermSentences.full(), asked));
        BridgeChapel round = TermSentences.line(1, 1, 1, 1, 1, 1, 1);
        round.addMember(0, 7, 99);
        due("--------", criticalOf(round, asked));
        round.abandon(3);
        due("xxx-xxxx", criticalOf(round, asked));
        BridgeChapel star = new BridgeChapel();
        for (int joint = 0; joint < 7; joint++) {
            star.addMember(7, joint, 1);
        }
        due("xxxxxxx", criticalOf(star, asked));
        star.addMember(0, 6, 1);
        due("-xxxxx--", criticalOf(star, asked));
        BridgeChapel left = TermSentences.single(9);
        left.abandon(0);
        due("-", criticalOf(left, asked));
    }

    private static void sameCriticalOnes() {
        for (int members = 1; members <= 12; members++) {
            for (int start = 0; start < 8; start++) {
                BridgeChapel chapel = new BridgeChapel();
                for (int member = 0; member < members; member++) {
                    int one = (start + member * 3) % 8;
                    int other = (one + 1 + member * member % 7) % 8;
                    outcome(() -> chapel.addMember(one, other, 9));
                }
                due(criticalOf(chapel, BridgeChapel::isCritical), criticalOf(chapel, BridgeChapel::isCriticalByRemoval));
            }
        }
    }

    private static void affordableEdges(Sentences tests, AskedOfPair asked) {
        tests.test("Returns the load, at least 1.", () -> {
            due(1, asked.answer(TermSentences.single(1), 0, 1));
            due(1, asked.answer(TermSentences.cracked(1, 1), 0, 1));
            due(99, asked.answer(TermSentences.single(99), 0, 1));
            due(99, asked.answer(TermSentences.cracked(99, 1), 1, 0));
            due(1, asked.answer(TermSentences.line(99, 99, 99, 1, 99, 99, 99), 0, 7));
        });
        noPair(tests, asked);
        tests.test(NO_LOAD, () -> {
            refused(ELEMENT, () -> asked.answer(new BridgeChapel(), 0, 1));
            BridgeChapel chapel = TermSentences.cracked(1, 1);
            refused(ELEMENT, () -> asked.answer(chapel, 0, 2));
            due(1, asked.answer(chapel, 0, 1));
            spend(chapel, 1);
            due(1, asked.answer(chapel, 0, 1));
            spend(chapel, 0);
            refused(ELEMENT, () -> asked.answer(chapel, 0, 1));
            BridgeChapel left = TermSentences.line(99, 99, 99);
            left.abandon(1);
            refused(ELEMENT, () -> asked.answer(left, 0, 3));
            refused(ELEMENT, () -> asked.answer(left, 1, 2));
            due(99, asked.answer(left, 0, 1));
        });
    }

    /** Gives steel away until there is so much, by vows that are kept on the next days. */
    private static void spend(BridgeChapel chapel, int rest) {
        chapel.setForge(0);
        while (chapel.steel() > rest) {
            chapel.makeVow(chapel.day() + 1, Math.min(99, chapel.steel() - rest));
            chapel.passDays(1);
        }
    }

    private static void affordableLoads(AskedOfPair asked) {
        // The members bear 45 and 56; their repairs cost 5 and 14.
        BridgeChapel chapel = TermSentences.line(50, 70);
        crackTo(chapel, 0, 1);
        crackTo(chapel, 1, 2);
        due(50, asked.answer(chapel, 0, 2));
        due(70, asked.answer(chapel, 1, 2));
        chapel.put(0, 'c', 20);
        due(50, asked.answer(chapel, 0, 2));
        spend(chapel, 14);
        due(70, asked.answer(chapel, 1, 2));
        spend(chapel, 13);
        due(56, asked.answer(chapel, 1, 2));
        spend(chapel, 5);
        due(50, asked.answer(chapel, 2, 0));
        spend(chapel, 4);
        due(45, asked.answer(chapel, 0, 2));
        // The best way may be another one after the repairs, or the same with a cheaper member beside it.
        chapel.addMember(0, 2, 48);
        due(48, asked.answer(chapel, 0, 2));
        due(48, asked.answer(chapel, 0, 1));
        spend(chapel, 0);
        due(48, asked.answer(chapel, 0, 2));
        anyJointBetween(asked);
        twoWays(asked);
        longWay(asked);
    }

    /** All eight joints in a row: each repair costs 5, and the steel is for six of the seven. */
    private static void longWay(AskedOfPair asked) {
        BridgeChapel chapel = TermSentences.line(50, 50, 50, 50, 50, 50, 50);
        for (int member = 0; member < 7; member++) {
            crackTo(chapel, member, 1);
        }
        due(30, chapel.steel());
        due(45, asked.answer(chapel, 0, 7));
        due(45, asked.answer(chapel, 7, 0));
        due(50, asked.answer(chapel, 0, 6));
        due(50, asked.answer(chapel, 7, 1));
        chapel.passDays(1);
        due(50, asked.answer(chapel, 0, 7));
        due(50, asked.answer(chapel, 7, 0));
    }

    /** Both ways from 0 to 7 bear 80 when repaired, for 24 by three members and for 32 by two. */
    private static void twoWays(AskedOfPair asked) {
        BridgeChapel chapel = new BridgeChapel();
        TermSentences.lay(chapel, "0127", 80);
        TermSentences.lay(chapel, "067", 80);
        for (int member = 0; member < 5; member++) {
            crackTo(chapel, member, member < 3 ? 1 : 2);
        }
        due(80, asked.answer(chapel, 0, 7));
        spend(chapel, 24);
        due(80, asked.answer(chapel, 0, 7));
        due(80, asked.answer(chapel, 0, 6));
        spend(chapel, 23);
        due(72, asked.answer(chapel, 0, 7));
        chapel.abandon(1);
        due(64, asked.answer(chapel, 7, 0));
        spend(chapel, 16);
        due(80, asked.answer(chapel, 0, 6));
        spend(chapel, 15);
        due(64, asked.answer(chapel, 0, 6));
    }
}
