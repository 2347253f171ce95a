/** The sentences of the promises 12 to 22, 31, 46 and 47. No object here gets more than 512 calls. */
final class MemberSentences extends PromiseSentences {
    private MemberSentences() {
    }

    static void fill(Sentences tests) {
        counts(tests);
        joints(tests);
        wornMembers(tests);
        bearings(tests);
        strains(tests);
        strainBits(tests);
        links(tests);
        ranks(tests);
        shares(tests);
    }

    private static void counts(Sentences tests) {
        tests.part("Promise 12");
        tests.test("Returns the number of members.", () -> {
            BridgeChapel chapel = new BridgeChapel();
            due(0, chapel.memberCount());
            for (int member = 0; member < 16; member++) {
                chapel.addMember(member / 4, 4 + member % 4, 5);
                due(member + 1, chapel.memberCount());
            }
            refused(STATE, () -> chapel.addMember(0, 1, 5));
            chapel.abandon(3);
            due(16, chapel.memberCount());
            chapel.undo();
            chapel.undo();
            due(15, chapel.memberCount());
        });
    }

    private static void joints(Sentences tests) {
        tests.part("Promise 13");
        tests.test("Returns the first joint of a member.", () -> {
            BridgeChapel chapel = TermSentences.full();
            for (int member = 0; member < 16; member++) {
                due(member / 4, chapel.firstJoint(member));
            }
            chapel.abandon(0);
            due(0, chapel.firstJoint(0));
        });
        tests.test("Returns the lower one of its joints.", () -> {
            BridgeChapel chapel = new BridgeChapel();
            chapel.addMember(7, 0, 5);
            chapel.addMember(1, 0, 5);
            chapel.addMember(6, 7, 5);
            due(0, chapel.firstJoint(0));
            due(0, chapel.firstJoint(1));
            due(6, chapel.firstJoint(2));
        });
        tests.test("Throws `IndexOutOfBoundsException` if there is no such member",
                () -> noSuchMember(BridgeChapel::firstJoint));
        tests.part("Promise 14");
        tests.test("Returns the second joint of a member.", () -> {
            BridgeChapel chapel = TermSentences.full();
            for (int member = 0; member < 16; member++) {
                due(4 + member % 4, chapel.secondJoint(member));
            }
            chapel.abandon(0);
            due(4, chapel.secondJoint(0));
        });
        tests.test("Returns the higher one of its joints.", () -> {
            BridgeChapel chapel = new BridgeChapel();
            chapel.addMember(7, 0, 5);
            chapel.addMember(1, 0, 5);
            chapel.addMember(6, 7, 5);
            due(7, chapel.secondJoint(0));
            due(1, chapel.secondJoint(1));
            due(7, chapel.secondJoint(2));
        });
        tests.test("Throws `IndexOutOfBoundsException` if there is no such member",
                () -> noSuchMember(BridgeChapel::secondJoint));
    }

    private static void wornMembers(Sentences tests) {
        tests.part("Promise 15");
        tests.test("Returns the crack of a member.", () -> {
            BridgeChapel chapel = TermSentences.line(99, 99);
            due(0, chapel.crack(0));
            crackTo(chapel, 1, 9);
            due(0, chapel.crack(0));
            due(9, chapel.crack(1));
        });
        tests.test("Returns the crack.", () -> {
            BridgeChapel chapel = TermSentences.single(99);
            for (int crack = 0; crack < 9; crack++) {
                due(crack, chapel.crack(0));
                chapel.procession(0, 1, 1);
                crackTo(chapel, 0, crack + 1);
            }
            chapel.abandon(0);
            due(9, chapel.crack(0));
        });
        tests.test("Throws `IndexOutOfBoundsException` if there is no such member", () -> noSuchMember(BridgeChapel::crack));
        tests.part("Promise 16");
        tests.test("Returns the wear of a member.", () -> {
            BridgeChapel chapel = TermSentences.line(99, 99);
            due(0, chapel.wear(0));
            chapel.procession(1, 2, 99);
            due(0, chapel.wear(0));
            due(99, chapel.wear(1));
        });
        tests.test("Returns the wear.", () -> {
            BridgeChapel chapel = TermSentences.single(99);
            for (int wear = 0; wear < 99; wear++) {
                due(wear, chapel.wear(0));
                chapel.procession(0, 1, 1);
            }
            due(99, chapel.wear(0));
            chapel.procession(0, 1, 1);
            due(0, chapel.wear(0));
        });
        tests.test("Throws `IndexOutOfBoundsException` if there is no such member", () -> noSuchMember(BridgeChapel::wear));
        tests.part("Promise 17");
        tests.test("Returns whether a member is abandoned.", () -> {
            BridgeChapel chapel = TermSentences.line(9, 9, 9);
            chapel.abandon(1);
            due(false, chapel.isAbandoned(0));
            due(true, chapel.isAbandoned(1));
            due(false, chapel.isAbandoned(2));
            chapel.resume(1);
            due(false, chapel.isAbandoned(1));
        });
        tests.test("Returns true if it is abandoned.", () -> {
            BridgeChapel chapel = TermSentences.full();
            chapel.abandon(0);
            chapel.abandon(15);
            for (int member = 0; member < 16; member++) {
                due(member == 0 || member == 15, chapel.isAbandoned(member));
            }
            // A member without bearing is not abandoned.
            BridgeChapel gone = TermSentences.cracked(1, 1);
            due(0, gone.bearing(0));
            due(false, gone.isAbandoned(0));
        });
        tests.test("Throws `IndexOutOfBoundsException` if there is no such member",
                () -> noSuchMember(BridgeChapel::isAbandoned));
    }

    private static void bearings(Sentences tests) {
        tests.part("Promise 18");
        tests.test("Returns the bearing of a member.", () -> {
            due(1, TermSentences.single(1).bearing(0));
            due(99, TermSentences.single(99).bearing(0));
            due(8, TermSentences.cracked(9, 1).bearing(0));
            due(0, TermSentences.cracked(1, 1).bearing(0));
        });
        tests.test("Returns the bearing.", () -> {
            BridgeChapel chapel = TermSentences.line(99, 40);
            crackTo(chapel, 0, 9);
            due(9, chapel.bearing(0));
            due(40, chapel.bearing(1));
            chapel.abandon(0);
            due(0, chapel.bearing(0));
            due(40, chapel.bearing(1));
            chapel.resume(0);
            due(9, chapel.bearing(0));
        });
        tests.test("Throws `IndexOutOfBoundsException` if there is no such member",
                () -> noSuchMember(BridgeChapel::bearing));
        tests.part("Promise 19");
        tests.test("Returns the cost of repairing a member, whether it is abandoned or not.", () -> {
            BridgeChapel chapel = TermSentences.cracked(91, 2);
            due(20, chapel.repairCost(0));
            chapel.abandon(0);
            due(20, chapel.repairCost(0));
            chapel.resume(0);
            due(20, chapel.repairCost(0));
        });
        tests.test("Returns the number of units of steel.", () -> {
            due(0, TermSentences.single(99).repairCost(0));
            due(1, TermSentences.cracked(1, 1).repairCost(0));
            due(90, TermSentences.cracked(99, 9).repairCost(0));
            BridgeChapel chapel = TermSentences.line(30, 31);
            crackTo(chapel, 0, 2);
            crackTo(chapel, 1, 2);
            due(6, chapel.repairCost(0));
            due(8, chapel.repairCost(1));
        });
        tests.test("Throws `IndexOutOfBoundsException` if there is no such member",
                () -> noSuchMember(BridgeChapel::repairCost));
    }

    private static void strains(Sentences tests) {
        tests.part("Promise 20");
        tests.test("Returns the strain of a member under a load: the load divided by the bearing, both converted to "
                + "float.", () -> {
            due(1.0f / 3.0f, TermSentences.single(3).strain(0, 1));
            // 16777217 is no float; it is converted to 16777216 before the division.
            due(16777216.0f / 3.0f, TermSentences.single(3).strain(0, 16777217));
            due(false, (float) (16777219.0 / 97.0) == 16777220.0f / 97.0f);
            due(16777220.0f / 97.0f, TermSentences.single(97).strain(0, 16777219));
            due(50.0f / 36.0f, TermSentences.cracked(40, 1).strain(0, 50));
        });
        tests.test("- `load`: the load, any number", () -> {
            BridgeChapel chapel = TermSentences.single(36);
            due(0.0f, chapel.strain(0, 0));
            due(-1.0f / 36.0f, chapel.strain(0, -1));
            due((float) LEAST / 36.0f, chapel.strain(0, LEAST));
            due((float) MOST / 36.0f, chapel.strain(0, MOST));
            due(100.0f / 36.0f, chapel.strain(0, 100));
        });
        tests.test("Returns the strain.", () -> {
            BridgeChapel chapel = TermSentences.line(50, 20);
            due(0.5f, chapel.strain(0, 25));
            due(1.25f, chapel.strain(1, 25));
            chapel.put(0, 'c', 20);
            due(0.5f, chapel.strain(0, 25));
        });
        tests.test("Throws `IndexOutOfBoundsException` if there is no such member",
                () -> noSuchMember((chapel, member) -> chapel.strain(member, 5)));
        tests.test("Throws `ArithmeticException` if its bearing is 0",
                () -> noBearing((chapel, member) -> chapel.strain(member, 5)));
    }

    private static void noBearing(AskedOfMember asked) {
        BridgeChapel gone = TermSentences.cracked(1, 1);
        refused(ARITHMETIC, () -> asked.answer(gone, 0));
        BridgeChapel left = TermSentences.line(99, 99);
        left.abandon(0);
        refused(ARITHMETIC, () -> asked.answer(left, 0));
        notRefused(ARITHMETIC, () -> asked.answer(left, 1));
        notRefused(ARITHMETIC, () -> asked.answer(TermSentences.single(1), 0));
        notRefused(ARITHMETIC, () -> asked.answer(TermSentences.cracked(2, 1), 0));
    }

    private static void strainBits(Sentences tests) {
        tests.part("Promise 21");
        tests.test("Returns the bits of the strain of a member, as by Float.floatToIntBits.", () -> {
            for (int bearing = 1; bearing <= 99; bearing++) {
                BridgeChapel chapel = TermSentences.single(bearing);
                for (int load = -200; load <= 200; load++) {
                    due(Float.floatToIntBits((float) load / (float) bearing), chapel.strainBits(0, load));
                }
            }
        });
        tests.test("- `load`: the load, any number", () -> {
            for (int bearing = 1; bearing <= 99; bearing++) {
                BridgeChapel chapel = TermSentences.single(bearing);
                for (int shift = 0; shift < 32; shift++) {
                    int power = 1 << shift;
                    int[] loads = {power, power - 1, power + 1, -power, ~power, power * 3, power * bearing};
                    for (int load : loads) {
                        due(Float.floatToIntBits((float) load / (float) bearing), chapel.strainBits(0, load));
                    }
                }
                due(Float.floatToIntBits((float) LEAST / (float) bearing), chapel.strainBits(0, LEAST));
                due(Float.floatToIntBits((float) MOST / (float) bearing), chapel.strainBits(0, MOST));
                due(0, chapel.strainBits(0, 0));
            }
        });
        tests.test("Returns the bits.", () -> {
            BridgeChapel chapel = TermSentences.line(50, 20);
            due(0x3f000000, chapel.strainBits(0, 25));
            due(0x3fa00000, chapel.strainBits(1, 25));
            due(0xbf800000, chapel.strainBits(1, -20));
            due(0, chapel.strainBits(1, 0));
        });
        tests.test("Throws `IndexOutOfBoundsException` if there is no such member",
                () -> noSuchMember((chapel, member) -> chapel.strainBits(member, 5)));
        tests.test("Throws `ArithmeticException` if its bearing is 0",
                () -> noBearing((chapel, member) -> chapel.strainBits(member, 5)));
    }

    private static long linkOf(int one, int other) {
        return (1L << 8 * one + other) + (1L << 8 * other + one);
    }

    private static void links(Sentences tests) {
        tests.part("Promise 22");
        tests.test("Returns which joints are joined by members that can be walked, as a set of bits.", () -> {
            BridgeChapel chapel = TermSentences.line(1, 1, 1);
            due(linkOf(0, 1) + linkOf(1, 2) + linkOf(2, 3), chapel.links());
            crackTo(chapel, 1, 1);
            due(linkOf(0, 1) + linkOf(2, 3), chapel.links());
            chapel.abandon(0);
            due(linkOf(2, 3), chapel.links());
            chapel.repair(1);
            due(linkOf(1, 2) + linkOf(2, 3), chapel.links());
            chapel.resume(0);
            due(linkOf(0, 1) + linkOf(1, 2) + linkOf(2, 3), chapel.links());
        });
        tests.test("Returns the sum of 2 to the power of 8 * a + b over all ordered pairs of joints a and b that are "
                + "joined so, as a number of 64 bits.", () -> {
            due(0L, new BridgeChapel().links());
            for (int one = 0; one < 8; one++) {
                for (int other = 0; other < 8; other++) {
                    if (one != other) {
                        BridgeChapel chapel = new BridgeChapel();
                        chapel.addMember(one, other, 5);
                        due(linkOf(one, other), chapel.links());
                    }
                }
            }
            due(0x0f0f0f0ff0f0f0f0L, TermSentences.full().links());
        });
    }

    private static String ranking(BridgeChapel chapel) {
        StringBuilder text = new StringBuilder();
        for (int rank = 0; rank < chapel.memberCount(); rank++) {
            text.append(chapel.memberByBearing(rank)).append(' ');
        }
        return text.toString();
    }

    private static void ranks(Sentences tests) {
        tests.part("Promise 31");
        tests.test("Returns the member at a rank when all members are sorted by bearing in ascending order, then by crack "
                + "in descending order, then by index in ascending order.", () -> {
            due("3 2 1 0 ", ranking(TermSentences.line(12, 11, 10, 9)));
            due("0 1 2 3 ", ranking(TermSentences.line(9, 9, 9, 9)));
            // Bearings 45, 45, 45, 46 and 44 with the cracks 0, 1, 0, 0 and 0.
            BridgeChapel chapel = TermSentences.line(45, 50, 45, 46, 44);
            crackTo(chapel, 1, 1);
            due("4 1 0 2 3 ", ranking(chapel));
            chapel.abandon(3);
            chapel.abandon(1);
            due("1 3 4 0 2 ", ranking(chapel));
            chapel.abandon(0);
            due("1 0 3 4 2 ", ranking(chapel));
        });
        tests.test("- `rank`: the rank, counted from 0", () -> {
            BridgeChapel chapel = TermSentences.line(30, 10, 20);
            due(1, chapel.memberByBearing(0));
            due(2, chapel.memberByBearing(1));
            due(0, chapel.memberByBearing(2));
        });
        tests.test("Returns the index of the member.", () -> {
            due(0, TermSentences.single(5).memberByBearing(0));
            BridgeChapel full = TermSentences.full();
            full.abandon(15);
            due(15, full.memberByBearing(0));
            for (int rank = 1; rank < 16; rank++) {
                due(rank - 1, full.memberByBearing(rank));
            }
        });
        tests.test("Throws `NoSuchElementException` if there is no such rank", () -> {
            BridgeChapel none = new BridgeChapel();
            BridgeChapel some = TermSentences.line(9, 9);
            some.abandon(0);
            BridgeChapel full = TermSentences.full();
            int[] ranks = {-1, 16, 17, LEAST, MOST};
            for (int rank : ranks) {
                refused(ELEMENT, () -> none.memberByBearing(rank));
                refused(ELEMENT, () -> some.memberByBearing(rank));
                refused(ELEMENT, () -> full.memberByBearing(rank));
            }
            refused(ELEMENT, () -> none.memberByBearing(0));
            refused(ELEMENT, () -> some.memberByBearing(2));
            due(1, some.memberByBearing(1));
            due(15, full.memberByBearing(15));
        });
    }

    private static void shares(Sentences tests) {
        tests.part("Promise 46");
        tests.test("Returns the mean bearing of all members: the sum divided by their number, both converted to double.",
                () -> {
            due(31.0 / 3.0, TermSentences.line(10, 10, 11).meanBearing());
            due(440.0 / 16.0, TermSentences.full().meanBearing());
            BridgeChapel chapel = TermSentences.line(99, 40, 1);
            crackTo(chapel, 0, 9);
            chapel.abandon(1);
            due(10.0 / 3.0, chapel.meanBearing());
        });
        tests.test("Returns the mean bearing.", () -> {
            due(1.0, TermSentences.single(1).meanBearing());
            due(99.0, TermSentences.line(99, 99).meanBearing());
            due(0.0, TermSentences.cracked(1, 1).meanBearing());
        });
        tests.test("Throws `ArithmeticException` if there are no members", () -> {
            BridgeChapel chapel = new BridgeChapel();
            refused(ARITHMETIC, chapel::meanBearing);
            chapel.addMember(0, 1, 9);
            chapel.abandon(0);
            due(0.0, chapel.meanBearing());
            chapel.undo();
            chapel.undo();
            refused(ARITHMETIC, chapel::meanBearing);
        });
        tests.part("Promise 47");
        tests.test("Returns the share of members whose crack is greater than 0, both numbers converted to float.", () -> {
            BridgeChapel chapel = TermSentences.line(99, 99, 99);
            due(0.0f, chapel.crackedShare());
            chapel.procession(0, 3, 99);
            due(0.0f, chapel.crackedShare());
            chapel.procession(0, 1, 1);
            due(1.0f / 3.0f, chapel.crackedShare());
            crackTo(chapel, 0, 9);
            due(1.0f / 3.0f, chapel.crackedShare());
            chapel.procession(1, 2, 1);
            due(2.0f / 3.0f, chapel.crackedShare());
            chapel.abandon(0);
            due(2.0f / 3.0f, chapel.crackedShare());
        });
        tests.test("Returns the share.", () -> {
            due(0.0f, TermSentences.full().crackedShare());
            due(1.0f, TermSentences.cracked(99, 1).crackedShare());
            BridgeChapel chapel = TermSentences.cracked(9, 1);
            chapel.repair(0);
            due(0.0f, chapel.crackedShare());
        });
        tests.test("Throws `ArithmeticException` if there are no members", () -> {
            BridgeChapel chapel = new BridgeChapel();
            refused(ARITHMETIC, chapel::crackedShare);
            chapel.addMember(0, 1, 9);
            due(0.0f, chapel.crackedShare());
            chapel.undo();
            refused(ARITHMETIC, chapel::crackedShare);
        });
    }
}
