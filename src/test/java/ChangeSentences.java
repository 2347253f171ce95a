/** The sentences of the promises 1 to 11. No object here gets more than 512 calls. */
final class ChangeSentences extends PromiseSentences {
    private ChangeSentences() {
    }

    static void fill(Sentences tests) {
        promise1(tests);
        promise2(tests);
        promise3(tests);
        promise4(tests);
        promise5(tests);
        promise6(tests);
        promise7(tests);
        promise8(tests);
        promise9(tests);
        promise10(tests);
        promise11(tests);
    }

    private static void promise1(Sentences tests) {
        tests.part("Promise 1");
        tests.test("Creates a chapel without members and vows on day 0, with an empty niche for candles.", () -> {
            BridgeChapel chapel = new BridgeChapel();
            due("c0 day 0 steel 30=30 kept 0 broken 0", HistorySentences.look(chapel));
            due(0, chapel.memberCount());
            due(0, chapel.vowCount());
            refused(INDEX, () -> chapel.outputAt(0));
            refused(STATE, chapel::undo);
            refused(STATE, chapel::restore);
            for (int place = 0; place < 4; place++) {
                due(place + 1, chapel.put(place, 'c', 1));
            }
            due(1, chapel.type('x'));
            due(0, chapel.makeVow(1, 1));
            due(0, chapel.addMember(0, 1, 1));
            // Another object has nothing of this one.
            due("c0 day 0 steel 30=30 kept 0 broken 0", HistorySentences.look(new BridgeChapel()));
        });
    }

    private static void promise2(Sentences tests) {
        tests.part("Promise 2");
        tests.test("Adds a member.", () -> {
            BridgeChapel chapel = new BridgeChapel();
            chapel.addMember(7, 0, 99);
            chapel.addMember(0, 1, 1);
            due("0:0-7s99c0w0", TermSentences.memberOf(chapel, 0));
            due("1:0-1s1c0w0", TermSentences.memberOf(chapel, 1));
            due(2, chapel.memberCount());
        });
        tests.test("Returns the index of the member.", () -> {
            BridgeChapel chapel = new BridgeChapel();
            for (int member = 0; member < 16; member++) {
                due(member, chapel.addMember(member % 4, 4 + member / 4, 5));
            }
            chapel.undo();
            due(15, chapel.addMember(0, 1, 5));
        });
        tests.test("Throws `IndexOutOfBoundsException` if there is no such joint, for either argument",
                () -> noSuchJoint((chapel, one, other) -> chapel.addMember(one, other, 5)));
        tests.test("Throws `IllegalArgumentException` if both joints are the same, or strength is not between 1 and 99",
                () -> {
            sameJoints((chapel, one, other) -> chapel.addMember(one, other, 5));
            BridgeChapel chapel = new BridgeChapel();
            int[] strengths = {0, -1, 100, 101, LEAST, MOST};
            for (int strength : strengths) {
                refused(ARGUMENT, () -> chapel.addMember(0, 1, strength));
            }
            due(0, chapel.addMember(0, 1, 1));
            due(1, chapel.addMember(1, 2, 99));
            due(2, chapel.memberCount());
        });
        tests.test("Throws `IllegalStateException` if there are 16 members, or a member joins both joints", () -> {
            BridgeChapel chapel = new BridgeChapel();
            for (int member = 0; member < 15; member++) {
                chapel.addMember(member % 4, 4 + member / 4, 5);
            }
            refused(STATE, () -> chapel.addMember(0, 4, 5));
            refused(STATE, () -> chapel.addMember(4, 0, 5));
            refused(STATE, () -> chapel.addMember(2, 7, 5));
            due(15, chapel.memberCount());
            due(15, chapel.addMember(3, 7, 5));
            refused(STATE, () -> chapel.addMember(0, 1, 5));
            refused(STATE, () -> chapel.addMember(3, 7, 5));
            due(16, chapel.memberCount());
            // Members that meet at one joint only are no obstacle.
            BridgeChapel near = TermSentences.line(5, 5);
            due(2, near.addMember(0, 2, 5));
        });
    }

    private static void promise3(Sentences tests) {
        tests.part("Promise 3");
        tests.test("Makes a procession.", () -> {
            BridgeChapel chapel = TermSentences.line(99, 50);
            chapel.put(2, 'c', 20);
            chapel.procession(2, 0, 30);
            wornTo(chapel, 0, 50);
            wornTo(chapel, 1, 50);
            chapel.procession(0, 1, 79);
            due(1, chapel.crack(0));
            wornTo(chapel, 0, 49);
            wornTo(chapel, 1, 50);
        });
        tests.test("Returns the number of members of its way.", () -> {
            BridgeChapel chapel = TermSentences.line(9, 9, 9, 9, 9, 9, 9);
            due(1, chapel.procession(0, 1, 1));
            due(7, chapel.procession(0, 7, 1));
            due(7, chapel.procession(7, 0, 1));
            due(3, chapel.procession(5, 2, 1));
            chapel.addMember(1, 6, 9);
            due(3, chapel.procession(0, 7, 1));
        });
        tests.test("Throws `IndexOutOfBoundsException` if there is no such joint, for either argument",
                () -> noSuchJoint((chapel, from, to) -> chapel.procession(from, to, 1)));
        tests.test("Throws `IllegalArgumentException` if both joints are the same, or load is not between 1 and 99",
                () -> {
            sameJoints((chapel, from, to) -> chapel.procession(from, to, 1));
            BridgeChapel chapel = TermSentences.single(99);
            int[] loads = {0, -1, 100, 101, LEAST, MOST};
            for (int load : loads) {
                refused(ARGUMENT, () -> chapel.procession(0, 1, load));
            }
            wornTo(chapel, 0, 0);
            due(1, chapel.procession(0, 1, 99));
            due(1, TermSentences.single(99).procession(0, 1, 1));
        });
        tests.test("Throws `NoSuchElementException` if there is no way between the joints",
                () -> noWay((chapel, from, to) -> chapel.procession(from, to, 1)));
        tests.test("Throws `UnsupportedOperationException` if it is not possible", () -> {
            BridgeChapel chapel = TermSentences.line(30, 20, 30);
            refused(UNSUPPORTED, () -> chapel.procession(0, 3, 21));
            refused(UNSUPPORTED, () -> chapel.procession(3, 0, 99));
            due(3, chapel.procession(0, 3, 20));
            chapel.put(0, 'c', 19);
            refused(UNSUPPORTED, () -> chapel.procession(0, 3, 2));
            due(3, chapel.procession(0, 3, 1));
            chapel.put(1, 'c', 1);
            refused(UNSUPPORTED, () -> chapel.procession(0, 3, 1));
            due(40, chapel.wear(1));
        });
    }

    private static void wornTo(BridgeChapel chapel, int member, int wear) {
        due(wear, chapel.wear(member));
    }

    private static void promise4(Sentences tests) {
        tests.part("Promise 4");
        tests.test("Makes a vow.", () -> {
            BridgeChapel chapel = new BridgeChapel();
            chapel.makeVow(2, 40);
            due(1, chapel.vowCount());
            due(2, chapel.dueDay(0));
            due(40, chapel.amount(0));
            due(30, chapel.steel());
            due(1, chapel.passDays(2));
        });
        tests.test("Returns the id of the vow.", () -> {
            BridgeChapel chapel = new BridgeChapel();
            for (int id = 0; id < 20; id++) {
                due(id, chapel.makeVow(chapel.day() + 1, 1));
                chapel.passDays(1);
            }
            chapel.makeVow(chapel.day() + 1, 1);
            chapel.undo();
            due(20, chapel.makeVow(chapel.day() + 1, 1));
        });
        tests.test("Throws `IllegalArgumentException` if dueDay is not between the day counter plus 1 and the day counter "
                + "plus 50, or amount is not between 1 and 99", () -> {
            BridgeChapel chapel = new BridgeChapel();
            for (int day = 0; day <= 60; day += 30) {
                int today = day;
                int[] dueDays = {today, today - 1, 0, -1, today + 51, today + 52, LEAST, MOST};
                for (int dueDay : dueDays) {
                    refused(ARGUMENT, () -> chapel.makeVow(dueDay, 5));
                }
                int[] amounts = {0, -1, 100, 101, LEAST, MOST};
                for (int amount : amounts) {
                    refused(ARGUMENT, () -> chapel.makeVow(today + 1, amount));
                }
                due(today / 15, chapel.makeVow(today + 1, 99));
                due(today / 15 + 1, chapel.makeVow(today + 50, 1));
                chapel.passDays(30);
            }
        });
        tests.test("Throws `IllegalStateException` if 8 vows wait", () -> {
            BridgeChapel chapel = new BridgeChapel();
            for (int vow = 0; vow < 7; vow++) {
                chapel.makeVow(1 + vow, 1);
            }
            due(7, chapel.makeVow(50, 99));
            refused(STATE, () -> chapel.makeVow(1, 1));
            refused(STATE, () -> chapel.makeVow(50, 99));
            due(8, chapel.vowCount());
            chapel.passDays(1);
            due(8, chapel.makeVow(50, 1));
            refused(STATE, () -> chapel.makeVow(50, 1));
        });
    }

    private static void promise5(Sentences tests) {
        tests.part("Promise 5");
        tests.test("Sets what the forge makes.", () -> {
            int[] units = {0, 1, 20};
            for (int made : units) {
                BridgeChapel chapel = new BridgeChapel();
                chapel.setForge(made);
                due(30, chapel.steel());
                chapel.passDays(3);
                due(30 + 3 * made, chapel.steel());
            }
        });
        tests.test("Returns the previous number.", () -> {
            BridgeChapel chapel = new BridgeChapel();
            due(5, chapel.setForge(20));
            due(20, chapel.setForge(0));
            due(0, chapel.setForge(0));
            due(0, chapel.setForge(1));
            due(1, chapel.setForge(5));
        });
        tests.test("Throws `IllegalArgumentException` if units is not between 0 and 20", () -> {
            BridgeChapel chapel = new BridgeChapel();
            int[] numbers = {-1, 21, 22, LEAST, MOST};
            for (int units : numbers) {
                refused(ARGUMENT, () -> chapel.setForge(units));
            }
            due(5, chapel.setForge(0));
            due(0, chapel.setForge(20));
        });
    }

    private static void promise6(Sentences tests) {
        tests.part("Promise 6");
        tests.test("Repairs a member, which need not have a crack.", () -> {
            BridgeChapel chapel = TermSentences.cracked(20, 9);
            chapel.procession(0, 1, 2);
            due(18, chapel.repair(0));
            due("0:0-1s20c0w0", TermSentences.memberOf(chapel, 0));
            due(12, chapel.steel());
            due(12, chapel.steelByAccounts());
            chapel.procession(0, 1, 20);
            due(0, chapel.repair(0));
            due("0:0-1s20c0w0", TermSentences.memberOf(chapel, 0));
            due(0, chapel.repair(0));
            due(12, chapel.steel());
        });
        tests.test("Returns the cost.", () -> {
            due(0, TermSentences.single(99).repair(0));
            due(10, TermSentences.cracked(99, 1).repair(0));
            due(30, TermSentences.cracked(91, 3).repair(0));
            due(27, TermSentences.cracked(90, 3).repair(0));
        });
        tests.test("Throws `IndexOutOfBoundsException` if there is no such member", () -> noSuchMember(BridgeChapel::repair));
        tests.test("Throws `IllegalStateException` if it is abandoned", () -> {
            BridgeChapel chapel = TermSentences.line(99, 99);
            crackTo(chapel, 0, 1);
            chapel.abandon(0);
            chapel.abandon(1);
            refused(STATE, () -> chapel.repair(0));
            refused(STATE, () -> chapel.repair(1));
            due(1, chapel.crack(0));
            due(30, chapel.steel());
            chapel.resume(0);
            due(10, chapel.repair(0));
        });
        tests.test("Throws `UnsupportedOperationException` if there is less steel than the cost", () -> {
            BridgeChapel chapel = TermSentences.cracked(91, 3);
            chapel.setForge(0);
            chapel.makeVow(1, 1);
            chapel.passDays(1);
            due(29, chapel.steel());
            refused(UNSUPPORTED, () -> chapel.repair(0));
            due(3, chapel.crack(0));
            due(29, chapel.steel());
            chapel.setForge(1);
            chapel.passDays(1);
            due(30, chapel.repair(0));
            due(0, chapel.steel());
            // Without steel a repair that costs nothing is still made.
            chapel.procession(0, 1, 5);
            due(0, chapel.repair(0));
            due(0, chapel.wear(0));
        });
    }

    private static void promise7(Sentences tests) {
        tests.part("Promise 7");
        tests.test("Abandons a member.", () -> {
            BridgeChapel chapel = TermSentences.line(9, 9, 9);
            chapel.abandon(1);
            due(false, chapel.isAbandoned(0));
            due(true, chapel.isAbandoned(1));
            due(false, chapel.isAbandoned(2));
            due(0, chapel.bearing(1));
            due(3, chapel.memberCount());
        });
        tests.test("Returns the number of abandoned members.", () -> {
            BridgeChapel chapel = TermSentences.full();
            for (int member = 15; member >= 0; member--) {
                due(16 - member, chapel.abandon(member));
            }
            chapel.resume(3);
            due(16, chapel.abandon(3));
        });
        tests.test("Throws `IndexOutOfBoundsException` if there is no such member",
                () -> noSuchMember(BridgeChapel::abandon));
        tests.test("Throws `IllegalStateException` if it is abandoned", () -> {
            BridgeChapel chapel = TermSentences.line(9, 9);
            chapel.abandon(0);
            refused(STATE, () -> chapel.abandon(0));
            due(2, chapel.abandon(1));
            refused(STATE, () -> chapel.abandon(1));
            chapel.resume(0);
            due(2, chapel.abandon(0));
        });
    }

    private static void promise8(Sentences tests) {
        tests.part("Promise 8");
        tests.test("Takes an abandoned member into use again; its crack and its wear are as they were.", () -> {
            BridgeChapel chapel = TermSentences.line(99, 99);
            chapel.procession(0, 1, 99);
            chapel.procession(0, 1, 99);
            chapel.abandon(0);
            chapel.abandon(1);
            chapel.passDays(9);
            chapel.resume(0);
            chapel.resume(1);
            due("0:0-1s99c1w98", TermSentences.memberOf(chapel, 0));
            due("1:1-2s99c0w0", TermSentences.memberOf(chapel, 1));
            due(89, chapel.bearing(0));
            due(89, chapel.widestLoad(0, 2));
        });
        tests.test("Returns the number of abandoned members.", () -> {
            BridgeChapel chapel = TermSentences.full();
            for (int member = 0; member < 16; member++) {
                chapel.abandon(member);
            }
            for (int member = 0; member < 16; member++) {
                due(15 - member, chapel.resume(member));
            }
        });
        tests.test("Throws `IndexOutOfBoundsException` if there is no such member",
                () -> noSuchMember(BridgeChapel::resume));
        tests.test("Throws `IllegalStateException` if it is in use", () -> {
            BridgeChapel chapel = TermSentences.line(9, 9);
            refused(STATE, () -> chapel.resume(0));
            chapel.abandon(0);
            refused(STATE, () -> chapel.resume(1));
            due(0, chapel.resume(0));
            refused(STATE, () -> chapel.resume(0));
        });
    }

    private static void promise9(Sentences tests) {
        tests.part("Promise 9");
        tests.test("Empties the niche and says for what it is from now on.", () -> {
            BridgeChapel chapel = new BridgeChapel();
            for (int place = 0; place < 4; place++) {
                chapel.put(place, 'c', 20);
            }
            chapel.setNiche('l');
            due(0, chapel.nicheWeight());
            due('l', chapel.nicheKind());
            for (int place = 0; place < 4; place++) {
                due(place + 1, chapel.put(place, 'l', 1));
            }
            // The kind that it has already empties it too.
            chapel.setNiche('l');
            due(0, chapel.nicheWeight());
            due('l', chapel.nicheKind());
            due(1, chapel.put(0, 'l', 1));
        });
        tests.test("- `kind`: 'c' for candles, 'l' for lamps", () -> {
            BridgeChapel chapel = new BridgeChapel();
            chapel.setNiche('l');
            due(5, chapel.put(0, 'l', 5));
            refused(UNSUPPORTED, () -> chapel.put(1, 'c', 5));
            chapel.setNiche('c');
            due(5, chapel.put(0, 'c', 5));
            refused(UNSUPPORTED, () -> chapel.put(1, 'l', 5));
        });
        tests.test("Returns the weight of the niche before.", () -> {
            BridgeChapel chapel = new BridgeChapel();
            due(0, chapel.setNiche('c'));
            chapel.put(0, 'c', 1);
            due(1, chapel.setNiche('c'));
            for (int place = 0; place < 4; place++) {
                chapel.put(place, 'c', 20);
            }
            due(80, chapel.setNiche('l'));
            due(0, chapel.setNiche('l'));
        });
        tests.test("Throws `IllegalArgumentException` if there is no such kind", () -> {
            BridgeChapel chapel = new BridgeChapel();
            chapel.put(0, 'c', 5);
            for (char kind = 0; kind < 256; kind++) {
                char tried = kind;
                if (kind != 'c' && kind != 'l') {
                    refused(ARGUMENT, () -> chapel.setNiche(tried));
                }
            }
            refused(ARGUMENT, () -> chapel.setNiche((char) ('c' + 256)));
            refused(ARGUMENT, () -> chapel.setNiche(Character.MAX_VALUE));
            due(5, chapel.nicheWeight());
            due(5, chapel.setNiche('c'));
            due(0, chapel.setNiche('l'));
        });
    }

    private static void promise10(Sentences tests) {
        tests.part("Promise 10");
        tests.test("Puts a thing into a free place of the niche.", () -> {
            BridgeChapel chapel = TermSentences.single(99);
            for (int place = 3; place >= 0; place--) {
                chapel.put(place, 'c', 1 + place);
            }
            due(10, chapel.nicheWeight());
            chapel.procession(0, 1, 1);
            due(11, chapel.wear(0));
            refused(STATE, () -> chapel.put(0, 'c', 1));
            refused(STATE, () -> chapel.put(3, 'c', 1));
        });
        tests.test("- `kind`: 'c' for a candle, 'l' for a lamp", () -> {
            BridgeChapel chapel = new BridgeChapel();
            due(1, chapel.put(0, 'c', 1));
            refused(UNSUPPORTED, () -> chapel.put(1, 'l', 1));
            chapel.setNiche('l');
            due(1, chapel.put(0, 'l', 1));
            refused(UNSUPPORTED, () -> chapel.put(1, 'c', 1));
        });
        tests.test("Returns the weight of the niche after the call.", () -> {
            BridgeChapel chapel = new BridgeChapel();
            due(20, chapel.put(2, 'c', 20));
            due(21, chapel.put(0, 'c', 1));
            due(41, chapel.put(3, 'c', 20));
            due(61, chapel.put(1, 'c', 20));
        });
        tests.test("Throws `IndexOutOfBoundsException` if there is no such place", () -> {
            BridgeChapel chapel = new BridgeChapel();
            int[] places = {-1, 4, 5, LEAST, MOST};
            for (int place : places) {
                refused(INDEX, () -> chapel.put(place, 'c', 1));
            }
            due(1, chapel.put(0, 'c', 1));
            due(2, chapel.put(3, 'c', 1));
        });
        tests.test("Throws `IllegalArgumentException` if there is no such kind, or weight is not between 1 and 20", () -> {
            BridgeChapel chapel = new BridgeChapel();
            char[] kinds = {'x', 'C', 'L', 'b', 'd', 'k', 'm', 0, 'c' + 256, Character.MAX_VALUE};
            for (char kind : kinds) {
                refused(ARGUMENT, () -> chapel.put(0, kind, 1));
            }
            int[] weights = {0, -1, 21, 22, LEAST, MOST};
            for (int weight : weights) {
                refused(ARGUMENT, () -> chapel.put(0, 'c', weight));
                refused(ARGUMENT, () -> chapel.put(0, 'l', weight));
            }
            due(1, chapel.put(0, 'c', 1));
            due(21, chapel.put(1, 'c', 20));
        });
        tests.test("Throws `UnsupportedOperationException` if the niche is for the other kind", () -> {
            BridgeChapel chapel = new BridgeChapel();
            refused(UNSUPPORTED, () -> chapel.put(0, 'l', 1));
            chapel.put(0, 'c', 1);
            refused(UNSUPPORTED, () -> chapel.put(1, 'l', 20));
            chapel.setNiche('l');
            refused(UNSUPPORTED, () -> chapel.put(0, 'c', 1));
            due(1, chapel.put(0, 'l', 1));
        });
        tests.test("Throws `IllegalStateException` if the place is not free", () -> {
            BridgeChapel chapel = new BridgeChapel();
            for (int place = 0; place < 4; place++) {
                int taken = place;
                chapel.put(place, 'c', 1 + 19 * (place % 2));
                refused(STATE, () -> chapel.put(taken, 'c', 1));
                refused(STATE, () -> chapel.put(taken, 'c', 20));
            }
            due(42, chapel.nicheWeight());
            chapel.setNiche('c');
            due(7, chapel.put(0, 'c', 7));
        });
    }

    private static void promise11(Sentences tests) {
        tests.part("Promise 11");
        tests.test("Lets days pass.", () -> {
            BridgeChapel chapel = new BridgeChapel();
            chapel.passDays(1);
            due(1, chapel.day());
            chapel.passDays(30);
            due(31, chapel.day());
            due(185, chapel.steel());
            // Day by day: what is forged later does not keep a vow that is due earlier.
            chapel.setForge(20);
            for (int vow = 0; vow < 5; vow++) {
                chapel.makeVow(32, 37);
            }
            chapel.makeVow(32, 21);
            chapel.makeVow(33, 20);
            due(6, chapel.passDays(3));
            due(1, chapel.brokenTotal());
            due(40, chapel.steel());
        });
        tests.test("Returns the number of vows that are kept in these days.", () -> {
            BridgeChapel chapel = new BridgeChapel();
            chapel.makeVow(1, 1);
            chapel.makeVow(30, 1);
            chapel.makeVow(31, 1);
            chapel.makeVow(32, 1);
            chapel.makeVow(2, 99);
            due(2, chapel.passDays(30));
            due(1, chapel.passDays(1));
            due(1, chapel.passDays(1));
            due(0, chapel.passDays(30));
            due(4, chapel.keptTotal());
        });
        tests.test("Throws `IllegalArgumentException` if days is not between 1 and 30", () -> {
            BridgeChapel chapel = new BridgeChapel();
            int[] numbers = {0, -1, 31, 32, LEAST, MOST};
            for (int days : numbers) {
                refused(ARGUMENT, () -> chapel.passDays(days));
            }
            due(0, chapel.day());
            chapel.passDays(1);
            chapel.passDays(30);
            due(31, chapel.day());
        });
    }
}
