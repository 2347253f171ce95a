/** The sentences of the promises 32 to 45 and 48. No object here gets more than 512 calls. */
final class SteelSentences extends PromiseSentences {
    private SteelSentences() {
    }

    static void fill(Sentences tests) {
        niche(tests);
        waitingVows(tests);
        keepingAll(tests);
        greatestVows(tests);
        totals(tests);
        steel(tests);
        consistency(tests);
    }

    private static void niche(Sentences tests) {
        tests.part("Promise 32");
        tests.test("Returns for what the niche is.", () -> {
            BridgeChapel chapel = new BridgeChapel();
            chapel.setNiche('l');
            due('l', chapel.nicheKind());
            chapel.put(0, 'l', 5);
            due('l', chapel.nicheKind());
            chapel.setNiche('c');
            due('c', chapel.nicheKind());
            refused(ARGUMENT, () -> chapel.setNiche('x'));
            due('c', chapel.nicheKind());
        });
        tests.test("Returns 'c' for candles, 'l' for lamps.", () -> {
            BridgeChapel chapel = new BridgeChapel();
            due('c', chapel.nicheKind());
            due(5, chapel.put(0, 'c', 5));
            chapel.setNiche('l');
            due('l', chapel.nicheKind());
            due(5, chapel.put(0, 'l', 5));
        });
        tests.part("Promise 33");
        tests.test("Returns the weight of the niche.", () -> {
            BridgeChapel chapel = new BridgeChapel();
            due(0, chapel.nicheWeight());
            chapel.put(3, 'c', 20);
            due(20, chapel.nicheWeight());
            refused(STATE, () -> chapel.put(3, 'c', 1));
            due(20, chapel.nicheWeight());
            chapel.setNiche('c');
            due(0, chapel.nicheWeight());
        });
        tests.test("Returns the weight.", () -> {
            BridgeChapel chapel = new BridgeChapel();
            for (int place = 0; place < 4; place++) {
                due(20 * place, chapel.nicheWeight());
                chapel.put(place, 'c', 20);
            }
            due(80, chapel.nicheWeight());
            chapel.undo();
            due(60, chapel.nicheWeight());
        });
    }

    private static void waitingVows(Sentences tests) {
        tests.part("Promise 34");
        tests.test("Returns the number of vows that wait.", () -> {
            BridgeChapel chapel = new BridgeChapel();
            chapel.makeVow(1, 1);
            chapel.makeVow(1, 99);
            chapel.makeVow(2, 1);
            due(3, chapel.vowCount());
            chapel.passDays(1);
            due(1, chapel.vowCount());
            chapel.passDays(1);
            due(0, chapel.vowCount());
        });
        tests.test("Returns the number of vows.", () -> {
            BridgeChapel chapel = new BridgeChapel();
            for (int vow = 0; vow < 8; vow++) {
                due(vow, chapel.vowCount());
                chapel.makeVow(50, 1);
            }
            due(8, chapel.vowCount());
            refused(STATE, () -> chapel.makeVow(50, 1));
            due(8, chapel.vowCount());
        });
        tests.part("Promise 35");
        tests.test("Returns a waiting vow by its position when vows are sorted by due day in ascending order, then by id "
                + "in ascending order.", () -> {
            int[] dueDays = {9, 4, 50, 4, 1, 9, 4, 50};
            BridgeChapel chapel = new BridgeChapel();
            for (int dueDay : dueDays) {
                chapel.makeVow(dueDay, 1);
            }
            int[] order = {4, 1, 3, 6, 0, 5, 2, 7};
            for (int position = 0; position < 8; position++) {
                due(order[position], chapel.vowAt(position));
            }
            chapel.passDays(1);
            for (int position = 0; position < 7; position++) {
                due(order[position + 1], chapel.vowAt(position));
            }
            chapel.makeVow(2, 99);
            due(8, chapel.vowAt(0));
            due(1, chapel.vowAt(1));
        });
        tests.test("- `position`: the position, counted from 0", () -> {
            BridgeChapel chapel = new BridgeChapel();
            chapel.makeVow(3, 1);
            due(0, chapel.vowAt(0));
            chapel.makeVow(2, 1);
            due(1, chapel.vowAt(0));
            due(0, chapel.vowAt(1));
        });
        tests.test("Returns the id of the vow.", () -> {
            BridgeChapel chapel = new BridgeChapel();
            for (int id = 0; id < 12; id++) {
                chapel.makeVow(id + 1, 1);
                due(id, chapel.vowAt(0));
                chapel.passDays(1);
            }
            chapel.makeVow(60, 1);
            chapel.makeVow(59, 1);
            due(13, chapel.vowAt(0));
            due(12, chapel.vowAt(1));
        });
        tests.test("Throws `NoSuchElementException` if there is no such position", () -> {
            BridgeChapel chapel = new BridgeChapel();
            refused(ELEMENT, () -> chapel.vowAt(0));
            for (int vow = 0; vow < 8; vow++) {
                chapel.makeVow(1 + vow % 2, 1);
                due(true, chapel.vowAt(vow) >= 0);
                refused(ELEMENT, () -> chapel.vowAt(chapel.vowCount()));
            }
            int[] positions = {-1, 8, 9, LEAST, MOST};
            for (int position : positions) {
                refused(ELEMENT, () -> chapel.vowAt(position));
            }
            chapel.passDays(1);
            due(7, chapel.vowAt(3));
            refused(ELEMENT, () -> chapel.vowAt(4));
            chapel.passDays(1);
            refused(ELEMENT, () -> chapel.vowAt(0));
        });
        tests.part("Promise 36");
        tests.test("Returns the due day of a waiting vow.", () -> {
            BridgeChapel chapel = new BridgeChapel();
            chapel.makeVow(5, 1);
            chapel.makeVow(1, 1);
            chapel.makeVow(7, 1);
            due(5, chapel.dueDay(0));
            due(1, chapel.dueDay(1));
            chapel.passDays(1);
            due(5, chapel.dueDay(0));
            due(7, chapel.dueDay(2));
        });
        tests.test("Returns the due day.", () -> {
            BridgeChapel chapel = new BridgeChapel();
            chapel.passDays(30);
            chapel.makeVow(31, 1);
            chapel.makeVow(80, 1);
            due(31, chapel.dueDay(0));
            due(80, chapel.dueDay(1));
        });
        tests.test("Throws `NoSuchElementException` if no vow with this id waits",
                () -> noSuchVow(BridgeChapel::dueDay));
        tests.part("Promise 37");
        tests.test("Returns the amount of a waiting vow.", () -> {
            BridgeChapel chapel = new BridgeChapel();
            chapel.makeVow(5, 11);
            chapel.makeVow(1, 12);
            chapel.makeVow(7, 13);
            due(11, chapel.amount(0));
            due(12, chapel.amount(1));
            chapel.passDays(1);
            due(11, chapel.amount(0));
            due(13, chapel.amount(2));
        });
        tests.test("Returns the amount.", () -> {
            BridgeChapel chapel = new BridgeChapel();
            chapel.makeVow(5, 1);
            chapel.makeVow(5, 99);
            due(1, chapel.amount(0));
            due(99, chapel.amount(1));
        });
        tests.test("Throws `NoSuchElementException` if no vow with this id waits",
                () -> noSuchVow(BridgeChapel::amount));
    }

    private static void noSuchVow(AskedOfMember asked) {
        BridgeChapel chapel = new BridgeChapel();
        refused(ELEMENT, () -> asked.answer(chapel, 0));
        for (int vow = 0; vow < 8; vow++) {
            int id = vow;
            chapel.makeVow(1 + vow, 1);
            notRefused(ELEMENT, () -> asked.answer(chapel, id));
            refused(ELEMENT, () -> asked.answer(chapel, id + 1));
        }
        int[] ids = {-1, 8, 9, LEAST, MOST};
        for (int id : ids) {
            refused(ELEMENT, () -> asked.answer(chapel, id));
        }
        // Neither a kept vow nor a broken one waits any more, and the ids of the others stay.
        for (int vow = 0; vow < 8; vow++) {
            int gone = vow;
            chapel.passDays(1);
            refused(ELEMENT, () -> asked.answer(chapel, gone));
            for (int left = vow + 1; left < 8; left++) {
                int id = left;
                notRefused(ELEMENT, () -> asked.answer(chapel, id));
            }
        }
        due(8, chapel.keptTotal());
        chapel.makeVow(9, 99);
        chapel.makeVow(10, 1);
        chapel.passDays(1);
        due(1, chapel.brokenTotal());
        refused(ELEMENT, () -> asked.answer(chapel, 8));
        notRefused(ELEMENT, () -> asked.answer(chapel, 9));
        // A vow that was undone does not wait either.
        chapel.makeVow(10, 1);
        notRefused(ELEMENT, () -> asked.answer(chapel, 10));
        chapel.undo();
        refused(ELEMENT, () -> asked.answer(chapel, 10));
    }

    private static void keepingAll(Sentences tests) {
        tests.part("Promise 38");
        tests.test("Returns whether all waiting vows would be kept if only days passed, found day by day.",
                () -> seesWhatDaysBring(BridgeChapel::canKeepAll));
        tests.test("Returns true if all of them would be kept, also if there are none.", () -> {
            keepsJustAllOrNot(BridgeChapel::canKeepAll);
            keepsNone(BridgeChapel::canKeepAll);
        });
        tests.part("Promise 39");
        tests.test("Returns the same as canKeepAll, found from sums: for each due day, the amounts of the vows that are "
                + "due by then are together at most the steel that there is and that the forge makes by then.", () -> {
            seesWhatDaysBring(BridgeChapel::canKeepAllBySums);
            keepsNone(BridgeChapel::canKeepAllBySums);
        });
        tests.test("Returns true if all of them would be kept.", () -> keepsJustAllOrNot(BridgeChapel::canKeepAllBySums));
    }

    private interface Judge {
        boolean keepsAll(BridgeChapel chapel);
    }

    /** A new chapel with vows given as a due day and an amount each. */
    private static BridgeChapel vowed(int... vows) {
        BridgeChapel chapel = new BridgeChapel();
        for (int index = 0; index + 1 < vows.length; index += 2) {
            chapel.makeVow(vows[index], vows[index + 1]);
        }
        return chapel;
    }

    /** Compares the judgement with what comes when only days pass. */
    private static void seesWhatDaysBring(Judge judge) {
        int[][] rows = {{1, 35}, {1, 36}, {50, 99, 50, 99, 50, 82}, {50, 99, 50, 99, 50, 83}, {1, 36, 50, 1},
            {50, 1, 1, 36}, {1, 99, 2, 1}, {1, 1, 2, 99}, {3, 20, 2, 20, 1, 5}, {3, 20, 2, 20, 1, 6},
            {3, 20, 2, 21, 1, 4}, {3, 20, 2, 21, 1, 5}, {30, 99, 40, 99, 20, 32}, {30, 99, 40, 99, 20, 33},
            {1, 5, 2, 5, 3, 5, 4, 5, 5, 5, 6, 5, 7, 5, 8, 35}, {1, 5, 2, 5, 3, 5, 4, 5, 5, 5, 6, 5, 7, 5, 8, 36}};
        for (int[] vows : rows) {
            BridgeChapel chapel = vowed(vows);
            boolean judged = judge.keepsAll(chapel);
            due(0, chapel.day());
            chapel.passDays(30);
            chapel.passDays(20);
            due(chapel.brokenTotal() == 0, judged);
            due(true, judge.keepsAll(chapel));
        }
    }

    private static void keepsJustAllOrNot(Judge judge) {
        // On the first day there are 35 units, on the second one 40, on the fiftieth one 280.
        due(true, judge.keepsAll(vowed(1, 35)));
        due(false, judge.keepsAll(vowed(1, 36)));
        due(true, judge.keepsAll(vowed(2, 40)));
        due(false, judge.keepsAll(vowed(2, 41)));
        due(true, judge.keepsAll(vowed(50, 99, 50, 99, 50, 82)));
        due(false, judge.keepsAll(vowed(50, 99, 50, 99, 50, 83)));
        due(true, judge.keepsAll(vowed(1, 20, 1, 15)));
        due(false, judge.keepsAll(vowed(1, 20, 1, 16)));
        // One that cannot be kept is enough, wherever it stands.
        due(false, judge.keepsAll(vowed(1, 36, 50, 1)));
        due(false, judge.keepsAll(vowed(50, 1, 1, 36)));
        due(false, judge.keepsAll(vowed(1, 35, 2, 6)));
        due(true, judge.keepsAll(vowed(2, 5, 1, 35)));
        // What passed and what the forge makes now count.
        BridgeChapel later = vowed(50, 30);
        due(5, later.setForge(0));
        due(true, judge.keepsAll(later));
        later.makeVow(49, 1);
        due(false, judge.keepsAll(later));
        later.setForge(1);
        due(true, judge.keepsAll(later));
        later.passDays(30);
        later.setForge(0);
        due(60, later.steel());
        later.makeVow(80, 29);
        due(true, judge.keepsAll(later));
        later.makeVow(80, 1);
        due(false, judge.keepsAll(later));
    }

    private static void keepsNone(Judge judge) {
        due(true, judge.keepsAll(new BridgeChapel()));
        BridgeChapel poor = vowed(1, 30);
        poor.setForge(0);
        poor.passDays(1);
        due(0, poor.steel());
        due(true, judge.keepsAll(poor));
        // A vow that is broken already does not wait any more.
        poor.makeVow(2, 1);
        due(false, judge.keepsAll(poor));
        poor.passDays(1);
        due(1, poor.brokenTotal());
        due(true, judge.keepsAll(poor));
    }

    private static void greatestVows(Sentences tests) {
        tests.part("Promise 40");
        tests.test("Returns the greatest amount that a further vow for a due day could have so that it and all waiting "
                + "vows would be kept if only days passed; it can be greater than 99.", () -> {
            BridgeChapel chapel = new BridgeChapel();
            due(35, chapel.greatestVow(1));
            due(40, chapel.greatestVow(2));
            due(95, chapel.greatestVow(13));
            due(100, chapel.greatestVow(14));
            due(280, chapel.greatestVow(50));
            chapel.setForge(20);
            due(1030, chapel.greatestVow(50));
            // A vow takes its amount from all days, as far as its own day and the later ones need it.
            chapel.setForge(5);
            chapel.makeVow(3, 20);
            int[] greatest = {25, 25, 25, 30, 35};
            for (int dueDay = 1; dueDay <= 5; dueDay++) {
                due(greatest[dueDay - 1], chapel.greatestVow(dueDay));
            }
            chapel.makeVow(4, 10);
            int[] both = {20, 20, 20, 20, 25};
            for (int dueDay = 1; dueDay <= 5; dueDay++) {
                due(both[dueDay - 1], chapel.greatestVow(dueDay));
            }
            for (int dueDay = 1; dueDay <= 5; dueDay++) {
                chapel.makeVow(dueDay, both[dueDay - 1]);
                due(true, chapel.canKeepAll());
                chapel.undo();
                chapel.makeVow(dueDay, both[dueDay - 1] + 1);
                due(false, chapel.canKeepAll());
                chapel.undo();
            }
            chapel.passDays(3);
            due(25, chapel.steel());
            due(20, chapel.greatestVow(4));
            due(25, chapel.greatestVow(5));
            due(265, chapel.greatestVow(53));
        });
        tests.test("Returns the amount, 0 if there is none.", () -> {
            BridgeChapel chapel = vowed(2, 39);
            due(1, chapel.greatestVow(1));
            due(1, chapel.greatestVow(2));
            due(6, chapel.greatestVow(3));
            chapel.makeVow(2, 1);
            due(0, chapel.greatestVow(1));
            due(0, chapel.greatestVow(2));
            due(5, chapel.greatestVow(3));
            // A ninth vow cannot be made now, but its amount is still told.
            BridgeChapel full = vowed(50, 35, 50, 35, 50, 35, 50, 35, 50, 35, 50, 35, 50, 35, 50, 34);
            due(1, full.greatestVow(1));
            due(1, full.greatestVow(50));
            full.setForge(0);
            refused(ELEMENT, () -> full.greatestVow(50));
            BridgeChapel poor = vowed(1, 30);
            poor.setForge(0);
            due(0, poor.greatestVow(1));
            due(0, poor.greatestVow(50));
            poor.passDays(1);
            due(0, poor.greatestVow(51));
        });
        tests.test("Throws `IllegalArgumentException` if dueDay is not between the day counter plus 1 and the day counter "
                + "plus 50", () -> {
            BridgeChapel chapel = new BridgeChapel();
            for (int today = 0; today <= 60; today += 30) {
                int[] dueDays = {today, today + 51, today - 1, today + 52, 0, -1, LEAST, MOST};
                for (int dueDay : dueDays) {
                    refused(ARGUMENT, () -> chapel.greatestVow(dueDay));
                }
                due(35 + 5 * today, chapel.greatestVow(today + 1));
                due(280 + 5 * today, chapel.greatestVow(today + 50));
                chapel.passDays(30);
            }
        });
        tests.test("Throws `NoSuchElementException` if the waiting vows would not all be kept", () -> {
            BridgeChapel chapel = vowed(3, 45);
            due(0, chapel.greatestVow(3));
            chapel.makeVow(4, 6);
            refused(ELEMENT, () -> chapel.greatestVow(1));
            refused(ELEMENT, () -> chapel.greatestVow(4));
            refused(ELEMENT, () -> chapel.greatestVow(50));
            chapel.setForge(6);
            due(3, chapel.greatestVow(4));
            chapel.setForge(5);
            refused(ELEMENT, () -> chapel.greatestVow(5));
            // Days may pass until the vow that is too great is broken.
            chapel.passDays(4);
            due(10, chapel.greatestVow(5));
            BridgeChapel last = vowed(50, 99, 50, 99, 50, 83);
            refused(ELEMENT, () -> last.greatestVow(1));
        });
    }

    private static void totals(Sentences tests) {
        tests.part("Promise 41");
        tests.test("Returns how many vows were kept so far.", () -> {
            BridgeChapel chapel = vowed(1, 35, 2, 6, 3, 10, 4, 1);
            due(0, chapel.keptTotal());
            int[] kept = {1, 1, 2, 3};
            for (int day = 1; day <= 4; day++) {
                chapel.passDays(1);
                due(kept[day - 1], chapel.keptTotal());
            }
            chapel.passDays(30);
            due(3, chapel.keptTotal());
        });
        tests.test("Returns the number of vows.", () -> {
            BridgeChapel chapel = new BridgeChapel();
            for (int round = 1; round <= 4; round++) {
                for (int vow = 0; vow < 8; vow++) {
                    chapel.makeVow(chapel.day() + 1, 1);
                }
                chapel.passDays(2);
                due(8 * round, chapel.keptTotal());
            }
            chapel.undo();
            due(24, chapel.keptTotal());
        });
        tests.part("Promise 42");
        tests.test("Returns how many vows were broken so far.", () -> {
            BridgeChapel chapel = vowed(1, 35, 2, 6, 3, 10, 4, 99);
            due(0, chapel.brokenTotal());
            int[] broken = {0, 1, 1, 2};
            for (int day = 1; day <= 4; day++) {
                chapel.passDays(1);
                due(broken[day - 1], chapel.brokenTotal());
            }
            chapel.passDays(30);
            due(2, chapel.brokenTotal());
        });
        tests.test("Returns the number of vows.", () -> {
            BridgeChapel chapel = new BridgeChapel();
            chapel.setForge(0);
            for (int round = 1; round <= 4; round++) {
                for (int vow = 0; vow < 8; vow++) {
                    chapel.makeVow(chapel.day() + 1, 31);
                }
                chapel.passDays(2);
                due(8 * round, chapel.brokenTotal());
            }
            chapel.undo();
            due(24, chapel.brokenTotal());
            due(30, chapel.steel());
        });
    }

    private static void steel(Sentences tests) {
        tests.part("Promise 43");
        tests.test("Returns the steel of the chapel.", () -> {
            BridgeChapel chapel = TermSentences.cracked(20, 2);
            due(30, chapel.steel());
            chapel.passDays(2);
            due(40, chapel.steel());
            chapel.repair(0);
            due(36, chapel.steel());
            chapel.makeVow(3, 41);
            due(36, chapel.steel());
            chapel.passDays(1);
            due(0, chapel.steel());
            chapel.makeVow(4, 6);
            chapel.passDays(1);
            due(5, chapel.steel());
            chapel.undo();
            due(0, chapel.steel());
        });
        tests.test("Returns the number of units.", () -> {
            BridgeChapel chapel = new BridgeChapel();
            chapel.setForge(20);
            for (int month = 0; month < 20; month++) {
                due(30 + 600 * month, chapel.steel());
                chapel.passDays(30);
            }
            due(12030, chapel.steel());
        });
        tests.part("Promise 44");
        tests.test("Returns the same number as steel, computed from the accounts: the first steel plus what was forged "
                + "minus what was given for vows and for repairs.", () -> {
            BridgeChapel chapel = TermSentences.cracked(20, 2);
            due(30, chapel.steelByAccounts());
            chapel.passDays(2);
            due(40, chapel.steelByAccounts());
            chapel.repair(0);
            due(36, chapel.steelByAccounts());
            chapel.repair(0);
            due(36, chapel.steelByAccounts());
            chapel.makeVow(3, 41);
            due(36, chapel.steelByAccounts());
            chapel.passDays(1);
            due(0, chapel.steelByAccounts());
            // For a broken vow nothing is given.
            chapel.makeVow(4, 6);
            chapel.passDays(1);
            due(5, chapel.steelByAccounts());
            int[] before = {0, 0, 36, 36, 36, 40, 30};
            for (int units : before) {
                chapel.undo();
                due(units, chapel.steelByAccounts());
            }
        });
        tests.test("Returns the number of units.", () -> {
            BridgeChapel chapel = new BridgeChapel();
            int units = 30;
            for (int forge = 0; forge <= 20; forge++) {
                chapel.setForge(forge);
                chapel.makeVow(chapel.day() + 1 + forge, 99);
                chapel.passDays(1 + forge);
                units += forge * (1 + forge);
                units -= units >= 99 ? 99 : 0;
                due(units, chapel.steelByAccounts());
            }
        });
        tests.part("Promise 45");
        tests.test("Returns the present day.", () -> {
            BridgeChapel chapel = new BridgeChapel();
            due(0, chapel.day());
            chapel.passDays(1);
            due(1, chapel.day());
            refused(ARGUMENT, () -> chapel.passDays(31));
            refused(ARGUMENT, () -> chapel.passDays(0));
            due(1, chapel.day());
            chapel.undo();
            due(0, chapel.day());
        });
        tests.test("Returns the day counter.", () -> {
            BridgeChapel chapel = new BridgeChapel();
            for (int month = 0; month < 100; month++) {
                due(30 * month, chapel.day());
                chapel.passDays(30);
            }
            chapel.makeVow(3050, 1);
            due(3050, chapel.dueDay(0));
        });
    }

    private static void consistency(Sentences tests) {
        tests.part("Promise 48");
        tests.test("Checks the state: for all pairs of different joints, both ways to the widest load and both ways to the "
                + "affordable load agree or find nothing; for all members, both ways to find critical members agree; both "
                + "ways to see whether all vows can be kept agree; and both ways to the steel agree.",
                SteelSentences::seesWhatDisagrees);
        tests.test("Returns true if all of this holds.", () -> {
            BridgeChapel[] chapels = {new BridgeChapel(), TermSentences.single(1), TermSentences.cracked(1, 1),
                TermSentences.line(99, 99, 99, 1, 99, 99, 99), TermSentences.full(), ring(), vowed(1, 35),
                vowed(1, 36), vowed(50, 99, 50, 99, 50, 83)};
            for (BridgeChapel chapel : chapels) {
                String before = HistorySentences.look(chapel);
                due(true, chapel.isConsistent());
                due(before, HistorySentences.look(chapel));
            }
            BridgeChapel full = TermSentences.full();
            for (int walk = 0; walk < 100; walk++) {
                int joint = walk % 4;
                int load = walk % 9 + 1;
                outcome(() -> full.procession(joint, 7 - load % 4, load));
                outcome(() -> full.abandon(load + joint));
                outcome(() -> full.resume(load));
                due(true, full.isConsistent());
            }
        });
    }

    /** No calls lead to states in which two ways disagree, so these are made from inside. */
    private static void seesWhatDisagrees() {
        // A strength above 99 is found by growing but not by trying loads.
        BridgeChapel widest = TermSentences.line(9, 9);
        due(true, widest.isConsistent());
        Inside.setInRow(widest, "members.strength", 1, 150);
        due(150, widest.widestLoad(1, 2));
        due(9, widest.widestLoadByTrial(1, 2));
        due(false, widest.isConsistent());
        // A repair that is dearer than what stands for no way at all, with steel between the two.
        BridgeChapel affordable = new BridgeChapel();
        affordable.addMember(0, 1, 9);
        affordable.addMember(2, 3, 50);
        Inside.setInRow(affordable, "members.strength", 0, 2000000);
        Inside.setInRow(affordable, "members.crack", 0, 10);
        Inside.setTreasury(affordable, "steel", 1500000);
        Inside.setTreasury(affordable, "forged", 1500000 - 30);
        due(affordable.steel(), affordable.steelByAccounts());
        due(50, affordable.affordableLoad(0, 1));
        refused(ELEMENT, () -> affordable.affordableLoadByTable(0, 1));
        due(false, affordable.isConsistent());
        // Two members between the same joints are one for the search but two for the removal.
        BridgeChapel critical = TermSentences.line(9, 9);
        Inside.setInRow(critical, "members.first", 1, 0);
        Inside.setInRow(critical, "members.second", 1, 1);
        due(true, critical.isCritical(1));
        due(false, critical.isCriticalByRemoval(1));
        due(false, critical.isConsistent());
        // A vow whose due day has passed is in the sums but comes on no day.
        BridgeChapel late = vowed(1, 99);
        due(true, late.isConsistent());
        Inside.setInRow(late, "treasury.dueDays", 0, 0);
        due(true, late.canKeepAll());
        due(false, late.canKeepAllBySums());
        due(false, late.isConsistent());
        BridgeChapel steel = new BridgeChapel();
        Inside.setTreasury(steel, "steel", 31);
        due(30, steel.steelByAccounts());
        due(false, steel.isConsistent());
        Inside.setTreasury(steel, "forged", 1);
        due(true, steel.isConsistent());
    }
}
