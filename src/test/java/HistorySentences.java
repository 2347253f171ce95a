/** The sentences of the part "Changes". No object here gets more than 512 calls. */
final class HistorySentences extends Checks {
    private interface Change {
        Object make(BridgeChapel chapel);
    }

    private static final Change[] CHANGES = {
        chapel -> chapel.addMember(5, 6, 7),
        chapel -> chapel.procession(0, 2, 25),
        chapel -> chapel.makeVow(chapel.day() + 2, 3),
        chapel -> chapel.setForge(9),
        chapel -> chapel.repair(0),
        chapel -> chapel.abandon(0),
        chapel -> chapel.resume(2),
        chapel -> chapel.setNiche('l'),
        chapel -> chapel.put(1, 'c', 4),
        chapel -> chapel.passDays(3),
        chapel -> run(chapel, "day;vow 9 9;forge 3;put 2 c1"),
    };

    private HistorySentences() {
    }

    /** All that a caller can see without making a change and without the output text. */
    static String look(BridgeChapel chapel) {
        StringBuilder text = new StringBuilder();
        for (int member = 0; member < chapel.memberCount(); member++) {
            text.append(chapel.firstJoint(member)).append('-').append(chapel.secondJoint(member))
                    .append('c').append(chapel.crack(member)).append('w').append(chapel.wear(member))
                    .append('b').append(chapel.bearing(member)).append(chapel.isAbandoned(member) ? "x " : " ");
        }
        for (int position = 0; position < chapel.vowCount(); position++) {
            int vow = chapel.vowAt(position);
            text.append('v').append(vow).append('d').append(chapel.dueDay(vow)).append('a')
                    .append(chapel.amount(vow)).append(' ');
        }
        return text.append(chapel.nicheKind()).append(chapel.nicheWeight()).append(" day ").append(chapel.day())
                .append(" steel ").append(chapel.steel()).append('=').append(chapel.steelByAccounts())
                .append(" kept ").append(chapel.keptTotal()).append(" broken ").append(chapel.brokenTotal())
                .toString();
    }

    /** Three members, the first one cracked and the last one abandoned, two vows and a thing; nothing to undo. */
    private static BridgeChapel busy() {
        BridgeChapel chapel = TermSentences.line(50, 50, 50);
        crackTo(chapel, 0, 1);
        chapel.abandon(2);
        chapel.makeVow(1, 40);
        chapel.makeVow(1, 2);
        chapel.makeVow(3, 6);
        chapel.makeVow(4, 20);
        chapel.passDays(1);
        chapel.put(0, 'c', 3);
        chapel.save();
        chapel.restore();
        return chapel;
    }

    static void fill(Sentences tests) {
        tests.test("A change is a call of addMember, procession, makeVow, setForge, repair, abandon, resume, setNiche, "
                + "put, passDays or runScript that returns normally, even if the state is the same afterwards.",
                HistorySentences::changesAreCounted);
        tests.test("The latest 8 changes can be undone, the latest one first.", HistorySentences::latestEight);
        tests.test("Undo and the snapshot cover everything, including the next id of a vow, except the script buffer, the "
                + "error position, the index of the failed command, the output text and the snapshot itself.", () -> {
            for (Change change : CHANGES) {
                undoCovers(change);
                snapshotCovers(change);
            }
            placesTakenAgain();
            whatIsNotCovered();
        });
        tests.test("A method that throws an exception changes nothing unless its description says otherwise.",
                HistorySentences::refusedCallsChangeNothing);
        tests.test("If several exceptions apply, the one that is listed first is thrown.", () -> {
            severalFaultsOfChanges();
            severalFaultsOfQuestions();
        });
    }

    private static void changesAreCounted() {
        for (Change change : CHANGES) {
            BridgeChapel chapel = busy();
            refused(STATE, chapel::undo);
            change.make(chapel);
            due(0, chapel.undo());
            refused(STATE, chapel::undo);
        }
        Change[] idle = {chapel -> chapel.setForge(5), chapel -> chapel.repair(1), chapel -> run(chapel, "forge 5"),
            chapel -> run(chapel, "abandon 0;resume 0"), chapel -> chapel.setNiche('l'), chapel -> chapel.setNiche('l')};
        for (Change change : idle) {
            BridgeChapel chapel = busy();
            chapel.setNiche('l');
            String before = look(chapel);
            change.make(chapel);
            due(before, look(chapel));
            due(1, chapel.undo());
            due(before, look(chapel));
            due(0, chapel.undo());
        }
        BridgeChapel asked = busy();
        asked.setForge(6);
        look(asked);
        asked.isConsistent();
        asked.renderMember(0);
        asked.type('x');
        refused(ARGUMENT, asked::runScript);
        failedOf(asked, "day;day 0");
        refused(ARGUMENT, () -> asked.passDays(31));
        asked.save();
        due(0, asked.undo());
        refused(STATE, asked::undo);
    }

    private static void latestEight() {
        for (int changes = 1; changes <= 20; changes++) {
            BridgeChapel chapel = new BridgeChapel();
            for (int change = 1; change <= changes; change++) {
                chapel.passDays(1);
            }
            int undone = Math.min(changes, 8);
            for (int step = 1; step <= undone; step++) {
                due(undone - step, chapel.undo());
                due(changes - step, chapel.day());
            }
            refused(STATE, chapel::undo);
            due(changes - undone, chapel.day());
        }
        // What was undone gives its place to later changes.
        BridgeChapel chapel = new BridgeChapel();
        for (int change = 0; change < 8; change++) {
            chapel.passDays(1);
        }
        for (int step = 0; step < 3; step++) {
            chapel.undo();
        }
        for (int change = 0; change < 5; change++) {
            chapel.passDays(10);
        }
        for (int step = 1; step <= 8; step++) {
            due(8 - step, chapel.undo());
            due(step <= 5 ? 55 - 10 * step : 10 - step, chapel.day());
        }
        refused(STATE, chapel::undo);
        due(2, chapel.day());
    }

    /** Looks at what is seen only when something is changed: the forge, the places, the next id, the strengths. */
    private static void dueAsBusy(BridgeChapel chapel) {
        due(look(busy()), look(chapel));
        due("0:0-1s50c1w0", TermSentences.memberOf(chapel, 0).replaceAll("w\\d+", "w0"));
        due("2:2-3s50c0w0x", TermSentences.memberOf(chapel, 2));
        due(5, chapel.setForge(5));
        due(4, chapel.makeVow(chapel.day() + 1, 1));
        refused(STATE, () -> chapel.put(0, 'c', 1));
        due(4, chapel.put(1, 'c', 1));
        due(5, chapel.put(2, 'c', 1));
        due(6, chapel.put(3, 'c', 1));
        due(3, chapel.addMember(5, 6, 8));
        due("3:5-6s8c0w0", TermSentences.memberOf(chapel, 3));
    }

    private static void undoCovers(Change change) {
        BridgeChapel chapel = busy();
        change.make(chapel);
        chapel.undo();
        dueAsBusy(chapel);
    }

    private static void snapshotCovers(Change change) {
        BridgeChapel chapel = busy();
        change.make(chapel);
        chapel.restore();
        dueAsBusy(chapel);
        // A snapshot of what the change made is not the state before it.
        BridgeChapel later = busy();
        change.make(later);
        String made = look(later);
        later.save();
        later.undo();
        later.passDays(30);
        later.restore();
        due(made, look(later));
    }

    /** What was added later in the place of something that was undone does not stay when the latter comes back. */
    private static void placesTakenAgain() {
        BridgeChapel chapel = new BridgeChapel();
        chapel.addMember(0, 1, 10);
        chapel.makeVow(3, 4);
        chapel.save();
        String saved = look(chapel);
        due((1L << 1) + (1L << 8), chapel.links());
        due(10, chapel.affordableLoadByTable(0, 1));
        chapel.undo();
        chapel.undo();
        due(0L, chapel.links());
        due(0, chapel.vowCount());
        refused(ELEMENT, () -> chapel.widestLoad(0, 1));
        refused(ELEMENT, () -> chapel.affordableLoadByTable(0, 1));
        chapel.addMember(2, 3, 20);
        chapel.abandon(0);
        chapel.makeVow(5, 6);
        chapel.restore();
        due(saved, look(chapel));
        due("0:0-1s10c0w0", TermSentences.memberOf(chapel, 0));
        due((1L << 1) + (1L << 8), chapel.links());
        refused(ELEMENT, () -> chapel.widestLoad(2, 3));
        // The same with the members that undo brings back, and with one that is added after a worn one.
        chapel.addMember(2, 3, 30);
        crackTo(chapel, 1, 1);
        chapel.abandon(1);
        chapel.restore();
        due(1, chapel.addMember(4, 5, 40));
        due("1:4-5s40c0w0", TermSentences.memberOf(chapel, 1));
        due(0, chapel.undo());
        due(saved, look(chapel));
    }

    private static void whatIsNotCovered() {
        BridgeChapel chapel = busy();
        chapel.setForge(9);
        due(2, errorOf(chapel, "da"));
        due(1, failedOf(chapel, "day;day 0"));
        chapel.renderMember(1);
        typeAll(chapel, "forge ");
        chapel.addMember(6, 7, 5);
        chapel.save();
        chapel.undo();
        chapel.undo();
        due(2, chapel.errorPosition());
        due(1, chapel.failedCommand());
        due("1:1-2s50c0w0", outputOf(chapel, 12));
        due(7, chapel.type('3'));
        due(4, chapel.restore());
        due(2, chapel.errorPosition());
        due(1, chapel.failedCommand());
        due("1:1-2s50c0w0", outputOf(chapel, 12));
        due(8, chapel.type(';'));
        due(9, chapel.type('x'));
        due(8, outcome(() -> {
            refused(ARGUMENT, chapel::runScript);
            return chapel.errorPosition();
        }));
        // The snapshot stays when it is restored and when changes are undone.
        chapel.passDays(1);
        chapel.undo();
        due(4, chapel.restore());
        due(9, chapel.setForge(1));
    }

    private static final Change[] REFUSED = {
        chapel -> chapel.addMember(8, 0, 5), chapel -> chapel.addMember(4, 4, 5), chapel -> chapel.addMember(4, 5, 100),
        chapel -> chapel.addMember(0, 1, 5), chapel -> chapel.procession(0, 8, 5),
        chapel -> chapel.procession(0, 1, 100), chapel -> chapel.procession(0, 7, 5),
        chapel -> chapel.procession(0, 2, 43), chapel -> chapel.makeVow(1, 5), chapel -> chapel.makeVow(9, 100),
        chapel -> chapel.setForge(21), chapel -> chapel.repair(3), chapel -> chapel.repair(2),
        chapel -> chapel.abandon(3), chapel -> chapel.abandon(2), chapel -> chapel.resume(-1),
        chapel -> chapel.resume(1), chapel -> chapel.setNiche('x'), chapel -> chapel.put(4, 'c', 5),
        chapel -> chapel.put(1, 'c', 21), chapel -> chapel.put(1, 'l', 5), chapel -> chapel.put(0, 'c', 5),
        chapel -> chapel.passDays(0), chapel -> chapel.passDays(31), chapel -> chapel.firstJoint(3),
        chapel -> chapel.secondJoint(3), chapel -> chapel.crack(3), chapel -> chapel.wear(3),
        chapel -> chapel.isAbandoned(3), chapel -> chapel.bearing(3), chapel -> chapel.repairCost(3),
        chapel -> chapel.strain(2, 5), chapel -> chapel.strainBits(2, 5), chapel -> chapel.widestLoad(0, 3),
        chapel -> chapel.widestLoadByTrial(0, 3), chapel -> chapel.wayLength(0, 3),
        chapel -> chapel.wayJoint(0, 2, 3), chapel -> chapel.isCritical(3), chapel -> chapel.isCriticalByRemoval(3),
        chapel -> chapel.affordableLoad(0, 3), chapel -> chapel.affordableLoadByTable(0, 3),
        chapel -> chapel.memberByBearing(3), chapel -> chapel.vowAt(2), chapel -> chapel.dueDay(0),
        chapel -> chapel.amount(0), chapel -> chapel.greatestVow(99), chapel -> chapel.renderMember(3),
        chapel -> chapel.renderWay(0, 3), chapel -> chapel.outputAt(12), chapel -> chapel.type((char) 127),
        BridgeChapel::errorPosition, BridgeChapel::failedCommand,
    };

    private static void refusedCallsChangeNothing() {
        for (Change change : REFUSED) {
            BridgeChapel chapel = busy();
            chapel.renderMember(1);
            chapel.setForge(6);
            typeAll(chapel, "da");
            String before = look(chapel);
            due(true, outcome(() -> change.make(chapel)) instanceof Class<?>);
            due("1:1-2s50c0w0", outputOf(chapel, 12));
            due(before, look(chapel));
            due(3, chapel.type('y'));
            due(1, chapel.runScript());
            due(1, chapel.undo());
            due(0, chapel.undo());
            refused(STATE, chapel::undo);
            dueAsBusy(chapel);
        }
        whatCouldNotBeDone();
    }

    /** No part of a repair that is too dear, of a ninth vow, of a full buffer or of a first snapshot is left. */
    private static void whatCouldNotBeDone() {
        BridgeChapel poor = TermSentences.cracked(99, 4);
        refused(UNSUPPORTED, () -> poor.repair(0));
        due(4, poor.crack(0));
        due(30, poor.steel());
        BridgeChapel rich = new BridgeChapel();
        for (int vow = 0; vow < 8; vow++) {
            rich.makeVow(1 + vow, 1);
        }
        refused(STATE, () -> rich.makeVow(1, 1));
        rich.passDays(1);
        due(8, rich.makeVow(9, 1));
        refused(STATE, rich::restore);
        due(8, rich.vowCount());
        typeAll(rich, "day;".repeat(14) + "day ");
        refused(STATE, () -> rich.type('2'));
        refused(ARGUMENT, rich::runScript);
        due(60, rich.errorPosition());
    }

    private static void severalFaultsOfChanges() {
        BridgeChapel full = TermSentences.full();
        refused(INDEX, () -> full.addMember(8, 8, 0));
        refused(INDEX, () -> full.addMember(0, -1, 0));
        refused(INDEX, () -> full.addMember(8, 0, 5));
        refused(ARGUMENT, () -> full.addMember(0, 0, 5));
        refused(ARGUMENT, () -> full.addMember(0, 1, 100));
        refused(ARGUMENT, () -> full.addMember(0, 4, 0));
        refused(INDEX, () -> full.procession(8, 8, 0));
        refused(INDEX, () -> full.procession(0, 8, 100));
        BridgeChapel chapel = TermSentences.cracked(99, 4);
        refused(ARGUMENT, () -> chapel.addMember(1, 0, 0));
        refused(ARGUMENT, () -> chapel.procession(2, 2, 5));
        refused(ARGUMENT, () -> chapel.procession(0, 7, 0));
        refused(ARGUMENT, () -> chapel.procession(0, 7, 100));
        refused(ARGUMENT, () -> chapel.procession(0, 1, 100));
        refused(ELEMENT, () -> chapel.procession(0, 7, 99));
        chapel.abandon(0);
        refused(ELEMENT, () -> chapel.procession(0, 1, 99));
        refused(STATE, () -> chapel.repair(0));
        chapel.put(0, 'c', 5);
        refused(INDEX, () -> chapel.put(4, 'x', 0));
        refused(INDEX, () -> chapel.put(-1, 'l', 5));
        refused(ARGUMENT, () -> chapel.put(1, 'l', 0));
        refused(ARGUMENT, () -> chapel.put(0, 'l', 21));
        refused(ARGUMENT, () -> chapel.put(0, 'x', 5));
        refused(UNSUPPORTED, () -> chapel.put(0, 'l', 5));
        for (int vow = 0; vow < 8; vow++) {
            chapel.makeVow(5, 9);
        }
        refused(ARGUMENT, () -> chapel.makeVow(0, 5));
        refused(ARGUMENT, () -> chapel.makeVow(51, 5));
        refused(ARGUMENT, () -> chapel.makeVow(5, 0));
    }

    private static void severalFaultsOfQuestions() {
        BridgeChapel chapel = new BridgeChapel();
        PairCall[] pairs = {chapel::widestLoad, chapel::widestLoadByTrial, chapel::wayLength, chapel::affordableLoad,
            chapel::affordableLoadByTable, chapel::renderWay, (from, to) -> chapel.wayJoint(from, to, -1)};
        for (PairCall pair : pairs) {
            refused(INDEX, () -> pair.answer(8, 8));
            refused(INDEX, () -> pair.answer(-1, -1));
            refused(INDEX, () -> pair.answer(0, 8));
            refused(ARGUMENT, () -> pair.answer(3, 3));
        }
        refused(INDEX, () -> chapel.strain(0, 0));
        refused(INDEX, () -> chapel.strainBits(0, 0));
        chapel.makeVow(1, 99);
        refused(ARGUMENT, () -> chapel.greatestVow(0));
        refused(ARGUMENT, () -> chapel.greatestVow(51));
        // A script without the form has no failed command, though its first one would fail.
        due(6, errorOf(chapel, "day 0;"));
        refused(ELEMENT, chapel::failedCommand);
        typeAll(chapel, " ".repeat(60));
        refused(ARGUMENT, () -> chapel.type((char) 31));
        refused(ARGUMENT, () -> chapel.type((char) 127));
    }
}
