/** The sentences of the promises 49 to 58. No object here gets more than 512 calls. */
final class TextSentences extends PromiseSentences {
    private TextSentences() {
    }

    static void fill(Sentences tests) {
        renderedMembers(tests);
        renderedWays(tests);
        output(tests);
        typing(tests);
        running(tests);
        failing(tests);
        positions(tests);
        commands(tests);
        undoing(tests);
        saving(tests);
        restoring(tests);
    }

    private static void renderedMembers(Sentences tests) {
        tests.part("Promise 49");
        tests.test("Replaces the output text by a description of a member: its index, \":\", its first joint, \"-\", its "
                + "second joint, \"s\" and its strength, \"c\" and its crack, \"w\" and its wear, and \"x\" if it is "
                + "abandoned; as in \"3:0-5s40c2w15x\".", () -> {
            BridgeChapel chapel = TermSentences.line(9, 9, 9);
            chapel.addMember(5, 0, 40);
            int[] loads = {40, 40, 40, 36, 36, 23};
            for (int load : loads) {
                chapel.procession(0, 5, load);
            }
            due("3:0-5s40c2w15", TermSentences.memberOf(chapel, 3));
            chapel.abandon(3);
            due("3:0-5s40c2w15x", TermSentences.memberOf(chapel, 3));
            // A shorter text leaves nothing of the longer one before it.
            due("0:0-1s9c0w0", TermSentences.memberOf(chapel, 0));
            due("3:0-5s40c2w15x", TermSentences.memberOf(chapel, 3));
            // The longest text of all: two digits wherever there can be two.
            BridgeChapel full = TermSentences.full();
            full.undo();
            full.addMember(3, 7, 99);
            crackTo(full, 15, 9);
            for (int other = 12; other < 15; other++) {
                full.abandon(other);
            }
            for (int wear = full.wear(15); wear < 99; wear++) {
                full.procession(3, 7, 1);
            }
            full.abandon(15);
            due("15:3-7s99c9w99x", TermSentences.memberOf(full, 15));
            due("9:2-5s29c0w0", TermSentences.memberOf(full, 9));
            due("10:2-6s30c0w0", TermSentences.memberOf(full, 10));
        });
        tests.test("Returns the length of the output text.", () -> {
            BridgeChapel chapel = TermSentences.line(9, 10);
            due(11, chapel.renderMember(0));
            due(12, chapel.renderMember(1));
            chapel.procession(1, 2, 9);
            due(12, chapel.renderMember(1));
            chapel.procession(1, 2, 1);
            due(13, chapel.renderMember(1));
            chapel.abandon(1);
            due(14, chapel.renderMember(1));
            due(14, TermSentences.memberOf(chapel, 1).length());
            due(11, chapel.renderMember(0));
        });
        tests.test("Throws `IndexOutOfBoundsException` if there is no such member", () -> {
            noSuchMember(BridgeChapel::renderMember);
            BridgeChapel chapel = TermSentences.single(9);
            chapel.renderMember(0);
            refused(INDEX, () -> chapel.renderMember(1));
            refused(INDEX, () -> chapel.renderMember(-1));
            due("0:0-1s9c0w0", outputOf(chapel, 11));
        });
    }

    private static void renderedWays(Sentences tests) {
        tests.part("Promise 50");
        tests.test("Replaces the output text by the best way between two joints: its joints, separated by \">\"; as in "
                + "\"0>3>5\".", () -> {
            BridgeChapel chapel = new BridgeChapel();
            TermSentences.lay(chapel, "035", 9);
            due("0>3>5", TermSentences.wayOf(chapel, 0, 5));
            due("5>3>0", TermSentences.wayOf(chapel, 5, 0));
            due("3>5", TermSentences.wayOf(chapel, 3, 5));
            due("0:0-3s9c0w0", TermSentences.memberOf(chapel, 0));
            due("3>0", TermSentences.wayOf(chapel, 3, 0));
            BridgeChapel line = TermSentences.line(9, 9, 9, 9, 9, 9, 9);
            due("0>1>2>3>4>5>6>7", TermSentences.wayOf(line, 0, 7));
            due("7>6>5>4>3>2>1>0", TermSentences.wayOf(line, 7, 0));
        });
        tests.test("Returns the length of the output text.", () -> {
            BridgeChapel line = TermSentences.line(9, 9, 9, 9, 9, 9, 9);
            for (int joint = 1; joint < 8; joint++) {
                due(2 * joint + 1, line.renderWay(0, joint));
                due(2 * joint + 1, line.renderWay(joint, 0));
            }
        });
        tests.test("Throws `IndexOutOfBoundsException` if there is no such joint, for either argument", () -> {
            noSuchJoint(BridgeChapel::renderWay);
            renderedStays(INDEX, 0, 8);
            renderedStays(INDEX, -1, 0);
        });
        tests.test("Throws `IllegalArgumentException` if both joints are the same", () -> {
            sameJoints(BridgeChapel::renderWay);
            renderedStays(ARGUMENT, 1, 1);
        });
        tests.test("Throws `NoSuchElementException` if there is no way between them; the output text is as it was", () -> {
            noWay(BridgeChapel::renderWay);
            renderedStays(ELEMENT, 0, 7);
            BridgeChapel chapel = TermSentences.single(9);
            refused(ELEMENT, () -> chapel.renderWay(1, 2));
            refused(INDEX, () -> chapel.outputAt(0));
        });
    }

    private static void renderedStays(Class<?> exception, int from, int to) {
        BridgeChapel chapel = TermSentences.line(9, 9, 9);
        chapel.renderMember(2);
        refused(exception, () -> chapel.renderWay(from, to));
        due("2:2-3s9c0w0", outputOf(chapel, 11));
        chapel.renderWay(0, 2);
        refused(exception, () -> chapel.renderWay(from, to));
        due("0>1>2", outputOf(chapel, 5));
    }

    private static void output(Sentences tests) {
        tests.part("Promise 51");
        tests.test("Returns a character of the output text, which is empty initially.", () -> {
            BridgeChapel chapel = TermSentences.line(9, 9);
            refused(INDEX, () -> chapel.outputAt(0));
            typeAll(chapel, "da");
            refused(INDEX, () -> chapel.outputAt(0));
            chapel.renderWay(2, 0);
            due("2>1>0", outputOf(chapel, 5));
            refused(INDEX, () -> new BridgeChapel().outputAt(0));
        });
        tests.test("Returns the character.", () -> {
            BridgeChapel chapel = TermSentences.line(99, 9);
            crackTo(chapel, 0, 1);
            chapel.renderMember(0);
            String text = "0:0-1s99c1w98";
            for (int index = 0; index < 13; index++) {
                due(text.charAt(index), chapel.outputAt(index));
                // Asking takes nothing away.
                due(text.charAt(index), chapel.outputAt(index));
            }
            // What is changed afterwards is not rendered by itself.
            chapel.abandon(0);
            chapel.undo();
            chapel.repair(0);
            due(text, outputOf(chapel, 13));
        });
        tests.test("Throws `IndexOutOfBoundsException` if there is no such index", () -> {
            int[] indices = {-1, 15, 16, 60, LEAST, MOST};
            BridgeChapel line = TermSentences.line(9, 9, 9, 9, 9, 9, 9);
            for (int index : indices) {
                refused(INDEX, () -> line.outputAt(index));
            }
            line.renderWay(0, 7);
            for (int index : indices) {
                refused(INDEX, () -> line.outputAt(index));
            }
            due('7', line.outputAt(14));
            line.renderWay(0, 1);
            due('1', line.outputAt(2));
            for (int index = 3; index < 16; index++) {
                int past = index;
                refused(INDEX, () -> line.outputAt(past));
            }
        });
    }

    private static void typing(Sentences tests) {
        tests.part("Promise 52");
        tests.test("Appends a character to the script buffer.", () -> {
            BridgeChapel chapel = new BridgeChapel();
            typeAll(chapel, "forge ");
            chapel.passDays(1);
            typeAll(chapel, "12");
            due(1, chapel.runScript());
            due(12, chapel.setForge(5));
        });
        tests.test("Returns the length of the script buffer.", () -> {
            BridgeChapel chapel = new BridgeChapel();
            for (int length = 1; length <= 60; length++) {
                due(length, chapel.type('x'));
            }
            refused(ARGUMENT, chapel::runScript);
            due(1, chapel.type('x'));
        });
        tests.test("Throws `IllegalArgumentException` if the character code is not between 32 and 126", () -> {
            BridgeChapel chapel = new BridgeChapel();
            int length = 0;
            for (int code = 0; code < 256; code++) {
                char character = (char) code;
                if (code >= 32 && code <= 126) {
                    length = length % 60 + 1;
                    due(length, chapel.type(character));
                    if (length == 60) {
                        refused(ARGUMENT, chapel::runScript);
                    }
                } else {
                    refused(ARGUMENT, () -> chapel.type(character));
                }
            }
            char[] far = {256, 256 + 'd', 0x7fff, 0x8000, 0x8000 + 'd', Character.MAX_VALUE};
            for (char character : far) {
                refused(ARGUMENT, () -> chapel.type(character));
            }
            // What was refused is not in the buffer.
            due(length + 1, chapel.type('x'));
        });
        tests.test("Throws `IllegalStateException` if the script buffer has 60 characters", () -> {
            BridgeChapel chapel = new BridgeChapel();
            String script = "forge 1;" + "day;".repeat(12) + "day ";
            typeAll(chapel, script.substring(0, 59));
            due(60, chapel.type('1'));
            refused(STATE, () -> chapel.type('1'));
            refused(STATE, () -> chapel.type(';'));
            // The refused characters change neither the error position nor what is in the buffer.
            refused(ARGUMENT, chapel::runScript);
            due(59, chapel.errorPosition());
            due(1, chapel.type('d'));
            typeAll(chapel, "ay");
            due(1, chapel.runScript());
        });
    }

    private static void running(Sentences tests) {
        tests.part("Promise 53");
        tests.test("Runs the script in the script buffer.", () -> {
            BridgeChapel chapel = new BridgeChapel();
            run(chapel, "member 01 40;member 12 30;put 0 c5;walk 02 25;day 3;repair 1");
            due("0:0-1s40c0w30", TermSentences.memberOf(chapel, 0));
            due("1:1-2s30c0w0", TermSentences.memberOf(chapel, 1));
            due(5, chapel.nicheWeight());
            due(3, chapel.day());
            run(chapel, "vow 4 50;vow 4 49");
            run(chapel, "day");
            due(1, chapel.keptTotal());
            due(1, chapel.brokenTotal());
            due(0, chapel.steel());
        });
        tests.test("The buffer is empty afterwards, also if an exception is thrown.", () -> {
            BridgeChapel chapel = new BridgeChapel();
            String[] scripts = {"day", "", "x", "day 0", "day;", "day;day 31", "day;".repeat(15), "#".repeat(60)};
            for (String script : scripts) {
                outcome(() -> run(chapel, script));
                due(0, errorOf(chapel, ""));
                due(1, chapel.type('d'));
                typeAll(chapel, "ay");
                due(1, chapel.runScript());
            }
        });
        tests.test("Returns the number of commands.", () -> {
            BridgeChapel chapel = new BridgeChapel();
            StringBuilder script = new StringBuilder("day");
            for (int commands = 1; commands <= 15; commands++) {
                due(commands, run(chapel, script.toString()));
                script.append(";day");
            }
            due(120, chapel.day());
        });
        tests.test("Throws `IllegalArgumentException` if the script does not have the required form; errorPosition then "
                + "returns its error position", () -> {
            BridgeChapel chapel = new BridgeChapel();
            String[] scripts = {"", "day;", "day;x", "dax", "day 0;", "forge 1;forge 2222", "member 99 999;walk"};
            int[] positions = {0, 4, 4, 2, 6, 17, 18};
            for (int index = 0; index < scripts.length; index++) {
                due(positions[index], errorOf(chapel, scripts[index]));
            }
            due(0, chapel.day());
            due(5, chapel.setForge(5));
            due(0, chapel.undo());
        });
    }

    /** One member from 0 to 1, an abandoned one from 1 to 2, a candle in the place 0, on day 2; nothing to undo. */
    private static BridgeChapel failable() {
        BridgeChapel chapel = TermSentences.line(50, 9);
        chapel.abandon(1);
        chapel.put(0, 'c', 5);
        chapel.passDays(2);
        chapel.save();
        chapel.restore();
        return chapel;
    }

    /** 16 members, of which the last one costs more than the steel, and 8 vows. */
    private static BridgeChapel crowded() {
        BridgeChapel chapel = TermSentences.full();
        crackTo(chapel, 15, 9);
        for (int vow = 0; vow < 8; vow++) {
            chapel.makeVow(50, 1);
        }
        chapel.save();
        chapel.restore();
        return chapel;
    }

    private static void failing(Sentences tests) {
        tests.test("Throws `IllegalStateException` if the method for a command throws an exception; no command takes "
                + "effect, and failedCommand then returns the index of that command", () -> {
            String[] fails = {"member 08 5", "member 90 5", "member 33 5", "member 03 0", "member 03 100", "member 10 5",
                "walk 08 5", "walk 11 5", "walk 01 0", "walk 01 100", "walk 02 5", "walk 01 46",
                "vow 2 5", "vow 53 5", "vow 9 0", "vow 9 100", "forge 21", "repair 2", "repair 999", "repair 1",
                "abandon 2", "abandon 1", "resume 2", "resume 0", "put 4 c5", "put 1 c0", "put 1 c21", "put 1 l5",
                "put 0 c5", "day 0", "day 31", "day 000"};
            for (String fail : fails) {
                failsAnywhere(failable(), fail);
            }
            String[] crowdedFails = {"member 01 5", "vow 50 1", "repair 15"};
            for (String fail : crowdedFails) {
                failsAnywhere(crowded(), fail);
            }
            // The last command of a full buffer, and the first one of several that would fail.
            BridgeChapel chapel = failable();
            due(13, failedOf(chapel, "day;".repeat(13) + "forge 99"));
            due(2, chapel.day());
            due(1, failedOf(chapel, "day;day 0;day 31;day"));
            due(2, chapel.day());
        });
    }

    private static void failsAnywhere(BridgeChapel chapel, String fail) {
        String before = HistorySentences.look(chapel);
        due(fail + " 0", fail + " " + failedOf(chapel, fail));
        due(fail + " 2", fail + " " + failedOf(chapel, "forge 7;forge 8;" + fail + ";day"));
        due(before, HistorySentences.look(chapel));
        refused(STATE, chapel::undo);
        due(5, chapel.setForge(5));
    }

    private static void positions(Sentences tests) {
        tests.part("Promise 54");
        tests.test("Returns the error position of the latest script that did not have the required form.", () -> {
            BridgeChapel chapel = new BridgeChapel();
            errorOf(chapel, "dax");
            due(2, chapel.errorPosition());
            errorOf(chapel, "day;x");
            due(4, chapel.errorPosition());
            errorOf(chapel, "x");
            due(0, chapel.errorPosition());
            errorOf(chapel, "dayx");
            // Neither a script that runs nor one with a failed command has an error position.
            run(chapel, "day");
            due(3, chapel.errorPosition());
            failedOf(chapel, "day;day 0");
            due(3, chapel.errorPosition());
            chapel.type('x');
            due(3, chapel.errorPosition());
            chapel.undo();
            due(3, chapel.errorPosition());
        });
        tests.test("Returns the error position.", () -> {
            BridgeChapel chapel = new BridgeChapel();
            due(0, errorOf(chapel, ""));
            due(59, errorOf(chapel, "day;".repeat(14) + "day;".replace(';', 's')));
            due(60, errorOf(chapel, "day;".repeat(15)));
            due(60, chapel.errorPosition());
            due(0, errorOf(chapel, "#".repeat(60)));
        });
        tests.test("Throws `NoSuchElementException` if there was no such script", () -> {
            BridgeChapel chapel = new BridgeChapel();
            refused(ELEMENT, chapel::errorPosition);
            run(chapel, "day");
            failedOf(chapel, "day 0");
            typeAll(chapel, "x");
            refused(ELEMENT, chapel::errorPosition);
            refused(ARGUMENT, chapel::runScript);
            due(0, chapel.errorPosition());
            refused(ELEMENT, () -> new BridgeChapel().errorPosition());
        });
    }

    private static void commands(Sentences tests) {
        tests.part("Promise 55");
        tests.test("Returns the index of the command that failed in the latest script with a failed command.", () -> {
            BridgeChapel chapel = new BridgeChapel();
            failedOf(chapel, "day;day;day 0");
            due(2, chapel.failedCommand());
            failedOf(chapel, "day;day 0;day 0");
            due(1, chapel.failedCommand());
            failedOf(chapel, "day 0");
            due(0, chapel.failedCommand());
            failedOf(chapel, "day;day;day;forge 21");
            // Neither a script that runs nor one without the form has a failed command.
            run(chapel, "day");
            due(3, chapel.failedCommand());
            errorOf(chapel, "day 0;day 0;");
            due(3, chapel.failedCommand());
            chapel.undo();
            due(3, chapel.failedCommand());
            refused(ARGUMENT, () -> chapel.passDays(0));
            due(3, chapel.failedCommand());
        });
        tests.test("Returns the index of the command, counted from 0.", () -> {
            BridgeChapel chapel = new BridgeChapel();
            due(0, failedOf(chapel, "day 0;day"));
            for (int commands = 1; commands <= 13; commands++) {
                due(commands, failedOf(chapel, "day;".repeat(commands) + "day 0"));
            }
            due(0, chapel.day());
        });
        tests.test("Throws `NoSuchElementException` if there was no such script", () -> {
            BridgeChapel chapel = new BridgeChapel();
            refused(ELEMENT, chapel::failedCommand);
            run(chapel, "day");
            errorOf(chapel, "day 0;");
            refused(ARGUMENT, () -> chapel.passDays(0));
            typeAll(chapel, "day 0");
            refused(ELEMENT, chapel::failedCommand);
            refused(STATE, chapel::runScript);
            due(0, chapel.failedCommand());
            refused(ELEMENT, () -> new BridgeChapel().failedCommand());
        });
    }

    private static void undoing(Sentences tests) {
        tests.part("Promise 56");
        tests.test("Undoes the latest change that has not been undone.", () -> {
            BridgeChapel chapel = new BridgeChapel();
            chapel.setForge(1);
            chapel.setForge(2);
            chapel.setForge(3);
            chapel.undo();
            chapel.undo();
            due(1, chapel.setForge(4));
            chapel.undo();
            chapel.undo();
            due(5, chapel.setForge(6));
            // A whole script is one change.
            due(3, run(chapel, "day;day;forge 9"));
            chapel.undo();
            due(0, chapel.day());
            due(6, chapel.setForge(7));
        });
        tests.test("Returns the number of changes that can still be undone.", () -> {
            BridgeChapel chapel = new BridgeChapel();
            for (int changes = 1; changes <= 12; changes++) {
                chapel.passDays(1);
                due(Math.min(changes, 8) - 1, chapel.undo());
                chapel.passDays(1);
            }
            for (int left = 7; left >= 0; left--) {
                due(left, chapel.undo());
            }
            due(4, chapel.day());
        });
        tests.test("Throws `IllegalStateException` if there is nothing to undo", () -> {
            BridgeChapel chapel = new BridgeChapel();
            refused(STATE, chapel::undo);
            chapel.save();
            refused(ARGUMENT, () -> chapel.passDays(0));
            failedOf(chapel, "day;day 0");
            errorOf(chapel, "day;");
            refused(STATE, chapel::undo);
            chapel.passDays(1);
            due(0, chapel.undo());
            refused(STATE, chapel::undo);
            for (int change = 0; change < 9; change++) {
                chapel.passDays(1);
            }
            for (int step = 0; step < 8; step++) {
                chapel.undo();
            }
            refused(STATE, chapel::undo);
            refused(STATE, chapel::undo);
            due(1, chapel.day());
        });
    }

    private static void saving(Sentences tests) {
        tests.part("Promise 57");
        tests.test("Takes a snapshot, which replaces an earlier one.", () -> {
            BridgeChapel chapel = TermSentences.line(9, 9);
            chapel.save();
            chapel.passDays(1);
            chapel.abandon(1);
            String second = HistorySentences.look(chapel);
            chapel.save();
            chapel.passDays(1);
            chapel.restore();
            due(second, HistorySentences.look(chapel));
            chapel.passDays(3);
            due(second.replace("day 1 steel 35=35", "day 4 steel 50=50"), HistorySentences.look(chapel));
            chapel.restore();
            due(second, HistorySentences.look(chapel));
            // A snapshot is no change: what was changed before it can be undone.
            chapel.setForge(9);
            chapel.save();
            due(0, chapel.undo());
            due(5, chapel.setForge(5));
            chapel.restore();
            due(9, chapel.setForge(5));
        });
        tests.test("Returns the number of members.", () -> {
            BridgeChapel chapel = new BridgeChapel();
            due(0, chapel.save());
            for (int member = 0; member < 16; member++) {
                chapel.addMember(member / 4, 4 + member % 4, 5);
                due(member + 1, chapel.save());
            }
            chapel.abandon(0);
            due(16, chapel.save());
        });
    }

    private static void restoring(Sentences tests) {
        tests.part("Promise 58");
        tests.test("Restores the snapshot, which is kept.", () -> {
            BridgeChapel chapel = TermSentences.line(9, 9);
            chapel.makeVow(5, 7);
            chapel.put(3, 'c', 20);
            String saved = HistorySentences.look(chapel);
            chapel.save();
            for (int round = 0; round < 3; round++) {
                chapel.abandon(round % 2);
                chapel.passDays(30);
                chapel.setNiche('l');
                chapel.addMember(4, 5, 9);
                chapel.restore();
                due(saved, HistorySentences.look(chapel));
                due(1, chapel.makeVow(9, 9));
                chapel.restore();
                due(saved, HistorySentences.look(chapel));
            }
        });
        tests.test("Afterwards there is nothing to undo.", () -> {
            BridgeChapel chapel = new BridgeChapel();
            chapel.save();
            for (int changes = 0; changes <= 9; changes++) {
                for (int change = 0; change < changes; change++) {
                    chapel.passDays(1);
                }
                chapel.restore();
                refused(STATE, chapel::undo);
                due(0, chapel.day());
            }
            // What is changed afterwards can be undone, as far as the restored state.
            chapel.passDays(1);
            chapel.passDays(1);
            due(1, chapel.undo());
            due(0, chapel.undo());
            refused(STATE, chapel::undo);
        });
        tests.test("Returns the number of members.", () -> {
            BridgeChapel chapel = new BridgeChapel();
            chapel.save();
            chapel.addMember(0, 1, 9);
            due(0, chapel.restore());
            due(0, chapel.memberCount());
            for (int member = 0; member < 16; member++) {
                chapel.addMember(member / 4, 4 + member % 4, 9);
            }
            chapel.save();
            chapel.undo();
            due(15, chapel.memberCount());
            due(16, chapel.restore());
            due(16, chapel.memberCount());
        });
        tests.test("Throws `IllegalStateException` if there is no snapshot", () -> {
            BridgeChapel chapel = TermSentences.single(9);
            refused(STATE, chapel::restore);
            due(1, chapel.memberCount());
            due(0, chapel.undo());
            refused(STATE, chapel::restore);
            chapel.save();
            due(0, chapel.restore());
            due(0, chapel.restore());
        });
    }
}
