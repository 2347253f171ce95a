/** The sentences of the part "Scripts". No object here gets more than 512 calls. */
final class ScriptSentences extends Checks {
    private ScriptSentences() {
    }

    static void fill(Sentences tests) {
        tests.test("A script is typed into a buffer of at most 60 characters and then run.", () -> {
            BridgeChapel chapel = new BridgeChapel();
            String script = "day;".repeat(12) + "day 10;day 1";
            for (int length = 1; length <= 60; length++) {
                due(length, chapel.type(script.charAt(length - 1)));
            }
            refused(STATE, () -> chapel.type('d'));
            refused(STATE, () -> chapel.type(' '));
            due(14, chapel.runScript());
            due(23, chapel.day());
            due(1, chapel.type('d'));
        });
        tests.free("It has the form");
        form(tests);
        meaning(tests);
        tests.test("The error position of a script that does not have this form is the index of the first character that "
                + "cannot continue any script of this form, or the length of the script if every character can and the "
                + "end comes too early.", ScriptSentences::errorPositions);
    }

    /** The script has the form, and its commands are taken. */
    private static void taken(int commands, String script) {
        BridgeChapel chapel = TermSentences.line(40, 30);
        chapel.abandon(1);
        due(script + " " + commands, script + " " + outcome(() -> run(chapel, script)));
    }

    private static void unformed(int position, String script) {
        BridgeChapel chapel = new BridgeChapel();
        due(script + " " + position, script + " " + errorOf(chapel, script));
    }

    private static void form(Sentences tests) {
        tests.test("`script = command { \";\" command`}", () -> {
            taken(1, "day");
            taken(2, "day;day");
            taken(3, "forge 5;abandon 0;niche c");
            taken(15, "day;day;day;day;day;day;day;day;day;day;day;day;day;day;day");
            unformed(0, "");
            unformed(0, ";");
            unformed(0, ";day");
            unformed(4, "day;");
            unformed(4, "day;;day");
            unformed(4, "day; day");
            unformed(3, "day,day");
            unformed(3, "dayday");
            unformed(60, "day;day;day;day;day;day;day;day;day;day;day;day;day;day;day;");
        });
        tests.test("`command = \"member \" digit digit \" \" number | \"walk \" digit digit \" \" number | \"vow \" number "
                + "\" \" number | \"forge \" number | \"repair \" number | \"abandon \" number | \"resume \" number | "
                + "\"niche \" kind | \"put \" digit \" \" kind number | \"day\" [ \" \" number ]`",
                ScriptSentences::commandForms);
        tests.test("`kind = \"c\" | \"l\"`", () -> {
            taken(1, "niche c");
            taken(1, "niche l");
            taken(1, "put 0 c5");
            taken(2, "niche l;put 0 l5");
            String[] noKinds = {"b", "d", "k", "m", "C", "L", "1", " ", ";", "~"};
            for (String kind : noKinds) {
                unformed(6, "niche " + kind);
                unformed(6, "put 0 " + kind + "5");
            }
            unformed(6, "niche ");
            unformed(6, "put 0 ");
            unformed(7, "niche cc");
            unformed(7, "niche lc");
            unformed(7, "put 0 cl5");
        });
        tests.test("`number = digit [ digit [ digit ] ]`", () -> {
            taken(1, "forge 0");
            taken(1, "forge 9");
            taken(1, "forge 20");
            taken(1, "forge 020");
            taken(1, "forge 009");
            unformed(6, "forge ");
            unformed(9, "forge 0200");
            unformed(9, "forge 0000");
            unformed(6, "forge /");
            unformed(6, "forge :");
            unformed(7, "forge 1/");
            unformed(7, "forge 1:");
            unformed(8, "forge 12a");
            unformed(6, "forge -1");
            unformed(6, "forge +1");
            BridgeChapel chapel = new BridgeChapel();
            run(chapel, "forge 012");
            due(12, chapel.setForge(0));
        });
    }

    private static void commandForms() {
        taken(1, "member 07 99");
        taken(1, "member 70 5");
        taken(1, "walk 01 40");
        taken(1, "vow 50 99");
        taken(1, "vow 1 001");
        taken(1, "forge 7");
        taken(1, "repair 0");
        taken(1, "abandon 0");
        taken(1, "resume 1");
        taken(1, "niche l");
        taken(1, "put 3 c20");
        taken(1, "day");
        taken(1, "day 30");
        unformed(6, "member");
        unformed(6, "member01 5");
        unformed(7, "member  01 5");
        unformed(8, "member 0 1 5");
        unformed(9, "member 015");
        unformed(9, "member 01");
        unformed(10, "member 01 ");
        unformed(4, "walk");
        unformed(6, "walk 0");
        unformed(7, "walk 012");
        unformed(8, "walk 01 ;day");
        unformed(3, "vow");
        unformed(5, "vow 1");
        unformed(6, "vow 1 ");
        unformed(7, "vow 0001 5");
        unformed(9, "vow 001 5 5");
        unformed(5, "forge");
        unformed(7, "repair ");
        unformed(8, "repair 0 ");
        unformed(8, "abandon c");
        unformed(6, "resume,0");
        unformed(5, "niche");
        unformed(4, "put c5");
        unformed(5, "put 00 c5");
        unformed(5, "put 0c5");
        unformed(7, "put 0 c");
        unformed(7, "put 0 c 5");
        unformed(4, "day ");
        unformed(3, "day5");
        unformed(3, "days");
        unformed(5, "day 5 ");
    }

    private static void meaning(Sentences tests) {
        tests.test("where braces mean zero or more repetitions, brackets an optional part, and a bar an alternative; c "
                + "means candles and l means lamps.", () -> {
            BridgeChapel chapel = new BridgeChapel();
            run(chapel, "niche l");
            due('l', chapel.nicheKind());
            run(chapel, "put 0 l5");
            due(5, chapel.nicheWeight());
            due(0, failedOf(chapel, "put 1 c5"));
            run(chapel, "niche c;put 1 c7");
            due('c', chapel.nicheKind());
            due(7, chapel.nicheWeight());
            due(0, failedOf(chapel, "put 0 l5"));
        });
        tests.test("The commands stand for the methods addMember, procession, makeVow, setForge, repair, abandon, resume, "
                + "setNiche, put and passDays with the arguments in the order of the parameters; day without a number "
                + "passes 1 day.", ScriptSentences::commandsStandForMethods);
        tests.test("The commands are executed in order, and either all of them take effect or none.", () -> {
            BridgeChapel chapel = TermSentences.single(40);
            due(3, run(chapel, "abandon 0;resume 0;abandon 0"));
            due(true, chapel.isAbandoned(0));
            due(0, failedOf(chapel, "abandon 0;resume 0"));
            due(true, chapel.isAbandoned(0));
            String before = HistorySentences.look(chapel);
            due(1, failedOf(chapel, "day 9;day 0;day 9"));
            due(4, failedOf(chapel, "member 12 5;forge 3;niche l;put 0 l9;put 0 l9"));
            due(3, failedOf(chapel, "resume 0;walk 01 40;repair 0;walk 01 41"));
            due(1, failedOf(chapel, "vow 1 5;vow 0 5"));
            due(before, HistorySentences.look(chapel));
            // Nothing of the failed ones is left where it is not seen at once.
            due(5, chapel.setForge(5));
            due(0, chapel.makeVow(1, 5));
            due(1, chapel.put(0, 'c', 1));
            due(1, chapel.addMember(1, 2, 7));
            due("1:1-2s7c0w0", TermSentences.memberOf(chapel, 1));
        });
    }

    private static void commandsStandForMethods() {
        BridgeChapel typed = new BridgeChapel();
        BridgeChapel called = new BridgeChapel();
        due(5, run(typed, "member 52 40;member 26 30;walk 65 25;vow 3 20;vow 34 56"));
        called.addMember(5, 2, 40);
        called.addMember(2, 6, 30);
        called.procession(6, 5, 25);
        called.makeVow(3, 20);
        called.makeVow(34, 56);
        due(HistorySentences.look(called), HistorySentences.look(typed));
        due("0:2-5s40c0w25", TermSentences.memberOf(typed, 0));
        due(5, run(typed, "repair 1;abandon 0;abandon 1;resume 1;forge 12"));
        called.repair(1);
        called.abandon(0);
        called.abandon(1);
        called.resume(1);
        called.setForge(12);
        due(HistorySentences.look(called), HistorySentences.look(typed));
        due(5, run(typed, "niche l;put 3 l18;put 2 l1;day 2;day"));
        called.setNiche('l');
        called.put(3, 'l', 18);
        called.put(2, 'l', 1);
        called.passDays(2);
        called.passDays(1);
        due(HistorySentences.look(called), HistorySentences.look(typed));
        due(3, typed.day());
        due(12, typed.setForge(0));
        due(20, typed.put(0, 'l', 1));
        refused(STATE, () -> typed.put(3, 'l', 1));
        due(1, run(typed, "day"));
        due(4, typed.day());
        due(1, run(typed, "day 001"));
        due(5, typed.day());
    }

    private static void errorPositions() {
        // Each word, ended too early at each of its characters, and with a wrong one there.
        String[] beginnings = {"member 01 5", "walk 01 5", "vow 1 5", "forge 5", "repair 5", "abandon 5", "resume 5",
            "niche c", "put 0 c5"};
        for (String script : beginnings) {
            for (int length = 0; length < script.length(); length++) {
                unformed(length, script.substring(0, length));
                unformed(length, script.substring(0, length) + "#" + script.substring(length));
            }
        }
        unformed(1, "d");
        unformed(2, "da");
        unformed(1, "dey");
        unformed(4, "day 5".substring(0, 4));
        unformed(4, "day;");
        unformed(2, "redo");
        unformed(3, "repent");
        unformed(3, "resist");
        unformed(0, "Day");
        unformed(0, " day");
        unformed(0, "x");
        unformed(0, "~");
        unformed(3, "day~");
        // The last character alone is wrong, and the first wrong one of several counts.
        unformed(7, "day 123#");
        unformed(7, "day 1234;;");
        unformed(4, "day;#;#");
        unformed(14, "member 01 5;dai");
        // At the end of a full buffer.
        unformed(60, "day;".repeat(15));
        unformed(59, "day;".repeat(14) + "dayx");
        unformed(60, "forge 123;".repeat(5) + "put 0 c12;");
        unformed(60, "abandon 12;".repeat(5) + "vow 1");
        unformed(59, "abandon 12;".repeat(5) + "day #");
        unformed(0, "#".repeat(60));
        // A fault of meaning is no fault of form.
        BridgeChapel chapel = new BridgeChapel();
        failedOf(chapel, "member 99 999;put 9 l999;day 0");
        refused(ELEMENT, chapel::errorPosition);
    }
}
