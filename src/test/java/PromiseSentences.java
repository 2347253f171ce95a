/** What the tests for the sentences of the promises share: the edges that many promises name in the same words. */
abstract class PromiseSentences extends Checks {
    interface AskedOfMember {
        Object answer(BridgeChapel chapel, int member);
    }

    interface AskedOfPair {
        Object answer(BridgeChapel chapel, int from, int to);
    }

    private static final int[] FAR_OFF = {-1, 100, LEAST, MOST};

    /** The call is not refused with this exception; whether it is refused with another one does not matter. */
    static void notRefused(Class<?> exception, Call call) {
        due(false, outcome(call) == exception);
    }

    /** "if there is no such member": with no members, with some, and with all that there can be. */
    static void noSuchMember(AskedOfMember asked) {
        BridgeChapel none = new BridgeChapel();
        refused(INDEX, () -> asked.answer(none, 0));
        BridgeChapel some = TermSentences.line(10, 20, 30);
        refused(INDEX, () -> asked.answer(some, 3));
        notRefused(INDEX, () -> asked.answer(some, 0));
        notRefused(INDEX, () -> asked.answer(some, 2));
        BridgeChapel full = TermSentences.full();
        refused(INDEX, () -> asked.answer(full, 16));
        notRefused(INDEX, () -> asked.answer(full, 15));
        for (int member : FAR_OFF) {
            refused(INDEX, () -> asked.answer(none, member));
            refused(INDEX, () -> asked.answer(full, member));
        }
        // A member whose addition was undone is no member any more.
        some.undo();
        some.save();
        some.addMember(4, 5, 10);
        some.restore();
        refused(INDEX, () -> asked.answer(some, some.memberCount()));
    }

    /** "if there is no such joint, for either argument" */
    static void noSuchJoint(AskedOfPair asked) {
        BridgeChapel chapel = TermSentences.line(30, 30, 30, 30, 30, 30, 30);
        refused(INDEX, () -> asked.answer(chapel, 8, 3));
        refused(INDEX, () -> asked.answer(chapel, 3, 8));
        refused(INDEX, () -> asked.answer(chapel, 8, 8));
        for (int joint : FAR_OFF) {
            refused(INDEX, () -> asked.answer(chapel, joint, 3));
            refused(INDEX, () -> asked.answer(chapel, 3, joint));
            refused(INDEX, () -> asked.answer(chapel, joint, joint));
        }
        notRefused(INDEX, () -> asked.answer(chapel, 0, 7));
        notRefused(INDEX, () -> asked.answer(chapel, 7, 0));
        notRefused(INDEX, () -> asked.answer(new BridgeChapel(), 0, 7));
    }

    /** "if both joints are the same" */
    static void sameJoints(AskedOfPair asked) {
        BridgeChapel chapel = TermSentences.line(30, 30, 30, 30, 30, 30, 30);
        for (int joint = 0; joint < 8; joint++) {
            int same = joint;
            refused(ARGUMENT, () -> asked.answer(chapel, same, same));
            notRefused(ARGUMENT, () -> asked.answer(chapel, same, 7 - same));
        }
    }

    /** "if there is no way": without members, with one that is abandoned, and with one that has no bearing left. */
    static void noWay(AskedOfPair asked) {
        BridgeChapel none = new BridgeChapel();
        refused(ELEMENT, () -> asked.answer(none, 0, 7));
        BridgeChapel apart = TermSentences.line(9, 9);
        apart.addMember(6, 7, 9);
        refused(ELEMENT, () -> asked.answer(apart, 0, 7));
        refused(ELEMENT, () -> asked.answer(apart, 7, 0));
        refused(ELEMENT, () -> asked.answer(apart, 2, 5));
        apart.addMember(2, 6, 9);
        notRefused(ELEMENT, () -> asked.answer(apart, 0, 7));
        apart.abandon(3);
        refused(ELEMENT, () -> asked.answer(apart, 0, 7));
        notRefused(ELEMENT, () -> asked.answer(apart, 0, 2));
        // A strength of 1 is just enough, until its crack comes.
        BridgeChapel least = TermSentences.single(1);
        notRefused(ELEMENT, () -> asked.answer(least, 0, 1));
        crackTo(least, 0, 1);
        refused(ELEMENT, () -> asked.answer(least, 1, 0));
        BridgeChapel weak = TermSentences.cracked(2, 1);
        notRefused(ELEMENT, () -> asked.answer(weak, 1, 0));
    }
}
