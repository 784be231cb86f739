/**
 * Each promise by calls that come after one another on one object: settings set again, two flips, and
 * questions between settings. Each answer is worked out by hand for the state at that call.
 */
public final class SequenceTest {
    private static final int BAD_NODE = -1;
    private static final int BAD_NUMBER = -2;

    public static void main(String[] args) {
        newObjectAmidUsedOnes();
        linkSetAgain();
        toSourceSetAgain();
        toSinkSetAgain();
        flipOften();
        setBetweenTwoFlips();
        costBetweenSettings();
        leastBetweenSettings();
        alwaysBetweenSettings();
        everBetweenSettings();
        tiesBetweenSettings();
        stagesBetweenSettings();
        worstBetweenSettings();
        spareBetweenSettings();
        separatesBetweenSettings();
        oneQuestionAfterAnother();
        Check.end();
    }

    /** Node 0 pulled to the source by 10 + x, node 1 to the sink by 30 - x, a link of 15 between, 2 to 6 free. */
    private static ParametricCut chain() {
        ParametricCut cut = new ParametricCut();
        cut.toSource(0, 10, 1);
        cut.toSink(1, 30, -1);
        cut.link(0, 1, 15);
        return cut;
    }

    private static void newObjectAmidUsedOnes() {
        Check.sentence("Promise 1: an object made after others were used");
        ParametricCut used = new ParametricCut();
        used.link(0, 1, 20);
        used.toSource(0, 40, 2);
        used.flip();
        ParametricCut fresh = new ParametricCut();
        Check.due("fresh cost(1, 50)", fresh.cost(1, 50), 0);
        Check.due("fresh cost(126, 50)", fresh.cost(126, 50), 0);
        Check.due("fresh ties(50)", fresh.ties(50), 128);
        Check.due("fresh link(0, 1, 5)", fresh.link(0, 1, 5), 0);
        fresh.flip();
        Check.due("used cost(1, 50)", used.cost(1, 50), 140 + 20);
        Check.due("used cost(2, 50)", used.cost(2, 50), 20);
        Check.due("used link(1, 0, 0)", used.link(1, 0, 0), 20);
        Check.due("fresh link(1, 0, 0)", fresh.link(1, 0, 0), 5);
        Check.due("fresh ties(50), flipped", fresh.ties(50), 128);
    }

    private static void linkSetAgain() {
        Check.sentence("Promise 2: a link set again and again");
        ParametricCut cut = new ParametricCut();
        Check.due("cost(4, 0)", cut.cost(4, 0), 0);
        Check.due("link(2, 5, 7)", cut.link(2, 5, 7), 0);
        Check.due("cost(4, 0) with 7", cut.cost(4, 0), 7);
        Check.due("cost(32, 0) with 7", cut.cost(32, 0), 7);
        Check.due("cost(36, 0) with 7", cut.cost(36, 0), 0);
        Check.due("link(5, 2, 20)", cut.link(5, 2, 20), 7);
        Check.due("cost(4, 0) with 20", cut.cost(4, 0), 20);
        Check.due("link(5, 6, 3)", cut.link(5, 6, 3), 0);
        Check.due("cost(32, 0) with 20 and 3", cut.cost(32, 0), 23);
        Check.due("link(2, 5, 21)", cut.link(2, 5, 21), BAD_NUMBER);
        Check.due("cost(32, 0) after the refused", cut.cost(32, 0), 23);
        cut.flip();
        Check.due("link(2, 5, 0) after a flip", cut.link(2, 5, 0), 20);
        Check.due("cost(32, 0) with 0 and 3", cut.cost(32, 0), 3);
        cut.flip();
        Check.due("link(6, 5, 3) after two flips", cut.link(6, 5, 3), 3);
        Check.due("link(5, 5, 1)", cut.link(5, 5, 1), BAD_NODE);
        Check.due("link(2, 5, 1)", cut.link(2, 5, 1), 0);
        Check.due("cost(32, 0) with 1 and 3", cut.cost(32, 0), 4);
        Check.due("link(5, 2, 1)", cut.link(5, 2, 1), 1);
    }

    private static void toSourceSetAgain() {
        Check.sentence("Promise 3: a pull to the source set again and again");
        ParametricCut cut = new ParametricCut();
        Check.due("toSource(3, 40, -2)", cut.toSource(3, 40, -2), 0);
        nodeThree(cut, 10, 20, 0);
        nodeThree(cut, 50, 0, 0);
        Check.due("toSource(3, 0, 2)", cut.toSource(3, 0, 2), 0);
        nodeThree(cut, 10, 20, 0);
        nodeThree(cut, 0, 0, 0);
        nodeThree(cut, 50, 100, 0);
        Check.due("toSource(3, 41, 0)", cut.toSource(3, 41, 0), BAD_NUMBER);
        Check.due("toSource(3, 1, 3)", cut.toSource(3, 1, 3), BAD_NUMBER);
        Check.due("toSource(7, 1, 1)", cut.toSource(7, 1, 1), BAD_NODE);
        nodeThree(cut, 50, 100, 0);
        cut.flip();
        nodeThree(cut, 50, 0, 100);
        Check.due("toSource(3, 7, 0) after a flip", cut.toSource(3, 7, 0), 0);
        nodeThree(cut, 50, 7, 100);
        cut.flip();
        nodeThree(cut, 50, 100, 7);
        Check.due("toSource(3, 0, 0)", cut.toSource(3, 0, 0), 0);
        nodeThree(cut, 50, 0, 7);
        Check.due("toSource(4, 5, 1)", cut.toSource(4, 5, 1), 0);
        nodeThree(cut, 50, 55, 7 + 55);
        Check.due("cost(24, 50)", cut.cost(24, 50), 7);
    }

    private static void toSinkSetAgain() {
        Check.sentence("Promise 4: a pull to the sink set again and again");
        ParametricCut cut = new ParametricCut();
        Check.due("toSink(3, 40, -2)", cut.toSink(3, 40, -2), 0);
        nodeThree(cut, 10, 0, 20);
        nodeThree(cut, 50, 0, 0);
        Check.due("toSink(3, 0, 2)", cut.toSink(3, 0, 2), 0);
        nodeThree(cut, 10, 0, 20);
        nodeThree(cut, 0, 0, 0);
        nodeThree(cut, 50, 0, 100);
        Check.due("toSink(3, -1, 0)", cut.toSink(3, -1, 0), BAD_NUMBER);
        Check.due("toSink(3, 1, -3)", cut.toSink(3, 1, -3), BAD_NUMBER);
        Check.due("toSink(-1, 1, 1)", cut.toSink(-1, 1, 1), BAD_NODE);
        nodeThree(cut, 50, 0, 100);
        cut.flip();
        nodeThree(cut, 50, 100, 0);
        Check.due("toSink(3, 7, 0) after a flip", cut.toSink(3, 7, 0), 0);
        nodeThree(cut, 50, 100, 7);
        cut.flip();
        nodeThree(cut, 50, 7, 100);
        Check.due("toSink(3, 0, 0)", cut.toSink(3, 0, 0), 0);
        nodeThree(cut, 50, 7, 0);
        Check.due("toSink(4, 5, 1)", cut.toSink(4, 5, 1), 0);
        nodeThree(cut, 50, 7, 0);
        Check.due("cost(24, 50)", cut.cost(24, 50), 55);
    }

    private static void nodeThree(ParametricCut cut, int x, int off, int on) {
        Check.due("cost(0, " + x + ")", cut.cost(0, x), off);
        Check.due("cost(8, " + x + ")", cut.cost(8, x), on);
    }

    private static void flipOften() {
        Check.sentence("Promise 5: one flip after another");
        ParametricCut cut = new ParametricCut();
        cut.toSource(1, 30, 1);
        cut.toSink(1, 4, 0);
        cut.toSink(6, 9, -1);
        cut.link(1, 6, 5);
        for (int round = 0; round < 3; round++) {
            // At x = 2: node 1 has 32 to the source and 4 to the sink, node 6 has 7 to the sink.
            Check.due("cost(0, 2)", cut.cost(0, 2), 32);
            Check.due("cost(2, 2)", cut.cost(2, 2), 4 + 5);
            Check.due("cost(64, 2)", cut.cost(64, 2), 32 + 7 + 5);
            Check.due("cost(66, 2)", cut.cost(66, 2), 4 + 7);
            leastCuts(cut, 2, 9, 2, 127 - 64, 32);
            cut.flip();
            Check.due("flipped cost(0, 2)", cut.cost(0, 2), 4 + 7);
            Check.due("flipped cost(2, 2)", cut.cost(2, 2), 32 + 7 + 5);
            Check.due("flipped cost(64, 2)", cut.cost(64, 2), 4 + 5);
            Check.due("flipped cost(66, 2)", cut.cost(66, 2), 32);
            leastCuts(cut, 2, 9, 64, 127 - 2, 32);
            cut.flip();
        }
    }

    private static void setBetweenTwoFlips() {
        Check.sentence("Promise 5: what is set between two flips");
        ParametricCut cut = new ParametricCut();
        cut.toSource(1, 30, 1);
        cut.flip();
        Check.due("toSource(1, 6, 0)", cut.toSource(1, 6, 0), 0);
        Check.due("toSink(2, 8, 0)", cut.toSink(2, 8, 0), 0);
        Check.due("link(1, 2, 3)", cut.link(1, 2, 3), 0);
        // Node 1 has 6 to the source and 30 + x to the sink, node 2 has 8 to the sink.
        Check.due("cost(2, 10)", cut.cost(2, 10), 40 + 3);
        Check.due("cost(4, 10)", cut.cost(4, 10), 6 + 8 + 3);
        leastCuts(cut, 10, 6, 0, 127 - 6, 32);
        cut.flip();
        Check.due("flipped cost(2, 10)", cut.cost(2, 10), 6 + 8 + 3);
        Check.due("flipped cost(4, 10)", cut.cost(4, 10), 40 + 3);
        leastCuts(cut, 10, 6, 6, 127, 32);
        Check.due("flipped link(2, 1, 0)", cut.link(2, 1, 0), 3);
    }

    private static void leastCuts(ParametricCut cut, int x, int least, int always, int ever, int ties) {
        Check.due("least(" + x + ")", cut.least(x), least);
        Check.due("always(" + x + ")", cut.always(x), always);
        Check.due("ever(" + x + ")", cut.ever(x), ever);
        Check.due("ties(" + x + ")", cut.ties(x), ties);
    }

    private static void costBetweenSettings() {
        Check.sentence("Promise 6: cost between settings");
        ParametricCut cut = chain();
        Check.due("cost(2, 10)", cut.cost(2, 10), 20 + 20 + 15);
        Check.due("cost(2 + 128, 10)", cut.cost(2 + 128, 10), 55);
        cut.link(1, 0, 4);
        Check.due("cost(2, 10), link 4", cut.cost(2, 10), 20 + 20 + 4);
        cut.toSource(0, 1, 0);
        Check.due("cost(2, 10), source 1", cut.cost(2, 10), 1 + 20 + 4);
        Check.due("cost(2, 51)", cut.cost(2, 51), BAD_NUMBER);
        cut.toSink(1, 0, 2);
        Check.due("cost(2, 10), sink 2x", cut.cost(2, 10), 1 + 20 + 4);
        Check.due("cost(2, 11), sink 2x", cut.cost(2, 11), 1 + 22 + 4);
        cut.flip();
        Check.due("cost(2, 11), flipped", cut.cost(2, 11), 4);
        Check.due("cost(1, 11), flipped", cut.cost(1, 11), 22 + 1 + 4);
        cut.flip();
        Check.due("cost(2, 11), flipped twice", cut.cost(2, 11), 1 + 22 + 4);
    }

    private static void leastBetweenSettings() {
        Check.sentence("Promise 7: least between settings");
        ParametricCut cut = chain();
        Check.due("least(10)", cut.least(10), 15);
        Check.due("least(51)", cut.least(51), BAD_NUMBER);
        Check.due("least(10) again", cut.least(10), 15);
        cut.link(0, 1, 20);
        Check.due("least(10), link 20", cut.least(10), 20);
        cut.toSink(1, 0, 0);
        Check.due("least(10), sink 0", cut.least(10), 0);
        cut.toSink(1, 40, 0);
        Check.due("least(10), sink 40", cut.least(10), 20);
        Check.due("least(0), sink 40", cut.least(0), 10);
        cut.toSource(0, 40, 2);
        Check.due("least(0), source 40 + 2x", cut.least(0), 20);
        cut.flip();
        Check.due("least(0), flipped", cut.least(0), 20);
        cut.link(0, 1, 0);
        Check.due("least(0), no link", cut.least(0), 0);
        cut.flip();
        cut.link(1, 0, 1);
        Check.due("least(0), link 1", cut.least(0), 1);
    }

    private static void alwaysBetweenSettings() {
        Check.sentence("Promise 8: always between settings");
        ParametricCut cut = chain();
        // Only {0} costs 15.
        Check.due("always(10)", cut.always(10), 1);
        cut.link(0, 1, 20);
        // {}, {0} and {0, 1} all cost 20.
        Check.due("always(10), link 20", cut.always(10), 0);
        Check.due("always(-1)", cut.always(-1), BAD_NUMBER);
        cut.toSink(1, 29, -1);
        Check.due("always(10), sink 19", cut.always(10), 3);
        cut.flip();
        Check.due("always(10), flipped", cut.always(10), 0);
        cut.flip();
        Check.due("always(10), flipped twice", cut.always(10), 3);
        cut.toSource(2, 1, 0);
        Check.due("always(10), node 2 to the source", cut.always(10), 7);
        cut.toSource(2, 0, 0);
        cut.toSink(2, 1, 0);
        Check.due("always(10), node 2 to the sink", cut.always(10), 3);
    }

    private static void everBetweenSettings() {
        Check.sentence("Promise 9: ever between settings");
        ParametricCut cut = chain();
        Check.due("ever(10)", cut.ever(10), 127 - 2);
        cut.link(0, 1, 20);
        Check.due("ever(10), link 20", cut.ever(10), 127);
        Check.due("ever(-1)", cut.ever(-1), BAD_NUMBER);
        cut.toSource(0, 9, 1);
        // Now {} costs 19 and is alone with the free nodes.
        Check.due("ever(10), source 19", cut.ever(10), 127 - 3);
        cut.flip();
        // Node 1 has 20 to the source and node 0 has 19 to the sink: {0, 1}.
        Check.due("ever(10), flipped", cut.ever(10), 127);
        cut.toSink(6, 1, 0);
        Check.due("ever(10), node 6 to the sink", cut.ever(10), 127 - 64);
        cut.flip();
        Check.due("ever(10), flipped twice", cut.ever(10), 127 - 3);
        cut.toSource(6, 0, 0);
        cut.toSink(6, 0, 2);
        Check.due("ever(10), node 6 to the sink by 2x", cut.ever(10), 127 - 3 - 64);
        Check.due("ever(0), node 6 free", cut.ever(0), 127 - 3);
    }

    private static void tiesBetweenSettings() {
        Check.sentence("Promise 10: ties between settings");
        ParametricCut cut = chain();
        Check.due("ties(10)", cut.ties(10), 32);
        cut.link(0, 1, 20);
        Check.due("ties(10), link 20", cut.ties(10), 3 * 32);
        Check.due("ties(51)", cut.ties(51), BAD_NUMBER);
        cut.link(5, 6, 1);
        Check.due("ties(10), 5 and 6 as one", cut.ties(10), 3 * 16);
        cut.flip();
        Check.due("ties(10), flipped", cut.ties(10), 3 * 16);
        cut.toSource(2, 0, 1);
        Check.due("ties(10), node 2 held", cut.ties(10), 3 * 8);
        Check.due("ties(0), one of the three and node 2 free", cut.ties(0), 16);
        cut.flip();
        Check.due("ties(10), flipped twice", cut.ties(10), 3 * 8);
        cut.toSink(2, 0, 0);
        cut.link(6, 5, 0);
        Check.due("ties(10), node 2 free and 5 and 6 apart", cut.ties(10), 3 * 32);
    }

    private static void stagesBetweenSettings() {
        Check.sentence("Promise 11: stages between settings");
        ParametricCut cut = new ParametricCut();
        Check.due("new", cut.stages(), 1);
        cut.toSource(0, 0, 1);
        cut.toSink(0, 20, 0);
        Check.due("node 0 comes after 20", cut.stages(), 2);
        cut.toSource(1, 0, 1);
        cut.toSink(1, 20, 0);
        Check.due("node 1 comes with it", cut.stages(), 2);
        cut.toSink(1, 30, 0);
        Check.due("node 1 comes after 30", cut.stages(), 3);
        Check.due("toSink(1, 41, 0)", cut.toSink(1, 41, 0), BAD_NUMBER);
        Check.due("after the refused", cut.stages(), 3);
        cut.flip();
        Check.due("flipped: node 0 goes at 20, node 1 at 30", cut.stages(), 3);
        cut.toSource(0, 0, 0);
        Check.due("node 0 is never on the side", cut.stages(), 2);
        cut.flip();
        Check.due("node 0 comes after 0, node 1 after 30", cut.stages(), 3);
        cut.link(0, 1, 20);
        Check.due("linked: both come after 15", cut.stages(), 2);
        cut.link(1, 0, 0);
        Check.due("no link", cut.stages(), 3);
    }

    private static void worstBetweenSettings() {
        Check.sentence("Promise 12: worst between settings");
        ParametricCut cut = new ParametricCut();
        Check.due("new", cut.worst(), 0);
        cut.toSource(0, 0, 2);
        cut.toSink(0, 20, 0);
        Check.due("2x against 20", cut.worst(), 10);
        cut.toSink(0, 40, 0);
        Check.due("2x against 40", cut.worst(), 20);
        cut.flip();
        Check.due("40 against 2x", cut.worst(), 20);
        cut.toSource(0, 40, -1);
        Check.due("40 - x against 2x: 26 at 13 and at 14", cut.worst(), 13);
        cut.flip();
        Check.due("2x against 40 - x", cut.worst(), 13);
        cut.toSource(1, 0, 1);
        cut.toSink(1, 0, 1);
        Check.due("x more: 40 from 14 to 40, then x", cut.worst(), 50);
        cut.toSource(1, 0, 0);
        Check.due("node 1 costs nothing", cut.worst(), 13);
        cut.link(0, 1, 5);
        // {} costs 2x, {0} costs 45 - x, {0, 1} costs 40.
        Check.due("5 more for node 0: 30 at 15", cut.worst(), 15);
        cut.link(1, 0, 0);
        Check.due("no link", cut.worst(), 13);
    }

    private static void spareBetweenSettings() {
        Check.sentence("Promise 13: spare between settings");
        ParametricCut cut = chain();
        // At x = 0 {} costs 10, and {0} costs what the link has.
        Check.due("spare(0, 1, 0)", cut.spare(0, 1, 0), 5);
        Check.due("spare(1, 0, 0)", cut.spare(1, 0, 0), 5);
        Check.due("link(0, 1, 12)", cut.link(0, 1, 12), 15);
        Check.due("spare(0, 1, 0), link 12", cut.spare(0, 1, 0), 2);
        Check.due("link(0, 1, 20)", cut.link(0, 1, 20), 12);
        Check.due("spare(0, 1, 0), link 20", cut.spare(0, 1, 0), 10);
        Check.due("spare(0, 1, 51)", cut.spare(0, 1, 51), BAD_NUMBER);
        Check.due("spare(0, 0, 0)", cut.spare(0, 0, 0), BAD_NODE);
        cut.toSource(0, 0, 0);
        Check.due("spare(0, 1, 0), source 0", cut.spare(0, 1, 0), 20);
        cut.flip();
        Check.due("spare(0, 1, 0), flipped", cut.spare(0, 1, 0), 20);
        cut.toSink(0, 25, 0);
        // Node 1 has 30 to the source: {1} costs 20, {0, 1} costs 25, {} costs 30.
        Check.due("spare(0, 1, 0), sink 25", cut.spare(0, 1, 0), 0);
        cut.toSink(0, 15, 0);
        Check.due("spare(0, 1, 0), sink 15", cut.spare(0, 1, 0), 5);
        cut.flip();
        Check.due("spare(0, 1, 0), flipped twice", cut.spare(0, 1, 0), 5);
        Check.due("link(0, 1, 0)", cut.link(0, 1, 0), 20);
        Check.due("spare(0, 1, 0), no link", cut.spare(0, 1, 0), 0);
    }

    private static void separatesBetweenSettings() {
        Check.sentence("Promise 14: separates between settings");
        ParametricCut cut = chain();
        apart(cut, "link 15", true, false);
        cut.link(0, 1, 20);
        apart(cut, "link 20, {}, {0} and {0, 1} tie", true, false);
        cut.toSink(1, 29, -1);
        apart(cut, "sink 19, only {0, 1}", false, false);
        Check.due("separates(0, 2, 10), node 2 free", cut.separates(0, 2, 10), true);
        Check.due("separates(2, 0, 10), node 0 on", cut.separates(2, 0, 10), false);
        cut.flip();
        apart(cut, "flipped, only {}", false, false);
        Check.due("separates(0, 2, 10), node 0 off", cut.separates(0, 2, 10), false);
        Check.due("separates(2, 0, 10), node 2 free", cut.separates(2, 0, 10), true);
        cut.link(0, 1, 18);
        apart(cut, "link 18, only {1}", false, true);
        Check.due("separates(1, 0, 51)", cut.separates(1, 0, 51), false);
        cut.flip();
        apart(cut, "flipped twice, only {0}", true, false);
        cut.toSource(0, 0, 0);
        apart(cut, "source 0, only {}", false, false);
    }

    private static void apart(ParametricCut cut, String when, boolean zeroFromOne, boolean oneFromZero) {
        Check.due("separates(0, 1, 10), " + when, cut.separates(0, 1, 10), zeroFromOne);
        Check.due("separates(1, 0, 10), " + when, cut.separates(1, 0, 10), oneFromZero);
    }

    private static void oneQuestionAfterAnother() {
        Check.sentence("The calls below change nothing: all questions, twice, between settings");
        ParametricCut cut = chain();
        for (int round = 0; round < 2; round++) {
            leastCuts(cut, 10, 15, 1, 125, 32);
            Check.due("cost(3, 10)", cut.cost(3, 10), 20);
            Check.due("stages()", cut.stages(), 3);
            Check.due("worst()", cut.worst(), 5);
            Check.due("spare(0, 1, 0)", cut.spare(0, 1, 0), 5);
            apart(cut, "twice", true, false);
        }
        Check.due("link(1, 0, 20)", cut.link(1, 0, 20), 15);
        for (int round = 0; round < 2; round++) {
            leastCuts(cut, 10, 20, 0, 127, 96);
            Check.due("cost(3, 10), link 20", cut.cost(3, 10), 20);
            // {} up to x = 10, where all three tie, and {0, 1} after it: {0} is never alone.
            Check.due("stages(), link 20", cut.stages(), 2);
            Check.due("worst(), link 20", cut.worst(), 10);
            Check.due("spare(0, 1, 0), link 20", cut.spare(0, 1, 0), 10);
            apart(cut, "twice, link 20", true, false);
        }
        Check.due("link(0, 1, 15)", cut.link(0, 1, 15), 20);
        leastCuts(cut, 10, 15, 1, 125, 32);
    }
}
