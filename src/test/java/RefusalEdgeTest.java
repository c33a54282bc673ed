import java.util.List;
import java.util.function.ToIntFunction;

/** The edges of the terms "Refusals" and "Arguments": every refused call in every kind of state. */
public final class RefusalEdgeTest {
    private static final int BAD = SyndromeEmbedder.BAD;
    private static final int FULL = SyndromeEmbedder.FULL;
    private static final int NOT_READY = SyndromeEmbedder.NOT_READY;
    private static final int NO_RESULT = SyndromeEmbedder.NO_RESULT;
    private static final int[] COSTS = {SyndromeEmbedder.WET, 0, 1, 1000};
    private static final Checks CHECKS = new Checks();

    /** Calls that are all refused, made on the same object one after the other. */
    private interface Refused {
        void makeAll(Probe probe);
    }

    public static void main(String[] args) {
        statesAreWhatTheySay();
        refusalsChangeNothing();
        firstNamedRefusalIsAnswered();
        anyIntIsTaken();
        CHECKS.end();
    }

    /** An object in a state, read after each call or left alone. */
    private static final class Probe {
        final State state;
        private final SyndromeEmbedder x;
        private final boolean reads;
        private final List<String> untouched;

        Probe(State state, SyndromeEmbedder x, boolean reads) {
            this.state = state;
            this.x = x;
            this.reads = reads;
            untouched = Transcript.readers(state.make());
        }

        void refused(String call, int want, ToIntFunction<SyndromeEmbedder> made) {
            CHECKS.due(state.name + ": " + call, made.applyAsInt(x), want);
            if (reads) {
                CHECKS.same(state.name + " after " + call, Transcript.readers(x), untouched);
            }
        }
    }

    private static void probeAll(String group, Refused calls) {
        for (State state : State.all()) {
            calls.makeAll(new Probe(state, state.make(), true));
            String when = state.name + ", going on after " + group;
            CHECKS.changeNothing(when, state::make, x -> calls.makeAll(new Probe(state, x, false)));
        }
    }

    private static void statesAreWhatTheySay() {
        CHECKS.sentence("Terms, Result", "Either absent or present.");
        for (State state : State.all()) {
            SyndromeEmbedder x = state.make();
            CHECKS.holds(state.name + ": result", (x.totalCost() != NO_RESULT) == state.hasResult);
            CHECKS.holds(state.name + ": count", (x.optimalCount() != NO_RESULT) == state.hasResult);
            CHECKS.holds(state.name + ": altered", (x.alteredBit(0) != NO_RESULT) == state.hasResult);
            CHECKS.holds(state.name + ": received", (x.extractBit(0) != NO_RESULT) == state.hasResult);
        }
    }

    private static void refusalsChangeNothing() {
        CHECKS.sentence("Terms, Refusals",
                "A call that answers BAD, FULL, NOT_READY or NO_RESULT changes nothing.");
        probeAll("loadColumn", RefusalEdgeTest::wrongColumns);
        probeAll("columnBits", RefusalEdgeTest::wrongColumnReads);
        probeAll("addCover", RefusalEdgeTest::wrongElements);
        probeAll("setCost", RefusalEdgeTest::wrongCosts);
        probeAll("addMessage", RefusalEdgeTest::wrongMessageBits);
        probeAll("coverBit, coverCost, messageBit", RefusalEdgeTest::wrongReads);
        probeAll("embed", RefusalEdgeTest::unreadyEmbed);
        probeAll("totalCost, optimalCount", RefusalEdgeTest::absentResult);
        probeAll("alteredBit", RefusalEdgeTest::wrongAlteredBits);
        probeAll("flip", RefusalEdgeTest::wrongFlips);
        probeAll("extractBit", RefusalEdgeTest::wrongExtracts);
        probeAll("forcedCost", RefusalEdgeTest::wrongForces);
    }

    private static void wrongColumns(Probe p) {
        int values = 1 << p.state.h;
        for (int column : Ints.outside(0, p.state.w - 1)) {
            for (int bits : new int[] {0, 1, values - 1, values, -1}) {
                p.refused("loadColumn(" + column + ", " + bits + ")", BAD, x -> x.loadColumn(column, bits));
            }
        }
        for (int bits : Ints.outside(0, values - 1)) {
            for (int column = 0; column < p.state.w; column++) {
                int inside = column;
                p.refused("loadColumn(" + inside + ", " + bits + ")", BAD, x -> x.loadColumn(inside, bits));
            }
        }
    }

    private static void wrongColumnReads(Probe p) {
        for (int column : Ints.outside(0, p.state.w - 1)) {
            p.refused("columnBits(" + column + ")", BAD, x -> x.columnBits(column));
        }
    }

    private static void wrongElements(Probe p) {
        int want = p.state.n == 10 ? FULL : BAD;
        for (int bit : Ints.notBits()) {
            for (int cost : new int[] {SyndromeEmbedder.WET, 0, 1000, 1001, -2}) {
                p.refused("addCover(" + bit + ", " + cost + ")", want, x -> x.addCover(bit, cost));
            }
        }
        for (int cost : Ints.notCosts()) {
            p.refused("addCover(0, " + cost + ")", want, x -> x.addCover(0, cost));
            p.refused("addCover(1, " + cost + ")", want, x -> x.addCover(1, cost));
        }
        if (p.state.n == 10) {
            for (int cost : COSTS) {
                p.refused("addCover(0, " + cost + ")", FULL, x -> x.addCover(0, cost));
                p.refused("addCover(1, " + cost + ")", FULL, x -> x.addCover(1, cost));
            }
        }
    }

    private static void wrongCosts(Probe p) {
        for (int index : Ints.outside(0, p.state.n - 1)) {
            for (int cost : new int[] {SyndromeEmbedder.WET, 0, 6, 1000, 1001, -2}) {
                p.refused("setCost(" + index + ", " + cost + ")", BAD, x -> x.setCost(index, cost));
            }
        }
        for (int cost : Ints.notCosts()) {
            for (int i = 0; i < p.state.n; i++) {
                int index = i;
                p.refused("setCost(" + index + ", " + cost + ")", BAD, x -> x.setCost(index, cost));
            }
        }
    }

    private static void wrongMessageBits(Probe p) {
        boolean full = p.state.k == p.state.messageLimit();
        for (int bit : Ints.notBits()) {
            p.refused("addMessage(" + bit + ")", full ? FULL : BAD, x -> x.addMessage(bit));
        }
        if (full) {
            p.refused("addMessage(0)", FULL, x -> x.addMessage(0));
            p.refused("addMessage(1)", FULL, x -> x.addMessage(1));
        }
    }

    private static void wrongReads(Probe p) {
        for (int index : Ints.outside(0, p.state.n - 1)) {
            p.refused("coverBit(" + index + ")", BAD, x -> x.coverBit(index));
            p.refused("coverCost(" + index + ")", BAD, x -> x.coverCost(index));
        }
        for (int row : Ints.outside(0, p.state.k - 1)) {
            p.refused("messageBit(" + row + ")", BAD, x -> x.messageBit(row));
        }
    }

    private static void unreadyEmbed(Probe p) {
        if (!p.state.isReady()) {
            p.refused("embed()", NOT_READY, SyndromeEmbedder::embed);
            p.refused("embed() again", NOT_READY, SyndromeEmbedder::embed);
        }
    }

    private static void absentResult(Probe p) {
        if (!p.state.hasResult) {
            p.refused("totalCost()", NO_RESULT, SyndromeEmbedder::totalCost);
            p.refused("optimalCount()", NO_RESULT, SyndromeEmbedder::optimalCount);
        }
    }

    private static void wrongAlteredBits(Probe p) {
        int[] indexes = p.state.hasResult ? Ints.outside(0, p.state.n - 1) : Ints.any();
        for (int index : indexes) {
            int want = p.state.hasResult ? BAD : NO_RESULT;
            p.refused("alteredBit(" + index + ")", want, x -> x.alteredBit(index));
        }
    }

    private static void wrongFlips(Probe p) {
        int[] indexes = p.state.hasResult ? Ints.outside(0, p.state.n - 1) : Ints.any();
        for (int index : indexes) {
            int want = p.state.hasResult ? BAD : NO_RESULT;
            p.refused("flip(" + index + ")", want, x -> x.flip(index));
        }
    }

    private static void wrongExtracts(Probe p) {
        int[] rows = p.state.hasResult ? Ints.outside(0, p.state.k - 1) : Ints.any();
        for (int row : rows) {
            int want = p.state.hasResult ? BAD : NO_RESULT;
            p.refused("extractBit(" + row + ")", want, x -> x.extractBit(row));
        }
    }

    private static void wrongForces(Probe p) {
        int want = p.state.isReady() ? BAD : NOT_READY;
        for (int index : Ints.outside(0, p.state.n - 1)) {
            for (int bit : new int[] {0, 1, 2, -1}) {
                p.refused("forcedCost(" + index + ", " + bit + ")", want, x -> x.forcedCost(index, bit));
            }
        }
        for (int bit : Ints.notBits()) {
            for (int i = 0; i < p.state.n; i++) {
                int index = i;
                p.refused("forcedCost(" + index + ", " + bit + ")", want, x -> x.forcedCost(index, bit));
            }
        }
        if (!p.state.isReady()) {
            p.refused("forcedCost(0, 0)", NOT_READY, x -> x.forcedCost(0, 0));
            p.refused("forcedCost(0, 1)", NOT_READY, x -> x.forcedCost(0, 1));
        }
    }

    private static void firstNamedRefusalIsAnswered() {
        CHECKS.sentence("Terms, Refusals",
                "Where several refusals would fit, the one named first in the promise is answered.");
        SyndromeEmbedder full = new SyndromeEmbedder(2, 1);
        for (int i = 0; i < 10; i++) {
            full.addCover(0, 1);
            full.addMessage(1);
        }
        CHECKS.due("FULL before BAD: addCover(2, 1001)", full.addCover(2, 1001), FULL);
        CHECKS.due("FULL before BAD: addMessage(2)", full.addMessage(2), FULL);
        SyndromeEmbedder empty = new SyndromeEmbedder(2, 1);
        CHECKS.due("NO_RESULT before BAD: alteredBit(0)", empty.alteredBit(0), NO_RESULT);
        CHECKS.due("NO_RESULT before BAD: flip(-1)", empty.flip(-1), NO_RESULT);
        CHECKS.due("NO_RESULT before BAD: extractBit(0)", empty.extractBit(0), NO_RESULT);
        CHECKS.due("NOT_READY before BAD: forcedCost(0, 2)", empty.forcedCost(0, 2), NOT_READY);
        SyndromeEmbedder unsolved = new SyndromeEmbedder(2, 1);
        unsolved.loadColumn(0, 0);
        unsolved.addCover(0, 1);
        unsolved.addMessage(1);
        CHECKS.due("embed()", unsolved.embed(), SyndromeEmbedder.NO_SOLUTION);
        CHECKS.due("BAD before NO_SOLUTION: forcedCost(0, 2)", unsolved.forcedCost(0, 2), BAD);
        CHECKS.due("BAD before NO_SOLUTION: forcedCost(1, 0)", unsolved.forcedCost(1, 0), BAD);
    }

    private static void anyIntIsTaken() {
        CHECKS.sentence("Terms, Arguments",
                "They may be any ints, including negative ones and the least and greatest int.");
        for (int one : Ints.any()) {
            for (int other : Ints.any()) {
                try {
                    callAll(one, other);
                } catch (RuntimeException e) {
                    CHECKS.holds("no call throws with " + one + " and " + other + ", but " + e, false);
                }
            }
        }
    }

    private static void callAll(int one, int other) {
        compare(one, other, new SyndromeEmbedder(one, other), new Model(one, other));
        SyndromeEmbedder x = new SyndromeEmbedder(2, 2);
        Model model = new Model(2, 2);
        for (int i = 0; i < 4; i++) {
            x.addCover(0, i);
            model.addCover(0, i);
        }
        for (int row = 0; row < 2; row++) {
            x.addMessage(1);
            model.addMessage(1);
        }
        CHECKS.due("embed()", x.embed(), model.embed());
        compare(one, other, x, model);
    }

    private static void compare(int one, int other, SyndromeEmbedder x, Model model) {
        String with = " with " + one + " and " + other;
        CHECKS.due("columnBits" + with, x.columnBits(one), model.columnBits(one));
        CHECKS.due("coverBit" + with, x.coverBit(one), model.coverBit(one));
        CHECKS.due("coverCost" + with, x.coverCost(one), model.coverCost(one));
        CHECKS.due("messageBit" + with, x.messageBit(one), model.messageBit(one));
        CHECKS.due("alteredBit" + with, x.alteredBit(one), model.alteredBit(one));
        CHECKS.due("flip" + with, x.flip(one), model.flip(one));
        CHECKS.due("extractBit" + with, x.extractBit(other), model.extractBit(other));
        CHECKS.due("forcedCost" + with, x.forcedCost(one, other), model.forcedCost(one, other));
        CHECKS.due("loadColumn" + with, x.loadColumn(one, other), model.loadColumn(one, other));
        CHECKS.due("setCost" + with, x.setCost(one, other), model.setCost(one, other));
        CHECKS.due("addMessage" + with, x.addMessage(one), model.addMessage(one));
        CHECKS.due("addCover" + with, x.addCover(one, other), model.addCover(one, other));
        CHECKS.due("embed" + with, x.embed(), model.embed());
        CHECKS.due("totalCost" + with, x.totalCost(), model.totalCost());
    }
}
