/** Promise 7: clear. */
public final class ClearTest {
    private static final int OK = SyndromeEmbedder.OK;
    private static final int BAD = SyndromeEmbedder.BAD;
    private static final Checks CHECKS = new Checks();

    public static void main(String[] args) {
        checkAtStart();
        checkAfterEmbed();
        checkSecondUse();
        checkFullLists();
        CHECKS.end();
    }

    private static void checkEmpty(SyndromeEmbedder x) {
        CHECKS.due("coverBit(0)", x.coverBit(0), BAD);
        CHECKS.due("coverCost(0)", x.coverCost(0), BAD);
        CHECKS.due("setCost(0, 1)", x.setCost(0, 1), BAD);
        CHECKS.due("messageBit(0)", x.messageBit(0), BAD);
        CHECKS.due("totalCost()", x.totalCost(), SyndromeEmbedder.NO_RESULT);
        CHECKS.due("optimalCount()", x.optimalCount(), SyndromeEmbedder.NO_RESULT);
        CHECKS.due("alteredBit(0)", x.alteredBit(0), SyndromeEmbedder.NO_RESULT);
        CHECKS.due("flip(0)", x.flip(0), SyndromeEmbedder.NO_RESULT);
        CHECKS.due("extractBit(0)", x.extractBit(0), SyndromeEmbedder.NO_RESULT);
        CHECKS.due("embed()", x.embed(), SyndromeEmbedder.NOT_READY);
        CHECKS.due("forcedCost(0, 0)", x.forcedCost(0, 0), SyndromeEmbedder.NOT_READY);
    }

    private static void checkAtStart() {
        SyndromeEmbedder x = new SyndromeEmbedder(4, 3);
        x.clear();
        checkEmpty(x);
        CHECKS.due("columnBits(2)", x.columnBits(2), 1);
    }

    private static SyndromeEmbedder embedded() {
        SyndromeEmbedder x = new SyndromeEmbedder(3, 2);
        x.loadColumn(0, 7);
        x.loadColumn(1, 0);
        x.addCover(1, 9);
        x.addCover(1, SyndromeEmbedder.WET);
        x.addCover(1, 3);
        x.addCover(1, 2);
        x.addMessage(1);
        x.addMessage(1);
        CHECKS.due("embed()", x.embed(), OK);
        CHECKS.due("totalCost()", x.totalCost(), 3);
        return x;
    }

    private static void checkAfterEmbed() {
        SyndromeEmbedder x = embedded();
        x.flip(0);
        x.clear();
        checkEmpty(x);
        CHECKS.due("columnBits(0)", x.columnBits(0), 7);
        CHECKS.due("columnBits(1)", x.columnBits(1), 0);
        CHECKS.due("columnBits(2)", x.columnBits(2), BAD);
        CHECKS.due("loadColumn(0, 8)", x.loadColumn(0, 8), BAD);
        x.clear();
        checkEmpty(x);
    }

    /** What was fed before the clear must not show in what is fed after it. */
    private static void checkSecondUse() {
        SyndromeEmbedder x = embedded();
        x.clear();
        CHECKS.due("addCover(0, 5)", x.addCover(0, 5), OK);
        CHECKS.due("coverBit(0)", x.coverBit(0), 0);
        CHECKS.due("coverCost(0)", x.coverCost(0), 5);
        CHECKS.due("coverBit(1)", x.coverBit(1), BAD);
        CHECKS.due("addCover(0, 6)", x.addCover(0, 6), OK);
        CHECKS.due("coverBit(1)", x.coverBit(1), 0);
        CHECKS.due("addMessage(0)", x.addMessage(0), OK);
        CHECKS.due("messageBit(0)", x.messageBit(0), 0);
        CHECKS.due("totalCost() before embed", x.totalCost(), SyndromeEmbedder.NO_RESULT);
        CHECKS.due("embed()", x.embed(), OK);
        CHECKS.due("totalCost()", x.totalCost(), 0);
        CHECKS.due("optimalCount()", x.optimalCount(), 1);
        CHECKS.due("alteredBit(0)", x.alteredBit(0), 0);
        CHECKS.due("extractBit(0)", x.extractBit(0), 0);
        CHECKS.due("extractBit(1)", x.extractBit(1), BAD);
    }

    private static void checkFullLists() {
        SyndromeEmbedder x = new SyndromeEmbedder(2, 3);
        for (int round = 0; round < 3; round++) {
            for (int i = 0; i < 10; i++) {
                CHECKS.due("addCover " + i, x.addCover(1, 1), OK);
            }
            CHECKS.due("addCover at 10", x.addCover(1, 1), SyndromeEmbedder.FULL);
            for (int i = 0; i < 3; i++) {
                CHECKS.due("addMessage " + i, x.addMessage(1), OK);
            }
            CHECKS.due("addMessage at 3", x.addMessage(1), SyndromeEmbedder.FULL);
            x.clear();
            checkEmpty(x);
        }
    }
}
