/** Promise 1: a new object has an empty text, has nothing written and has counted nothing. */
public final class NewObjectTest {
    public static void main(String[] args) {
        nothingIsCounted();
        theTextIsEmpty();
        nothingIsWritten();
        objectsAreApart();
        Check.end();
    }

    private static void nothingIsCounted() {
        Check.counts("of a new object", new RealText(), 0, 0, 0, 0, 0);
    }

    private static void theTextIsEmpty() {
        Check.same("text(0)", new RealText().text(0), 0);
        Check.same("the first character", new RealText().text(Check.word("7")), 1);
        Check.same("only what came is read", Check.readOutcome("7", false),
                Long.toString(Check.bits(7.0)));
        Check.fails("read(false)", () -> new RealText().read(false),
                IllegalArgumentException.class);
        Check.fails("read(true)", () -> new RealText().read(true), IllegalArgumentException.class);
    }

    private static void nothingIsWritten() {
        Check.same("take()", new RealText().take(), 0L);
        Check.same("back()", new RealText().back(), 0);
    }

    private static void objectsAreApart() {
        RealText one = new RealText();
        RealText other = new RealText();
        Check.put(one, "12.5");
        one.write(0, false);
        Check.outcome(() -> other.read(false));
        Check.counts("of the one", one, 4, 3, 0, 0, 0);
        Check.counts("of the other", other, 0, 0, 0, 1, 0);
        Check.put(other, "3");
        Check.answers("read of the other", () -> other.read(false), Check.bits(3.0));
        Check.answers("read of the one", () -> one.read(false), Check.bits(12.5));
        Check.counts("of a third", new RealText(), 0, 0, 0, 0, 0);
    }
}
