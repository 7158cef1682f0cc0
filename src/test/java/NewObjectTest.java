/** Promise 1: a new object has an empty text, has nothing written and has counted nothing. */
public final class NewObjectTest {
    public static void main(String[] args) {
        for (int what = 0; what <= 4; what++) {
            Check.same("count(" + what + ")", new RealText().count(what), 0);
        }
        Check.same("take()", new RealText().take(), 0L);
        Check.same("back()", new RealText().back(), 0);
        Check.same("text(0)", new RealText().text(0), 0);
        Check.fails("read(false)", () -> new RealText().read(false),
                IllegalArgumentException.class);
        Check.fails("read(true)", () -> new RealText().read(true), IllegalArgumentException.class);
        objectsAreApart();
        Check.end();
    }

    private static void objectsAreApart() {
        RealText one = new RealText();
        RealText other = new RealText();
        Check.put(one, "12.5");
        one.write(0, false);
        Check.same("text of the other", other.count(0), 0);
        Check.same("written of the other", other.count(1), 0);
        Check.put(other, "3");
        Check.answers("read of the other", () -> other.read(false),
                Double.doubleToRawLongBits(3));
        Check.answers("read of the one", () -> one.read(false), Double.doubleToRawLongBits(12.5));
    }
}
