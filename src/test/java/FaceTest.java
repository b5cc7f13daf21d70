import java.lang.reflect.Method;
import java.lang.reflect.Modifier;
import java.util.Arrays;
import java.util.TreeSet;
import java.util.stream.Collectors;

/** The public face, and promise 1: a new object. */
public final class FaceTest {
    private static final String[] FACE = {
        "int line(int int int int) IndexOutOfBoundsException IllegalStateException IllegalArgumentException",
        "int put() IllegalStateException UnsupportedOperationException",
        "void drop()",
        "int correct(int int int int int) IndexOutOfBoundsException IllegalStateException"
            + " IllegalArgumentException UnsupportedOperationException",
        "int reverse(int int) IndexOutOfBoundsException IllegalStateException UnsupportedOperationException",
        "int close() IllegalStateException",
        "long told(int int) IndexOutOfBoundsException",
        "int many(int) IndexOutOfBoundsException",
        "void weight(int int) IndexOutOfBoundsException IllegalArgumentException",
        "long share(int int) IndexOutOfBoundsException IllegalArgumentException UnsupportedOperationException",
        "int stock(int int int) IndexOutOfBoundsException IllegalStateException IllegalArgumentException",
        "long take(int int) IndexOutOfBoundsException IllegalArgumentException UnsupportedOperationException",
        "long in(int int) IndexOutOfBoundsException",
        "int rate(int int int) IndexOutOfBoundsException IllegalStateException IllegalArgumentException",
        "long foreign(int int int) IndexOutOfBoundsException IllegalArgumentException"
            + " UnsupportedOperationException",
        "int piece(int int) IndexOutOfBoundsException IllegalStateException IllegalArgumentException",
        "long opened(int) IndexOutOfBoundsException",
    };

    public static void main(String[] args) {
        face();
        newObject();
        objectsAreApart();
        Check.end("FaceTest");
    }

    private static void face() {
        TreeSet<String> found = new TreeSet<>();
        TreeSet<String> hidden = new TreeSet<>();
        for (Method m : ShopLedger.class.getDeclaredMethods()) {
            if (Modifier.isPrivate(m.getModifiers())) {
                hidden.add(m.getName());
            } else {
                found.add(signature(m));
            }
        }
        Check.same("the face", new TreeSet<>(Arrays.asList(FACE)).toString(), found.toString());
        for (Method m : ShopLedger.class.getMethods()) {
            if (hidden.contains(m.getName())) {
                Check.fail("a private method bears the name " + m.getName());
            }
        }
        Check.due("modifiers", Modifier.PUBLIC | Modifier.FINAL, ShopLedger.class.getModifiers());
        Check.due("public constructors", 1, ShopLedger.class.getConstructors().length);
        Check.due("public fields", 0, ShopLedger.class.getFields().length);
    }

    private static String signature(Method m) {
        String parameters = Arrays.stream(m.getParameterTypes()).map(Class::getSimpleName)
            .collect(Collectors.joining(" "));
        String thrown = Arrays.stream(m.getExceptionTypes()).map(c -> " " + c.getSimpleName())
            .collect(Collectors.joining());
        return m.getReturnType().getSimpleName() + " " + m.getName() + "(" + parameters + ")" + thrown;
    }

    private static void newObject() {
        ShopLedger x = new ShopLedger();
        for (int what = 0; what < 5; what++) {
            Check.due("new many(" + what + ")", 0, x.many(what));
        }
        for (int what = 0; what < 3; what++) {
            for (int k = 0; k < (what == 2 ? 12 : 8); k++) {
                Check.due("new told(" + what + ", " + k + ")", 0, x.told(what, k));
            }
        }
        for (int what = 3; what < 8; what++) {
            int w = what;
            Check.refused("new told(" + what + ", 0)", Check.INDEX, () -> x.told(w, 0));
        }
        for (int stock = 0; stock < 4; stock++) {
            for (int what = 0; what < 3; what++) {
                Check.due("new in(" + stock + ", " + what + ")", 0, x.in(stock, what));
            }
        }
        for (int money = 0; money < 3; money++) {
            int m = money;
            Check.refused("new foreign", Check.MEANING, () -> x.foreign(m, 365, 1));
        }
        for (int order = 0; order < 8; order++) {
            int k = order;
            Check.refused("new share", Check.MEANING, () -> x.share(k, 1));
        }
        Check.refused("new opened(0)", Check.INDEX, () -> x.opened(0));
        Check.refused("new reverse(0, 0)", Check.INDEX, () -> x.reverse(0, 0));
        Check.refused("new put()", Check.MEANING, x::put);
        for (int month = 0; month < 12; month++) {
            Check.due("new correct", month, x.correct(0, 1, 0, month, 1));
        }
    }

    private static void objectsAreApart() {
        String fresh = Telling.all(new ShopLedger());
        ShopLedger beside = new ShopLedger();
        Setup.some(new ShopLedger());
        Check.same("an object beside another that is used", fresh, Telling.all(beside));
        Check.same("an object behind another that was used", fresh, Telling.all(new ShopLedger()));
    }
}
