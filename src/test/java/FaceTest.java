import java.lang.reflect.Field;
import java.lang.reflect.Method;
import java.lang.reflect.Modifier;
import java.util.ArrayDeque;
import java.util.ArrayList;
import java.util.Arrays;
import java.util.Collections;
import java.util.Deque;
import java.util.IdentityHashMap;
import java.util.List;
import java.util.Objects;
import java.util.Set;
import java.util.TreeSet;
import java.util.stream.Collectors;

/** The public face, and promise 1: a new object. */
public final class FaceTest {
    private static final String[] FACE = {
        "int line(int int int int) IndexOutOfBoundsException IllegalStateException IllegalArgumentException",
        "int put() IllegalStateException UnsupportedOperationException",
        "void drop()",
        "int correct(int int int int int) IndexOutOfBoundsException IllegalStateException"
            + " IllegalArgumentException UnsupportedOperationException",
        "int reverse(int int) IndexOutOfBoundsException IllegalStateException UnsupportedOperationException",
        "int close() IllegalStateException",
        "long told(int int) IndexOutOfBoundsException",
        "int many(int) IndexOutOfBoundsException",
        "void weight(int int) IndexOutOfBoundsException IllegalArgumentException",
        "long share(int int) IndexOutOfBoundsException IllegalArgumentException UnsupportedOperationException",
        "int stock(int int int) IndexOutOfBoundsException IllegalStateException IllegalArgumentException",
        "long take(int int) IndexOutOfBoundsException IllegalArgumentException UnsupportedOperationException",
        "long in(int int) IndexOutOfBoundsException",
        "int rate(int int int) IndexOutOfBoundsException IllegalStateException IllegalArgumentException",
        "long foreign(int int int) IndexOutOfBoundsException IllegalArgumentException"
            + " UnsupportedOperationException",
        "int piece(int int) IndexOutOfBoundsException IllegalStateException IllegalArgumentException",
        "long opened(int) IndexOutOfBoundsException",
    };

    public static void main(String[] args) {
        Check.sentence("The public face", FaceTest::face);
        Check.sentence("no other public, protected or package-visible member", FaceTest::noOtherMember);
        Check.sentence("No entries, all months open, no stocks, rates, pieces", FaceTest::newObject);
        Check.sentence("all months open: each takes a batch, a correction and a reversal", FaceTest::allOpen);
        Check.sentence("An object is used for at most 512 calls: the 512th is still answered",
            FaceTest::lastCall);
        Check.sentence("a new object is new, whatever became of others", FaceTest::apart);
        Check.sentence("All memory is rows made once", FaceTest::rowsMadeOnce);
        Check.end("FaceTest");
    }

    private static void face() {
        TreeSet<String> found = new TreeSet<>();
        TreeSet<String> hidden = new TreeSet<>();
        for (Method m : ShopLedger.class.getDeclaredMethods()) {
            if (Modifier.isPrivate(m.getModifiers())) {
                hidden.add(m.getName());
            } else {
                found.add(signature(m));
            }
        }
        Check.same("the face", new TreeSet<>(Arrays.asList(FACE)).toString(), found.toString());
        for (Method m : ShopLedger.class.getMethods()) {
            if (hidden.contains(m.getName())) {
                Check.fail("a private method bears the name " + m.getName());
            }
        }
        Check.due("modifiers", Modifier.PUBLIC | Modifier.FINAL, ShopLedger.class.getModifiers());
        Check.due("public constructors", 1, ShopLedger.class.getConstructors().length);
    }

    private static void noOtherMember() {
        Check.due("constructors", 1, ShopLedger.class.getDeclaredConstructors().length);
        for (Field field : ShopLedger.class.getDeclaredFields()) {
            if (!Modifier.isPrivate(field.getModifiers())) {
                Check.fail("a field that is not private: " + field.getName());
            }
        }
        for (Class<?> inside : ShopLedger.class.getDeclaredClasses()) {
            int modifiers = inside.getModifiers();
            if (!Modifier.isStatic(modifiers) || Modifier.isPublic(modifiers) || Modifier.isProtected(modifiers)) {
                Check.fail("a class inside that is not static, or seen from outside: " + inside.getName());
            }
        }
        Check.same("what the class extends", Object.class.getName(), ShopLedger.class.getSuperclass().getName());
        Check.due("what it implements", 0, ShopLedger.class.getInterfaces().length);
    }

    private static String signature(Method m) {
        String parameters = Arrays.stream(m.getParameterTypes()).map(Class::getSimpleName)
            .collect(Collectors.joining(" "));
        String thrown = Arrays.stream(m.getExceptionTypes()).map(c -> " " + c.getSimpleName())
            .collect(Collectors.joining());
        return m.getReturnType().getSimpleName() + " " + m.getName() + "(" + parameters + ")" + thrown;
    }

    private static void newObject() {
        ShopLedger x = new ShopLedger();
        Setup.full(new ShopLedger());
        for (int what = 0; what < 3; what++) {
            for (int k = 0; k < (what == 2 ? 12 : 8); k++) {
                Check.due("balance of " + what + ", " + k, 0, x.told(what, k));
            }
        }
        for (int stock = 0; stock < 4; stock++) {
            int s = stock;
            for (int what = 0; what < 3; what++) {
                Check.due("in(" + stock + ", " + what + ")", 0, x.in(stock, what));
            }
            Check.refused("take of one", Check.MEANING, () -> x.take(s, 1));
        }
        for (int money = 0; money < 3; money++) {
            int m = money;
            Check.refused("foreign on day 0", Check.MEANING, () -> x.foreign(m, 0, 0));
            Check.refused("foreign on day 365", Check.MEANING, () -> x.foreign(m, 365, 0));
        }
        for (int order = 0; order < 8; order++) {
            int k = order;
            Check.refused("share", Check.MEANING, () -> x.share(k, 0));
        }
        Check.refused("opened", Check.INDEX, () -> x.opened(0));
        Check.refused("reverse", Check.INDEX, () -> x.reverse(0, 0));
        Check.refused("put", Check.MEANING, x::put);
        Check.due("close", 0, x.close());
    }

    private static void allOpen() {
        ShopLedger x = new ShopLedger();
        for (int month = 0; month < 12; month++) {
            x.line(0, 0, month, 1);
            x.line(0, 0, month, -1);
            Check.due("put in month " + month, 3 * month, x.put());
            Check.due("correct in month " + month, 3 * month + 1, x.correct(0, 1, 0, month, 1));
            Check.due("reverse in month " + month, 3 * month + 2, x.reverse(3 * month, month));
        }
    }

    /** The books, lines, layers and rates are full and used again and again up to the last call. */
    private static void lastCall() {
        ShopLedger x = new ShopLedger();
        Setup.corrections(x, 100);
        int calls = 100;
        while (calls <= 512 - 20) {
            Setup.tell(x, 16);
            Check.refused("put when full", Check.MEANING, x::put);
            x.stock(0, 1_000_000, 1_000_000);
            Check.due("take", 1_000_000_000_000L, x.take(0, 1_000_000));
            calls += 19;
        }
        while (calls < 511) {
            x.weight(7, 1 + calls % 2);
            calls++;
        }
        Check.due("the 512th call", 100, x.told(0, 1));
    }

    private static void apart() {
        String fresh = Telling.behind(x -> { });
        Check.same("what a new object tells beside one that is full", fresh,
            Telling.behind(x -> Setup.full(new ShopLedger())));
        Check.same("what some tells beside one that is full", Telling.behind(Setup::some), Telling.behind(x -> {
            Setup.some(x);
            Setup.full(new ShopLedger());
        }));
    }

    /** The arrays that are reached from an object are the same ones from its making to its last call. */
    private static void rowsMadeOnce() {
        ShopLedger x = new ShopLedger();
        Set<Object> before = arrays(x);
        Setup.full(x);
        x.take(1, 78);
        Setup.layers(x, 1);
        x.drop();
        Setup.lines(x, 8);
        Set<Object> behind = arrays(x);
        Check.due("arrays", before.size(), behind.size());
        Check.due("arrays that were there before", before.size(), behind.stream().filter(before::contains).count());
    }

    private static Set<Object> arrays(Object root) {
        Set<Object> seen = Collections.newSetFromMap(new IdentityHashMap<>());
        Set<Object> arrays = Collections.newSetFromMap(new IdentityHashMap<>());
        Deque<Object> open = new ArrayDeque<>(List.of(root));
        while (!open.isEmpty()) {
            Object one = open.pop();
            if (!seen.add(one)) {
                continue;
            }
            if (one.getClass().isArray()) {
                arrays.add(one);
            }
            open.addAll(references(one));
        }
        return arrays;
    }

    private static List<Object> references(Object one) {
        List<Object> found = new ArrayList<>();
        if (one instanceof Object[] row) {
            found.addAll(Arrays.asList(row));
        }
        for (Field field : one.getClass().getDeclaredFields()) {
            if (!field.getType().isPrimitive() && !Modifier.isStatic(field.getModifiers())) {
                found.add(valueOf(field, one));
            }
        }
        found.removeIf(Objects::isNull);
        return found;
    }

    private static Object valueOf(Field field, Object one) {
        try {
            field.setAccessible(true);
            return field.get(one);
        } catch (IllegalAccessException e) {
            throw new IllegalStateException(e);
        }
    }
}
