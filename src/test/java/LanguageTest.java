import java.io.IOException;
import java.lang.reflect.Field;
import java.lang.reflect.Method;
import java.lang.reflect.Modifier;
import java.nio.charset.StandardCharsets;
import java.nio.file.Files;
import java.nio.file.Path;
import java.util.ArrayList;
import java.util.List;
import java.util.Set;
import java.util.regex.Matcher;
import java.util.regex.Pattern;

/** Those rules of LANGUAGE.md that can be looked up in the source and in the classes. */
final class LanguageTest {
    private static final Checks c = new Checks("LanguageTest");
    private static final Path SOURCE = Path.of("src", "main", "java", "ChantryRolls.java");
    private static final Set<Class<?>> STATICS =
            Set.of(int.class, long.class, boolean.class, char.class, String.class, int[].class, long[].class, char[].class,
                    byte[].class);

    public static void main(String[] args) throws IOException {
        String source = Files.readString(SOURCE, StandardCharsets.ISO_8859_1);
        String code = withoutComments(source);
        words(code);
        imports(code);
        methodLengths(code);
        classes();
        room();
        c.finish();
    }

    private static String withoutComments(String source) {
        return source.replaceAll("(?s)/\\*.*?\\*/", "").replaceAll("//[^\n]*", "");
    }

    private static void none(String rule, String code, String pattern) {
        Matcher m = Pattern.compile(pattern).matcher(code);
        boolean found = m.find();
        c.due(rule + (found ? " (" + m.group() + ")" : ""), found ? 1 : 0, 0);
    }

    private static void words(String code) {
        none("6: no such word", code, "\\b(throw|throws|try|catch|finally|synchronized|assert|volatile|native)\\b");
        none("2: no lambda, no method reference", code, "->|::");
        none("2: no class without a name", code, "new \\w+\\([^()]*\\)\\s*\\{");
        none("4: none whose name ends in Exact", code, "\\w+Exact\\b");
        none("5: no static initialiser", code, "static\\s*\\{");
        none("6: no hashCode, no toString", code, "\\b(hashCode|toString|identityHashCode)\\b");
        none("10: texts are not joined by +", code, "\"\\s*\\+|\\+\\s*\"");
        none("13: no clock, no chance", code, "currentTimeMillis|nanoTime|random|Random|Thread|getenv|File");
        none("4: signs 1 to 127", code, "[^\\x01-\\x7F]");
        none("1: no package line", code, "(?m)^package ");
    }

    private static void imports(String code) {
        Matcher m = Pattern.compile("(?m)^import (.*);$").matcher(code);
        while (m.find()) {
            c.due("4: import of " + m.group(1), m.group(1).equals("java.util.Arrays") ? 1 : 0, 1);
        }
    }

    private static void methodLengths(String code) {
        int from = 0;
        String head = "";
        String[] lines = code.split("\n");
        for (int i = 0; i < lines.length; i++) {
            if (lines[i].matches("    (    )?[a-z].*\\(.*\\) \\{")) {
                from = i;
                head = lines[i].trim();
            }
            if (lines[i].matches("    (    )?\\}")) {
                c.due("11: short: " + head, i - from <= 60 ? 1 : 0, 1);
            }
        }
    }

    private static void classes() {
        List<Class<?>> all = new ArrayList<>();
        all.add(ChantryRolls.class);
        for (Class<?> inside : ChantryRolls.class.getDeclaredClasses()) {
            all.add(inside);
            c.due("2: static: " + inside, Modifier.isStatic(inside.getModifiers()) ? 1 : 0, 1);
            c.due("1: not public: " + inside, Modifier.isPublic(inside.getModifiers()) ? 1 : 0, 0);
            c.due("2: none inside " + inside, inside.getDeclaredClasses().length, 0);
        }
        c.due("11: twelve classes", all.size() <= 12 ? 1 : 0, 1);
        for (Class<?> one : all) {
            int fields = 0;
            for (Field field : one.getDeclaredFields()) {
                if (Modifier.isStatic(field.getModifiers())) {
                    c.due("5: final: " + field, Modifier.isFinal(field.getModifiers()) ? 1 : 0, 1);
                    c.due("5: a constant: " + field, STATICS.contains(field.getType()) ? 1 : 0, 1);
                } else {
                    fields++;
                }
            }
            c.due("11: twenty fields: " + one, fields <= 20 ? 1 : 0, 1);
            for (Method method : one.getDeclaredMethods()) {
                c.due("11: seven parameters: " + method, method.getParameterCount() <= 7 ? 1 : 0, 1);
            }
        }
    }

    /** Rows are made with the object: its calls make nothing. */
    private static void room() {
        com.sun.management.ThreadMXBean memory =
                (com.sun.management.ThreadMXBean) java.lang.management.ManagementFactory.getThreadMXBean();
        ChantryRolls x = Checks.with("mass priest 1 from 5 house 1 pays 50; obit altar 1 bread 2; mass altar 2 soul 7;");
        useAll(x);
        long ahead = memory.getCurrentThreadAllocatedBytes();
        useAll(x);
        long used = memory.getCurrentThreadAllocatedBytes() - ahead;
        // What the measuring itself makes is far below one small object a call.
        c.due("12: " + used + " bytes made by calls", used < 500 ? 1 : 0, 1);
        c.due("12: what an object holds", elements() < 4000 ? 1 : 0, 1);
    }

    private static void useAll(ChantryRolls x) {
        x.sheet(0, 2, 60);
        x.set(0, 1, 5);
        x.copy(0, 0, 0, 1, 3);
        x.feed(0x6D61737320736F75L, 8);
        x.feed(0x6C20393B20L, 5);
        x.deeds();
        for (int i = 0; i < 10; i++) {
            x.fault();
            x.told(0, i);
            x.feast(10 * i, 1);
            x.count(0, 100, 2);
            x.vow(1, 2);
            x.sick(2, i, i);
            x.say(0, i, 0);
            x.lines(0, 0, 20);
            x.good(i);
            x.join(0, 2, 1000 * i);
            x.split(2, 1000 * i + 9);
            x.house(1, 0, 100 * i);
            x.repair(1, i, 5);
            x.empty(1, 30 * i, 40 * i);
            x.rent(1, i);
            x.comes(0, i, 1);
            x.fails(0);
            x.price(1, i);
            x.spent(i);
            x.vacant(0, i, 0, 1, 0);
            x.turn(0, 50);
            x.act(9000 + i, 0, i, 1);
            x.taken(0);
            x.pension(1, 9999);
            x.bid(1, i, 10);
            x.sold(1, 9999);
            x.dawn(7, i, Checks.NONE);
            x.day(i);
            x.kind(0);
            x.as(0, 1);
            x.ask(0, i % 2);
            x.trace(0);
            x.all(i);
            x.status();
        }
        x.drop(0);
    }

    /** Fields and elements of one object and of all that it holds. */
    private static int elements() {
        java.util.IdentityHashMap<Object, Object> seen = new java.util.IdentityHashMap<>();
        List<Object> left = new ArrayList<>();
        left.add(new ChantryRolls());
        int elements = 0;
        while (!left.isEmpty()) {
            Object object = left.remove(left.size() - 1);
            if (object == null || seen.put(object, object) != null) {
                continue;
            }
            if (object.getClass().isArray()) {
                int length = java.lang.reflect.Array.getLength(object);
                elements += length;
                for (int i = 0; i < length && !object.getClass().getComponentType().isPrimitive(); i++) {
                    left.add(java.lang.reflect.Array.get(object, i));
                }
                continue;
            }
            for (Field field : object.getClass().getDeclaredFields()) {
                if (!Modifier.isStatic(field.getModifiers())) {
                    elements++;
                    left.add(field.getType().isPrimitive() ? null : held(field, object));
                }
            }
        }
        return elements;
    }

    private static Object held(Field field, Object object) {
        try {
            field.setAccessible(true);
            return field.get(object);
        } catch (IllegalAccessException e) {
            throw new IllegalStateException(e);
        }
    }
}
