import java.lang.reflect.Constructor;
import java.lang.reflect.Field;
import java.lang.reflect.Method;
import java.lang.reflect.Modifier;
import java.nio.charset.StandardCharsets;
import java.nio.file.Files;
import java.nio.file.Path;
import java.util.Set;
import java.util.TreeSet;
import java.util.regex.Matcher;
import java.util.regex.Pattern;

/** The face of the document, and the rules of LANGUAGE.md that can be seen from outside or in single words. */
public final class LanguageTest {
    private static final String[] FACE = {"assemble(int):int", "back(int):int", "byteAt(int,int):int", "check(int):int", "cut(int,int):boolean", "end(int):int",
        "extend(int,int,long):boolean", "fault(int):int", "feed(int,int,int,int,int):void", "get(int):int", "halt(int,boolean):boolean", "input(int,long):boolean", "letter(int):int",
        "link(int,boolean):int", "linked(int):int", "load():int", "object(int,int,int):int", "output(int):int", "peek(int):int", "place():int", "rights(int):int", "run(int):int",
        "set(int,int):boolean", "size(int):int", "spoil(int,int,int):int", "state(int):int", "step():int", "take(int):int", "tell(int):int", "where(long,long):int"};
    private static final Set<String> IMPORTS = Set.of("java.util.NoSuchElementException", "java.util.ArrayList", "java.util.List", "java.util.Arrays", "java.util.Iterator");
    private static final Set<String> THROWN = Set.of("IllegalStateException", "IllegalArgumentException", "IndexOutOfBoundsException", "ArithmeticException", "UnsupportedOperationException",
        "NoSuchElementException", "RuntimeException");

    public static void main(String[] args) throws Exception {
        face();
        for (Class<?> inside : ChainHouse.class.getDeclaredClasses()) {
            within(inside);
        }
        Check.due("some twelve classes", ChainHouse.class.getDeclaredClasses().length <= 15, true);
        within(ChainHouse.class);
        byte[] bytes = Files.readAllBytes(Path.of("src/main/java/ChainHouse.java"));
        for (byte b : bytes) {
            Check.due("a sign of the source is 1 to 127", b > 0, true);
        }
        words(new String(bytes, StandardCharsets.US_ASCII));
        Check.end();
    }

    private static void face() throws Exception {
        Class<?> face = ChainHouse.class;
        Check.due("public and final", Modifier.isPublic(face.getModifiers()) && Modifier.isFinal(face.getModifiers()), true);
        Set<String> seen = new TreeSet<>();
        Set<String> names = new TreeSet<>();
        for (Method m : face.getDeclaredMethods()) {
            if (Modifier.isPublic(m.getModifiers())) {
                seen.add(told(m));
                names.add(m.getName());
                Check.due("static: " + m.getName(), Modifier.isStatic(m.getModifiers()), false);
            }
        }
        Check.due("the face", seen.toString(), new TreeSet<>(Set.of(FACE)).toString());
        for (Method m : face.getDeclaredMethods()) {
            if (!Modifier.isPublic(m.getModifiers()) && !m.isSynthetic()) {
                Check.due(m.getName() + " is private", Modifier.isPrivate(m.getModifiers()), true);
                Check.due(m.getName() + " has a name of the face", names.contains(m.getName()), false);
            }
        }
        int constructors = 0;
        for (Constructor<?> c : face.getDeclaredConstructors()) {
            constructors += Modifier.isPublic(c.getModifiers()) && c.getParameterCount() == 0 ? 1 : 0;
        }
        Check.due("the public constructor", constructors, 1);
        for (Field f : face.getDeclaredFields()) {
            boolean constant = f.getName().equals("NONE");
            Check.due("field " + f.getName(), Modifier.isPublic(f.getModifiers()), constant);
            Check.due("field " + f.getName() + " is private", constant || Modifier.isPrivate(f.getModifiers()) || f.isSynthetic(), true);
        }
        Check.due("NONE", face.getField("NONE").getInt(null), -1);
    }

    private static String told(Method m) {
        StringBuilder s = new StringBuilder(m.getName()).append('(');
        for (Class<?> p : m.getParameterTypes()) {
            s.append(s.charAt(s.length() - 1) == '(' ? "" : ",").append(p.getName());
        }
        return s.append("):").append(m.getReturnType().getName()).toString();
    }

    private static void within(Class<?> inside) {
        int fields = 0;
        for (Field f : inside.getDeclaredFields()) {
            boolean fixed = Modifier.isStatic(f.getModifiers());
            fields += fixed || f.isSynthetic() ? 0 : 1;
            Check.due(f.getName() + " is final if it is static", !fixed || Modifier.isFinal(f.getModifiers()), true);
        }
        Check.due("some twenty fields", fields <= 25, true);
        for (Method m : inside.getDeclaredMethods()) {
            Check.due("parameters of " + m.getName(), m.getParameterCount() <= 7 || m.isSynthetic(), true);
        }
    }

    /** The source without comments and what stands in quotes. */
    private static String bare(String source) {
        return source.replaceAll("(?s)/\\*.*?\\*/", " ").replaceAll("//[^\n]*", " ").replaceAll("'(\\\\.|[^'\\\\])'", "0").replaceAll("\"(\\\\.|[^\"\\\\])*\"", "\"\"");
    }

    private static void words(String source) {
        String bare = bare(source);
        for (String no : new String[] {"\\bfinally\\b", "\\bsynchronized\\b", "\\bassert\\b", "\\) ->", "::", "\\bstatic \\{", "\\bRandom\\b", "\\bThread\\b", "\\bpackage\\b", "\\bgetMessage\\b",
            "Exact\\(", "\\bNullPointerException\\b", "\\bArrayIndexOutOfBoundsException\\b", "\\bClassCastException\\b", "\\bNegativeArraySizeException\\b", "\\bArrayStoreException\\b"}) {
            Check.due("the source has " + no, Pattern.compile(no).matcher(bare).find(), false);
        }
        Matcher imports = Pattern.compile("(?m)^import (.*);$").matcher(bare);
        while (imports.find()) {
            Check.due("import of " + imports.group(1), IMPORTS.contains(imports.group(1)), true);
        }
        Matcher thrown = Pattern.compile("throw new (\\w+)\\(").matcher(bare);
        while (thrown.find()) {
            Check.due("throw new " + thrown.group(1), THROWN.contains(thrown.group(1)), true);
        }
    }
}
