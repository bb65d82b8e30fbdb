import java.lang.reflect.Constructor;
import java.lang.reflect.Field;
import java.lang.reflect.Method;
import java.lang.reflect.Modifier;
import java.nio.file.Files;
import java.nio.file.Paths;
import java.util.Set;
import java.util.TreeSet;
import java.util.regex.Matcher;
import java.util.regex.Pattern;

/** What of LANGUAGE.md and of the document's face can be seen from the source and from the class itself. */
public final class LanguageTest {
    private static final String[] FACE = {
        "feed(int,int,int,int,int):int", "end(int):int", "yard():int", "fault(int):int", "lacks(int,int):int",
        "sum(int,boolean):int", "least():int", "busy(boolean):int", "rounds():int", "lasts(int):int",
        "with(int,int):int", "wages():int", "parted(int,int,int,int):int", "even():int", "proof():int",
        "run(int):int", "more(int,int,int):int", "breaks(int,int):int", "undo():boolean", "redo():boolean",
        "round(int):int", "pair(int,int):int", "hush():int", "judge(int):int", "sight(int,int,int):int",
        "untell(int):boolean", "later(int):int", "fits(int,int,int):long", "image(int):int", "back(int):int",
        "about(int):int"};
    private static final String[] FORBIDDEN = {
        "throw", "throws", "try", "catch", "synchronized", "assert", "volatile", "native", "strictfp", "transient",
        "var", "goto", "float\\s+NaN", "Random", "Thread", "nanoTime", "currentTimeMillis", "hashCode", "getClass",
        "[a-zA-Z]+Exact", "protected", "instanceof", "Object", "HashMap", "Map", "Set"};
    private static int wrong = 0;

    public static void main(String[] args) throws Exception {
        String source = new String(Files.readAllBytes(Paths.get("src/main/java/ShoeingDay.java")), "ISO-8859-1");
        String code = source.replaceAll("(?s)/\\*.*?\\*/", "").replaceAll("//[^\n]*", "");
        words(code.replaceAll("\"[^\"\n]*\"", "\"\"").replaceAll("'[^'\n]*'", "' '"));
        imports(code);
        face();
        namesOfPrivateMethods();
        statics(ShoeingDay.class);
        for (Class<?> inner : ShoeingDay.class.getDeclaredClasses()) {
            statics(inner);
            must(Modifier.isStatic(inner.getModifiers()), inner + " is not static");
            must(!Modifier.isPublic(inner.getModifiers()), inner + " is public");
        }
        must(ShoeingDay.class.getDeclaredClasses().length <= 12, "more than some twelve classes");
        lengths(source);
        System.out.println(wrong == 0 ? "the class keeps to its language" : wrong + " rules are broken");
        if (wrong != 0) {
            System.exit(1);
        }
    }

    private static void must(boolean holds, String what) {
        if (!holds) {
            wrong++;
            System.out.println(what);
        }
    }

    private static void words(String code) {
        for (String word : FORBIDDEN) {
            Matcher found = Pattern.compile("\\b" + word + "\\b").matcher(code);
            must(!found.find(), "the source has the word " + word);
        }
        must(!code.contains("->"), "the source has a lambda or an arrow");
        must(!code.contains("::"), "the source has a method reference");
        must(!Pattern.compile("\\bstatic\\s*\\{").matcher(code).find(), "the source has a static block");
    }

    private static void imports(String code) {
        Matcher line = Pattern.compile("(?m)^import (.*);$").matcher(code);
        while (line.find()) {
            must(line.group(1).equals("java.util.Arrays"), "the source imports " + line.group(1));
        }
        must(!Pattern.compile("(?m)^package ").matcher(code).find(), "the source has a package line");
        Matcher call = Pattern.compile("\\b(Arrays|System|Integer|Math|Long)\\.(\\w+)").matcher(code);
        while (call.find()) {
            must("fill arraycopy bitCount max min MAX_VALUE".contains(call.group(2)), "the source calls " + call.group());
        }
    }

    private static void face() {
        Set<String> due = new TreeSet<>(java.util.Arrays.asList(FACE));
        Set<String> seen = new TreeSet<>();
        for (Method method : ShoeingDay.class.getDeclaredMethods()) {
            if (Modifier.isPublic(method.getModifiers())) {
                StringBuilder text = new StringBuilder(method.getName()).append('(');
                for (Class<?> type : method.getParameterTypes()) {
                    text.append(text.charAt(text.length() - 1) == '(' ? "" : ",").append(type.getName());
                }
                seen.add(text.append("):").append(method.getReturnType().getName()).toString());
            } else {
                must(Modifier.isPrivate(method.getModifiers()), method + " is neither public nor private");
            }
        }
        must(seen.equals(due), "the face is " + seen);
        must(Modifier.isFinal(ShoeingDay.class.getModifiers()), "the class is not final");
        Constructor<?>[] makers = ShoeingDay.class.getDeclaredConstructors();
        must(makers.length == 1 && Modifier.isPublic(makers[0].getModifiers()), "the constructors are not as due");
        for (Field field : ShoeingDay.class.getDeclaredFields()) {
            boolean constant = field.getName().equals("NONE") && Modifier.isPublic(field.getModifiers());
            must(constant || Modifier.isPrivate(field.getModifiers()), field + " can be seen");
        }
    }

    private static void namesOfPrivateMethods() {
        Set<String> face = new TreeSet<>();
        for (String method : FACE) {
            face.add(method.substring(0, method.indexOf('(')));
        }
        for (Method method : ShoeingDay.class.getDeclaredMethods()) {
            boolean hidden = !Modifier.isPublic(method.getModifiers());
            must(!hidden || !face.contains(method.getName()), method + " bears the name of a public one");
        }
        for (Class<?> inner : ShoeingDay.class.getDeclaredClasses()) {
            for (Method method : inner.getDeclaredMethods()) {
                must(!face.contains(method.getName()), method + " bears the name of a public one");
                must(method.getParameterCount() <= 7, method + " takes too many parameters");
            }
        }
    }

    private static void statics(Class<?> one) {
        int fields = 0;
        for (Field field : one.getDeclaredFields()) {
            boolean isStatic = Modifier.isStatic(field.getModifiers());
            fields += isStatic ? 0 : 1;
            must(!isStatic || Modifier.isFinal(field.getModifiers()), field + " is static and not final");
        }
        must(fields <= 20, one + " has " + fields + " fields");
    }

    /** A method's lines, from its head to the brace that stands below the head's first letter. */
    private static void lengths(String source) {
        String[] lines = source.split("\n");
        for (int i = 0; i < lines.length; i++) {
            Matcher head = Pattern.compile("^( {4,8})\\S.*\\) \\{$").matcher(lines[i]);
            if (head.find()) {
                int end = i;
                while (end < lines.length && !lines[end].equals(head.group(1) + "}")) {
                    end++;
                }
                must(end - i < 60, "a method of " + (end - i + 1) + " lines at line " + (i + 1));
            }
        }
    }
}
