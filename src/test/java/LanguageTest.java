import java.lang.reflect.Constructor;
import java.lang.reflect.Field;
import java.lang.reflect.Method;
import java.lang.reflect.Modifier;
import java.nio.file.Files;
import java.nio.file.Path;
import java.util.ArrayList;
import java.util.List;
import java.util.Set;
import java.util.TreeSet;
import java.util.regex.Matcher;
import java.util.regex.Pattern;

/** The rules of LANGUAGE.md that can be seen from outside, and that a call never throws. */
public final class LanguageTest {
    private static final String FACE = "shot/6 of/2 terms/2 feed/5 end/1 law/0 fault/0 asks/3 edition/2 place/3 fail/2 "
            + "printed/2 see/0 seen/1 explain/2 failed/2 jump/2 heard/2 sound/2 copy/1 match/2 matched/2 one/1 from/1 "
            + "pair/3 brought/2 clear/0 image/1 back/1 count/1 status/0";
    private static int wrong = 0;

    public static void main(String[] args) throws Exception {
        face();
        source(Files.readString(Path.of("src/main/java/FilmPrinter.java")));
        neverThrows();
        System.out.println(wrong == 0 ? "the language is kept" : wrong + " rules are broken");
        if (wrong != 0) {
            System.exit(1);
        }
    }

    private static void say(boolean fine, String what) {
        if (!fine) {
            wrong++;
            System.out.println(what);
        }
    }

    private static void face() {
        Class<?> c = FilmPrinter.class;
        say(Modifier.isFinal(c.getModifiers()) && Modifier.isPublic(c.getModifiers()), "not public and final");
        Set<String> due = new TreeSet<>(List.of(FACE.split(" ")));
        Set<String> open = new TreeSet<>();
        Set<String> names = new TreeSet<>();
        for (String name : due) {
            names.add(name.substring(0, name.indexOf('/')));
        }
        for (Method m : c.getDeclaredMethods()) {
            if (!Modifier.isPrivate(m.getModifiers())) {
                open.add(m.getName() + "/" + m.getParameterCount());
                say(m.getReturnType() == int.class, m.getName() + " does not answer an int");
            }
        }
        say(open.equals(due), "the face is " + open + ", due is " + due);
        for (Field f : c.getDeclaredFields()) {
            say(Modifier.isPrivate(f.getModifiers()) || f.getName().equals("NONE"), "field " + f.getName());
            say(!Modifier.isStatic(f.getModifiers()) || Modifier.isFinal(f.getModifiers()), "static " + f.getName());
        }
        for (Constructor<?> k : c.getDeclaredConstructors()) {
            say(k.getParameterCount() == 0 && Modifier.isPublic(k.getModifiers()), "constructor " + k);
        }
        List<Class<?>> all = new ArrayList<>(List.of(c.getDeclaredClasses()));
        say(all.size() + 1 <= 12, "more than twelve classes");
        for (Class<?> k : all) {
            say(Modifier.isStatic(k.getModifiers()), k + " is not static");
            int fields = 0;
            for (Field f : k.getDeclaredFields()) {
                fields += Modifier.isStatic(f.getModifiers()) ? 0 : 1;
            }
            say(fields <= 20, k + " has " + fields + " fields");
            for (Method m : k.getDeclaredMethods()) {
                say(!names.contains(m.getName()), k + " has a method of the face's name: " + m.getName());
                say(m.getParameterCount() <= 7, m + " has too many parameters");
            }
        }
    }

    private static void source(String text) {
        String bare = text.replaceAll("(?s)/\\*.*?\\*/", "").replaceAll("//[^\n]*", "").replaceAll("\"[^\"\n]*\"", "\"\"");
        for (String word : List.of("throw", "throws", "try", "catch", "finally", "synchronized", "assert", "package",
                "Exception", "hashCode", "toString", "Object", "Thread", "Random", "volatile", "native", "var")) {
            say(!Pattern.compile("\\b" + word + "\\b").matcher(bare).find(), "the source has the word " + word);
        }
        say(!bare.contains("->") && !bare.contains("::"), "a lambda or a method reference");
        say(!bare.contains("Exact"), "a function whose name ends in Exact");
        Matcher imports = Pattern.compile("import ([^;]*);").matcher(bare);
        while (imports.find()) {
            say(imports.group(1).equals("java.util.Arrays"), "import of " + imports.group(1));
        }
        Matcher calls = Pattern.compile("\\b(System|Arrays|Math|Integer|Long)\\.(\\w+)").matcher(bare);
        Set<String> known = Set.of("System.arraycopy", "Arrays.fill", "Math.min", "Math.max", "Math.abs");
        while (calls.find()) {
            say(known.contains(calls.group()), "a call of " + calls.group());
        }
        for (char sign : text.toCharArray()) {
            say(sign < 128, "a sign beyond 127");
        }
        methodLengths(text);
    }

    private static void methodLengths(String text) {
        String[] lines = text.split("\n");
        Pattern head = Pattern.compile("^( {4}| {8})(?=\\S)(?!if |for |while |switch )(?!.*\\bclass\\b)[\\w\\[\\] ]+\\(.*\\{$");
        for (int from = 0; from < lines.length; from++) {
            Matcher m = head.matcher(lines[from]);
            if (!m.find()) {
                continue;
            }
            int to = from;
            while (to < lines.length - 1 && !lines[to].equals(m.group(1) + "}")) {
                to++;
            }
            say(to - from < 60, "long: " + lines[from].trim());
        }
    }

    /** Every call with every mixture of odd numbers, on an empty object and on a full one. */
    private static void neverThrows() throws Exception {
        int[] odd = {Integer.MIN_VALUE, -1000, -2, -1, 0, 1, 2, 7, 15, 16, 255, 640, 960, Integer.MAX_VALUE};
        for (Method m : FilmPrinter.class.getDeclaredMethods()) {
            if (!Modifier.isPublic(m.getModifiers())) {
                continue;
            }
            int k = m.getParameterCount();
            int ways = (int) Math.min(3000, Math.pow(odd.length, k));
            FilmPrinter x = new FilmPrinter();
            FilmPrinter y = full();
            for (int w = 0; w < ways; w++) {
                Object[] a = new Object[k];
                long rest = k > 3 ? w * 7919L * 31 : w;
                for (int n = 0; n < k; n++) {
                    a[n] = odd[(int) (rest % odd.length)];
                    rest /= odd.length;
                }
                try {
                    m.invoke(x, a);
                    m.invoke(y, a);
                } catch (java.lang.reflect.InvocationTargetException e) {
                    say(false, m.getName() + List.of(a) + " threw " + e.getCause());
                }
            }
        }
    }

    /** All that has a limit at its limit. */
    private static FilmPrinter full() {
        FilmPrinter x = new FilmPrinter();
        for (int n = 0; n < 16; n++) {
            x.shot(40, 16 * n, 9 - n, n % 8, n * 6, 40);
        }
        Sentences.tape(x, "light 7+shot*2;title 99;light 30 if land>3 and not kind=2");
        x.law();
        x.terms(3, 1);
        for (int n = 0; n < 2; n++) {
            Sentences.tape(x, "x".repeat(400));
            x.see();
        }
        for (int n = 0; n < 8; n++) {
            Sentences.tape(x, (n % 2 == 0 ? "p9x0" : "pAqz").repeat(n < 6 ? 100 : 20));
            x.copy(n % 2);
        }
        for (int n = 0; n < 60; n++) {
            x.pair(n % 3, n * 4, 255 - n * 4);
        }
        x.image(0);
        x.image(1);
        Sentences.tape(x, "cut;".repeat(100));
        say(x.count(1) == 640 && x.count(3) == 800 && x.count(4) == 640 && x.count(5) == 640 && x.count(6) == 400
                && x.edition(0, 0) == 960 && x.jump(0, -1) == 640, "not full");
        return x;
    }
}
