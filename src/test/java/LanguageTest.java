import java.lang.reflect.Field;
import java.lang.reflect.Method;
import java.lang.reflect.Modifier;
import java.nio.file.Files;
import java.nio.file.Path;
import java.util.ArrayList;
import java.util.List;
import java.util.Map;
import java.util.Set;
import java.util.TreeMap;
import java.util.TreeSet;
import java.util.regex.Matcher;
import java.util.regex.Pattern;
import java.util.stream.Stream;

/** The face of the document, and those rules of LANGUAGE.md that can be seen by looking at the file. */
public final class LanguageTest {
    static final Due DUE = new Due();
    static final String FACE = "flame3 told2 as2 turns2 set3 move2 glass3 reach2 push2 deal1 seed1 run1 spread0 groups1 soon1 period0 film2 basin1 quiet2 learn2 "
        + "feed3 trim1 text0 textTold2 why1 sheet3 mark3 pour1 reads1 copy5 lay3 ask2 item2 rest2 tell1 check1 keep0 back0 count1";

    public static void main(String[] args) throws Exception {
        faceIsAsTold();
        String source = Files.readString(Path.of("src/main/java/CandleTurns.java"));
        String bare = withoutTexts(source);
        wordsThatAreRuledOut(bare);
        Map<String, String> bodies = bodies(bare);
        callsMakeNothing(bodies);
        callsAreNotDeep(bodies);
        DUE.end();
    }

    static void faceIsAsTold() throws Exception {
        Class<?> c = CandleTurns.class;
        DUE.holds("public and final", Modifier.isPublic(c.getModifiers()) && Modifier.isFinal(c.getModifiers()));
        DUE.due("constructors", c.getDeclaredConstructors().length, 1);
        Set<String> found = new TreeSet<>();
        Set<String> names = new TreeSet<>();
        for (Method m : c.getDeclaredMethods()) {
            if (Modifier.isPublic(m.getModifiers())) {
                found.add(m.getName() + m.getParameterCount());
                names.add(m.getName());
                DUE.holds(m + " is of ints", m.getReturnType() == int.class && Stream.of(m.getParameterTypes()).allMatch(t -> t == int.class));
            }
        }
        DUE.holds("methods " + found, found.equals(new TreeSet<>(List.of(FACE.split(" ")))));
        for (Class<?> each : classes()) {
            for (Method m : each.getDeclaredMethods()) {
                DUE.holds(m + " is the face or private", each != c || Modifier.isPublic(m.getModifiers()) || Modifier.isPrivate(m.getModifiers()));
                DUE.holds(m + " bears no name of the face", Modifier.isPublic(m.getModifiers()) || !names.contains(m.getName()));
                DUE.holds(m + " has at most seven parameters", m.getParameterCount() <= 7);
            }
            DUE.holds(each + " has some twenty fields", instanceFields(each) <= 20);
            DUE.holds(each + " is static and not public", each == c || Modifier.isStatic(each.getModifiers()) && !Modifier.isPublic(each.getModifiers()));
        }
        DUE.holds("some twelve classes", classes().size() <= 12);
        for (Field f : c.getDeclaredFields()) {
            DUE.holds(f + " is the face or private", Modifier.isPrivate(f.getModifiers()) || f.getName().matches("BAD|NO|FULL|NONE|NOTHING|KIND|INDEX|SIZE"));
            DUE.holds(f + " is final, if static", !Modifier.isStatic(f.getModifiers()) || Modifier.isFinal(f.getModifiers()));
        }
    }

    static List<Class<?>> classes() {
        List<Class<?>> all = new ArrayList<>(List.of(CandleTurns.class.getDeclaredClasses()));
        all.add(CandleTurns.class);
        return all;
    }

    static int instanceFields(Class<?> c) {
        int many = 0;
        for (Field f : c.getDeclaredFields()) {
            many += Modifier.isStatic(f.getModifiers()) ? 0 : 1;
        }
        return many;
    }

    /** The source without comments, texts and signs in quotes. */
    static String withoutTexts(String source) {
        return source.replaceAll("(?s)/\\*.*?\\*/", " ").replaceAll("//[^\\n]*", " ").replaceAll("\"(\\\\.|[^\"\\\\])*\"", "\"\"").replaceAll("'(\\\\.|[^'\\\\])'", "' '");
    }

    static void wordsThatAreRuledOut(String bare) {
        String[] words = {"throw", "throws", "try", "catch", "finally", "synchronized", "assert", "import", "package", "protected", "NaN", "random", "System\\.(?!arraycopy)\\w+",
            "hashCode", "toString", "Thread", "volatile", "native", "transient", "yield", "var", "goto", "\\w+Exact"};
        for (String word : words) {
            Matcher m = Pattern.compile("\\b" + word + "\\b").matcher(bare);
            DUE.holds("no " + word, !m.find());
        }
        DUE.holds("no lambda", !bare.contains("->"));
        DUE.holds("no method reference", !bare.contains("::"));
        DUE.holds("no static block", !Pattern.compile("static\\s*\\{").matcher(bare).find());
        DUE.holds("no sign above 127", bare.chars().allMatch(ch -> ch < 128));
    }

    /** The bodies of all methods, by names; methods of one name in several classes stand together. */
    static Map<String, String> bodies(String bare) {
        Map<String, String> all = new TreeMap<>();
        String[] lines = bare.split("\n");
        Pattern head = Pattern.compile("^( {4}| {8})(?:public |private |static |final )*(?:[\\w\\[\\]<>]+ )?(\\w+)\\([^;]*\\) \\{$");
        for (int i = 0; i < lines.length; i++) {
            Matcher m = head.matcher(lines[i].stripTrailing());
            if (m.matches() && !m.group(2).matches("if|for|while|switch")) {
                StringBuilder body = new StringBuilder();
                int end = i + 1;
                while (end < lines.length && !lines[end].stripTrailing().equals(m.group(1) + "}")) {
                    body.append(lines[end]).append('\n');
                    end++;
                }
                DUE.holds(lines[i].strip() + " is short", end - i <= 60);
                all.merge(m.group(2), body.toString(), String::concat);
            }
        }
        DUE.holds("methods were seen", all.size() > 60);
        return all;
    }

    static void callsMakeNothing(Map<String, String> bodies) {
        Set<String> constructors = new TreeSet<>();
        classes().forEach(each -> constructors.add(each.getSimpleName()));
        bodies.forEach((name, body) -> DUE.holds(name + " makes no object", constructors.contains(name) || !Pattern.compile("\\bnew\\b").matcher(body).find()));
    }

    static void callsAreNotDeep(Map<String, String> bodies) {
        for (String name : bodies.keySet()) {
            List<String> way = longestWay(name, bodies, new TreeSet<>());
            DUE.holds(way + " is at most eight deep", way.size() <= 8);
        }
    }

    /** The longest way of calls from a method on, on which none stands twice: rule 11 tells of calls that are no recursion. */
    static List<String> longestWay(String name, Map<String, String> bodies, Set<String> open) {
        open.add(name);
        List<String> longest = List.of();
        Matcher m = Pattern.compile("\\b(\\w+)\\(").matcher(bodies.get(name));
        while (m.find()) {
            if (bodies.containsKey(m.group(1)) && !open.contains(m.group(1))) {
                List<String> way = longestWay(m.group(1), bodies, open);
                longest = way.size() > longest.size() ? way : longest;
            }
        }
        open.remove(name);
        List<String> all = new ArrayList<>(List.of(name));
        all.addAll(longest);
        return all;
    }
}
