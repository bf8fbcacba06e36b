import java.lang.reflect.Field;
import java.lang.reflect.Member;
import java.lang.reflect.Method;
import java.lang.reflect.Modifier;
import java.nio.file.Files;
import java.nio.file.Path;
import java.util.ArrayList;
import java.util.List;
import java.util.Set;
import java.util.TreeSet;
import java.util.regex.Matcher;
import java.util.regex.Pattern;

/** The document's public face, and those rules of LANGUAGE.md that words or the compiled class show. */
public final class LanguageTest {
    private static int wrong = 0;

    private static void must(boolean good, String rule) {
        if (!good) {
            wrong++;
            System.out.println("not kept: " + rule);
        }
    }

    private static List<Class<?>> classes() {
        List<Class<?>> list = new ArrayList<>(List.of(MeetingSets.class));
        list.addAll(List.of(MeetingSets.class.getDeclaredClasses()));
        return list;
    }

    // ---- the face

    private static String signature(Method m) {
        StringBuilder text = new StringBuilder("int ").append(m.getName()).append('(');
        text.append("int, ".repeat(m.getParameterCount()));
        return text.append(')').toString();
    }

    private static void face(String doc) {
        Set<String> want = new TreeSet<>();
        Matcher m = Pattern.compile("(?m)^    public int (\\w+)\\((.*)\\);$").matcher(doc);
        while (m.find()) {
            int parameters = m.group(2).isEmpty() ? 0 : m.group(2).split(",").length;
            want.add("int " + m.group(1) + "(" + "int, ".repeat(parameters) + ")");
        }
        Set<String> got = new TreeSet<>();
        for (Method method : MeetingSets.class.getDeclaredMethods()) {
            if (Modifier.isPublic(method.getModifiers())) {
                got.add(signature(method));
                must(method.getReturnType() == int.class, "int is answered by " + method);
                must(!Modifier.isStatic(method.getModifiers()), "no static " + method);
                for (Class<?> type : method.getParameterTypes()) {
                    must(type == int.class, "int parameters of " + method);
                }
            }
        }
        must(want.size() == 59 && want.equals(got), "the face: " + want + " and not " + got);
        int modifiers = MeetingSets.class.getModifiers();
        must(Modifier.isFinal(modifiers) && Modifier.isPublic(modifiers), "public and final");
        must(MeetingSets.class.getConstructors().length == 1, "one public constructor");
        must(MeetingSets.class.getPackageName().isEmpty(), "no package");
    }

    private static void onlyTheFaceShows() {
        List<Member> members = new ArrayList<>();
        members.addAll(List.of(MeetingSets.class.getDeclaredFields()));
        members.addAll(List.of(MeetingSets.class.getDeclaredMethods()));
        for (Member member : members) {
            int modifiers = member.getModifiers();
            boolean shown = Modifier.isPublic(modifiers) && (member instanceof Method || member.getName().equals("NONE"));
            must(shown || Modifier.isPrivate(modifiers) || member.isSynthetic(), "private: " + member);
        }
    }

    private static void namesAreApart() {
        Set<String> open = new TreeSet<>();
        for (Method m : MeetingSets.class.getDeclaredMethods()) {
            if (Modifier.isPublic(m.getModifiers())) {
                open.add(m.getName());
            }
        }
        for (Class<?> c : classes()) {
            for (Method m : c.getDeclaredMethods()) {
                boolean face = c == MeetingSets.class && Modifier.isPublic(m.getModifiers());
                must(face || !open.contains(m.getName()), "no public one's name: " + m);
            }
        }
    }

    private static void fieldsAreFew() {
        must(classes().size() <= 12, "some twelve classes");
        for (Class<?> c : classes()) {
            int fields = 0;
            for (Field f : c.getDeclaredFields()) {
                if (!Modifier.isStatic(f.getModifiers())) {
                    fields++;
                    continue;
                }
                must(Modifier.isFinal(f.getModifiers()), "final: " + f);
                Set<String> types = Set.of("int", "long", "boolean", "char", "String", "int[]", "long[]", "char[]", "byte[]");
                must(types.contains(f.getType().getSimpleName()), "a constant's type: " + f);
            }
            must(fields <= 20, "some twenty fields: " + c);
            must(c == MeetingSets.class || Modifier.isStatic(c.getModifiers()), "static: " + c);
            must(c == MeetingSets.class || !Modifier.isPublic(c.getModifiers()), "not public: " + c);
        }
    }

    // ---- the source

    /** The source with comments, and the insides of texts, blanked out; lines stay. */
    private static String bare(String source) {
        StringBuilder text = new StringBuilder();
        Matcher m = Pattern.compile("/\\*.*?\\*/|//[^\n]*|\"[^\"\n]*\"|'[^'\n]*'", Pattern.DOTALL).matcher(source);
        int from = 0;
        while (m.find()) {
            text.append(source, from, m.start());
            char first = m.group().charAt(0);
            text.append(first == '/' ? m.group().replaceAll("[^\n]", "") : first == '"' ? "\"\"" : "0");
            from = m.end();
        }
        return text.append(source.substring(from)).toString();
    }

    private static void words(String code) {
        String[] ruledOut = {
            "throw", "throws", "try", "catch", "finally", "synchronized", "assert", "import", "package", "double",
            "float", "Object", "protected", "var", "record", "native", "volatile", "transient", "hashCode",
            "toString", "equals", "Random", "Thread", "System", "Class", "strictfp", "yield"};
        for (String word : ruledOut) {
            must(!Pattern.compile("\\b" + word + "\\b").matcher(code).find(), "no word " + word);
        }
        must(!code.contains("->") && !code.contains("::"), "no lambda, no method reference");
        must(!Pattern.compile("\\+\\s*\"\"|\"\"\\s*\\+").matcher(code).find(), "texts are not joined by +");
    }

    private static void charactersArePlain(String source) {
        must(source.chars().allMatch(c -> c == '\n' || (c >= 32 && c < 127)), "plain characters");
    }

    private static Path path(String variable, String otherwise) {
        String named = System.getenv(variable);
        return Path.of(named == null ? otherwise : named);
    }

    public static void main(String[] args) throws Exception {
        String source = Files.readString(path("MEETING_SETS_SOURCE", "src/main/java/MeetingSets.java"));
        String doc = Files.readString(path("MEETING_SETS_DOC", "../shared/DOC.md"));
        face(doc);
        onlyTheFaceShows();
        namesAreApart();
        fieldsAreFew();
        charactersArePlain(source);
        String code = bare(source);
        words(code);
        System.out.println(wrong == 0 ? "the language is kept" : wrong + " rules are not kept");
        if (wrong != 0) {
            System.exit(1);
        }
    }
}
