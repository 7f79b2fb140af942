import java.lang.reflect.Field;
import java.lang.reflect.Member;
import java.lang.reflect.Method;
import java.lang.reflect.Modifier;
import java.nio.file.Files;
import java.nio.file.Path;
import java.util.ArrayList;
import java.util.HashSet;
import java.util.List;
import java.util.Set;
import java.util.TreeSet;
import java.util.regex.Matcher;
import java.util.regex.Pattern;

/** The face of the document, and such rules of LANGUAGE.md as can be seen from outside. */
public final class LanguageTest {
    private static final String FACE = "back(int)int clear()int cold(int,int)int count(int)int deafens(int,int)int "
        + "enders()int ends()int fastest()int fog(int)int forget()int heard(int,int)int heardIn(int,int)int "
        + "hears(int,int)int inStrokes(int,int)int keep(int)int mayBe()int meet(int,int)int mules(int,int)int "
        + "now(int)int odds(int,int,int,int)int rate(int,int)int round(int)int sends(int,int,int)int strikes()int "
        + "tells(int)int tooMany()int trace()long type(int)int undo()int unsay()int valley()int village(int,int)int "
        + "way(int,int)int";

    public static void main(String[] args) throws Exception {
        theFace();
        theMembers();
        theWords(Files.readString(Path.of("src/main/java/FarDrum.java")));
        Check.finish();
    }

    private static void due(String what, boolean is) {
        Check.due(what, is ? 1 : 0, 1);
    }

    private static void theFace() {
        Set<String> face = new TreeSet<>();
        for (Method m : FarDrum.class.getDeclaredMethods()) {
            if (Modifier.isPublic(m.getModifiers())) {
                List<String> types = new ArrayList<>();
                for (Class<?> c : m.getParameterTypes()) types.add(c.getName());
                face.add(m.getName() + "(" + String.join(",", types) + ")" + m.getReturnType().getName());
                due(m.getName() + " is not static", !Modifier.isStatic(m.getModifiers()));
            }
        }
        due("the face is the document's: " + face, face.equals(new TreeSet<>(List.of(FACE.split(" ")))));
        due("the class is public and final", Modifier.isPublic(FarDrum.class.getModifiers())
            && Modifier.isFinal(FarDrum.class.getModifiers()));
        due("one constructor", FarDrum.class.getDeclaredConstructors().length == 1);
    }

    private static void theMembers() {
        Set<String> publicNames = new HashSet<>();
        for (Method m : FarDrum.class.getMethods()) publicNames.add(m.getName());
        List<Member> members = new ArrayList<>(List.of(FarDrum.class.getDeclaredFields()));
        members.addAll(List.of(FarDrum.class.getDeclaredMethods()));
        Set<String> constants = Set.of("BAD", "STATE", "FULL", "NONE", "NO");
        for (Member m : members) {
            boolean isFace = constants.contains(m.getName()) || m instanceof Method && publicNames.contains(m.getName());
            int modifiers = m.getModifiers();
            due(m.getName() + " is public or private", isFace ? Modifier.isPublic(modifiers) : Modifier.isPrivate(modifiers));
        }
        List<Class<?>> classes = new ArrayList<>(List.of(FarDrum.class.getDeclaredClasses()));
        due("classes are twelve at most", classes.size() < 12);
        for (Class<?> c : classes) {
            due(c.getName() + " is static", Modifier.isStatic(c.getModifiers()));
            due(c.getName() + " is not public", !Modifier.isPublic(c.getModifiers()) && !Modifier.isProtected(c.getModifiers()));
            for (Method m : c.getDeclaredMethods()) {
                due(m.getName() + " has no name of the face", !publicNames.contains(m.getName()));
                due(m.getName() + " has few parameters", m.getParameterCount() <= 7);
            }
        }
        classes.add(FarDrum.class);
        for (Class<?> c : classes) {
            int own = 0;
            for (Field f : c.getDeclaredFields()) {
                if (!Modifier.isStatic(f.getModifiers())) own++;
                due(f.getName() + " is final, if static", !Modifier.isStatic(f.getModifiers()) || Modifier.isFinal(f.getModifiers()));
            }
            due(c.getName() + " has some twenty fields at most: " + own, own <= 20);
        }
    }

    private static void theWords(String source) {
        String code = source.replaceAll("(?s)/\\*.*?\\*/", "").replaceAll("//[^\n]*", "");
        String[] words = {"throw", "throws", "try", "catch", "synchronized", "assert", "import", "package", "Exact",
            "System.out", "protected", "hashCode", "toString", "->", "::", "@", "native", "volatile", "transient"};
        for (String word : words) {
            due("no " + word, !Pattern.compile(word.matches("\\w+") ? "\\b\\w*" + word + "\\b" : Pattern.quote(word))
                .matcher(code).find());
        }
        due("signs are 1 to 127", source.chars().allMatch(c -> c > 0 && c < 128));
        methodsAreShort(code);
    }

    private static void methodsAreShort(String code) {
        String[] lines = code.split("\n");
        int from = -1;
        Matcher head = Pattern.compile("^( {4}| {8})(?! ).*\\) \\{$").matcher("");
        String indent = "";
        for (int i = 0; i < lines.length; i++) {
            if (from < 0 && head.reset(lines[i]).find()) {
                from = i;
                indent = head.group(1);
            } else if (from >= 0 && lines[i].equals(indent + "}")) {
                due("some sixty lines at most: " + lines[from].trim(), i - from < 60);
                from = -1;
            }
        }
    }
}
