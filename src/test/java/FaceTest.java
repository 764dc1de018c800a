import java.lang.reflect.Constructor;
import java.lang.reflect.Field;
import java.lang.reflect.Member;
import java.lang.reflect.Method;
import java.lang.reflect.Modifier;
import java.util.Set;
import java.util.TreeSet;
import java.util.regex.Matcher;
import java.util.regex.Pattern;

/** The class has just the face that the document shows, and no other member that another class could see. */
public final class FaceTest {
    private static final Due due = new Due();
    private static final String FACE = "The public face";
    private static final Pattern MEMBER = Pattern.compile("public ([^;{]+);");

    public static void main(String[] args) {
        Set<String> want = asDocumented();
        Set<String> got = asCompiled();
        due.is("members that the document shows", Document.PROMISES + 1, want.size());
        for (String member : want) {
            due.is("has " + member, true, got.contains(member));
        }
        for (String member : got) {
            due.is("the document shows " + member, true, want.contains(member));
        }
        due.is("NONE", -1, ProofShop.NONE);
        classIsAsShown();
        promisesRepeatTheFace(want);
        due.close("FaceTest");
    }

    private static void classIsAsShown() {
        due.is("the document shows the class", true, Document.says(FACE, "public final class ProofShop {"));
        int modifiers = ProofShop.class.getModifiers();
        due.is("public", true, Modifier.isPublic(modifiers));
        due.is("final", true, Modifier.isFinal(modifiers));
        due.is("without a package", true, ProofShop.class.getPackageName().isEmpty());
        for (Class<?> inner : ProofShop.class.getDeclaredClasses()) {
            int its = inner.getModifiers();
            due.is(inner + " is hidden", false, Modifier.isPublic(its) || Modifier.isProtected(its));
            due.is(inner + " is static", true, Modifier.isStatic(its));
        }
    }

    /** Each promise's head is a member of the face. */
    private static void promisesRepeatTheFace(Set<String> face) {
        Pattern head = Pattern.compile("`([^`]*)`:");
        for (int promise = 1; promise <= Document.PROMISES; promise++) {
            Matcher matcher = head.matcher(Document.section(Document.promise(promise)));
            due.is("promise " + promise + " has a head", true, matcher.find());
            due.is("promise " + promise + " is of the face", true, face.contains(withoutNames(matcher.group(1))));
        }
    }

    private static Set<String> asDocumented() {
        Set<String> members = new TreeSet<>();
        Matcher matcher = MEMBER.matcher(Document.section(FACE));
        while (matcher.find()) {
            members.add(withoutNames(matcher.group(1)));
        }
        return members;
    }

    /** A head without the names of its parameters, or a constant without what it is. */
    private static String withoutNames(String head) {
        return head.replaceAll("(\\w+) [a-z]\\w*(?=[,)])", "$1").replaceAll(" = .*", "").trim();
    }

    /** All members of the class that are not private. */
    private static Set<String> asCompiled() {
        Set<String> members = new TreeSet<>();
        for (Field field : ProofShop.class.getDeclaredFields()) {
            if (isSeen(field)) {
                members.add(kind(field) + field.getType().getSimpleName() + " " + field.getName());
            }
        }
        for (Method method : ProofShop.class.getDeclaredMethods()) {
            if (isSeen(method)) {
                String name = kind(method) + method.getReturnType().getSimpleName() + " " + method.getName();
                members.add(name + list("(", method.getParameterTypes(), ")")
                        + list(" throws ", method.getExceptionTypes(), ""));
            }
        }
        for (Constructor<?> constructor : ProofShop.class.getDeclaredConstructors()) {
            if (isSeen(constructor)) {
                members.add(kind(constructor) + "ProofShop" + list("(", constructor.getParameterTypes(), ")")
                        + list(" throws ", constructor.getExceptionTypes(), ""));
            }
        }
        return members;
    }

    private static boolean isSeen(Member member) {
        return !Modifier.isPrivate(member.getModifiers()) && !member.isSynthetic();
    }

    /** The modifiers but for public: another one is no member of the face. */
    private static String kind(Member member) {
        String modifiers = Modifier.toString(member.getModifiers());
        if (!modifiers.startsWith("public")) {
            return "not public " + modifiers + " ";
        }
        return modifiers.length() == "public".length() ? "" : modifiers.substring("public ".length()) + " ";
    }

    /** The plain names of types; nothing for none behind throws, but ( ) all the same. */
    private static String list(String begin, Class<?>[] types, String end) {
        if (types.length == 0 && end.isEmpty()) {
            return "";
        }
        StringBuilder text = new StringBuilder(begin);
        for (int i = 0; i < types.length; i++) {
            text.append(i == 0 ? "" : ", ").append(types[i].getSimpleName());
        }
        return text.append(end).toString();
    }
}
