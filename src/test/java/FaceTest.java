import java.lang.reflect.Constructor;
import java.lang.reflect.Field;
import java.lang.reflect.Member;
import java.lang.reflect.Method;
import java.lang.reflect.Modifier;
import java.util.Set;
import java.util.TreeSet;

/** The public face of the document, and no other member that can be seen from outside. */
public final class FaceTest {
    private static final String[] FACE = {
        "public static final int SetterBench.NONE",
        "public SetterBench()",
        "public boolean SetterBench.lay(int,int,int)",
        "public boolean SetterBench.share(int,int)",
        "public int SetterBench.set(int,int,int)",
        "public int SetterBench.put(int,int,int)",
        "public int SetterBench.sweep(int,int,int,int,int)",
        "public int SetterBench.back()",
        "public int SetterBench.light(int)",
        "public long SetterBench.member(int,int)",
        "public int SetterBench.thing(int,int)",
        "public int SetterBench.worth(int)",
        "public boolean SetterBench.mirror(int,int)",
        "public int SetterBench.count(int)",
    };

    public static void main(String[] args) {
        Check check = new Check();
        int modifiers = SetterBench.class.getModifiers();
        check.due("public", Modifier.isPublic(modifiers), true);
        check.due("final", Modifier.isFinal(modifiers), true);
        Set<String> seen = seenMembers();
        for (String member : FACE) {
            check.due(member + " stands", seen.remove(member), true);
        }
        for (String member : seen) {
            check.due(member + " is seen from outside", true, false);
        }
        noPrivateNamesakes(check);
        check.end();
    }

    private static Set<String> seenMembers() {
        Set<String> seen = new TreeSet<>();
        for (Field field : SetterBench.class.getDeclaredFields()) {
            addSeen(seen, field);
        }
        for (Constructor<?> constructor : SetterBench.class.getDeclaredConstructors()) {
            addSeen(seen, constructor);
        }
        for (Method method : SetterBench.class.getDeclaredMethods()) {
            addSeen(seen, method);
        }
        return seen;
    }

    private static void addSeen(Set<String> seen, Member member) {
        if (!Modifier.isPrivate(member.getModifiers())) {
            seen.add(member.toString());
        }
    }

    private static void noPrivateNamesakes(Check check) {
        Set<String> faceNames = new TreeSet<>();
        for (Method method : SetterBench.class.getMethods()) {
            faceNames.add(method.getName());
        }
        for (Method method : SetterBench.class.getDeclaredMethods()) {
            boolean namesake = Modifier.isPrivate(method.getModifiers()) && faceNames.contains(method.getName());
            check.due(method + " bears a public method's name", namesake, false);
        }
    }
}
