import java.lang.reflect.Constructor;
import java.lang.reflect.Field;
import java.lang.reflect.Method;
import java.lang.reflect.Modifier;
import java.util.Set;
import java.util.TreeSet;

/** The face of the class: what the document names is public, and nothing else can be seen. */
public final class FaceTest {
    private static final String FACE = "build(int):int content(int):int done():int edit(int):int erase():boolean "
            + "fate(int):int load():int nameAt(int,int):int names():int printed():int printedAt(int):int "
            + "scrap():void set():boolean time(int):int type(char):boolean";

    public static void main(String[] args) {
        Class<?> face = RuleBuilder.class;
        Probe.due("public", Modifier.isPublic(face.getModifiers()), true);
        Probe.due("final", Modifier.isFinal(face.getModifiers()), true);
        Probe.due("NONE", RuleBuilder.NONE, -1);
        Set<String> seen = new TreeSet<>();
        for (Method method : face.getDeclaredMethods()) {
            if (!Modifier.isPrivate(method.getModifiers())) {
                seen.add(told(method));
            }
        }
        Probe.due("the methods", String.join(" ", seen), FACE);
        Set<String> told = new TreeSet<>();
        for (String method : Sentence.face()) {
            int space = method.indexOf(' ');
            String call = method.substring(space + 1).replaceAll("(int|char) \\w+", "$1").replace(" ", "");
            told.add(call + ":" + method.substring(0, space));
        }
        Probe.due("the methods of the document", String.join(" ", told), told.isEmpty() ? "" : FACE);
        for (Field field : face.getDeclaredFields()) {
            boolean isPrivate = Modifier.isPrivate(field.getModifiers());
            Probe.due("field " + field.getName(), isPrivate || field.getName().equals("NONE"), true);
        }
        Constructor<?>[] constructors = face.getDeclaredConstructors();
        Probe.due("constructors", constructors.length, 1);
        Probe.due("parameters", constructors[0].getParameterCount(), 0);
        Probe.due("public constructor", Modifier.isPublic(constructors[0].getModifiers()), true);
        Probe.finish();
    }

    private static String told(Method method) {
        StringBuilder all = new StringBuilder(method.getName()).append('(');
        for (int i = 0; i < method.getParameterCount(); i++) {
            all.append(i == 0 ? "" : ",").append(method.getParameterTypes()[i].getName());
        }
        return all.append("):").append(method.getReturnType().getName()).toString();
    }
}
