import java.lang.reflect.Constructor;
import java.lang.reflect.Field;
import java.lang.reflect.Method;
import java.lang.reflect.Modifier;
import java.util.ArrayList;
import java.util.Arrays;
import java.util.Collections;
import java.util.List;

/** The face of the class is that of the document, and nothing more. */
public final class FaceTest {
    private static final String[] FACE = {
        "int sign(int,int,int,int)", "int of(int,int,int)", "int change(int,int,int,int)",
        "int set(int,int)", "int named(int,int,int,int)", "int gets(int,int,int,int,int)",
        "long meanNamed(int,int,int)", "int bestPrice(int,int)", "int tells(int,int)",
        "long meanChosen(int,int)", "int waits(int,int)", "int purse(int,int)",
        "int has(int,int,int,int,int)", "int pays(int,int,int,int,int,int)",
        "long meanBid(int,int,int,int)", "int rest(int,int,int)", "int rests(int,int,int)",
        "long outcome(int,int)", "int bestPaper(int,int,int)", "long knowing()",
        "int edge(int,int,int,int)", "int piece(int,int)", "int cut(int,int)",
        "int lots(int,int,int,int)", "int image()", "int restore()", "int count(int)",
        "int keep(int,int,int,int)", "int row(int,int,int)", "int put(int,int,int)",
        "long element(int,int) throws IllegalArgumentException IllegalStateException",
        "int copy(int,int,int,int,int)", "int weight(int)", "int toss(int)"
    };

    private static String told(Method method) {
        StringBuilder text = new StringBuilder();
        text.append(method.getReturnType().getSimpleName()).append(' ').append(method.getName()).append('(');
        Class<?>[] types = method.getParameterTypes();
        for (int k = 0; k < types.length; k++) {
            text.append(k == 0 ? "" : ",").append(types[k].getSimpleName());
        }
        text.append(')');
        Class<?>[] thrown = method.getExceptionTypes();
        for (int k = 0; k < thrown.length; k++) {
            text.append(k == 0 ? " throws " : " ").append(thrown[k].getSimpleName());
        }
        return text.toString();
    }

    public static void main(String[] args) {
        Checks checks = new Checks();
        List<String> shown = new ArrayList<>();
        List<String> hidden = new ArrayList<>();
        for (Method method : MillPaper.class.getDeclaredMethods()) {
            if (Modifier.isPublic(method.getModifiers())) {
                shown.add(told(method));
            } else {
                hidden.add(method.getName());
                checks.holds(method.getName() + " is private", Modifier.isPrivate(method.getModifiers()));
            }
        }
        List<String> due = new ArrayList<>(Arrays.asList(FACE));
        Collections.sort(due);
        Collections.sort(shown);
        checks.holds("the public methods are " + shown, shown.equals(due));
        for (String call : FACE) {
            String name = call.substring(call.indexOf(' ') + 1, call.indexOf('('));
            checks.holds("no private method is named " + name, !hidden.contains(name));
        }
        for (Field field : MillPaper.class.getDeclaredFields()) {
            checks.holds(field.getName() + " is private", Modifier.isPrivate(field.getModifiers()));
        }
        Constructor<?>[] constructors = MillPaper.class.getDeclaredConstructors();
        checks.due("constructors", constructors.length, 1);
        checks.holds("it is public", Modifier.isPublic(constructors[0].getModifiers()));
        checks.due("its parameters", constructors[0].getParameterCount(), 0);
        checks.holds("the class is public and final", Modifier.isPublic(MillPaper.class.getModifiers())
            && Modifier.isFinal(MillPaper.class.getModifiers()));
        checks.holds("twelve classes at most", MillPaper.class.getDeclaredClasses().length <= 11);
        checks.end();
    }
}
