import java.lang.reflect.Constructor;
import java.lang.reflect.Field;
import java.lang.reflect.Method;
import java.lang.reflect.Modifier;
import java.util.TreeSet;

/** The face of the class is that of the document: no member more, none less. */
final class FaceTest {
    private static final String[] METHODS = {"addMeasure() int", "removeMeasure(int) int", "set(int,int,int) int",
        "addNote(int,int,int,int,int,boolean) int", "addRest(int,int,int) int", "removeEvent(int,int,int) int",
        "measure(int,int) int", "event(int,int,int,int) int", "eventAt(int,int,int) int", "crossings(int) int",
        "whole(int) int", "order(int) int", "timesPlayed(int) int", "seconds(int) float", "placeAt(int) int",
        "sentenceLength(int) int", "sentenceByte(int,int) int", "words(int) int", "copySentence(int) int", "type(int) int",
        "cut(int) int", "clearText() int", "fault() int", "readInto(int) int", "tells(int) boolean", "changedBy(int,int) int",
        "nearestKey(int) int", "needlessSigns(int) int", "undo() int", "digest() long"};

    public static void main(String[] args) {
        TreeSet<String> due = new TreeSet<>();
        TreeSet<String> names = new TreeSet<>();
        for (String method : METHODS) {
            due.add(method);
            names.add(method.substring(0, method.indexOf('(')));
        }
        TreeSet<String> found = new TreeSet<>();
        for (Method method : SpokenBars.class.getDeclaredMethods()) {
            if (Modifier.isPublic(method.getModifiers())) {
                found.add(signature(method));
            } else if (!method.isSynthetic()) {
                Check.isTrue(method + " is private", Modifier.isPrivate(method.getModifiers()));
                Check.isTrue(method + " has a name of its own", !names.contains(method.getName()));
            }
        }
        Check.equal("public methods", found.toString(), due.toString());
        fieldsAndConstructors();
        Check.end();
    }

    private static String signature(Method method) {
        StringBuilder signature = new StringBuilder(method.getName()).append('(');
        for (Class<?> type : method.getParameterTypes()) {
            signature.append(signature.charAt(signature.length() - 1) == '(' ? "" : ",").append(type.getName());
        }
        return signature.append(") ").append(method.getReturnType().getName()).toString();
    }

    private static void fieldsAndConstructors() {
        Check.isTrue("the class is public and final",
                Modifier.isPublic(SpokenBars.class.getModifiers()) && Modifier.isFinal(SpokenBars.class.getModifiers()));
        for (Field field : SpokenBars.class.getDeclaredFields()) {
            boolean constant = field.getName().equals("NONE");
            Check.isTrue(field + " is as the document has it",
                    constant ? Modifier.isPublic(field.getModifiers()) : Modifier.isPrivate(field.getModifiers()));
        }
        Constructor<?>[] constructors = SpokenBars.class.getDeclaredConstructors();
        Check.equal("number of constructors", constructors.length, 1);
        Check.equal("its parameters", constructors[0].getParameterCount(), 0);
    }
}
