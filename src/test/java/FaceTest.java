import java.lang.reflect.Constructor;
import java.lang.reflect.Field;
import java.lang.reflect.Method;
import java.lang.reflect.Modifier;
import java.util.TreeSet;

/** The class shows the document's public face and nothing else. */
public final class FaceTest {
    private static final String[] FACE = {
        "public BridgeBoard()",
        "public int BridgeBoard.place(int,int,int)",
        "public int BridgeBoard.remove(int,int)",
        "public int BridgeBoard.island(int,int)",
        "public int BridgeBoard.gaps()",
        "public int BridgeBoard.end(int,boolean)",
        "public int BridgeBoard.solutions()",
        "public int BridgeBoard.least(int)",
        "public int BridgeBoard.always(int)",
        "public int BridgeBoard.with(int,int)",
    };

    public static void main(String[] args) {
        TreeSet<String> want = new TreeSet<>(java.util.Arrays.asList(FACE));
        TreeSet<String> got = new TreeSet<>();
        for (Constructor<?> c : BridgeBoard.class.getDeclaredConstructors()) {
            got.add(c.toString());
        }
        for (Method m : BridgeBoard.class.getDeclaredMethods()) {
            if (!Modifier.isPrivate(m.getModifiers())) {
                got.add(m.toString());
            }
        }
        for (Field f : BridgeBoard.class.getDeclaredFields()) {
            if (!Modifier.isPrivate(f.getModifiers())) {
                got.add(f.toString());
            }
        }
        boolean closed = Modifier.isFinal(BridgeBoard.class.getModifiers())
            && Modifier.isPublic(BridgeBoard.class.getModifiers());
        if (!got.equals(want) || !closed) {
            System.out.println("the face is " + got + ", due is " + want + ", public and final: " + closed);
            System.exit(1);
        }
        System.out.println("the face is as due");
    }
}
