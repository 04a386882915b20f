import java.lang.reflect.InvocationTargetException;
import java.lang.reflect.Method;
import java.lang.reflect.Modifier;
import java.util.Arrays;

/** No call throws, whatever it is given, in several states; and the face is that of the document. */
public final class EdgesTest {
    private static final int[] EDGES = {
        Integer.MIN_VALUE, Integer.MAX_VALUE, Integer.MAX_VALUE - 19, -100, -9, -1, 0, 1, 4, 5, 6, 7, 8, 9, 10, 12, 59, 60,
        99, 100
    };
    private static final String FACE = "act again alterRow back bars cans change cheapest cheaply comes dearest draw fee"
        + " feeFor feed fewest forget game item ith jar jars judge keep liar make makeAll many meets most often person"
        + " personOf play prove remake report ring rings row rules seed sheet shelf span state taken thing trace ways worth"
        + " wouldCost write";

    private static int thrown;

    public static void main(String[] args) throws Exception {
        face();
        for (int state = 0; state < 3; state++) {
            for (Method call : HadForVoice.class.getDeclaredMethods()) {
                if (Modifier.isPublic(call.getModifiers())) {
                    all(call, inState(state), new Object[call.getParameterCount()], 0);
                }
            }
        }
        System.out.println(thrown + " calls threw");
        if (thrown != 0) {
            System.exit(1);
        }
    }

    private static void face() {
        StringBuilder face = new StringBuilder();
        Arrays.stream(HadForVoice.class.getDeclaredMethods()).filter(m -> Modifier.isPublic(m.getModifiers()))
            .map(Method::getName).sorted().forEach(name -> face.append(face.length() == 0 ? "" : " ").append(name));
        if (!face.toString().equals(FACE)) {
            System.out.println("the face is " + face);
            thrown++;
        }
    }

    private static HadForVoice inState(int state) {
        if (state == 0) {
            return new HadForVoice();
        }
        HadForVoice x = Check.circle();
        if (state == 2) {
            x.prove();
            x.make(0, 1);
            x.sheet(0, 0, 10);
            x.sheet(1, 3, 40);
            x.shelf(0, 0, 1);
            x.shelf(1, 1, 1);
            x.person(5, 0, 4, 9);
            x.report(1, 2, 3);
            x.keep();
        }
        return x;
    }

    private static void all(Method call, HadForVoice x, Object[] given, int at) throws Exception {
        if (at == given.length) {
            try {
                call.invoke(x, given);
            } catch (InvocationTargetException e) {
                thrown++;
                System.out.println(call.getName() + Arrays.toString(given) + " threw " + e.getCause());
            }
            return;
        }
        Class<?> type = call.getParameterTypes()[at];
        for (int edge : EDGES) {
            given[at] = type == boolean.class ? edge > 0 : type == long.class ? (Object) ((long) edge << 20) : edge;
            all(call, x, given, at + 1);
        }
    }
}
