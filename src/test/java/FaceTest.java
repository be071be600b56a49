import java.lang.reflect.Constructor;
import java.lang.reflect.Field;
import java.lang.reflect.Method;
import java.lang.reflect.Modifier;
import java.util.Set;
import java.util.TreeSet;

/** The face, the constants, and a new object (promise 1). */
public final class FaceTest {
    private static final Set<String> METHODS = new TreeSet<>(Set.of("feed", "end", "out", "bits", "unbits", "hears",
            "tune", "raw", "call", "leave", "give", "read", "letter", "take", "beacon", "run", "time", "station", "link",
            "route", "best", "queued"));

    /** The document's methods, with the types of their parameters and answers. */
    private static final Set<String> SIGNATURES = new TreeSet<>(Set.of("boolean feed(int,int,int,int,int)",
            "boolean end(int)", "int out(int)", "int bits(int)", "int unbits()", "boolean hears(int,int,boolean)",
            "boolean tune(int,int,int)", "boolean raw(int)", "boolean call(int,int,int,int)", "boolean leave(int,int)",
            "int give(int,int)", "int read(int,int,int)", "int letter(int,int)", "int take(int)", "int beacon(int)",
            "int run(int)", "int time()", "int station(int,int)", "int link(int,int,int)", "int route(int,int,int,int)",
            "int best(int,int)", "int queued(int,int,int)"));

    public static void main(String[] args) {
        constants();
        face();
        signatures();
        stationsAtFirst();
        linksAtFirst();
        routesAtFirst();
        objectsAreApart();
        Harness.finish();
    }

    private static void signatures() {
        Set<String> seen = new TreeSet<>();
        for (Method m : PacketField.class.getDeclaredMethods()) {
            if (Modifier.isPublic(m.getModifiers())) {
                seen.add(m.toGenericString().replaceAll("public |PacketField\\.", ""));
            }
        }
        Harness.due(1, "the methods of the face " + seen, seen.equals(SIGNATURES), true);
        Class<?>[] none = PacketField.class.getDeclaredConstructors()[0].getParameterTypes();
        Harness.due(1, "parameters of the constructor", none.length, 0);
    }

    private static void constants() {
        Harness.due(1, "NONE", PacketField.NONE, -1);
        Harness.due(1, "FULL", PacketField.FULL, -2);
        Harness.due(1, "STATE", PacketField.STATE, -3);
    }

    /** What is not private is the document's, and no private method has the name of a public one. */
    private static void face() {
        Set<String> seen = new TreeSet<>();
        int hidden = 0;
        for (Method m : PacketField.class.getDeclaredMethods()) {
            if (!Modifier.isPrivate(m.getModifiers())) {
                seen.add(m.getName());
                hidden += Modifier.isPublic(m.getModifiers()) ? 0 : 1;
            }
        }
        for (Class<?> inside : PacketField.class.getDeclaredClasses()) {
            for (Method m : inside.getDeclaredMethods()) {
                hidden += METHODS.contains(m.getName()) ? 1 : 0;
            }
            Harness.due(1, inside + " is static", Modifier.isStatic(inside.getModifiers()), true);
        }
        for (Method m : PacketField.class.getDeclaredMethods()) {
            boolean ofFace = METHODS.contains(m.getName());
            hidden += ofFace == Modifier.isPrivate(m.getModifiers()) ? 1 : 0;
        }
        Harness.due(1, "the names of the face " + seen, seen.equals(METHODS), true);
        Harness.due(1, "methods that should not be so", hidden, 0);
        int fields = 0;
        for (Field f : PacketField.class.getDeclaredFields()) {
            fields += Modifier.isPrivate(f.getModifiers()) ? 0 : 1;
        }
        Harness.due(1, "fields that are not private", fields, 3);
        Constructor<?>[] all = PacketField.class.getDeclaredConstructors();
        Harness.due(1, "constructors", all.length == 1 && Modifier.isPublic(all[0].getModifiers()), true);
        Harness.due(1, "final", Modifier.isFinal(PacketField.class.getModifiers()), true);
    }

    private static void stationsAtFirst() {
        Harness h = new Harness();
        Harness.due(1, "time()", h.call().time(), 0);
        Harness.due(1, "out(0)", h.call().out(0), -1);
        Harness.due(1, "end(0)", h.call().end(0), true);
        Harness.due(1, "end(1)", h.call().end(1), false);
        for (int s = 0; s < 6; s++) {
            for (int what = 0; what <= 10; what++) {
                Harness.due(1, "station(" + s + ", " + what + ")", h.station(s, what), 0);
            }
            Harness.due(1, "queued(" + s + ", 0, 0)", h.call().queued(s, 0, 0), -1);
            Harness.due(1, "take(" + s + ")", h.call().take(s), -1);
        }
        // Nothing happens by itself.
        Harness.due(1, "run(1000)", h.run(1000), 0);
        for (int s = 0; s < 6; s++) {
            Harness.due(1, "station(" + s + ", 5)", h.station(s, 5), 0);
            Harness.due(1, "station(" + s + ", 3)", h.station(s, 3), 0);
        }
    }

    private static void linksAtFirst() {
        Harness h = new Harness();
        for (int s = 0; s < 6; s++) {
            for (int o = 0; o < 6; o++) {
                for (int what = 0; what <= 15 && s != o; what++) {
                    Harness.due(1, "link(" + s + ", " + o + ", " + what + ")", h.link(s, o, what), what > 13 ? -1 : 0);
                }
            }
        }
    }

    private static void routesAtFirst() {
        Harness h = new Harness();
        for (int s = 0; s < 6; s++) {
            for (int d = 0; d < 6; d++) {
                Harness.due(1, "best(" + s + ", " + d + ")", h.call().best(s, d), -1);
                for (int n = 0; n < 6; n++) {
                    int want = d == s || n == s ? -1 : 0;
                    Harness.due(1, "route(" + s + ", " + d + ", " + n + ", 0)", h.call().route(s, d, n, 0), want);
                    Harness.due(1, "route(" + s + ", " + d + ", " + n + ", 1)", h.call().route(s, d, n, 1), want);
                }
            }
        }
    }

    private static void objectsAreApart() {
        Harness one = new Harness();
        Harness two = new Harness();
        one.call().call(0, 1, -1, -1);
        one.run(10);
        one.tape(1, 2, 3);
        Harness.due(1, "time() of another object", two.call().time(), 0);
        Harness.due(1, "a LINK of another object", two.link(0, 1, 0), 0);
        Harness.due(1, "the TAPE of another object", two.call().end(1), false);
    }
}
