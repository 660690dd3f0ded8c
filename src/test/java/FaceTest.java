import java.lang.reflect.Constructor;
import java.lang.reflect.Field;
import java.lang.reflect.Member;
import java.lang.reflect.Method;
import java.lang.reflect.Modifier;
import java.util.ArrayList;
import java.util.List;
import java.util.TreeSet;

/** The face is the document's and no more. */
public final class FaceTest {
    private static final String[] FACE = {
        "int move(int,int)", "int moves(int,int,int)", "int person(int,int)", "int mend(int,int,int)",
        "int of(int,int)", "int feed(int)", "int law()", "int leads(int,int)", "int takes(int,int,int)",
        "int way(int,int,int)", "int next(int,int)", "int reach(int,int)", "int worst(int,int)",
        "int ways(int,int)", "int backFrom(int)", "int needed(int)", "int oneWay(int)", "int learn(int,int)",
        "int show(int,int,int)", "int opens(int,int,int)", "int bestFirst(int,int,int)", "int tide(int,int,int)",
        "int two(int,int)", "int judge(int,int)", "int ends(int,int)", "int who(int,int)", "int begun(int,int,int)",
        "int drawn(int,int,int,int)", "int make(int,int)", "int lay(int)", "int led(int)", "int image()",
        "int back()", "int undo()", "int redo()", "int body(int)", "int act(int,int,int)", "int trace(int)",
        "int keep(int,int)", "int row(int,int,int)", "int put(int,int,long)", "long element(int,int)",
        "int shift(int,int,int,int,int)", "int taken(int,int)", "int count(int)"
    };

    public static void main(String[] args) {
        Class<?> c = OpensLikeThat.class;
        Check.due("public and final", Modifier.PUBLIC | Modifier.FINAL, c.getModifiers());
        TreeSet<String> open = new TreeSet<>();
        TreeSet<String> openNames = new TreeSet<>();
        List<Member> closed = new ArrayList<>();
        for (Method m : c.getDeclaredMethods()) {
            if (Modifier.isPrivate(m.getModifiers())) {
                closed.add(m);
            } else {
                open.add(told(m));
                openNames.add(m.getName());
                Check.due(m.getName() + " is public alone", Modifier.PUBLIC, m.getModifiers());
            }
        }
        for (String due : FACE) {
            Check.due(due + " is there", 1, open.remove(due) ? 1 : 0);
        }
        Check.due("methods beyond the face " + open, 0, open.size());
        for (Class<?> inside : c.getDeclaredClasses()) {
            Check.due(inside + " is static", 1, Modifier.isStatic(inside.getModifiers()) ? 1 : 0);
            for (Method m : inside.getDeclaredMethods()) {
                if (Modifier.isPrivate(m.getModifiers())) {
                    closed.add(m);
                }
            }
        }
        for (Member m : closed) {
            Check.due(m + " bears a public name", 0, openNames.contains(m.getName()) ? 1 : 0);
        }
        Constructor<?>[] made = c.getDeclaredConstructors();
        Check.due("constructors", 1, made.length);
        Check.due("the constructor is public", Modifier.PUBLIC, made[0].getModifiers());
        int constants = 0;
        for (Field f : c.getDeclaredFields()) {
            constants += Modifier.isPrivate(f.getModifiers()) ? 0 : 1;
        }
        Check.due("constants", 5, constants);
        Check.due("BAD", -1, OpensLikeThat.BAD);
        Check.due("NOT", -2, OpensLikeThat.NOT);
        Check.due("FULL", -3, OpensLikeThat.FULL);
        Check.due("STATE", -5, OpensLikeThat.STATE);
        Check.due("VOID", -2000000000, OpensLikeThat.VOID);
        Check.end();
    }

    private static String told(Method m) {
        StringBuilder b = new StringBuilder(m.getReturnType().getName()).append(' ').append(m.getName()).append('(');
        for (Class<?> p : m.getParameterTypes()) {
            b.append(b.charAt(b.length() - 1) == '(' ? "" : ",").append(p.getName());
        }
        return b.append(')').toString();
    }
}
