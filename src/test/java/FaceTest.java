import java.lang.reflect.Constructor;
import java.lang.reflect.Field;
import java.lang.reflect.InvocationTargetException;
import java.lang.reflect.Method;
import java.lang.reflect.Modifier;
import java.nio.file.Files;
import java.nio.file.Path;
import java.util.NoSuchElementException;
import java.util.Random;
import java.util.Set;
import java.util.TreeSet;

/** The public face, as the document writes it out; and that no call throws by itself, whatever it is given. */
public final class FaceTest {
    private static final String FACE = "boolean back(int) boolean rain(boolean) boolean teach(int,int,int) boolean undo()"
        + " int ask() int askLeaves() int bestTune(int) int buy(int,int) int could(int) int farReach(int) int fault()"
        + " int feed(int,int,int,int,int) int gate(int,int,int) int go(int,int) int inn(int,int) int led(int)"
        + " int length(int) int lifts(int,int,int,boolean) int likest() int mark() int opens(int) int overlap(int,int)"
        + " int pairs() int partner(int) int passes(int,int,int) int person(int,int) int reach(int)"
        + " int reachIf(int,boolean) int rest(int) int rests(int) int road(int,int) int roamed(int,int,int)"
        + " int roams(int,int,int) int roamsTo(int,int,int,int) int rows() int sells(int,int,int,boolean) int size(int)"
        + " int song(int) int songAt(int,int) int soonest(int) int sung(int,int,boolean) int surely(int) int suspect()"
        + " int together(int,int) int trip(int,int) int tripInns(int,int) int trouble() int turnpike(int) int way(int,int)"
        + " int wayAt(int,int,int) int where()";
    private static final String TEXT = "turnpike rain 50;tune k abc;tune l bcd;tune m ab;tune n efg;tune o aab;tune q gab"
        + ";place a;place b;place c;place d;place e;place f;place g;road a b minutes 1;road b c minutes 2"
        + ";road c d minutes 3;road d e minutes 4;road e f minutes 5;road f g minutes 6;road g a minutes 7"
        + ";road a d minutes 8;road b e minutes 9;road c f minutes 10;gate a b strict k;gate b c kind l;gate c d deaf m"
        + ";gate d e forgot n;gate e f kind k;inn a sells k price 3;inn b forges l price 2;inn c sells m price 1"
        + ";inn d forges n price 4;inn e sells o price 0;inn f sells q price 9;person v at a coins 30;person w at b coins 9"
        + ";person x at c coins 3;person y at g coins 999;knows v k;knows w l;knows x m;knows y k;heard k;heard l;heard m";

    public static void main(String[] args) throws Exception {
        face();
        privateNames();
        wildCalls();
        Check.end("FaceTest");
    }

    private static void face() {
        Set<String> methods = new TreeSet<>();
        for (Method method : TuneGates.class.getDeclaredMethods()) {
            if (!Modifier.isPrivate(method.getModifiers())) {
                Check.due("public and of the object: " + method, method.getModifiers(), Modifier.PUBLIC);
                methods.add(signature(method));
            }
        }
        Check.due("the methods " + methods, String.join(" ", methods).equals(FACE), true);
        for (Field field : TuneGates.class.getDeclaredFields()) {
            boolean constant = field.getName().equals("NONE");
            Check.due(field + " is private", Modifier.isPrivate(field.getModifiers()), !constant);
        }
        Check.due("the constant", TuneGates.NONE, -1);
        Constructor<?>[] made = TuneGates.class.getDeclaredConstructors();
        Check.due("constructors", made.length, 1);
        Check.due("the constructor", made[0].getModifiers() == Modifier.PUBLIC && made[0].getParameterCount() == 0, true);
        Check.due("the class", TuneGates.class.getModifiers(), Modifier.PUBLIC | Modifier.FINAL);
        Check.due("classes inside, at most", TuneGates.class.getDeclaredClasses().length <= 11, true);
    }

    private static String signature(Method method) {
        StringBuilder text = new StringBuilder(method.getReturnType() + " " + method.getName() + "(");
        for (Class<?> type : method.getParameterTypes()) {
            text.append(text.charAt(text.length() - 1) == '(' ? "" : ",").append(type);
        }
        return text.append(")").toString();
    }

    /** LANGUAGE.md, rule 1; and no machine's exception is caught, as there is no catch at all. */
    private static void privateNames() throws Exception {
        Set<String> names = new TreeSet<>();
        for (Method method : TuneGates.class.getMethods()) {
            if (method.getDeclaringClass() == TuneGates.class) {
                names.add(method.getName());
            }
        }
        for (Class<?> inside : TuneGates.class.getDeclaredClasses()) {
            for (Method method : inside.getDeclaredMethods()) {
                Check.due(method + " bears the name of a public one", names.contains(method.getName()), false);
            }
            Check.due(inside + " has some twenty fields beside constants", fields(inside) <= 20, true);
        }
        Path source = Path.of("src/main/java/TuneGates.java");
        if (Files.exists(source)) {
            String text = Files.readString(source);
            for (String not : new String[] {"catch", "->", "::", "Exact", "synchronized", "assert", "static {"}) {
                Check.due("the source has " + not, text.contains(not), false);
            }
        }
    }

    private static long fields(Class<?> inside) {
        long many = 0;
        for (Field field : inside.getDeclaredFields()) {
            many += Modifier.isStatic(field.getModifiers()) ? 0 : 1;
        }
        return many;
    }

    private static void wildCalls() throws Exception {
        Random random = new Random(7);
        Method[] methods = TuneGates.class.getDeclaredMethods();
        for (int run = 0; run < 400; run++) {
            TuneGates x = run % 4 == 0 ? new TuneGates() : Check.told(run % 4 == 1 ? "turnpike rain 9;place a" : TEXT);
            for (int call = 0; call < 500; call++) {
                Method method = methods[random.nextInt(methods.length)];
                if (Modifier.isPublic(method.getModifiers())) {
                    callWildly(x, method, random);
                }
            }
        }
    }

    private static void callWildly(TuneGates x, Method method, Random random) throws Exception {
        Class<?>[] types = method.getParameterTypes();
        Object[] given = new Object[types.length];
        for (int i = 0; i < types.length; i++) {
            given[i] = types[i] == boolean.class ? (Object) random.nextBoolean() : (Object) wild(random);
        }
        boolean fine = true;
        try {
            method.invoke(x, given);
        } catch (InvocationTargetException thrown) {
            fine = method.getName().equals("led") && thrown.getCause() instanceof NoSuchElementException;
        }
        Check.due(method + " given " + java.util.Arrays.toString(given) + " is fine", fine, true);
    }

    private static int wild(Random random) {
        int[] edges = {Integer.MIN_VALUE, Integer.MAX_VALUE, -1, -2, 99, 100, 63, 64, 65536, 65537, 90, 91, 1000, 1 << 30};
        switch (random.nextInt(6)) {
            case 0: return edges[random.nextInt(edges.length)];
            case 1: return random.nextInt();
            case 2: return random.nextInt(64);
            default: return random.nextInt(8);
        }
    }
}
