import java.lang.reflect.Constructor;
import java.lang.reflect.Field;
import java.lang.reflect.Method;
import java.lang.reflect.Modifier;
import java.util.Arrays;
import java.util.Set;
import java.util.TreeSet;
import java.util.stream.Collectors;

/** The public face: the document's members with their signatures, and no other that is not private. */
public final class FaceTest {
    private static final Check CHECK = new Check("FaceTest");
    private static final String[] METHODS = {
        "int append(int,int,int,int,int) IllegalStateException",
        "int truncate(int) IllegalArgumentException",
        "int load()",
        "int errorPosition()",
        "int addJob(int,int,int,int,int,int) IllegalStateException IllegalArgumentException",
        "int cancelJob(int) IllegalStateException IllegalArgumentException",
        "int setPolicy(int,int) IllegalStateException IllegalArgumentException",
        "int setLimit(int,int) IllegalStateException IllegalArgumentException",
        "int setAmbient(int) IllegalStateException IllegalArgumentException",
        "int tick(int) IllegalStateException IllegalArgumentException",
        "int clock() IllegalStateException",
        "int temperature(int) IllegalStateException IllegalArgumentException",
        "int level(int) IllegalStateException IllegalArgumentException",
        "int energy(int) IllegalStateException IllegalArgumentException",
        "int domainValue(int,int) IllegalStateException IllegalArgumentException",
        "int jobOn(int,int) IllegalStateException IllegalArgumentException",
        "int throttleOrder(int) IllegalStateException IllegalArgumentException NoSuchElementException",
        "float meanPower(int) IllegalStateException IllegalArgumentException ArithmeticException",
        "int jobCount() IllegalStateException",
        "int jobValue(int,int) IllegalStateException IllegalArgumentException",
        "int doneAt(int) IllegalStateException IllegalArgumentException",
        "int lateJobs() IllegalStateException",
        "int queued(int,int) IllegalStateException IllegalArgumentException NoSuchElementException",
        "int estimate(int) IllegalStateException IllegalArgumentException",
        "double deviation(int) IllegalStateException IllegalArgumentException ArithmeticException",
        "int willBeDone(int) IllegalStateException IllegalArgumentException",
        "int allOver() IllegalStateException",
        "int willBeLate() IllegalStateException",
        "int peak(int,int) IllegalStateException IllegalArgumentException",
        "int energyIn(int) IllegalStateException IllegalArgumentException",
        "int nextThrottle(int) IllegalStateException IllegalArgumentException",
        "int bestPolicy(int) IllegalStateException IllegalArgumentException",
        "int coolLimit(int) IllegalStateException IllegalArgumentException",
        "int levelEnergy(int,int,int,int) IllegalStateException IllegalArgumentException",
        "int bestLevel(int,int,int) IllegalStateException IllegalArgumentException",
        "int mixedEnergy(int,int,int) IllegalStateException IllegalArgumentException",
        "int packedWakeUps(int) IllegalStateException IllegalArgumentException",
        "int packedTick(int,int) IllegalStateException IllegalArgumentException",
        "int packedJobs(int,int) IllegalStateException IllegalArgumentException",
        "int undo() IllegalStateException"};

    public static void main(String[] args) {
        Class<?> type = ThermalCoreScheduler.class;
        CHECK.same("the class is public and final", type.getModifiers(), Modifier.PUBLIC | Modifier.FINAL);
        CHECK.same("it has no package", type.getPackageName(), "");
        Set<String> open = new TreeSet<>();
        Set<String> names = new TreeSet<>();
        for (Method method : type.getDeclaredMethods()) {
            if (!Modifier.isPrivate(method.getModifiers())) {
                open.add(signature(method));
                names.add(method.getName());
            }
        }
        CHECK.same("the methods that are not private", open, new TreeSet<>(Arrays.asList(METHODS)));
        for (Constructor<?> constructor : type.getDeclaredConstructors()) {
            CHECK.same("a constructor", constructor.toString(), "public ThermalCoreScheduler()");
        }
        for (Field field : type.getDeclaredFields()) {
            boolean hidden = Modifier.isPrivate(field.getModifiers());
            CHECK.same("the field " + field.getName() + " is private", hidden, !field.getName().equals("NONE"));
            if (Modifier.isStatic(field.getModifiers())) {
                CHECK.same(field.getName() + " is final", Modifier.isFinal(field.getModifiers()), true);
            }
        }
        for (Class<?> inside : type.getDeclaredClasses()) {
            CHECK.same(inside + " is static", Modifier.isStatic(inside.getModifiers()), true);
            CHECK.same(inside + " is private", Modifier.isPrivate(inside.getModifiers()), true);
            for (Method method : inside.getDeclaredMethods()) {
                CHECK.same(method + " bears a public name", names.contains(method.getName()), false);
                CHECK.same(method + " has few parameters", method.getParameterCount() <= 7, true);
            }
        }
        CHECK.end();
    }

    private static String signature(Method method) {
        String parameters = Arrays.stream(method.getParameterTypes()).map(Class::getName)
                .collect(Collectors.joining(","));
        String thrown = Arrays.stream(method.getExceptionTypes()).map(t -> " " + t.getSimpleName())
                .collect(Collectors.joining());
        String plain = method.getModifiers() == Modifier.PUBLIC ? "" : Modifier.toString(method.getModifiers()) + " ";
        return plain + method.getReturnType() + " " + method.getName() + "(" + parameters + ")" + thrown;
    }
}
