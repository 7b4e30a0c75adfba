import java.lang.reflect.Constructor;
import java.lang.reflect.Field;
import java.lang.reflect.Method;
import java.lang.reflect.Modifier;
import java.util.ArrayList;
import java.util.List;
import java.util.TreeSet;
import java.util.stream.Collectors;
import java.util.stream.Stream;

/** The class has the face of the document, and no other member that is seen from outside. */
public final class FaceTest {
    private static final String FACE = """
        int feed(int,int,int,int,int)
        boolean end(int)
        int fault(int)
        int text(int)
        int day(int,int,int,int) throws java.util.NoSuchElementException
        int date(int,int,int)
        int turned(int,int,int,int,int,int)
        int many(int,int,int)
        int kind(int,int)
        int way(int,int,int,int,int,int,int)
        int answers(int,int,int,int,int,int)
        int ask(int,int,int,int,int,int,int)
        int asked(int,int)
        int fits(int)
        int so(int,int)
        int further(int)
        int lived(int)
        int after(int)
        int learnt(int,int,int,int)
        boolean weigh(int,int)
        int odds(int,int)
        int plan(int,int,int,int)
        int parted(int,int)
        int next(int)
        int part(int,int,int,int,int)
        int least(int,int,int,int,int)
        int like(int,int,int)
        int thirteenths(int,int,int,int)
        int mates(int,int,int)
        boolean born(int,int,int,int)
        int age(int,int,int,int)
        int event(int,int,int,int,int)
        int held(int,int,int,int)
        int spell(int)
        int keep()
        int back()
        int row(int,int,int)
        int run(int,long,int,int,int)
        int holds(int,int,int,int,int,int)
        int right(int,int,int,int)
        int lacks(int,int,int,int)
        int spare(int,int)
        int unlike(int,int,int)
        int rises(int,int,int,int)
        int count(int)
        """;

    public static void main(String[] args) throws ReflectiveOperationException {
        Due.part("the face");
        Class<DayBoy> type = DayBoy.class;
        Due.is("public final", type.getModifiers(), Modifier.PUBLIC | Modifier.FINAL);
        Due.holds("without a package", type.getPackageName().isEmpty());
        methods(type);
        constants(type);
        Constructor<?>[] constructors = type.getDeclaredConstructors();
        Due.is("constructors", constructors.length, 1);
        Due.is("public", constructors[0].getModifiers(), Modifier.PUBLIC);
        Due.is("without parameters", constructors[0].getParameterCount(), 0);
        classesInside(type);
        Due.end();
    }

    private static void methods(Class<?> type) {
        TreeSet<String> due = FACE.lines().collect(Collectors.toCollection(TreeSet::new));
        List<String> names = new ArrayList<>();
        for (String line : due) {
            names.add(line.substring(line.indexOf(' ') + 1, line.indexOf('(')));
        }
        Due.is("methods of the document", due.size(), 45);
        for (Method method : type.getDeclaredMethods()) {
            if (Modifier.isPrivate(method.getModifiers())) {
                Due.fails("a private method is called " + method.getName(), names.contains(method.getName()));
            } else {
                String face = method.toGenericString().replace("public ", "").replace("DayBoy.", "");
                Due.holds("the document has " + face, due.remove(face));
            }
        }
        Due.is("missing: " + due, due.size(), 0);
    }

    private static void constants(Class<?> type) throws ReflectiveOperationException {
        for (Field field : type.getDeclaredFields()) {
            if (!Modifier.isPrivate(field.getModifiers())) {
                Due.is(field.getName(), field.getModifiers(), Modifier.PUBLIC | Modifier.STATIC | Modifier.FINAL);
                Due.holds(field.getName(), List.of("NONE", "HIDDEN").contains(field.getName()));
            }
            Due.holds(field.getName() + " is final, if static",
                    !Modifier.isStatic(field.getModifiers()) || Modifier.isFinal(field.getModifiers()));
        }
        Due.is("NONE", type.getField("NONE").getInt(null), -1);
        Due.is("HIDDEN", type.getField("HIDDEN").getInt(null), -1000);
    }

    private static void classesInside(Class<?> type) {
        Class<?>[] inside = type.getDeclaredClasses();
        Due.holds("some twelve classes", inside.length <= 12);
        for (Class<?> one : inside) {
            Due.holds(one + " is static", Modifier.isStatic(one.getModifiers()));
            Due.fails(one + " is public", Modifier.isPublic(one.getModifiers()));
            long fields = Stream.of(one.getDeclaredFields()).filter(f -> !Modifier.isStatic(f.getModifiers())).count();
            Due.holds(one + " has some twenty fields", fields <= 20);
        }
    }
}
