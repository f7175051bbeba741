import java.lang.reflect.Method;
import java.lang.reflect.Modifier;
import java.util.Arrays;

/** The methods of the face as the document writes them, in its order: those of promises 2 to 30. */
final class Signatures {
    static final String[] ALL = {
        "int set(int what, int of, int v)", "int paper(int kind, int number, int mood)", "int told(int of, int what)",
        "int burn(int desk)", "int feed(int letter)", "int text()", "int force(int text)", "int division(int topic, int what)",
        "int topics(int what)", "int day()", "int run(int n, int what)", "int often(int paper)", "long power(int paper, int part)",
        "int torn(int paper)", "int fewest(int what)", "int stop(int topic, int what)", "int goesWith(int paper, int what)",
        "int tells(int sheet, int paper, int what)", "int film(int sheet, int paper)", "int drawn(int seed, int n)",
        "long chance(int seed, int m, int k, int part)", "int image()", "int back()", "int count(int what)",
        "int sheet(int sheet, int sort, int n)", "int cell(int sheet, int i, int v)",
        "int copy(int sheet, int i, int other, int j, int n)", "int papers(int sheet, int sort, int from, int n)",
        "int taken(int paper, int k)"};

    private Signatures() {
    }

    /** The class has the method with these types; what its parameters are called is free. */
    static void hold(Walk walk, String signature) {
        String answer = signature.replaceAll(" .*", "");
        String name = signature.replaceAll("\\w+ (\\w+).*", "$1");
        String taken = signature.replaceAll(".*\\((.*)\\)", "$1").replaceAll("int \\w+", "int").replace(" ", "");
        Method m = Calls.methods().get(name);
        walk.holds("there is a public method " + name, m != null);
        if (m != null) {
            walk.holds(name + " answers a number of type " + answer, m.getReturnType().getName().equals(answer));
            String types = String.join(",", Arrays.stream(m.getParameterTypes()).map(Class::getName).toList());
            walk.holds(name + " takes " + taken, types.equals(taken));
            walk.holds(name + " is no static one", !Modifier.isStatic(m.getModifiers()));
        }
    }
}
