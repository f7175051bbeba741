import java.lang.reflect.Field;
import java.lang.reflect.Method;
import java.lang.reflect.Modifier;
import java.util.Arrays;
import java.util.Set;
import java.util.TreeSet;

/** What it is, and the public face. */
final class WalkOfFace {
    private final Walk walk;
    private final Set<String> named = new TreeSet<>();

    WalkOfFace(Walk walk) {
        this.walk = walk;
    }

    void all() {
        walk.passes("# OppositionInBaskets");
        whatItIs();
        calls512();
        face();
    }

    private void whatItIs() {
        walk.passes("## What it is");
        walk.says("The opposition's in the wastepaper baskets: up to eight papers of kinds that were screwed up and thrown in,");
        walk.run("paper(0, 4, 3)=0 | paper(1, 2, -1)=1 | paper(2, 9, 2)=2 | paper(4, 1, 1)=3 | told(3, 5)=50 | told(3, 7)=4");
        walk.says("and are smoothed out on Thursdays and heard, motions on eight topics for and against which they vote, each with "
            + "a weight;");
        walk.then("told(2, 26)=1 | told(2, 27)=-1 | told(0, 8)=5 | told(1, 8)=5 | told(2, 8)=5 | told(3, 8)=2");
        walk.says("what tearing makes of one, what burning does to a desk;");
        walk.then("torn(0)=8 | image()=4 | set(4, 3, 1)=0 | burn(1)=1 | told(3, 27)=0 | count(2)=15 | back()=4 | count(2)=17");
        walk.says("by a rule of texts how a paper feels of a topic, how heavy it is, how soon it is smooth;");
        walk.then("read(feels topic;weighs 7;smooths 50;)=1 | force(1)=0 | told(1, 13)=6 | told(1, 8)=9 | day()=4 | back()=4");
        walk.says("how a division goes, who decides it, how often, in all coalitions, in all orders;");
        walk.then("division(0, 0)=12 | division(0, 1)=5 | division(0, 2)=1 | division(0, 5)=5 | often(0)=4 | often(3)=0",
            "fewest(2)=8 | power(0, 0)=1 | power(0, 1)=3 | power(3, 0)=0 | power(3, 1)=1");
        walk.says("the fewest who carry it, whom to burn so that it is lost, the topic on which they are most at one, who goes "
            + "with whom;");
        walk.then("fewest(0)=3 | fewest(1)=2 | stop(0, 0)=1 | stop(0, 1)=1 | topics(1)=0 | topics(2)=7 | goesWith(0, 0)=3");
        walk.says("divisions that were told, read back: of which kind a paper is, how crumpled, by which text;");
        walk.then("film(0, 2)=8 | tells(0, 2, 0)=-1 | tells(0, 2, 1)=4 | tells(0, 2, 4)=100 | tells(0, 2, 5)=0 | tells(0, 2, 6)=1");
        walk.says("motions that are drawn; all laid back.");
        walk.then("drawn(0, 3)=1 | chance(0, 1, 2, 0)=1 | paper(5, 0, 0)=4 | set(0, 0, 9)=0 | back()=4 | told(0, 0)=0");
        walk.says("==== 1 DAY (0 ..");
        walk.run("told(0, 0)=0 | set(0, 0, 1)=0 | set(0, 0, 0)=1 | set(0, 0, -1)=-1000 | told(0, 0)=0");
    }

    private void calls512() {
        walk.says("An object is used for at most 512 calls after it has been made");
        OppositionInBaskets x = new OppositionInBaskets();
        for (int call = 1; call < 512; call++) {
            walk.is("set(0, 0, " + call + ")", x.set(0, 0, call), call - 1);
        }
        walk.is("told(0, 0), the 512th call", x.told(0, 0), 511);
        walk.passes("; what later calls answer is free.");
    }

    private void face() {
        walk.passes("## The public face ```java");
        walk.says("public final class OppositionInBaskets {");
        int is = OppositionInBaskets.class.getModifiers();
        walk.holds("public and final", Modifier.isPublic(is) && Modifier.isFinal(is));
        walk.says("public static final int NONE = -1, BAD = -2, STATE = -3, FULL = -4;");
        constant("NONE", int.class, -1);
        constant("BAD", int.class, -2);
        constant("STATE", int.class, -3);
        constant("FULL", int.class, -4);
        walk.says("public static final long NO = -4611686018427387904L;");
        constant("NO", long.class, -4611686018427387904L);
        walk.says("public OppositionInBaskets();");
        walk.holds("it is public", OppositionInBaskets.class.getConstructors().length == 1);
        walk.holds("there is no other", OppositionInBaskets.class.getDeclaredConstructors().length == 1);
        walk.holds("it takes nothing", OppositionInBaskets.class.getDeclaredConstructors()[0].getParameterCount() == 0);
        for (String s : Signatures.ALL) {
            walk.says("public " + s + ";");
            Signatures.hold(walk, s);
            named.add(s.replaceAll("\\w+ (\\w+).*", "$1"));
        }
        walk.says("} ```");
        walk.holds("no other method is public", named.equals(new TreeSet<>(Calls.methods().keySet())));
        Method[] methods = OppositionInBaskets.class.getDeclaredMethods();
        long many = Arrays.stream(methods).filter(m -> Modifier.isPublic(m.getModifiers())).count();
        walk.is("how many methods are public", many, Signatures.ALL.length);
        walk.is("how many constants are public", OppositionInBaskets.class.getFields().length, 5);
        for (Method m : methods) {
            walk.holds(m + " throws nothing", m.getExceptionTypes().length == 0);
        }
    }

    private void constant(String name, Class<?> type, long value) {
        try {
            Field f = OppositionInBaskets.class.getField(name);
            walk.holds(name + " is of its type", f.getType() == type);
            walk.holds(name + " is static and final", Modifier.isStatic(f.getModifiers()) && Modifier.isFinal(f.getModifiers()));
            walk.is(name, f.getLong(null), value);
        } catch (ReflectiveOperationException e) {
            walk.holds("there is a public constant " + name, false);
        }
    }
}
