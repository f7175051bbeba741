/** Promises 6 to 8: feed, text, force; and what a text is and tells. */
public final class TextsTest {
    private static final Due due = new Due();

    public static void main(String[] args) {
        feed();
        values();
        names();
        faults();
        depth();
        full();
        force();
        due.end();
    }

    private static void feed() {
        OppositionInBaskets x = new OppositionInBaskets();
        due.is("feed(-1)", x.feed(-1), -2);
        due.is("feed(256)", x.feed(256), -2);
        due.is("feed(0)", x.feed(0), 1);
        due.is("feed(255)", x.feed(255), 2);
        for (int i = 3; i <= 160; i++) {
            due.is("feed(32)", x.feed(32), i);
        }
        due.is("the tape is full", x.feed(32), -4);
        due.is("bad goes ahead of full", x.feed(256), -2);
        due.is("count(4)", x.count(4), 160);
        due.is("text()", x.text(), -100);
        due.is("empty then", x.count(4), 0);
        due.is("feed(1)", x.feed(1), 1);
    }

    /** The value of an expression, between -99 and 99, as a paper of mood 0 feels it. */
    private static void value(String expression, int want) {
        OppositionInBaskets x = new OppositionInBaskets();
        int number = Due.read(x, "feels " + expression + ";weighs 1;smooths 1;");
        due.is("the text " + expression, number, 1);
        due.is("force", x.force(1), 0);
        x.paper(0, 2, -3);
        x.set(0, 0, 40);
        x.set(4, 0, 2);
        due.is(expression, x.told(0, 15), want);
    }

    private static void values() {
        value("7", 7);
        value("0099", 99);
        value("1+2*3", 7);
        value("(1+2)*3", 9);
        value("10-3-2", 5);
        value("10-(3-2)", 9);
        value("2*3*4-1", 23);
        value("-3+5", 2);
        value("- - 3", 3);
        value("2--3", 5);
        value("2*-3", -6);
        value("-2*3", -6);
        value("1<2", 1);
        value("2<2", 0);
        value("3<2", 0);
        value("-1<0", 1);
        value("2=2", 1);
        value("2=3", 0);
        value("1+1=2", 1);
        value("not 0", 1);
        value("not 5", 0);
        value("not not 5", 1);
        value("not 1=2", 1);
        value("not(1=2)+1", 0);
        value("not 1+-1", 1);
        value("5 and 6", 1);
        value("5 and 0", 0);
        value("0 and 5", 0);
        value("0 or 6", 1);
        value("6 or 0", 1);
        value("0 or 0", 0);
        value("1 or 0 and 0", 1);
        value("(1 or 0) and 0", 0);
        value("0 or 0 or 3", 1);
        value("1 and 2 and 0", 0);
        value("not 0 and 0", 0);
        value("not(0 and 0)", 1);
        value("3*(1<2)", 3);
        value("(2)", 2);
        value("\n(\n2\n)\n", 2);
        value("9999", 99);
        value("-9999", -99);
        // 65536 squared is 0 in 32 bits; 46341 squared is below 0
        value("(4096*16)*(4096*16)+5", 5);
        value("(9999*4+6345)*(9999*4+6345)", -99);
        value("8192*8192*32<0", 1);
        value("-(8192*8192*32)<0", 1);
        value("8192*8192*32-1<0", 0);
        value("-2*8192*8192*16-1<0", 0);
    }

    private static void names() {
        value("mood", -3);
        value("number", 2);
        value("crumpled", 50);
        value("topic", 5);
        value("day", 40);
        value("desk", 2);
        OppositionInBaskets x = Due.ruled("feels crumpled-50;weighs 10+topic+mood+desk;smooths topic+number+day;");
        x.paper(0, 6, -2);
        x.set(4, 0, 1);
        x.set(0, 0, 30);
        for (int t = 0; t < 8; t++) {
            due.is("no topic in it", x.told(0, 10 + t), 0);
        }
        due.is("weighs: topic 0", x.told(0, 8), 9);
        due.is("smooths: topic 0", x.told(0, 9), 36);
        x.set(5, 0, 51);
        due.is("feels by how crumpled", x.told(0, 10), 1);
    }

    private static void fault(String text, int place) {
        OppositionInBaskets x = new OppositionInBaskets();
        due.is("text \"" + text + "\"", Due.read(x, text), -100 - place);
        due.is("the tape is empty then", x.count(4), 0);
        due.is("no text came", x.count(3), 1);
    }

    private static void faults() {
        String rest = ";weighs 1;smooths 1;";
        fault("", 0);
        fault("  \n ", 4);
        fault("feels", 5);
        fault("feels ", 6);
        fault("feels 1", 7);
        fault("feels 1;", 8);
        fault("feels 1;weighs 1;smooths 1", 26);
        fault("feels 1;weighs 1;smooths 1  ", 28);
        fault("feels 1;weighs 1;smooths 1;;", 27);
        fault("feels 1;weighs 1;smooths 1; feels", 28);
        fault("feels 1;weighs 1;smooths 1; ?", 28);
        fault("weighs 1;", 0);
        fault(" mood", 1);
        fault("feels 1;smooths 1;", 8);
        fault("feels 1;weighs 1;weighs 1;", 17);
        fault("feels ;", 6);
        fault("feels 1 2" + rest, 8);
        fault("feels 1<2<3" + rest, 9);
        fault("feels 1=2=3" + rest, 9);
        fault("feels 1<2=3" + rest, 9);
        fault("feels 1+" + rest, 8);
        fault("feels *1" + rest, 6);
        fault("feels +1" + rest, 6);
        fault("feels 1 not 2" + rest, 8);
        fault("feels 1+not 2" + rest, 8);
        fault("feels 1=not 2" + rest, 8);
        fault("feels -not 2" + rest, 7);
        fault("feels not" + rest, 9);
        fault("feels 1 and" + rest, 11);
        fault("feels or 1" + rest, 6);
        fault("feels (1" + rest, 8);
        fault("feels 1)" + rest, 7);
        fault("feels ()" + rest, 7);
        fault("feels feels" + rest, 6);
        fault("feels moods" + rest, 6);
        fault("feels moo" + rest, 6);
        fault("feelsmood" + rest, 0);
        fault("feels mood or andmood" + rest, 14);
        fault("feels Mood" + rest, 6);
        fault("feels mOod" + rest, 6);
        fault("feels mo0d" + rest, 6);
        fault("feels 12345" + rest, 6);
        fault("feels 00001" + rest, 6);
        fault("feels 1+12345" + rest, 8);
        fault("feels 1>2" + rest, 7);
        fault("feels 1\t" + rest, 7);
        fault("feels 1\r" + rest, 7);
        fault("feels " + (char) 0 + rest, 6);
        fault("feels " + (char) 233 + rest, 6);
        fault("feels 1/2" + rest, 7);
        fault("feels 1;weighs ?", 15);
        fault("feels 1mood" + rest, 7);
        fault("feels mood1" + rest, 10);
        fault("feels 1 or" + rest, 10);
        fault("feels 1<" + rest, 8);
        fault("feels 1=" + rest, 8);
        fault("feels 1*" + rest, 8);
        fault("feels -" + rest, 7);
        fault("feels food" + rest, 6);
        fault("feels bay" + rest, 6);
        fault("feels moodz" + rest, 6);
        fault("zeels mood" + rest, 0);
        fault("feels `" + rest, 6);
        fault("feels {" + rest, 6);
        fault("feels /" + rest, 6);
        fault("feels :" + rest, 6);
    }

    private static void depth() {
        String rest = ";weighs 1;smooths 1;";
        value("(((((3)))))", 3);
        value("-----3", -3);
        value("not not not not not 3", 0);
        value("not(-(-3))", 0);
        value("(((((1))))-(-1)+(((-1)-(-1))))", 2);
        value("(((((3)))))+(((((4)))))*-----1", -1);
        value("-----3------4", 1);
        value("-(1)--(2)-(-(-3))", -2);
        value("not not not not not 3 or not not not not not 0", 1);
        fault("feels ((((((3))))))" + rest, 11);
        fault("feels ------3" + rest, 11);
        fault("feels not not not not not not 3" + rest, 26);
        fault("feels not(-(-(3)))" + rest, 13);
        fault("feels not not not not not -3" + rest, 26);
        fault("feels not not not not not (3)" + rest, 26);
        fault("feels (((((not 3)))))" + rest, 11);
        fault("feels not not not not not 1+1<-1" + rest, 30);
        fault("feels (((((1)-1))-((1)))+-(-(-(-2))))" + rest, 29);
        fault("feels 1;weighs ((((((1))))));", 20);
    }

    private static void full() {
        OppositionInBaskets x = new OppositionInBaskets();
        String text = "feels 1;weighs 1;smooths 1;";
        for (int i = 1; i <= 5; i++) {
            due.is("text " + i, Due.read(x, text), i);
            due.is("count(3)", x.count(3), i + 1);
            due.is("a fault takes no room", i < 5 ? Due.read(x, "?") : -100, -100);
        }
        due.is("no more room", Due.read(x, text), -4);
        due.is("the tape stays", x.count(4), text.length());
        due.is("no more room", x.text(), -4);
        due.is("feed goes on", x.feed('?'), text.length() + 1);
        due.is("full goes ahead of a fault", x.text(), -4);
        due.is("count(3)", x.count(3), 6);
        OppositionInBaskets y = new OppositionInBaskets();
        String longest = text + "\n".repeat(160 - text.length());
        due.is("a text of 160 bytes", Due.read(y, longest), 1);
        String sums = "feels 1" + "+1".repeat(66) + ";weighs 1;smooths 1;";
        due.is("a long sum", Due.read(y, sums), 2);
        y.paper(0, 0, 0);
        y.force(2);
        due.is("what it tells", y.told(0, 10), 67);
        manyLongOnes();
    }

    /** What an earlier text took up is no burden for a later one; more of them would be more than 512 calls. */
    private static void manyLongOnes() {
        OppositionInBaskets x = new OppositionInBaskets();
        x.paper(0, 0, 0);
        String faulty = "feels 1" + "+1".repeat(70) + ";?";
        due.is("a faulty one", Due.read(x, faulty), -100 - faulty.length() + 1);
        for (int i = 1; i <= 2; i++) {
            String text = "feels " + i + "+1".repeat(40) + ";weighs " + i + "+1".repeat(9) + ";smooths " + i + "+1".repeat(5) + ";";
            due.is("a long one", Due.read(x, text), i);
        }
        for (int i = 2; i > 0; i--) {
            x.force(i);
            due.is("feels", x.told(0, 10), i + 40);
            due.is("weighs", x.told(0, 8), i + 9);
            due.is("smooths", x.told(0, 9), i + 5);
        }
    }

    private static void force() {
        OppositionInBaskets x = new OppositionInBaskets();
        x.paper(0, 3, -4);
        due.is("force(0)", x.force(0), 0);
        due.is("force(1)", x.force(1), -2);
        due.is("force(-1)", x.force(-1), -2);
        Due.read(x, "feels 5;weighs 6;smooths 7;");
        due.is("a text that came is not the rule", x.told(0, 10), -4);
        due.is("force(2)", x.force(2), -2);
        due.is("force(1)", x.force(1), 0);
        due.is("feels", x.told(0, 10), 5);
        due.is("weighs", x.told(0, 8), 6);
        due.is("smooths", x.told(0, 9), 7);
        due.is("count(5)", x.count(5), 1);
        due.is("force(0)", x.force(0), 1);
        due.is("feels", x.told(0, 10), -4);
        due.is("weighs", x.told(0, 8), 4);
        due.is("smooths", x.told(0, 9), 5);
        due.is("count(5)", x.count(5), 0);
    }
}
