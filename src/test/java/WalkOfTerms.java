/** The terms: papers and their kinds, refusals, texts. */
final class WalkOfTerms {
    private static final String REST = ";weighs 1;smooths 1;";
    private static final String EIGHT = "paper(0, 0, 0)=0 | paper(1, 1, 1)=1 | paper(2, 2, 2)=2 | paper(3, 3, 3)=3 | "
        + "paper(4, 4, 4)=4 | paper(5, 5, 5)=5 | paper(0, 6, 6)=6 | paper(1, 7, 7)=7";

    private final Walk walk;

    WalkOfTerms(Walk walk) {
        this.walk = walk;
    }

    void all() {
        walk.passes("## Terms");
        numbers();
        papers();
        refusals();
        walk.passes("```text");
        feels();
        weighs();
        smooths();
        tokens();
        grammar();
        faults();
        texts();
        walk.passes("```");
    }

    private void numbers() {
        walk.says("999; 0 at first).");
        walk.run("told(0, 0)=0 | set(0, 0, 999)=0 | set(0, 0, 1000)=-1000 | told(0, 0)=999");
        walk.says("NEEDED (1 .. 999; 10 at first): a motion is carried with as much WEIGHT for it as that, or more.");
        walk.run("paper(0, 4, 1)=0 | told(0, 1)=10 | division(3, 2)=0 | set(1, 0, 5)=10 | division(3, 2)=1 | set(1, 0, 6)=5",
            "division(3, 2)=0 | set(1, 0, 4)=6 | division(3, 2)=1 | set(1, 0, 999)=4 | set(1, 0, 1000)=-1000 | set(1, 0, 0)=-1000",
            "set(1, 0, 1)=999 | division(3, 2)=1");
        walk.says("TOPICS 0 .. 7.");
        walk.run("division(0, 0)=0 | division(7, 0)=0 | division(8, 0)=-2 | division(-1, 0)=-2");
    }

    private void papers() {
        walk.says("PAPERS (8 at most, numbered from 0) have a KIND:");
        walk.run(EIGHT, "paper(0, 0, 0)=-4 | count(0)=8 | told(0, 7)=0 | told(7, 7)=1 | told(8, 7)=-1000 | told(-1, 7)=-1000");
        walk.says("0 DRAFT, 1 LETTER under DRAFT, 2 ENVELOPE under DRAFT, 3 MEMO under LETTER, 4 DOODLE under ENVELOPE, 5 CORE "
            + "under DRAFT;");
        // of each kind: those that it may be taken for
        int[][] above = {{0}, {1, 0}, {2, 0}, {3, 1, 0}, {4, 2, 0}, {5, 0}};
        for (int kind = 0; kind < 6; kind++) {
            walk.run("paper(" + kind + ", 8, 0)=0 | told(0, 7)=" + kind);
            for (int k = 0; k < 6; k++) {
                boolean is = false;
                for (int a : above[kind]) {
                    is |= a == k;
                }
                walk.then("taken(0, " + k + ")=" + (is ? 8 : -13));
            }
        }
        walk.run("paper(-1, 0, 0)=-2 | paper(6, 0, 0)=-2 | count(0)=0");
        walk.says("a NUMBER (0 .. 9),");
        walk.run("paper(0, 0, 0)=0 | paper(0, 9, 0)=1 | paper(0, 10, 0)=-2 | paper(0, -1, 0)=-2 | told(0, 2)=0 | told(1, 2)=9");
        walk.says("a MOOD (-9 .. 9),");
        walk.run("paper(0, 0, -9)=0 | paper(0, 0, 9)=1 | paper(0, 0, 10)=-2 | paper(0, 0, -10)=-2 | told(0, 3)=-9 | told(1, 3)=9");
        walk.says("are of a DESK (0 .. 3; 0 as one comes),");
        walk.run("paper(3, 1, 1)=0 | told(0, 4)=0 | set(4, 0, 3)=0 | set(4, 0, 4)=-1000 | set(4, 0, -1)=-1000 | set(4, 0, 0)=3");
        walk.says("CRUMPLED (0 .. 99; 50 as one comes),");
        walk.run("paper(3, 1, 1)=0 | told(0, 5)=50 | set(5, 0, 99)=50 | set(5, 0, 100)=-1000 | set(5, 0, -1)=-1000",
            "set(5, 0, 0)=99");
        walk.says("BURNT or not (1, 0; not, as one comes).");
        walk.run("paper(3, 1, 1)=0 | told(0, 6)=0 | set(6, 0, 1)=0 | set(6, 0, 2)=-1000 | set(6, 0, -1)=-1000 | set(6, 0, 0)=1");
    }

    private void refusals() {
        walk.says("NONE is -1; NO, where a long is answered, -4611686018427387904.");
        walk.run("fewest(0)=-1 | power(0, 0)=-4611686018427387904 | paper(0, 0, 0)=0 | goesWith(0, 0)=-1");
        walk.says("Quotients are cut toward 0.");
        walk.ruled("feels 1;weighs 7;smooths 1;", "paper(2, 0, 0)=0 | told(0, 8)=3 | paper(4, 0, 0)=1 | told(1, 8)=4");
        walk.says("Refusals, the first that the call's words name; they change nothing:");
        walk.run(EIGHT, "paper(0, 10, 0)=-2 | sheet(0, 0, 3)=1 | tells(0, 9, 0)=-2 | tells(1, 0, 0)=-11 | copy(1, 99, 0, 0, 1)=-11",
            "sheet(1, 1, 3)=1 | copy(1, 99, 0, 0, 1)=-13 | sheet(0, 3, -1)=-2 | sheet(0, 1, 41)=-2 | papers(0, 1, 99, 1)=-13",
            "taken(8, 6)=-2 | taken(8, 5)=-11 | count(0)=8 | cell(0, 2, 1)=1 | papers(0, 0, 0, 1)=0");
        walk.says("BAD (-2: a number is none such or not as told), STATE (-3), FULL (-4);");
        walk.run("burn(4)=-2 | set(0, 0, 999)=0 | day()=-3 | back()=-3", EIGHT, "paper(0, 0, 0)=-4");
        walk.says("the host's: -11 nothing where something is asked,");
        walk.run("cell(0, 0, 1)=-11 | copy(0, 0, 0, 0, 0)=-11 | papers(0, 0, 0, 0)=-11 | taken(0, 0)=-11 | paper(0, 0, 0)=0",
            "tells(0, 0, 0)=-11");
        walk.says("-12 a place outside,");
        walk.run("sheet(0, 0, 4)=1 | cell(0, 4, 1)=-12 | cell(0, -1, 1)=-12 | copy(0, 2, 0, 0, 3)=-12 | papers(0, 0, 2, 1)=-12");
        walk.says("-13 a thing of another sort or KIND,");
        walk.then("sheet(1, 1, 4)=1 | copy(0, 0, 1, 0, 1)=-13 | papers(0, 1, 0, 1)=-13 | paper(0, 0, 0)=0 | taken(0, 1)=-13");
        walk.says("-14 a size below 0.");
        walk.then("sheet(2, 2, -1)=-14 | sheet(2, 2, MIN)=-14 | cell(2, 0, 1)=-11");
    }

    /** Of each kind one paper of NUMBER 5 and MOOD -3, by a text. */
    private void kinds(String text) {
        walk.ruled(text, "paper(0, 5, -3)=0 | paper(1, 5, -3)=1 | paper(2, 5, -3)=2 | paper(3, 5, -3)=3 | paper(4, 5, -3)=4",
            "paper(5, 5, -3)=5");
    }

    private void feels() {
        // v is -20 of TOPIC 0, -11, -2, 7, 16, 25, 34, 43 of TOPIC 7
        walk.says("FEELS (of a TOPIC t, feels telling v; MOOD m): DRAFT: v;");
        kinds("feels topic*9-20;weighs 7;smooths 11;");
        walk.then("told(0, 10)=-20 | told(0, 13)=7 | told(0, 17)=43");
        walk.says("LETTER: twice a DRAFT's;");
        walk.then("told(1, 10)=-40 | told(1, 13)=14 | told(1, 17)=86");
        walk.says("ENVELOPE: 0 less a DRAFT's, if t is odd, else as a DRAFT;");
        walk.then("told(2, 10)=-20 | told(2, 11)=11 | told(2, 13)=-7 | told(2, 16)=34 | told(2, 17)=-43");
        walk.says("MEMO: 0, if t is NUMBER modulo 8, else as a LETTER;");
        walk.then("told(3, 15)=0 | told(3, 14)=32 | told(3, 16)=68 | set(2, 3, 9)=5 | told(3, 11)=0 | told(3, 15)=50",
            "set(2, 3, 8)=9",
            "told(3, 10)=0 | told(3, 11)=-22 | set(2, 3, 5)=8");
        walk.says("DOODLE: m;");
        walk.then("told(4, 10)=-3 | told(4, 17)=-3 | set(3, 4, 9)=-3 | told(4, 11)=9 | set(3, 4, -3)=9");
        walk.says("CORE: 1 less than a DRAFT.");
        walk.then("told(5, 10)=-21 | told(5, 13)=6 | told(5, 17)=42");
    }

    private void weighs() {
        walk.says("WEIGHS (weighs telling v): DRAFT: v;");
        walk.then("told(0, 8)=7");
        walk.says("LETTER: NUMBER more than a DRAFT;");
        walk.then("told(1, 8)=12");
        walk.says("ENVELOPE: half (cut) of a DRAFT's;");
        walk.then("told(2, 8)=3");
        walk.says("MEMO: as a LETTER;");
        walk.then("told(3, 8)=12");
        walk.says("DOODLE: 1 more than an ENVELOPE;");
        walk.then("told(4, 8)=4");
        walk.says("CORE: 3.");
        walk.then("told(5, 8)=3 | count(2)=41");
    }

    private void smooths() {
        walk.says("SMOOTHS (by how much a day makes it less CRUMPLED, smooths telling v): DRAFT: v;");
        walk.then("told(0, 9)=11");
        walk.says("LETTER: as a DRAFT;");
        walk.then("told(1, 9)=11");
        walk.says("ENVELOPE: twice a DRAFT's;");
        walk.then("told(2, 9)=22");
        walk.says("MEMO: NUMBER more than a LETTER;");
        walk.then("told(3, 9)=16");
        walk.says("DOODLE: as an ENVELOPE;");
        walk.then("told(4, 9)=22");
        walk.says("CORE: 0.");
        walk.then("told(5, 9)=0 | day()=0 | told(0, 5)=39 | told(1, 5)=39 | told(2, 5)=28 | told(3, 5)=34 | told(4, 5)=28",
            "told(5, 5)=50");
        walk.says("(WEIGHS, SMOOTHS 0 .. 99, else the bound: laid once, on what comes out.)");
        kinds("feels 1;weighs 95;smooths 96;");
        walk.then("told(0, 8)=95 | told(1, 8)=99 | told(2, 8)=47 | told(3, 8)=99 | told(4, 8)=48 | told(5, 8)=3",
            "told(0, 9)=96 | told(1, 9)=96 | told(2, 9)=99 | told(3, 9)=99 | told(4, 9)=99 | told(5, 9)=0");
    }

    private void tokens() {
        walk.says("A TEXT is read from THE TAPE (160 bytes at most).");
        String most = "feels 1" + "+1".repeat(66) + " " + REST;
        walk.run("read(" + most + ")=1 | force(1)=0 | paper(0, 0, 0)=0 | told(0, 10)=67", "count(4)=0");
        walk.is("its bytes", most.length(), 160);
        // what comes behind 160 bytes is not taken any more, so that the text ends too early
        walk.fault(" " + most, 160);
        walk.says("TOKENS, each as long as can be: WORDS (a .. z),");
        walk.fault("feels moodnumber" + REST, 6);
        walk.fault("feels mood number" + REST, 11);
        walk.fault("feels Mood" + REST, 6);
        walk.says("NUMBERS (digits, 4 at most),");
        walk.value("0012", 12);
        walk.value("9999-9990", 9);
        walk.fault("feels 10000" + REST, 6);
        walk.fault("feels 00001" + REST, 6);
        walk.fault("feels 1 2" + REST, 8);
        walk.says("SIGNS ( ) ; + - * < = ;");
        walk.value("((2+3)*4-1<20)=1", 1);
        walk.fault("feels 1 > 2" + REST, 8);
        walk.says("blanks (32, 10) may stand between.");
        walk.value(" \n mood \n + \n 1 \n ", 4);
        walk.fault("feels\t1" + REST, 5);
        walk.fault("feels\r1" + REST, 5);
    }

    private void grammar() {
        walk.says("TEXT: feels E ; weighs E ; smooths E ;");
        walk.ruled("feels7;weighs8;smooths9;", "paper(0, 0, 0)=0 | told(0, 10)=7 | told(0, 8)=8 | told(0, 9)=9");
        walk.fault("weighs 8;feels 7;smooths 9;", 0);
        walk.fault("feels 7;weighs 8;smooths 9", 26);
        walk.fault("feels 7;weighs 8;smooths 9;;", 27);
        walk.says("E: AND { or AND }.");
        walk.value("0 or 0 or 7", 1);
        walk.value("1 or 0 and 0", 1);
        walk.fault("feels 1 or" + REST, 10);
        walk.says("AND: NOT { and NOT }.");
        walk.value("2 and 3 and 4", 1);
        walk.value("not 1 and 0", 0);
        walk.fault("feels 1 and and 2" + REST, 12);
        walk.says("NOT: not NOT, or SUM, perhaps < or = and a SUM.");
        walk.value("not not 5", 1);
        walk.value("not 3 < 2", 1);
        walk.value("1 + 1 = 2", 1);
        walk.value("2 < 2", 0);
        walk.fault("feels 1<2=1" + REST, 9);
        walk.fault("feels 1+not 1" + REST, 8);
        walk.says("SUM: TERM { + or - TERM }.");
        walk.value("9-4-3", 2);
        walk.value("9-4+3", 8);
        walk.fault("feels 1+" + REST, 8);
        walk.says("TERM: ONE { * ONE }.");
        walk.value("2+3*4*2-1", 25);
        walk.fault("feels 1**2" + REST, 8);
        walk.says("ONE: a NUMBER, a NAME, - ONE, ( E ).");
        walk.value("-(2+3)*-2", 10);
        walk.value("--mood", 3);
        walk.value("(1 or 2)+5", 6);
        walk.fault("feels ()" + REST, 7);
        walk.fault("feels (1" + REST, 8);
        walk.fault("feels +1" + REST, 6);
        walk.says("NAMES are crumpled number topic mood day desk;");
        String[] names = {"crumpled", "number", "topic", "mood", "day", "desk"};
        int[] values = {50, 4, 2, 3, 0, 0};
        for (int i = 0; i < names.length; i++) {
            walk.value(names[i], values[i]);
        }
        walk.fault("feels burnt" + REST, 6);
        walk.says("feels, weighs, smooths, or, and, not are KEYS.");
        for (String key : new String[] {"feels", "weighs", "smooths", "or", "and"}) {
            walk.fault("feels " + key + REST, 6);
        }
        walk.fault("feels not" + REST, 9);
        walk.says("An E is an int (32 bits, wrapping):");
        // 9999 three times is 999,700,029,999, as 32 bits -1,027,349,969
        walk.value("9999*9999*9999<0", 1);
        walk.value("9999*9999*9999=-(1027*1000*1000+349*1000+969)", 1);
        walk.says("of or, and, not, <, = 1 or 0 (what is not 0 is true).");
        walk.value("(-7 or 0)+(7 and -7)*2+(not 0)*4+(-1<0)*8+(3=3)*16", 31);
        walk.value("(0 or 0)+(7 and 0)*2+(not -7)*4+(0<-1)*8+(3=-3)*16", 0);
    }

    private void faults() {
        walk.says("FAULT: the place of the first byte of the first TOKEN that can't stand there");
        walk.fault("  mood", 2);
        walk.fault("feels mood ; weighs 1 + + number ; smooths ?", 24);
        walk.says("(the text's size, if it ends too early),");
        walk.fault("", 0);
        walk.fault(" \n ", 3);
        walk.fault("feels 1 ", 8);
        walk.says("also of a byte that begins none, a WORD that is neither KEY nor NAME, a NUMBER that is too long,");
        walk.fault("feels 1 ! 2" + REST, 8);
        walk.fault("feels moods" + REST, 6);
        walk.fault("feels 1+12345" + REST, 8);
        walk.says("a ( , a not, a - ahead of a ONE while 5 of these are open");
        walk.value("(((((7)))))", 7);
        walk.fault("feels ((((((7))))))" + REST, 11);
        walk.value("not not not not not 7", 0);
        walk.fault("feels not not not not not not 7" + REST, 26);
        walk.value("-----7", -7);
        walk.fault("feels ------7" + REST, 11);
        walk.value("not(not(-1))", 1);
        walk.fault("feels not(not(-(1)))" + REST, 15);
        walk.fault("feels not(not(--1))" + REST, 15);
        walk.fault("feels (not(-(not 1)))" + REST, 13);
        walk.says("(a ( till its ) , not and - till what they belong to ends).");
        walk.value("((((1))))+((((1))))+(((((1)))))", 3);
        walk.value("not not not not not 1 or not not not not not 0", 1);
        walk.value("-----1-----1", -2);
        walk.fault("feels ----(1-----1)" + REST, 13);
    }

    private void texts() {
        walk.says("There are 6 TEXTS at most, TEXT 0 with them.");
        walk.run("count(3)=1");
        for (int i = 1; i < 6; i++) {
            walk.then("read(feels " + i + REST + ")=" + i);
        }
        walk.then("count(3)=6 | read(feels 6" + REST + ")=-4 | count(3)=6 | force(6)=-2 | force(5)=0");
        walk.says("Of a PAPER: crumpled: CRUMPLED; number: NUMBER; topic: the TOPIC (of weighs, smooths 0); mood: MOOD; day: DAY; "
            + "desk: DESK.");
        String set = "paper(0, 7, 5)=0 | set(5, 0, 60)=50 | set(4, 0, 3)=0 | set(0, 0, 11)=0";
        walk.ruled("feels crumpled+topic;weighs number+topic*9;smooths mood+topic*9;", set, "told(0, 16)=66 | told(0, 8)=7",
            "told(0, 9)=5");
        walk.ruled("feels day*2+desk;weighs day*2+desk;smooths day*2+desk;", set, "told(0, 16)=25 | told(0, 8)=25 | told(0, 9)=25");
        walk.says("feels (-99 .. 99, else the bound), weighs, smooths (0 .. 99, else the bound).");
        walk.ruled("feels mood*50;weighs mood*50;smooths mood*50;", "paper(0, 0, 1)=0 | paper(0, 0, 2)=1 | paper(0, 0, -1)=2",
            "paper(0, 0, -2)=3",
            "told(0, 10)=50 | told(1, 10)=99 | told(2, 10)=-50 | told(3, 10)=-99 | told(0, 8)=50 | told(1, 8)=99 | told(2, 8)=0",
            "told(0, 9)=50 | told(1, 9)=99 | told(2, 9)=0");
        walk.says("TEXT 0, at first THE RULE, is: feels mood ; weighs 1 + number ; smooths 5 ;");
        walk.run("count(5)=0 | paper(0, 4, 3)=0 | told(0, 10)=3 | told(0, 17)=3 | told(0, 8)=5 | told(0, 9)=5");
    }
}
