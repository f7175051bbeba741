/** Promises 1 to 30, and what is not promised. */
final class WalkOfPromises {
    private static final String NO = "=-4611686018427387904";
    private static final String TEXT = "read(feels topic-3;weighs 2;smooths 4;)";

    private final Walk walk;
    private int promise = 1;

    WalkOfPromises(Walk walk) {
        this.walk = walk;
    }

    void all() {
        walk.passes("## Promise 1: A new object `OppositionInBaskets()`:");
        walk.says("No PAPERS.");
        walk.run("count(0)=0 | count(1)=0 | count(2)=0 | told(0, 2)=-1000 | taken(0, 0)=-11 | often(0)=-2 | topics(0)=0",
            "image()=0");
        papers();
        texts();
        divisions();
        decides();
        told();
        host();
        walk.is("the last promise", promise, 30);
        walk.passes("## Not promised How the state is held inside the object is free, as are the speed of each call, the text of "
            + "toString and the "
            + "behaviour of equals and hashCode. Use of one object from several threads at once is not promised to be safe. "
            + "Nothing is promised "
            + "beyond the answers and state changes described above, and nothing about an object after its 512th call.");
    }

    /** The heading of the next promise, with the method that it is of. */
    private void next(String name) {
        promise++;
        walk.passes("## Promise " + promise + ": " + name);
        String signature = Signatures.ALL[promise - 2];
        walk.says("`" + signature + "`:");
        walk.holds("it is of " + name, signature.contains(" " + name + "("));
        Signatures.hold(walk, signature);
    }

    private void papers() {
        next("set");
        walk.says("DAY (what 0; of does not matter), NEEDED (1; nor), NUMBER (2), MOOD (3), DESK (4), CRUMPLED (5), BURNT (6) of a "
            + "PAPER becomes v: "
            + "what it was.");
        walk.run("set(0, MIN, 7)=0 | set(0, MAX, 8)=7 | set(1, -5, 7)=10 | set(1, 99, 8)=7 | paper(1, 2, 3)=0 | paper(1, 2, 3)=1",
            "set(2, 1, 9)=2 | set(3, 1, -9)=3 | set(4, 1, 3)=0 | set(5, 1, 99)=50 | set(6, 1, 1)=0",
            "told(1, 2)=9 | told(1, 3)=-9 | told(1, 4)=3 | told(1, 5)=99 | told(1, 6)=1 | told(0, 0)=8 | told(0, 1)=8",
            "told(0, 2)=2 | told(0, 3)=3 | told(0, 4)=0 | told(0, 5)=50 | told(0, 6)=0");
        walk.says("-1000: what, of, v.");
        walk.then("set(7, 0, 0)=-1000 | set(-1, 0, 0)=-1000 | set(2, 2, 0)=-1000 | set(2, -1, 0)=-1000 | set(2, 0, 10)=-1000",
            "set(3, 0, -10)=-1000 | set(4, 0, 4)=-1000 | set(5, 0, -1)=-1000 | set(6, 0, 2)=-1000 | set(0, 0, 1000)=-1000",
            "set(1, 0, 0)=-1000 | told(0, 0)=8 | told(0, 1)=8 | told(0, 2)=2");
        next("paper");
        walk.says("A PAPER: its number.");
        walk.run("paper(0, 0, -9)=0 | paper(5, 9, 9)=1 | told(0, 3)=-9 | told(1, 7)=5 | told(1, 2)=9");
        walk.says("BAD; FULL.");
        walk.then("paper(6, 0, 0)=-2 | paper(-1, 0, 0)=-2 | paper(0, 10, 0)=-2 | paper(0, -1, 0)=-2 | paper(0, 0, 10)=-2",
            "paper(0, 0, -10)=-2",
            "paper(1, 1, 1)=2 | paper(1, 1, 1)=3 | paper(1, 1, 1)=4 | paper(1, 1, 1)=5 | paper(1, 1, 1)=6 | paper(1, 1, 1)=7",
            "paper(1, 1, 1)=-4 | paper(1, 1, 10)=-2 | count(0)=8");
        next("told");
        walk.says("What 0 .. 6 as of set(), 7 KIND, 8 WEIGHS, 9 SMOOTHS;");
        walk.run("told(-3, 0)=0 | told(99, 1)=10 | paper(3, 4, -5)=0 | told(0, 2)=4 | told(0, 3)=-5 | told(0, 4)=0 | told(0, 5)=50",
            "told(0, 6)=0 | told(0, 7)=3 | told(0, 8)=9 | told(0, 9)=9");
        walk.says("10 .. 17 what it FEELS of TOPIC what less 10, 20 .. 27 its vote there (1, -1, 0; BURNT: 0).");
        walk.then("told(0, 10)=-10 | told(0, 14)=0 | told(0, 17)=-10 | told(0, 20)=-1 | told(0, 24)=0 | told(0, 27)=-1",
            "set(3, 0, 5)=-5",
            "told(0, 20)=1 | set(6, 0, 1)=0 | told(0, 20)=0 | told(0, 10)=10");
        walk.says("-1000: none such.");
        walk.then("told(0, 18)=-1000 | told(0, 19)=-1000 | told(0, 28)=-1000 | told(0, -1)=-1000 | told(1, 2)=-1000",
            "told(-1, 20)=-1000");
        next("burn");
        walk.says("All PAPERS of a DESK are BURNT, truly: how many weren't.");
        walk.run("paper(0, 1, 1)=0 | paper(1, 1, 1)=1 | paper(2, 1, 1)=2 | set(4, 2, 3)=0 | set(6, 0, 1)=0 | burn(0)=1 | burn(0)=0",
            "told(0, 6)=1 | told(1, 6)=1 | told(2, 6)=0 | burn(1)=0 | burn(3)=1 | count(1)=3");
        walk.says("BAD.");
        walk.then("burn(4)=-2 | burn(-1)=-2");
    }

    private void texts() {
        next("feed");
        walk.says("A byte (0 .. 255) comes behind THE TAPE: how many it has.");
        walk.run("feed(0)=1 | feed(255)=2 | feed(102)=3 | count(4)=3");
        walk.says("BAD; FULL.");
        walk.then("feed(256)=-2 | feed(-1)=-2 | count(4)=3");
        for (int i = 4; i <= 160; i++) {
            walk.then("feed(32)=" + i);
        }
        walk.then("feed(32)=-4 | feed(256)=-2 | count(4)=160");
        next("text");
        walk.says("THE TAPE, which is empty then, is a TEXT: its number; -100 less the place of its FAULT.");
        walk.run(TEXT + "=1 | count(4)=0 | count(3)=2 | read(feels 1;)=-108 | count(4)=0 | count(3)=2 | text()=-100",
            TEXT + "=2");
        walk.says("FULL: no TEXT more has room (THE TAPE stays).");
        walk.then(TEXT + "=3 | " + TEXT + "=4 | " + TEXT + "=5 | count(3)=6",
            TEXT + "=-4 | count(4)=33 | text()=-4 | count(4)=33 | count(3)=6");
        next("force");
        walk.says("A TEXT is THE RULE: which was.");
        walk.run(TEXT + "=1 | paper(0, 6, 6)=0 | force(1)=0 | count(5)=1 | told(0, 10)=-3 | told(0, 8)=2 | force(0)=1",
            "told(0, 10)=6 | force(0)=0");
        walk.says("BAD.");
        walk.then("force(2)=-2 | force(-1)=-2 | force(6)=-2 | count(5)=0");
    }

    private void divisions() {
        next("division");
        walk.says("A DIVISION on a TOPIC: FOR (what 0), AGAINST (1), CARRIED (2; 1, 0), who votes for it (3; bits), against (4; "
            + "bits), BALANCE (5; bits).");
        walk.run("paper(0, 8, 1)=0 | paper(2, 7, 1)=1 | paper(0, 4, -1)=2 | paper(0, 9, 0)=3",
            "division(0, 0)=13 | division(0, 1)=5 | division(0, 2)=1 | division(0, 3)=3 | division(0, 4)=4 | division(0, 5)=3",
            "division(7, 0)=9 | division(7, 1)=9 | division(7, 2)=0 | division(7, 3)=1 | division(7, 4)=6 | division(7, 5)=6");
        walk.says("BAD.");
        walk.then("division(8, 0)=-2 | division(-1, 0)=-2 | division(0, 6)=-2 | division(0, -1)=-2");
        next("topics");
        walk.says("Which TOPICS are CARRIED (what 0; bits), CAUSE (1), how much that is (2).");
        walk.then("topics(0)=85 | topics(1)=0 | topics(2)=8 | set(6, 2, 1)=0 | topics(2)=13 | set(3, 0, -1)=1 | topics(1)=1",
            "topics(0)=0");
        walk.says("BAD.");
        walk.then("topics(3)=-2 | topics(-1)=-2");
        next("day");
        walk.says("A DAY, truly: how many are smooth then (CRUMPLED 0, not BURNT).");
        walk.run("day()=0 | paper(0, 0, 0)=0 | paper(0, 0, 0)=1 | paper(0, 0, 0)=2 | set(5, 0, 5)=50 | set(5, 1, 6)=50",
            "set(5, 2, 0)=50",
            "set(6, 2, 1)=0 | day()=1 | told(1, 5)=1 | day()=2 | told(0, 0)=3");
        walk.says("STATE: DAY is 999.");
        walk.then("set(0, 0, 998)=3 | day()=2 | day()=-3 | told(0, 0)=999 | set(5, 0, 9)=0 | day()=-3 | told(0, 5)=9");
        next("run");
        walk.says("n DAYS: how many TOPICS are CARRIED then (what 8), FOR of TOPIC what (0 .. 7).");
        // 50 CRUMPLED at first, 5 less each day: for it from the third day on
        walk.ruled("feels 40-crumpled+topic-topic;weighs 12;smooths 5;", "paper(0, 0, 0)=0 | run(2, 8)=0 | run(2, 7)=0",
            "run(3, 8)=8 | run(3, 7)=12",
            "run(40, 0)=12 | run(0, 0)=0 | told(0, 5)=50 | told(0, 0)=0");
        walk.says("BAD.");
        walk.then("run(41, 0)=-2 | run(-1, 0)=-2 | run(0, 9)=-2 | run(0, -1)=-2");
    }

    private void decides() {
        // 2, 3, 5 and 3, NEEDED 8
        String four = "paper(0, 1, 1)=0 | paper(0, 2, 1)=1 | paper(0, 4, 1)=2 | paper(5, 0, 1)=3 | set(1, 0, 8)=10";
        next("often");
        walk.says("OFTEN.");
        walk.run(four, "often(0)=1 | often(1)=3 | often(2)=5 | often(3)=3");
        walk.says("BAD: no such PAPER, or it is BURNT.");
        walk.then("often(4)=-2 | often(-1)=-2 | set(6, 0, 1)=0 | often(0)=-2 | often(1)=1");
        next("power");
        walk.says("POWER.");
        walk.run(four, "power(0, 0)=1 | power(0, 1)=12 | power(1, 0)=1 | power(1, 1)=4 | power(2, 0)=5 | power(2, 1)=12",
            "power(3, 0)=1 | power(3, 1)=4");
        walk.says("NO: no such PAPER, it is BURNT, part; no order WINS.");
        walk.then("power(4, 0)" + NO + " | power(-1, 1)" + NO + " | power(0, 2)" + NO + " | power(0, -1)" + NO,
            "set(1, 0, 13)=8 | power(0, 0)=1 | power(0, 1)=4 | set(1, 0, 14)=13 | power(0, 0)" + NO + " | power(0, 1)" + NO,
            "set(1, 0, 8)=14 | set(6, 0, 1)=0 | power(0, 0)" + NO);
        next("torn");
        walk.says("TORN.");
        walk.run(four, "torn(0)=2 | torn(1)=6 | torn(2)=10 | torn(3)=6");
        walk.says("BAD: no such PAPER, or it is BURNT.");
        walk.then("torn(4)=-2 | torn(-1)=-2 | set(6, 2, 1)=0 | torn(2)=-2 | torn(0)=2");
        next("fewest");
        walk.says("FEWEST (what 0; bits; NONE), how many (1; NONE), how many COALITIONS WIN (2).");
        walk.run(four, "fewest(0)=6 | fewest(1)=2 | fewest(2)=7 | set(1, 0, 14)=8 | fewest(0)=-1 | fewest(1)=-1 | fewest(2)=0");
        walk.says("BAD.");
        walk.then("fewest(3)=-2 | fewest(-1)=-2");
        next("stop");
        walk.says("STOP (what 0; bits), how many (1).");
        // the CORE feels 0: 10 for it
        walk.run(four, "stop(0, 0)=2 | stop(0, 1)=1 | set(1, 0, 5)=8 | stop(7, 0)=5 | stop(7, 1)=2 | set(1, 0, 11)=5",
            "stop(7, 0)=0 | stop(7, 1)=0");
        walk.says("BAD.");
        walk.then("stop(8, 0)=-2 | stop(-1, 0)=-2 | stop(0, 2)=-2 | stop(0, -1)=-2");
        next("goesWith");
        walk.says("GOES WITH (what 0; NONE), on how many TOPICS (1; NONE).");
        walk.run("paper(0, 0, 1)=0 | goesWith(0, 0)=-1 | goesWith(0, 1)=-1 | paper(3, 4, 1)=1 | goesWith(0, 0)=1",
            "goesWith(0, 1)=7 | goesWith(1, 0)=0");
        walk.says("BAD: no such PAPER, what.");
        walk.then("goesWith(2, 0)=-2 | goesWith(-1, 0)=-2 | goesWith(0, 2)=-2 | goesWith(0, -1)=-2");
    }

    private void told() {
        next("tells");
        walk.says("TOLD of a PAPER: the first that is otherwise (what 0; NONE), KINDS (1), NUMBERS (2), MOODS (3), CRUMPLED: how "
            + "many (4), the least (5; NONE), "
            + "TEXTS (6), PAPERS (7).");
        // a MEMO of NUMBER 2: for all but TOPIC 2
        walk.run("paper(3, 2, 1)=0 | paper(0, 2, 1)=1 | film(0, 0)=7 | tells(0, 0, 0)=-1 | tells(0, 0, 1)=8 | tells(0, 0, 2)=4",
            "tells(0, 0, 3)=523264 | tells(0, 0, 4)=100 | tells(0, 0, 5)=0 | tells(0, 0, 6)=1 | tells(0, 0, 7)=1",
            "tells(0, 1, 0)=2",
            "tells(0, 1, 1)=8 | tells(0, 1, 2)=0 | tells(0, 1, 3)=0 | tells(0, 1, 4)=0 | tells(0, 1, 5)=-1 | tells(0, 1, 6)=0",
            "tells(0, 1, 7)=1");
        walk.says("BAD: SHEET, no such PAPER, what; -11; BAD: it doesn't tell 8.");
        walk.then("tells(4, 0, 0)=-2 | tells(-1, 0, 0)=-2 | tells(0, 2, 0)=-2 | tells(0, -1, 0)=-2 | tells(0, 0, 8)=-2",
            "tells(0, 0, -1)=-2",
            "tells(1, 0, 0)=-11 | tells(1, 2, 0)=-2 | sheet(1, 0, 7)=1 | tells(1, 0, 0)=-2 | sheet(1, 0, 9)=1 | tells(1, 0, 0)=-2",
            "sheet(1, 2, 8)=1 | tells(1, 0, 0)=0");
        next("film");
        walk.says("A SHEET truly becomes votes of a PAPER on TOPICS 0 .. 7, were it not BURNT (bytes): how many aren't 0.");
        walk.run("paper(2, 0, -4)=0 | set(6, 0, 1)=0 | sheet(3, 2, 40)=1 | film(3, 0)=8 | tells(3, 0, 0)=-1 | cell(3, 8, 0)=-12",
            "sheet(2, 0, 1)=1",
            "copy(3, 0, 2, 0, 1)=1 | cell(3, 0, 1)=1 | tells(3, 0, 0)=0 | copy(2, 0, 3, 0, 1)=1 | tells(3, 0, 0)=-1",
            "set(3, 0, 0)=-4 | film(3, 0)=0");
        walk.says("BAD.");
        walk.then("film(4, 0)=-2 | film(-1, 0)=-2 | film(3, 1)=-2 | film(3, -1)=-2");
        next("drawn");
        walk.says("DRAWN.");
        // the even TOPICS are carried; SEED 0 draws 0 3 3 6 3 6 1 7
        walk.run("paper(2, 9, 1)=0 | set(1, 0, 5)=10 | drawn(0, 0)=0 | drawn(0, 1)=1 | drawn(0, 3)=1 | drawn(0, 4)=2",
            "drawn(0, 8)=3");
        walk.says("BAD: n.");
        walk.then("drawn(0, 100)=-2 | drawn(0, -1)=-2 | drawn(MIN, 0)=0");
        next("chance");
        walk.says("IN m seeds: part 0 above, 1 below the line, in lowest terms.");
        // of five drawn by SEEDS 0 .. 3 even: 2 (0 6), 2 (0 2), 2 (6 0), 3 (2 6 4)
        walk.then("chance(0, 4, 3, 0)=1 | chance(0, 4, 3, 1)=4 | chance(0, 4, 2, 0)=1 | chance(0, 4, 2, 1)=1",
            "chance(0, 4, 5, 0)=0 | chance(0, 20, 0, 1)=1");
        walk.says("NO: m, k, part.");
        walk.then("chance(0, 0, 0, 0)" + NO + " | chance(0, 21, 0, 0)" + NO + " | chance(0, 1, 6, 0)" + NO
            + " | chance(0, 1, -1, 0)" + NO + " | chance(0, 1, 0, 2)" + NO + " | chance(0, 1, 0, -1)" + NO);
        next("image");
        walk.says("AN IMAGE is kept: how many PAPERS.");
        walk.run("image()=0 | paper(0, 1, 2)=0 | image()=1 | set(2, 0, 7)=1 | back()=1 | told(0, 2)=1 | set(2, 0, 8)=1",
            "image()=1 | set(2, 0, 9)=8 | back()=1",
            "told(0, 2)=8");
        next("back");
        walk.says("All that it keeps is as in THE IMAGE: how many PAPERS.");
        walk.then("paper(1, 1, 1)=1 | paper(1, 1, 1)=2 | burn(0)=3 | back()=1 | count(0)=1 | count(1)=0 | paper(2, 3, 4)=1",
            "told(1, 7)=2 | back()=1");
        walk.says("STATE: there is none.");
        walk.run("back()=-3 | paper(0, 0, 0)=0 | back()=-3 | count(0)=1");
        next("count");
        walk.says("How many: 0 PAPERS, 1 BURNT, 2 WEIGHT of all that aren't, 3 TEXTS, 4 bytes of THE TAPE, 5 THE RULE.");
        walk.run("paper(0, 3, 1)=0 | paper(0, 4, 1)=1 | paper(0, 5, 1)=2 | set(6, 1, 1)=0 | " + TEXT + "=1 | feed(1)=1 | feed(2)=2",
            "count(0)=3 | count(1)=1 | count(2)=10 | count(3)=2 | count(4)=2 | count(5)=0 | force(1)=0 | count(2)=4 | count(5)=1");
        walk.says("BAD.");
        walk.then("count(6)=-2 | count(-1)=-2");
    }

    private void host() {
        next("sheet");
        walk.says("A SHEET becomes a row of n of a sort, all 0, or missing (sort -1: n does not matter): 1.");
        walk.run("sheet(0, 0, 40)=1 | cell(0, 39, 1)=1 | cell(0, 40, 1)=-12 | sheet(0, 2, 0)=1 | cell(0, 0, 1)=-12",
            "paper(0, 0, 0)=0",
            "sheet(3, 1, 8)=1 | tells(3, 0, 0)=-1 | cell(3, 6, 1)=1 | tells(3, 0, 0)=6 | sheet(3, 1, 8)=1 | tells(3, 0, 0)=-1",
            "sheet(3, -1, 41)=1 | tells(3, 0, 0)=-11 | sheet(3, -1, -1)=1 | sheet(3, -1, MIN)=1 | cell(3, 0, 0)=-11");
        walk.says("BAD: no such SHEET, sort; n above 40; -14.");
        walk.then("sheet(4, 0, 1)=-2 | sheet(-1, 0, 1)=-2 | sheet(0, 3, 1)=-2 | sheet(0, -2, 1)=-2 | sheet(0, 0, 41)=-2",
            "sheet(0, 0, -1)=-14",
            "sheet(4, 0, -1)=-2 | cell(0, 0, 1)=-12");
        next("cell");
        walk.says("Item i of a SHEET becomes v (of bytes, shorts its lowest 8, 16 bits): 1.");
        walk.run("paper(0, 0, -1)=0 | film(0, 0)=8 | cell(0, 7, 1)=1 | tells(0, 0, 0)=7 | cell(0, 7, 255)=1 | tells(0, 0, 0)=-1",
            "cell(0, 7, 65535)=1",
            "tells(0, 0, 0)=-1 | sheet(1, 1, 3)=1 | cell(1, 0, 65536)=1 | cell(1, 1, 65545)=1 | cell(1, 2, 65527)=1",
            "papers(1, 1, 0, 1)=1",
            "told(1, 7)=0 | told(1, 2)=9 | told(1, 3)=-9 | sheet(2, 2, 3)=1 | cell(2, 2, 65527)=1 | papers(2, 2, 0, 1)=0");
        walk.says("BAD: no such SHEET; -11; -12.");
        walk.then("cell(4, 0, 0)=-2 | cell(-1, 0, 0)=-2 | cell(3, 0, 0)=-11 | cell(3, 99, 0)=-11 | cell(2, 3, 0)=-12",
            "cell(2, -1, 0)=-12");
        copy();
        papersOfSheet();
        next("taken");
        walk.says("A PAPER taken for one of KIND k (0 .. 5), or one under that one (also by others between): its NUMBER.");
        walk.run("paper(3, 7, 0)=0 | paper(4, 6, 0)=1 | paper(5, 5, 0)=2 | taken(0, 3)=7 | taken(0, 1)=7 | taken(0, 0)=7",
            "taken(1, 4)=6 | taken(1, 2)=6",
            "taken(1, 0)=6 | taken(2, 5)=5 | taken(2, 0)=5 | set(6, 0, 1)=0 | set(2, 0, 0)=7 | taken(0, 1)=0");
        walk.says("BAD: k; -11: no such PAPER; -13.");
        walk.then("taken(0, 6)=-2 | taken(0, -1)=-2 | taken(9, 6)=-2 | taken(3, 0)=-11 | taken(-1, 0)=-11 | taken(0, 2)=-13",
            "taken(0, 4)=-13",
            "taken(1, 1)=-13 | taken(2, 1)=-13");
    }

    private void copy() {
        next("copy");
        walk.says("n numbers of a SHEET, from item i on, come to another one's item j on (as they were): n.");
        // 1 2 3 4 5 6 becomes 1 2 1 2 3 4: two papers
        walk.run("sheet(0, 0, 6)=1 | cell(0, 0, 1)=1 | cell(0, 1, 2)=1 | cell(0, 2, 3)=1 | cell(0, 3, 4)=1 | cell(0, 4, 5)=1",
            "cell(0, 5, 6)=1",
            "copy(0, 0, 0, 2, 4)=4 | papers(0, 0, 0, 2)=2 | told(0, 7)=1 | told(0, 2)=2 | told(0, 3)=1 | told(1, 7)=2",
            "told(1, 2)=3 | told(1, 3)=4",
            "sheet(1, 0, 3)=1 | copy(0, 3, 1, 0, 3)=3 | papers(1, 0, 0, 1)=1 | told(2, 7)=2 | told(2, 2)=3 | told(2, 3)=4",
            "copy(0, 6, 1, 3, 0)=0");
        walk.says("BAD: no such SHEET; -11; -13: they are of unlike sorts; -12 (also with n below 0).");
        walk.then("copy(4, 0, 0, 0, 1)=-2 | copy(0, 0, -1, 0, 1)=-2 | copy(2, 0, 0, 0, 1)=-11 | copy(0, 0, 2, 0, 1)=-11",
            "sheet(2, 1, 9)=1",
            "copy(0, 0, 2, 0, 1)=-13 | copy(0, 99, 2, 0, 1)=-13 | copy(0, 4, 1, 0, 3)=-12 | copy(0, 0, 1, 1, 3)=-12",
            "copy(0, 0, 1, 0, -1)=-12",
            "copy(0, -1, 1, 0, 1)=-12 | copy(0, 0, 1, -1, 1)=-12 | copy(0, 7, 1, 0, 0)=-12 | copy(0, 0, 1, 0, MAX)=-12",
            "copy(0, MAX, 1, 0, MAX)=-12");
    }

    private void papersOfSheet() {
        next("papers");
        walk.says("PAPERS by a SHEET that is taken for one of a sort: from one on, three by three (as of paper()), n of them (0 .. "
            + "8): "
            + "how many came (others are left out).");
        // from item 1 on: a LETTER, then one of no KIND, then a CORE
        walk.run("sheet(0, 2, 10)=1 | cell(0, 1, 1)=1 | cell(0, 2, 7)=1 | cell(0, 3, -8)=1 | cell(0, 4, 6)=1 | cell(0, 7, 5)=1",
            "cell(0, 8, 4)=1 | cell(0, 9, 3)=1",
            "papers(0, 2, 1, 3)=2 | count(0)=2 | told(0, 7)=1 | told(0, 2)=7 | told(0, 3)=-8 | told(1, 7)=5 | told(1, 2)=4",
            "told(1, 3)=3",
            "papers(0, 2, 1, 0)=0 | papers(0, 2, 7, 1)=1 | count(0)=3");
        walk.says("BAD: no such SHEET, sort, n; -13; -11; -12: what stood ahead came.");
        walk.then("papers(4, 2, 0, 1)=-2 | papers(-1, 2, 0, 1)=-2 | papers(0, 3, 0, 1)=-2 | papers(0, -1, 0, 1)=-2",
            "papers(0, 2, 0, 9)=-2",
            "papers(0, 2, 0, -1)=-2 | papers(0, 1, 0, 1)=-13 | papers(0, 0, 99, 1)=-13 | papers(1, 2, 0, 1)=-11",
            "papers(1, 2, 99, 1)=-11",
            "papers(0, 2, 8, 1)=-12 | papers(0, 2, -1, 1)=-12 | count(0)=3 | papers(0, 2, 1, 4)=-12 | count(0)=5",
            "papers(0, 2, 7, 8)=-12 | count(0)=6");
    }
}
