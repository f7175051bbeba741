/** What stands behind "==== 2" and "==== 3": divisions, coalitions, days, votes that were told, motions, images, sheets. */
final class WalkOfDivisions {
    /** DRAFTS that weigh 4, 6 and 9; the first two vote for each motion, the third against it. */
    private static final String THREE = "paper(0, 3, 1)=0 | paper(0, 5, 2)=1 | paper(0, 8, -1)=2";
    /** One who votes for TOPIC 3 alone, and carries it. */
    private static final String[] THIRD = {"feels topic=3;weighs 1;smooths 1;", "paper(0, 0, 0)=0 | set(1, 0, 1)=10 | topics(0)=8"};

    private final Walk walk;

    WalkOfDivisions(Walk walk) {
        this.walk = walk;
    }

    void all() {
        walk.passes("==== 2");
        division();
        walk.passes("```text");
        coalitions();
        fewest();
        stop();
        cause();
        goesWith();
        balance();
        torn();
        days();
        told();
        drawn();
        image();
        walk.passes("```");
        sheets();
        ahead();
    }

    private void division() {
        walk.says("A DIVISION on a TOPIC: each PAPER that isn't BURNT votes FOR it, if it FEELS more than 0, AGAINST it, if less; "
            + "else not at all.");
        walk.run("paper(0, 0, 1)=0 | paper(0, 0, -1)=1 | paper(0, 0, 0)=2 | paper(0, 0, 5)=3 | set(6, 3, 1)=0",
            "told(0, 24)=1 | told(1, 24)=-1 | told(2, 24)=0 | told(3, 24)=0 | division(4, 3)=1 | division(4, 4)=2");
        walk.says("FOR: WEIGHT of all who vote for it, together; AGAINST likewise.");
        walk.run(THREE, "division(4, 0)=10 | division(4, 1)=9");
        walk.says("CARRIED: FOR is NEEDED or more, and more than AGAINST.");
        walk.then("division(4, 2)=1 | set(1, 0, 11)=10 | division(4, 2)=0 | set(1, 0, 9)=11 | division(4, 2)=1",
            "set(2, 2, 9)=8 | division(4, 1)=10 | division(4, 2)=0 | set(6, 2, 1)=0 | division(4, 2)=1");
    }

    private void coalitions() {
        walk.says("COALITIONS: of all sets of PAPERS that aren't BURNT (none, too): one WINS, if it WEIGHS NEEDED or more, "
            + "together.");
        walk.run(THREE, "fewest(2)=4 | set(1, 0, 1)=10 | fewest(2)=7 | set(1, 0, 19)=1 | fewest(2)=1 | set(1, 0, 20)=19",
            "fewest(2)=0",
            "set(1, 0, 10)=20 | set(6, 0, 1)=0 | fewest(2)=1 | set(6, 0, 0)=1");
        walk.says("DECIDES in one: who is in it, if it WINS, and doesn't without that one. OFTEN: in how many one DECIDES.");
        walk.then("often(0)=2 | often(1)=2 | often(2)=2 | set(1, 0, 13)=10 | often(0)=1 | often(1)=1 | often(2)=3",
            "set(6, 0, 1)=0 | often(1)=1 | often(2)=1 | set(6, 0, 0)=1");
        walk.says("POWER: of all orders of these PAPERS those in which one is the first with whom all up to it, it, too, WIN, by "
            + "all orders: "
            + "part 0 above, 1 below the line, in lowest terms.");
        // NEEDED is 13: the third is so in all orders but those that it begins
        walk.then("power(0, 0)=1 | power(0, 1)=6 | power(1, 0)=1 | power(1, 1)=6 | power(2, 0)=2 | power(2, 1)=3",
            "set(6, 0, 1)=0 | power(1, 0)=1 | power(1, 1)=2 | set(6, 0, 0)=1 | set(1, 0, 9)=13 | power(2, 0)=2 | power(2, 1)=3");
    }

    private void fewest() {
        walk.says("FEWEST: the fewest PAPERS that aren't BURNT which, together, WIN; of so many the least as bits; NONE.");
        walk.run(THREE, "fewest(0)=3 | fewest(1)=2 | set(1, 0, 11)=10 | fewest(0)=5 | set(1, 0, 9)=11 | fewest(0)=4 | fewest(1)=1",
            "set(6, 2, 1)=0 | fewest(0)=3 | set(1, 0, 11)=9 | fewest(0)=-1 | fewest(1)=-1");
    }

    private void stop() {
        walk.says("STOP (a TOPIC): the fewest PAPERS (bits) by whose being BURNT it would not be CARRIED; of like ones the least "
            + "as bits (0: it isn't).");
        // 10 for it, 9 against it
        walk.run(THREE, "stop(0, 0)=1 | stop(0, 1)=1 | set(6, 2, 1)=0 | set(1, 0, 6)=10 | stop(0, 0)=2 | stop(0, 1)=1",
            "set(1, 0, 4)=6 | stop(0, 0)=3 | stop(0, 1)=2 | set(1, 0, 11)=4 | stop(0, 0)=0 | stop(0, 1)=0");
    }

    private void cause() {
        walk.says("CAUSE: the TOPIC with the greatest FOR less AGAINST (without a sign); of like ones the first.");
        // an ENVELOPE that weighs 5 beside a DRAFT that weighs 4
        walk.run("paper(0, 3, 1)=0 | paper(2, 9, 1)=1 | topics(1)=0 | topics(2)=9 | set(3, 1, -1)=1 | topics(1)=1 | topics(2)=9",
            "set(3, 0, -1)=1 | topics(1)=0 | topics(2)=9 | set(6, 1, 1)=0 | topics(1)=0 | topics(2)=4");
    }

    private void goesWith() {
        walk.says("GOES WITH (a PAPER): the other one, not BURNT, that votes alike on most TOPICS (also not at all); of like ones "
            + "the first; NONE.");
        walk.run("paper(0, 0, 1)=0 | paper(2, 0, 1)=1 | paper(4, 0, 1)=2 | paper(1, 0, 1)=3 | goesWith(0, 0)=2 | goesWith(0, 1)=8",
            "goesWith(2, 0)=0 | goesWith(1, 0)=0 | goesWith(1, 1)=4 | set(6, 2, 1)=0 | goesWith(0, 0)=3 | set(6, 3, 1)=0",
            "goesWith(0, 0)=1 | goesWith(0, 1)=4 | set(6, 1, 1)=0 | goesWith(0, 0)=-1 | goesWith(0, 1)=-1");
        walk.run("paper(0, 0, 0)=0 | paper(0, 0, 9)=1 | paper(4, 0, 0)=2 | goesWith(0, 0)=2 | goesWith(0, 1)=8",
            "goesWith(1, 0)=0 | goesWith(1, 1)=0");
    }

    private void balance() {
        walk.says("BALANCE (a TOPIC): PAPERS (bits) that vote, and by whose voting the other way it would turn from CARRIED to "
            + "not, or from not to CARRIED.");
        walk.run(THREE, "division(0, 5)=3 | set(1, 0, 20)=10 | division(0, 5)=0 | set(1, 0, 19)=20 | division(0, 5)=4",
            "set(1, 0, 10)=19",
            "set(3, 2, 0)=-1 | division(0, 5)=3 | set(1, 0, 4)=10 | division(0, 5)=2 | set(6, 1, 1)=0 | division(0, 5)=1");
    }

    private void torn() {
        walk.says("TORN (a PAPER): were it two, one of half (cut) its WEIGHT, one of the rest, who decide apart: OFTEN of both, "
            + "together.");
        // 9 are 4 and 5: beside 4 and 6 each of them decides twice
        walk.run(THREE, "torn(2)=4 | torn(0)=4 | set(1, 0, 13)=10 | torn(2)=6 | torn(0)=2 | set(1, 0, 20)=13 | torn(2)=0");
        walk.run("paper(0, 0, 1)=0 | set(1, 0, 1)=10 | torn(0)=2");
    }

    private void days() {
        walk.says("A DAY, truly: each PAPER that isn't BURNT is less CRUMPLED by what it SMOOTHS (0 at least); then DAY is 1 "
            + "more.");
        walk.run("paper(0, 0, 0)=0 | paper(2, 0, 0)=1 | paper(0, 0, 0)=2 | set(5, 1, 7)=50 | set(6, 2, 1)=0 | day()=1",
            "told(0, 5)=45 | told(1, 5)=0 | told(2, 5)=50 | told(0, 0)=1");
        walk.ruled("feels 1;weighs 1;smooths day+1;", "paper(0, 0, 0)=0 | day()=0 | told(0, 5)=49 | day()=0 | told(0, 5)=47");
        walk.says("n DAYS (0 .. 40), in thought (there DAY may pass 999): how many TOPICS are CARRIED then; FOR of one.");
        walk.ruled("feels day-1000;weighs 9;smooths 5;", "paper(0, 0, 0)=0 | set(0, 0, 999)=0 | set(1, 0, 9)=10",
            "run(0, 3)=0 | run(1, 3)=0 | run(2, 3)=9 | run(1, 8)=0 | run(2, 8)=8 | run(40, 8)=8 | told(0, 0)=999 | told(0, 5)=50");
    }

    private void told() {
        walk.says("TOLD: a SHEET tells votes of a PAPER, were it not BURNT, on TOPICS 0 .. 7 (1 for, -1 against, 0): the first "
            + "that is otherwise; NONE;");
        // of NUMBER 3, 50 CRUMPLED: not on TOPIC 0, for each other one
        walk.ruled("feels topic+crumpled-number*10-20;weighs 1;smooths 1;", "paper(0, 3, 9)=0 | paper(1, 3, 0)=1",
            "paper(0, 4, 0)=2");
        walk.then("set(6, 0, 1)=0 | set(6, 1, 1)=0 | film(2, 0)=7 | tells(2, 0, 0)=-1 | tells(2, 1, 0)=-1 | tells(2, 2, 0)=0",
            "cell(2, 5, -1)=1 | tells(2, 0, 0)=5 | cell(2, 5, 1)=1");
        walk.says("KINDS (bits 0 .. 5), NUMBERS (bits 0 .. 9), MOODS (of -9 .. 9: bits, -9 is bit 0),");
        walk.then("tells(2, 0, 1)=3 | tells(2, 0, 2)=8 | tells(2, 0, 3)=524287 | tells(2, 2, 1)=0 | tells(2, 2, 2)=8",
            "tells(2, 2, 3)=0");
        walk.says("CRUMPLED (of 0 .. 99: how many, the least),");
        walk.then("tells(2, 0, 4)=1 | tells(2, 0, 5)=50 | tells(2, 2, 4)=1 | tells(2, 2, 5)=60 | cell(2, 0, -1)=1",
            "tells(2, 0, 4)=0 | tells(2, 0, 5)=-1 | cell(2, 0, 0)=1");
        walk.says("TEXTS (bits), were they THE RULE, by which all would be so;");
        walk.then("tells(2, 0, 6)=2 | read(feels topic;weighs 1;smooths 1;)=2 | tells(2, 0, 6)=6 | tells(2, 2, 6)=4 | count(5)=1");
        walk.says("PAPERS (bits, BURNT or not) that vote just so.");
        walk.then("tells(2, 0, 7)=3 | tells(2, 2, 7)=3 | force(2)=1 | tells(2, 0, 7)=7");
    }

    private void drawn() {
        walk.says("DRAWN by a SEED: n (0 .. 99) motions on TOPICS (z >>> 9) % 8, z being z * 1103515245 + 12345 (an int; SEED at "
            + "first) anew for each: "
            + "how many are CARRIED.");
        // SEED 0 draws 0 3 3 6 3 6 1 7 6 3 1 2
        walk.ruled(THIRD[0], THIRD[1], "drawn(0, 0)=0 | drawn(0, 1)=0 | drawn(0, 2)=1 | drawn(0, 3)=2 | drawn(0, 5)=3",
            "drawn(0, 12)=4",
            "drawn(0, 99)=15 | drawn(1, 99)=11 | drawn(-1, 99)=7 | drawn(MAX, 99)=7 | drawn(MIN, 99)=15");
        walk.says("IN m seeds (1 .. 20), SEED and each 1 more (an int), 5 motions: of these those by which k (0 .. 5) or more "
            + "are.");
        // SEEDS 0 .. 5 carry 3, 0, 1, 0, 1, 2; the greatest int carries 0, the one behind it 3
        walk.ruled(THIRD[0], THIRD[1], "chance(0, 6, 1, 0)=2 | chance(0, 6, 1, 1)=3 | chance(0, 6, 2, 0)=1 | chance(0, 6, 2, 1)=3",
            "chance(0, 6, 4, 0)=0 | chance(0, 6, 4, 1)=1 | chance(0, 6, 0, 0)=1 | chance(0, 6, 0, 1)=1 | chance(0, 1, 3, 0)=1",
            "chance(MAX, 2, 3, 0)=1 | chance(MAX, 2, 3, 1)=2");
    }

    private void image() {
        walk.says("AN IMAGE keeps DAY, NEEDED, NUMBERS, MOODS, DESKS, CRUMPLED, BURNT, THE RULE (PAPERS that came since go).");
        walk.run("read(feels 1;weighs 1;smooths 1;)=1 | paper(3, 4, 5)=0 | set(0, 0, 8)=0 | set(1, 0, 30)=10 | set(4, 0, 2)=0",
            "set(5, 0, 33)=50",
            "set(6, 0, 1)=0 | force(1)=0 | image()=1 | set(0, 0, 9)=8 | set(1, 0, 31)=30 | set(2, 0, 5)=4 | set(3, 0, 6)=5",
            "set(4, 0, 3)=2 | set(5, 0, 34)=33 | set(6, 0, 0)=1 | force(0)=1 | paper(0, 0, 0)=1 | back()=1",
            "told(0, 0)=8 | told(0, 1)=30 | told(0, 2)=4 | told(0, 3)=5 | told(0, 4)=2 | told(0, 5)=33 | told(0, 6)=1",
            "told(0, 7)=3",
            "count(5)=1 | count(0)=1 | told(1, 7)=-1000");
    }

    private void sheets() {
        walk.says("==== 3 SHEETS 0 .. 3 are rows of numbers, or missing (as all are at first):");
        walk.run("cell(0, 0, 1)=-11 | cell(1, 0, 1)=-11 | cell(2, 0, 1)=-11 | cell(3, 0, 1)=-11 | cell(4, 0, 1)=-2",
            "cell(-1, 0, 1)=-2",
            "sheet(3, 0, 1)=1 | cell(3, 0, 1)=1 | sheet(3, -1, 0)=1 | cell(3, 0, 1)=-11");
        walk.says("of sort 0 bytes, 1 shorts, 2 ints.");
        // 65537 is 1, a KIND, as a byte and as a short; 257 as a byte alone
        for (int sort = 0; sort < 3; sort++) {
            String row = "sheet(0, " + sort + ", 3)=1 | cell(0, 0, ";
            walk.run(row + "1)=1 | papers(0, " + sort + ", 0, 1)=1");
            walk.run(row + "257)=1 | papers(0, " + sort + ", 0, 1)=" + (sort < 1 ? 1 : 0));
            walk.run(row + "65537)=1 | papers(0, " + sort + ", 0, 1)=" + (sort < 2 ? 1 : 0));
        }
    }

    private void ahead() {
        walk.passes("Ahead of the calls `set`, `paper`, `told`, `burn` the interface says: ---- papers.");
        walk.passes("Ahead of the calls `feed`, `text`, `force` the interface says: ---- texts.");
        walk.passes("Ahead of the calls `division`, `topics`, `day`, `run` the interface says: ---- divisions.");
        walk.passes("Ahead of the calls `often`, `power`, `torn`, `fewest`, `stop`, `goesWith` the interface says: ---- who "
            + "decides.");
        walk.passes("Ahead of the calls `tells`, `film`, `drawn`, `chance`, `image`, `back`, `count` the interface says: "
            + "---- divisions that were told.");
        walk.passes("Ahead of the calls `sheet`, `cell`, `copy`, `papers`, `taken` the interface says: ---- the host.");
    }
}
