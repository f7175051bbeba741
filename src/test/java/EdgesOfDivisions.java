/** Edges of promises 9 to 12: division, topics, day, run. */
final class EdgesOfDivisions {
    /** By this rule a DRAFT's NUMBER is its WEIGHT and its MOOD its vote. */
    private static final String PLAIN = "feels mood;weighs number;smooths 5;";
    private final Edge edge;

    EdgesOfDivisions(Edge edge) {
        this.edge = edge;
    }

    void all() {
        division();
        carried();
        balance();
        divisionRefuses();
        topics();
        cause();
        topicsRefuses();
        day();
        smooth();
        dayRefuses();
        run();
        runOfTopics();
        runRefuses();
    }

    /** Papers by their weights; those below 0 vote against. */
    private static OppositionInBaskets chamber(int needed, int... weights) {
        OppositionInBaskets x = Due.ruled(PLAIN);
        for (int w : weights) {
            x.paper(0, Math.abs(w), w < 0 ? -1 : 1);
        }
        x.set(1, 0, needed);
        return x;
    }

    private static OppositionInBaskets eight(String text) {
        OppositionInBaskets x = Due.ruled(text);
        for (int p = 0; p < 8; p++) {
            x.paper(0, p, 0);
        }
        return x;
    }

    private void answers(String of, OppositionInBaskets x, int... want) {
        for (int t : new int[] {0, 7}) {
            for (int what = 0; what < want.length; what++) {
                edge.is(of + ": division(" + t + ", " + what + ")", x.division(t, what), want[what]);
            }
        }
    }

    private void division() {
        edge.promise(9, "division");
        edge.says("A DIVISION on a TOPIC: FOR (what 0), AGAINST (1), CARRIED (2; 1, 0), "
            + "who votes for it (3; bits), against (4; bits), BALANCE (5; bits).");
        answers("nobody", new OppositionInBaskets(), 0, 0, 0, 0, 0, 0);
        answers("the heaviest, all for", eight("feels 1;weighs 99;smooths 1;"), 792, 0, 1, 255, 0, 0);
        answers("the heaviest, all against", eight("feels -1;weighs 99;smooths 1;"), 0, 792, 0, 0, 255, 0);
        answers("the lightest, all for", eight("feels 1;weighs 0;smooths 1;"), 0, 0, 0, 255, 0, 0);
        answers("none votes", eight("feels 0;weighs 99;smooths 1;"), 0, 0, 0, 0, 0, 0);
        OppositionInBaskets x = eight("feels 1;weighs 99;smooths 1;");
        x.burn(0);
        answers("all are BURNT", x, 0, 0, 0, 0, 0, 0);
        x.set(6, 7, 0);
        answers("all but the last are BURNT", x, 99, 0, 1, 128, 0, 128);
        x.set(6, 7, 1);
        x.set(6, 0, 0);
        answers("all but the first are BURNT", x, 99, 0, 1, 1, 0, 1);
        for (int many = 0; many < 8; many++) {
            OppositionInBaskets z = eight("feels 1-2*(topic<4);weighs 1;smooths 1;");
            z.burn(0);
            OppositionInBaskets some = Due.ruled("feels 1-2*(topic<4);weighs 1;smooths 1;");
            for (int p = 0; p < many; p++) {
                z.set(6, p, 0);
                some.paper(0, 0, 0);
            }
            for (OppositionInBaskets of : new OppositionInBaskets[] {z, some}) {
                edge.is("just " + many + " vote for", of.division(7, 3), (1 << many) - 1);
                edge.is("just " + many + " vote against", of.division(0, 4), (1 << many) - 1);
                edge.is("so much is FOR", of.division(7, 0), many);
                edge.is("so much is AGAINST", of.division(0, 1), many);
            }
        }
        OppositionInBaskets y = eight("feels (topic=0)-(topic=7);weighs 1;smooths 1;");
        y.set(1, 0, 8);
        int[] want = {8, 0, 1, 255, 0, 255};
        for (int what = 0; what < 6; what++) {
            edge.is("the first TOPIC", y.division(0, what), want[what]);
        }
        for (int t = 1; t < 7; t++) {
            edge.is("no vote for TOPIC " + t, y.division(t, 3), 0);
            edge.is("no vote against TOPIC " + t, y.division(t, 4), 0);
        }
        edge.is("the last TOPIC", y.division(7, 1), 8);
        edge.is("the last TOPIC", y.division(7, 4), 255);
    }

    private void carried() {
        edge.says("CARRIED: FOR is NEEDED or more, and more than AGAINST.");
        edge.is("5 of 4", chamber(4, 5).division(0, 2), 1);
        edge.is("5 of 5", chamber(5, 5).division(0, 2), 1);
        edge.is("5 of 6", chamber(6, 5).division(0, 2), 0);
        edge.is("5 to 4", chamber(5, 5, -4).division(0, 2), 1);
        edge.is("5 to 5", chamber(5, 5, -5).division(0, 2), 0);
        edge.is("5 to 6", chamber(5, 5, -6).division(0, 2), 0);
        edge.is("5 to 5 of 1", chamber(1, 5, -5).division(0, 2), 0);
        edge.is("1 to 0 of 1", chamber(1, 1).division(0, 2), 1);
        edge.is("0 to 0 of 1", chamber(1, 0).division(0, 2), 0);
        edge.is("nobody, of 1", chamber(1).division(0, 2), 0);
        edge.is("4 to 3 of 5", chamber(5, 4, -3).division(0, 2), 0);
        for (int needed : new int[] {71, 72, 73}) {
            edge.is("72 of " + needed, chamber(needed, 9, 9, 9, 9, 9, 9, 9, 9).division(0, 2), needed <= 72 ? 1 : 0);
        }
    }

    private void balance() {
        edge.says("BALANCE (a TOPIC): PAPERS (bits) that vote, and by whose voting the other way it would turn from CARRIED to not, "
            + "or from not to CARRIED.");
        edge.is("5 are left of 5", chamber(5, 5, 1).division(0, 5), 1);
        edge.is("4 are left of 5", chamber(5, 4, 2).division(0, 5), 3);
        edge.is("5 to 4 are left", chamber(1, 5, 2, -2).division(0, 5), 1);
        edge.is("5 to 5 are left", chamber(1, 5, 2, -3).division(0, 5), 3);
        edge.is("5 to 6 are left", chamber(1, 5, 2, -4).division(0, 5), 3);
        edge.is("4 and 1 of 5, to 5", chamber(5, 4, -1, -5).division(0, 5), 4);
        edge.is("4 and 1 of 5, to 4", chamber(5, 4, -1, -4).division(0, 5), 6);
        edge.is("4 and 1 of 6, to 4", chamber(6, 4, -1, -4).division(0, 5), 4);
        edge.is("none is NEEDED that far", chamber(11, 4, -1, -4).division(0, 5), 0);
        edge.is("one without WEIGHT turns nothing", chamber(5, 5, 0, -0).division(0, 5), 1);
        edge.is("the last of eight", chamber(9, 0, 0, 0, 0, 0, 0, 0, -9).division(0, 5), 128);
        edge.is("each of eight", chamber(8, 1, 1, 1, 1, 1, 1, 1, 1).division(0, 5), 255);
        edge.is("none of eight", chamber(9, 1, 1, 1, 1, 1, 1, 1, 1).division(0, 5), 0);
        OppositionInBaskets x = chamber(5, 5, 9, -9);
        x.set(3, 1, 0);
        x.set(6, 2, 1);
        edge.is("one that doesn't vote, and a BURNT one, turn nothing", x.division(0, 5), 1);
    }

    private void divisionRefuses() {
        edge.says("BALANCE (5; bits). BAD.");
        for (int topic : Edge.outside(0, 7)) {
            edge.leaves("division(" + topic + ", 0)", x -> x.division(topic, 0), Edge.BAD, State.values());
            edge.leaves("division(" + topic + ", 5)", x -> x.division(topic, 5), Edge.BAD, State.values());
        }
        for (int what : Edge.outside(0, 5)) {
            edge.leaves("division(0, " + what + ")", x -> x.division(0, what), Edge.BAD, State.values());
            edge.leaves("division(7, " + what + ")", x -> x.division(7, what), Edge.BAD, State.values());
        }
        for (int what = 0; what < 6; what++) {
            int w = what;
            edge.leaves("division(7, " + w + ")", x -> x.division(7, w), State.SOME);
            edge.leaves("division(0, " + w + ")", x -> x.division(0, w), State.FULL);
        }
    }

    private void topics() {
        edge.promise(10, "topics");
        edge.says("Which TOPICS are CARRIED (what 0; bits), CAUSE (1), how much that is (2).");
        edge.is("nobody: which", new OppositionInBaskets().topics(0), 0);
        edge.is("nobody: CAUSE", new OppositionInBaskets().topics(1), 0);
        edge.is("nobody: how much", new OppositionInBaskets().topics(2), 0);
        edge.is("all TOPICS", eight("feels 1;weighs 99;smooths 1;").topics(0), 255);
        edge.is("the first TOPIC alone", eight("feels topic=0;weighs 99;smooths 1;").topics(0), 1);
        edge.is("the last TOPIC alone", eight("feels topic=7;weighs 99;smooths 1;").topics(0), 128);
        edge.is("none, as all are against", eight("feels -1;weighs 99;smooths 1;").topics(0), 0);
        OppositionInBaskets x = eight("feels 1;weighs 1+topic;smooths 1;");
        x.set(1, 0, 8);
        edge.is("of just as much as is NEEDED", x.topics(0), 255);
        x.set(1, 0, 9);
        edge.is("of one less", x.topics(0), 0);
    }

    private void cause() {
        edge.says("CAUSE: the TOPIC with the greatest FOR less AGAINST (without a sign); of like ones the first.");
        edge.is("all alike", eight("feels 1;weighs 99;smooths 1;").topics(1), 0);
        edge.is("the greatest there is", eight("feels 1;weighs 99;smooths 1;").topics(2), 792);
        edge.is("without a sign", eight("feels -1;weighs 99;smooths 1;").topics(2), 792);
        edge.is("all are at odds", eight("feels number-3-(3<number);weighs (number<3)+(4<number);smooths 1;").topics(2), 0);
        edge.is("the last TOPIC", eight("feels topic=7;weighs 1;smooths 1;").topics(1), 7);
        edge.is("the last TOPIC, against", eight("feels -(topic=7);weighs 1;smooths 1;").topics(1), 7);
        edge.is("against ahead of for", eight("feels (topic=5)-(topic=2);weighs 1;smooths 1;").topics(1), 2);
        edge.is("for ahead of against", eight("feels (topic=2)-(topic=5);weighs 1;smooths 1;").topics(1), 2);
        edge.is("there is no TOPIC 8", eight("feels 7<topic;weighs 1;smooths 1;").topics(2), 0);
        edge.is("there is no TOPIC -1", eight("feels topic<0;weighs 1;smooths 1;").topics(2), 0);
        // the first three are for TOPIC 1, all but one are against TOPIC 6
        OppositionInBaskets x = eight("feels (topic=1)*(number<3)-(topic=6)*(0<number);weighs 1;smooths 1;");
        edge.is("3 for, then 7 against", x.topics(1), 6);
        edge.is("how much", x.topics(2), 7);
        x.burn(0);
        edge.is("all are BURNT: CAUSE", x.topics(1), 0);
        edge.is("all are BURNT: how much", x.topics(2), 0);
        edge.is("all are BURNT: which", x.topics(0), 0);
    }

    private void topicsRefuses() {
        edge.says("how much that is (2). BAD.");
        for (int what : Edge.outside(0, 2)) {
            edge.leaves("topics(" + what + ")", x -> x.topics(what), Edge.BAD, State.values());
        }
        for (int what = 0; what < 3; what++) {
            int w = what;
            edge.leaves("topics(" + w + ")", x -> x.topics(w), State.SOME);
            edge.leaves("topics(" + w + ")", x -> x.topics(w), State.FULL);
        }
    }

    private void day() {
        edge.promise(11, "day");
        edge.says("each PAPER that isn't BURNT is less CRUMPLED by what it SMOOTHS (0 at least); then DAY is 1 more.");
        OppositionInBaskets x = Due.ruled("feels 1;weighs 1;smooths 9;");
        int[] crumpled = {0, 1, 8, 9, 10, 98, 99, 9};
        for (int p = 0; p < 8; p++) {
            x.paper(0, 0, 0);
            x.set(5, p, crumpled[p]);
        }
        x.set(6, 7, 1);
        edge.is("day()", x.day(), 4);
        int[] then = {0, 0, 0, 0, 1, 89, 90, 9};
        for (int p = 0; p < 8; p++) {
            edge.is("CRUMPLED " + crumpled[p], x.told(p, 5), then[p]);
        }
        edge.is("DAY", x.told(0, 0), 1);
        OppositionInBaskets y = Due.ruled("feels 1;weighs 1;smooths day;");
        y.paper(0, 0, 0);
        y.day();
        edge.is("by what it SMOOTHS ahead of the next DAY", y.told(0, 5), 50);
        y.day();
        edge.is("by what it SMOOTHS on DAY 1", y.told(0, 5), 49);
        OppositionInBaskets z = Due.ruled("feels 1;weighs 1;smooths 99;");
        z.paper(0, 0, 0);
        z.paper(5, 9, 0);
        z.set(5, 0, 99);
        z.set(5, 1, 1);
        edge.is("99 less of 99; a CORE stays", z.day(), 1);
        edge.is("CRUMPLED", z.told(0, 5), 0);
        edge.is("CRUMPLED", z.told(1, 5), 1);
        // each paper smooths by what it is itself, not by what was made of another one
        OppositionInBaskets w = Due.ruled("feels 1;weighs 1;smooths crumpled-1;");
        w.paper(0, 0, 0);
        w.paper(0, 0, 0);
        w.set(5, 1, 0);
        edge.is("one that is smooth stays", w.day(), 1);
        edge.is("CRUMPLED", w.told(0, 5), 1);
        edge.is("the second day", w.day(), 1);
        edge.is("CRUMPLED", w.told(0, 5), 1);
    }

    private void smooth() {
        edge.says("A DAY, truly: how many are smooth then (CRUMPLED 0, not BURNT).");
        edge.is("nobody", new OppositionInBaskets().day(), 0);
        OppositionInBaskets x = eight("feels 1;weighs 1;smooths 50;");
        edge.is("all eight", x.day(), 8);
        edge.is("all eight, who were", x.day(), 8);
        x.set(6, 7, 1);
        edge.is("all but the last", x.day(), 7);
        x.set(6, 7, 0);
        x.set(6, 0, 1);
        edge.is("all but the first", x.day(), 7);
        x.burn(0);
        edge.is("all are BURNT", x.day(), 0);
        edge.is("none is, by 1", eight("feels 1;weighs 1;smooths 49;").day(), 0);
        edge.is("none is, by all", eight("feels 1;weighs 1;smooths 0;").day(), 0);
    }

    private void dayRefuses() {
        edge.says("STATE: DAY is 999.");
        edge.leaves("day()", x -> x.day(), Edge.STATE, State.FULL);
        for (State s : State.values()) {
            OppositionInBaskets x = s.make();
            x.set(0, 0, 998);
            edge.is("DAY 998 ends", x.day() < 0 ? -1 : 0, 0);
            edge.is("DAY", x.told(0, 0), 999);
            edge.is("DAY 999", x.day(), Edge.STATE);
            edge.is("DAY 999 again", x.day(), Edge.STATE);
            edge.is("DAY", x.told(0, 0), 999);
            x.set(0, 0, 997);
            x.day();
            edge.is("DAY", x.told(0, 0), 998);
        }
    }

    private void run() {
        edge.promise(12, "run");
        edge.says("n DAYS (0 .. 40), in thought (there DAY may pass 999): how many TOPICS are CARRIED then; FOR of one.");
        OppositionInBaskets x = Due.ruled("feels 1;weighs day-950;smooths 1;");
        x.paper(0, 0, 0);
        x.set(0, 0, 999);
        x.set(1, 0, 50);
        int[][] nForCarried = {{0, 49, 0}, {1, 50, 8}, {2, 51, 8}, {39, 88, 8}, {40, 89, 8}};
        for (int[] n : nForCarried) {
            edge.is("run(" + n[0] + ", 0)", x.run(n[0], 0), n[1]);
            edge.is("run(" + n[0] + ", 7)", x.run(n[0], 7), n[1]);
            edge.is("run(" + n[0] + ", 8)", x.run(n[0], 8), n[2]);
        }
        edge.is("truly DAY is 999", x.told(0, 0), 999);
        edge.is("truly it is as CRUMPLED", x.told(0, 5), 50);
        OppositionInBaskets y = Due.ruled("feels 1;weighs crumpled;smooths 1;");
        y.paper(0, 0, 0);
        y.paper(0, 0, 0);
        y.set(5, 0, 40);
        y.set(5, 1, 39);
        y.set(1, 0, 1);
        edge.is("not a day", y.run(0, 0), 79);
        edge.is("a day before one is smooth", y.run(38, 0), 3);
        edge.is("one is smooth", y.run(39, 0), 1);
        edge.is("one is just not smooth", y.run(39, 8), 8);
        edge.is("both are smooth", y.run(40, 0), 0);
        edge.is("both are smooth", y.run(40, 8), 0);
        y.set(6, 0, 1);
        edge.is("a BURNT one weighs nothing", y.run(1, 0), 38);
        edge.is("nobody", new OppositionInBaskets().run(40, 8), 0);
    }

    private void runOfTopics() {
        edge.says("n DAYS: how many TOPICS are CARRIED then (what 8), FOR of TOPIC what (0 .. 7).");
        OppositionInBaskets x = Due.ruled("feels day-topic;weighs 10+day;smooths 1;");
        x.paper(0, 0, 0);
        for (int n = 0; n < 10; n++) {
            edge.is("run(" + n + ", 8)", x.run(n, 8), Math.min(8, n));
            for (int t = 0; t < 8; t++) {
                edge.is("run(" + n + ", " + t + ")", x.run(n, t), n > t ? 10 + n : 0);
            }
        }
        // each kind on its own: a draft, a letter, an envelope, a memo, a doodle, a core
        int[] pro = {70, 71, 35, 71, 0, 3};
        int[] smoothed = {30, 31, 0, 21, 0, 3};
        for (int kind = 0; kind < 6; kind++) {
            OppositionInBaskets z = Due.ruled("feels 9;weighs crumpled;smooths 4;");
            z.paper(kind, 1, -1);
            z.set(5, 0, 70);
            edge.is("not a day of KIND " + kind, z.run(0, 0), pro[kind]);
            edge.is("ten days of KIND " + kind, z.run(10, 0), smoothed[kind]);
            edge.is("TOPICS of KIND " + kind, z.run(0, 8), kind == 2 ? 4 : kind == 3 ? 7 : kind < 4 ? 8 : 0);
        }
        OppositionInBaskets y = eight("feels 1;weighs 99;smooths 1;");
        edge.is("the most there is", y.run(40, 7), 792);
        edge.is("all TOPICS", y.run(40, 8), 8);
        y.set(1, 0, 793);
        edge.is("more is NEEDED", y.run(40, 8), 0);
    }

    private void runRefuses() {
        edge.says("FOR of TOPIC what (0 .. 7). BAD.");
        for (int n : Edge.outside(0, 40)) {
            edge.leaves("run(" + n + ", 0)", x -> x.run(n, 0), Edge.BAD, State.values());
            edge.leaves("run(" + n + ", 8)", x -> x.run(n, 8), Edge.BAD, State.values());
        }
        for (int what : Edge.outside(0, 8)) {
            edge.leaves("run(0, " + what + ")", x -> x.run(0, what), Edge.BAD, State.values());
            edge.leaves("run(40, " + what + ")", x -> x.run(40, what), Edge.BAD, State.values());
        }
        for (State s : State.values()) {
            edge.leaves("run(40, 8)", x -> x.run(40, 8), s);
            edge.leaves("run(40, 0)", x -> x.run(40, 0), s);
            edge.leaves("run(1, 7)", x -> x.run(1, 7), s);
        }
    }
}
