/** Edges of promises 6 to 8: feed, text, force; and of the tokens, the depth and the faults of a text. */
final class EdgesOfTexts {
    private static final String REST = ";weighs 1;smooths 1;";
    private final Edge edge;

    EdgesOfTexts(Edge edge) {
        this.edge = edge;
    }

    void all() {
        feed();
        feedRefuses();
        text();
        afterAnother();
        textRefuses();
        tokens();
        faultsAtTheEnd();
        faultsOfTokens();
        faultsOfOrder();
        open();
        tooOpen();
        force();
        forceRefuses();
    }

    private void feed() {
        edge.promise(6, "feed");
        edge.says("A byte (0 .. 255) comes behind THE TAPE: how many it has.");
        OppositionInBaskets x = new OppositionInBaskets();
        edge.is("feed(0)", x.feed(0), 1);
        edge.is("feed(255)", x.feed(255), 2);
        edge.is("feed(-1)", x.feed(-1), Edge.BAD);
        edge.is("feed(256)", x.feed(256), Edge.BAD);
        edge.is("feed(254)", x.feed(254), 3);
        edge.says("A TEXT is read from THE TAPE (160 bytes at most).");
        for (int i = 4; i <= 160; i++) {
            edge.is("feed(1)", x.feed(1), i);
        }
        edge.is("one byte too many", x.feed(1), Edge.FULL);
        edge.is("count(4)", x.count(4), 160);
        x.text();
        edge.is("the first byte anew", x.feed(1), 1);
    }

    private void feedRefuses() {
        edge.says("how many it has. BAD; FULL.");
        for (int letter : Edge.outside(0, 255)) {
            edge.leaves("feed(" + letter + ")", x -> x.feed(letter), Edge.BAD, State.values());
        }
        for (int letter : new int[] {0, 32, 97, 255}) {
            edge.leaves("feed(" + letter + ")", x -> x.feed(letter), Edge.FULL, State.FULL);
        }
    }

    private void text() {
        edge.promise(7, "text");
        edge.says("THE TAPE, which is empty then, is a TEXT: its number");
        OppositionInBaskets x = new OppositionInBaskets();
        for (int i = 1; i < 6; i++) {
            edge.is("a TEXT", Due.read(x, State.SHORTEST), i);
            edge.is("THE TAPE is empty then", x.count(4), 0);
            edge.is("there is a TEXT more", x.count(3), i + 1);
            edge.is("THE RULE stays", x.count(5), 0);
            edge.is("an empty TAPE", i < 5 ? x.text() : -100, -100);
        }
        edge.is("six TEXTS", x.count(3), 6);
        edge.says("-100 less the place of its FAULT");
        OppositionInBaskets y = new OppositionInBaskets();
        edge.is("at the first byte", Due.read(y, "?" + State.SHORTEST), -100);
        edge.is("THE TAPE is empty then", y.count(4), 0);
        edge.is("no TEXT came", y.count(3), 1);
        edge.is("at the last byte of 160", Due.read(y, State.SHORTEST + " ".repeat(132) + "?"), -259);
        edge.is("THE TAPE is empty then", y.count(4), 0);
        edge.is("behind the last byte of 160", Due.read(y, " ".repeat(134) + State.SHORTEST.substring(0, 26)), -260);
        edge.is("THE TAPE is empty then", y.count(4), 0);
        edge.is("no TEXT came", y.count(3), 1);
        edge.is("a TEXT that fills THE TAPE", Due.read(new OppositionInBaskets(), " ".repeat(133) + State.SHORTEST), 1);
        edge.is("a TEXT that fills THE TAPE", Due.read(new OppositionInBaskets(), State.SHORTEST + " ".repeat(133)), 1);
        edge.is("what came beyond 160 is no part of it", Due.read(new OppositionInBaskets(), " ".repeat(134) + State.SHORTEST), -260);
        widest();
    }

    /** As many numbers and operations as 160 bytes can have. */
    private void widest() {
        edge.says("A TEXT is read from THE TAPE (160 bytes at most).");
        parts("feels 10" + "-1".repeat(66) + ";weighs 1;smooths 1;", -56, 1, 1);
        parts("feels 10" + "*1".repeat(66) + ";weighs 2;smooths 3;", 10, 2, 3);
        parts("feels 1;weighs 10" + "+1".repeat(66) + ";smooths 1;", 1, 76, 1);
        parts("feels 1;weighs 1;smooths 10" + "+1".repeat(66) + ";", 1, 1, 76);
        parts("feels " + "(".repeat(5) + "1" + ")+1".repeat(5) + "+1".repeat(50) + REST, 56, 1, 1);
        parts("feels " + "0+".repeat(22) + "1;weighs " + "0+".repeat(22) + "2;smooths " + "0+".repeat(22) + "03;", 1, 2, 3);
    }

    /** What a text took up is free again for the next one, be it a TEXT or not. */
    private void afterAnother() {
        edge.says("THE TAPE, which is empty then, is a TEXT: its number");
        OppositionInBaskets x = new OppositionInBaskets();
        x.paper(0, 0, 0);
        edge.is("a long one with a FAULT", Due.read(x, "feels 1" + "+1".repeat(76)), -259);
        edge.is("a long one", Due.read(x, "feels 10" + "-1".repeat(66) + REST), 1);
        edge.is("another long one", Due.read(x, "feels 30" + "-1".repeat(66) + ";weighs 3;smooths 4;"), 2);
        x.force(1);
        edge.is("the first one feels", x.told(0, 10), -56);
        x.force(2);
        edge.is("the second one feels", x.told(0, 10), -36);
        edge.is("the second one weighs", x.told(0, 8), 3);
        edge.is("the second one smooths", x.told(0, 9), 4);
    }

    private void parts(String text, int feels, int weighs, int smooths) {
        OppositionInBaskets x = Due.ruled(text);
        x.paper(0, 0, 0);
        edge.is("feels by " + text, x.told(0, 10), feels);
        edge.is("weighs by " + text, x.told(0, 8), weighs);
        edge.is("smooths by " + text, x.told(0, 9), smooths);
    }

    private void textRefuses() {
        edge.says("FULL: no TEXT more has room (THE TAPE stays).");
        edge.leaves("text()", x -> x.text(), Edge.FULL, State.TEXTS);
        edge.leaves("text() twice", x -> x.text() + x.text(), 2 * Edge.FULL, State.TEXTS);
        OppositionInBaskets x = State.TEXTS.make();
        edge.is("bytes of THE TAPE", x.count(4), 27);
        edge.is("a TEXT that has no room", x.text(), Edge.FULL);
        edge.is("THE TAPE stays", x.count(4), 27);
        edge.is("feed() goes on behind it", x.feed('?'), 28);
        edge.is("no TEXT at all, nor room", x.text(), Edge.FULL);
        edge.is("THE TAPE stays", x.count(4), 28);
        edge.is("TEXTS", x.count(3), 6);
        edge.is("the last TEXT is THE RULE", x.count(5), 5);
        edge.says("There are 6 TEXTS at most, TEXT 0 with them.");
        OppositionInBaskets y = new OppositionInBaskets();
        for (int i = 1; i < 6; i++) {
            edge.is("a TEXT", Due.read(y, State.SHORTEST), i);
        }
        edge.is("a seventh", Due.read(y, State.SHORTEST), Edge.FULL);
    }

    private void tells(String feels, int want) {
        OppositionInBaskets x = new OppositionInBaskets();
        edge.is("the TEXT feels " + feels, Due.read(x, "feels " + feels + REST), 1);
        x.force(1);
        x.paper(0, 2, -3);
        edge.is("feels " + feels, x.told(0, 10), want);
    }

    private void fault(String text, int place) {
        OppositionInBaskets x = new OppositionInBaskets();
        edge.is("the FAULT of " + text, Due.read(x, text), -100 - place);
        edge.is("THE TAPE is empty then", x.count(4), 0);
        edge.is("no TEXT came", x.count(3), 1);
    }

    private void tokens() {
        edge.says("TOKENS, each as long as can be: WORDS (a .. z), NUMBERS (digits, 4 at most), SIGNS ( ) ; + - * < =");
        tells("0", 0);
        tells("0000", 0);
        tells("0009", 9);
        tells("9999=9998+1", 1);
        fault("feels 10000" + REST, 6);
        fault("feels 00000" + REST, 6);
        fault("feels 99999" + REST, 6);
        fault("feels 9999 9" + REST, 11);
        fault("feels 2-10000" + REST, 8);
        fault("feels 1234567890123456789012345" + REST, 6);
        // a number's first five digits would be 0 or more in 32 bits
        fault("feels 42949672960" + REST, 6);
        fault("feels 1;weighs 10000;smooths 1;", 15);
        fault("feels 1;weighs 1;smooths 10000;", 25);
        // each byte that may be a part of the text between "1" and "2", and each that may not
        for (int c = 0; c < 256; c++) {
            boolean joins = "+-*<=".indexOf(c) >= 0;
            boolean blank = c == 32 || c == 10;
            boolean digit = c >= '0' && c <= '9';
            String text = "feels 1" + (char) c + "2" + REST;
            OppositionInBaskets x = new OppositionInBaskets();
            edge.is("byte " + c, Due.read(x, text), joins || digit ? 1 : blank ? -108 : c == ';' ? -108 : -107);
        }
        edge.says("blanks (32, 10) may stand between");
        tells("\n 7 \n", 7);
        fault("feels 7\t" + REST, 7);
        fault("feels 7\r" + REST, 7);
        fault("feels 7" + (char) 160 + REST, 7);
        edge.is("blanks everywhere", Due.read(new OppositionInBaskets(), " \nfeels 1 ; weighs\n1\n;smooths 1 ;\n "), 1);
        edge.is("no blanks but where two WORDS would be one", Due.read(new OppositionInBaskets(), "feels(1);weighs-1;smooths 0;"), 1);
        tells("5and 6", 1);
        tells("0or(1)and not(0)", 1);
        edge.says("(32, 10)");
        fault("feels mood number" + REST, 11);
        fault("feels moodnumber" + REST, 6);
    }

    private void faultsAtTheEnd() {
        edge.says("(the text's size, if it ends too early)");
        String text = "feels ( mood ) ; weighs 1 + number ; smooths 5 * 12 ;";
        for (int size = 0; size < text.length(); size++) {
            String begun = text.substring(0, size);
            int word = size;
            while (word > 0 && Character.isLowerCase(text.charAt(word - 1))) {
                word--;
            }
            boolean cut = word < size && Character.isLowerCase(text.charAt(size));
            fault(begun, cut ? word : size);
        }
        edge.is("the whole of it", Due.read(new OppositionInBaskets(), text), 1);
        fault("", 0);
        fault(" ", 1);
        fault("\n\n\n", 3);
        fault(" ".repeat(160), 160);
        fault("feels 1;weighs 1;smooths 1", 26);
        fault("feels 1;weighs 1;smooths 1 \n", 28);
    }

    private void faultsOfTokens() {
        edge.says("also of a byte that begins none, a WORD that is neither KEY nor NAME, a NUMBER that is too long");
        for (int c = 0; c < 256; c++) {
            if ("();+-*<=".indexOf(c) < 0 && c != 32 && c != 10 && !(c >= '0' && c <= '9') && !(c >= 'a' && c <= 'z')) {
                fault("feels 1;weighs " + (char) c + "1;smooths 1;", 15);
                fault("feels 1;weighs 1;smooths 1;" + (char) c, 27);
            }
        }
        String[] names = {"crumpled", "number", "topic", "mood", "day", "desk"};
        for (String name : names) {
            edge.is(name, Due.read(new OppositionInBaskets(), "feels " + name + REST), 1);
            fault("feels 1+" + name.substring(1) + REST, 8);
            fault("feels 1+" + name.substring(0, name.length() - 1) + REST, 8);
            fault("feels 1+" + name + "s" + REST, 8);
            fault("feels 1+" + name + "z" + REST, 8);
            fault("feels 1+a" + name + REST, 8);
            fault("feels 1+z" + name + REST, 8);
            for (int i = 0; i < name.length(); i++) {
                fault("feels 1+" + name.substring(0, i) + "x" + name.substring(i + 1) + REST, 8);
            }
            fault("feels 1 " + name + REST, 8);
        }
        String[] keys = {"feels", "weighs", "smooths", "or", "and", "not"};
        for (String key : keys) {
            fault("feels 1+" + key + REST, 8);
            fault("feels 1 " + key + "s 1" + REST, 8);
            for (int i = 0; i < key.length(); i++) {
                fault("feels 1 " + key.substring(0, i) + "x" + key.substring(i + 1) + " 1" + REST, 8);
            }
            fault("feels 1 " + key.substring(0, key.length() - 1) + " 1" + REST, 8);
        }
        edge.says("feels, weighs, smooths, or, and, not are KEYS");
        for (String key : keys) {
            if (!key.equals("or") && !key.equals("and")) {
                fault("feels 1 " + key + " 1" + REST, 8);
            }
            if (!key.equals("feels")) {
                fault(key + " 1" + REST, 0);
            }
            if (!key.equals("weighs")) {
                fault("feels 1;" + key + " 1;smooths 1;", 8);
            }
            if (!key.equals("smooths")) {
                fault("feels 1;weighs 1;" + key + " 1;", 17);
            }
        }
        edge.says("a WORD that is neither KEY nor NAME");
        fault("feels 1 a 1" + REST, 8);
        fault("feels z" + REST, 6);
        fault("feel 1" + REST, 0);
        fault("feels 1;weigh 1;smooths 1;", 8);
        fault("feels 1;weighs 1;smooth 1;", 17);
    }

    private void faultsOfOrder() {
        edge.says("FAULT: the place of the first byte of the first TOKEN that can't stand there");
        edge.says("TEXT: feels E ; weighs E ; smooths E ;");
        fault("weighs 1;feels 1;smooths 1;", 0);
        fault("feels 1;smooths 1;weighs 1;", 8);
        fault("feels 1;weighs 1;feels 1;", 17);
        fault("feels 1;weighs 1;smooths 1;;", 27);
        fault("feels 1;weighs 1;smooths 1; smooths 1;", 28);
        fault("feels 1;weighs 1;smooths 1; 1", 28);
        fault(";feels 1;weighs 1;smooths 1;", 0);
        fault("feels 1 weighs 1;smooths 1;", 8);
        fault("feels;weighs 1;smooths 1;", 5);
        fault("feels 1;weighs;smooths 1;", 14);
        fault("feels 1;weighs 1;smooths;", 24);
        edge.says("NOT: not NOT, or SUM, perhaps < or = and a SUM.");
        tells("1<2", 1);
        fault("feels 1<2<3" + REST, 9);
        fault("feels 1=2=3" + REST, 9);
        fault("feels 1=2<3" + REST, 9);
        fault("feels 1<=2" + REST, 8);
        fault("feels 1==2" + REST, 8);
        fault("feels 1<not 2" + REST, 8);
        fault("feels <2" + REST, 6);
        fault("feels 1<" + REST, 8);
        fault("feels 1=" + REST, 8);
        fault("feels (1<)" + REST, 9);
        tells("(1<2)<3", 1);
        tells("not 1<2 and 1=1 or 3<4", 1);
        edge.says("SUM: TERM { + or - TERM }. TERM: ONE { * ONE }. ONE: a NUMBER, a NAME, - ONE, ( E ).");
        fault("feels +1" + REST, 6);
        fault("feels 1++1" + REST, 8);
        fault("feels 1+*1" + REST, 8);
        fault("feels 1**1" + REST, 8);
        fault("feels 1*+1" + REST, 8);
        fault("feels 1*not 1" + REST, 8);
        fault("feels 1+not 1" + REST, 8);
        fault("feels -not 1" + REST, 7);
        fault("feels ()" + REST, 7);
        fault("feels (1" + REST, 8);
        fault("feels (1;" + REST, 8);
        fault("feels 1)" + REST, 7);
        fault("feels (1))" + REST, 9);
        fault("feels (1 1)" + REST, 9);
        tells("1--1", 2);
        tells("1*-1", -1);
        tells("(not 1)+1", 1);
        edge.says("E: AND { or AND }. AND: NOT { and NOT }.");
        fault("feels or 1" + REST, 6);
        fault("feels 1 or or 1" + REST, 11);
        fault("feels 1 and or 1" + REST, 12);
        fault("feels 1 or and 1" + REST, 11);
        fault("feels 1 or" + REST, 10);
        fault("feels 1 and" + REST, 11);
        fault("feels 1 not 1" + REST, 8);
        fault("feels not" + REST, 9);
    }

    private void open() {
        edge.says("a ( , a not, a - ahead of a ONE while 5 of these are open (a ( till its ) , not and - till what they belong to ends)");
        tells("(((((7)))))", 7);
        tells("-----7", -7);
        tells("not not not not not 7", 0);
        tells("(-(-(7)))", 7);
        tells("not(not(-7))", 1);
        // what has ended is open no more
        tells("(1)+(1)+(1)+(1)+(1)+(1)+(1)", 7);
        tells("-1-1--1--1--1--1--1--1--1", 5);
        tells("-1*-1*-1*-1*-1*-1*-1", -1);
        tells("not 0 and not 0 and not 0 and not 0 and not 0 and not 0", 1);
        tells("not 1 or not 1 or not 1 or not 1 or not 1 or not 1 or not 0", 1);
        tells("(((((1)))))+(((((1)))))+-----1", 1);
        tells("((((-1)-1)--1)*-1)", 1);
        tells("(((((1)+(1)))))", 2);
        tells("not not not not not 1 and -----1", 0);
        tells("not not not not not 1 or (((((1)))))", 1);
        tells("----(1)-(((((1)))))", 0);
        // a - between two TERMS is none of these
        tells("(((((9-1-1-1)))))", 6);
        tells("not not not not not 1-1", 1);
        // each part begins anew
        edge.is("five in each part",
            Due.read(new OppositionInBaskets(), "feels(((((1)))));weighs-----1;smooths not not not not not 1;"), 1);
    }

    private void tooOpen() {
        edge.says("a ( , a not, a - ahead of a ONE while 5 of these are open (a ( till its ) , not and - till what they belong to ends)");
        String[] opened = {"(", "-", "not "};
        // all ways to open five and then a sixth: it is the sixth that can't stand there
        for (int way = 0; way < 729; way++) {
            StringBuilder text = new StringBuilder("feels ");
            int rest = way;
            int fault = -1;
            for (int i = 0; i < 6 && fault < 0; i++, rest /= 3) {
                int next = rest % 3;
                boolean afterMinus = text.charAt(text.length() - 1) == '-';
                if (next == 2 && afterMinus || i == 5) {
                    fault = text.length();
                }
                text.append(opened[next]);
            }
            fault(text + "1", fault);
        }
        fault("feels ((((1+((1))))))" + REST, 13);
        fault("feels 1+(((((-1)))))" + REST, 13);
        fault("feels (((((1<-1)))))" + REST, 13);
        fault("feels (((((1 or not 1)))))" + REST, 16);
        fault("feels (((((1*-1)))))" + REST, 13);
        fault("feels not not not not not 1*-1" + REST, 28);
        fault("feels not not not not not 1=(1)" + REST, 28);
        fault("feels not not not not not 1-(1)" + REST, 28);
        fault("feels 1;weighs ------1;smooths 1;", 20);
        fault("feels 1;weighs 1;smooths ((((((1))))));", 30);
    }

    private void force() {
        edge.promise(8, "force");
        edge.says("A TEXT is THE RULE: which was.");
        OppositionInBaskets x = new OppositionInBaskets();
        edge.is("force(0) of the only one", x.force(0), 0);
        edge.is("force(1) of none such", x.force(1), Edge.BAD);
        OppositionInBaskets y = State.TEXTS.make();
        edge.is("force(5) of the last", y.force(5), 5);
        edge.is("force(0) of the first", y.force(0), 5);
        edge.is("THE RULE", y.count(5), 0);
        for (int text = 1; text < 6; text++) {
            edge.is("force(" + text + ")", y.force(text), text - 1);
            edge.is("THE RULE", y.count(5), text);
        }
    }

    private void forceRefuses() {
        edge.says("which was. BAD.");
        for (State s : State.values()) {
            for (int text : Edge.outside(0, s.texts - 1)) {
                edge.leaves("force(" + text + ")", x -> x.force(text), Edge.BAD, s);
            }
        }
    }
}
