/** Section 1 of the Terms and promises 1 to 4 and 6: the text, its bounds, its faults, and the tower it becomes. */
final class TextBounds {
    private static final int NONE = BellSuitors.NONE, UNKNOWN = BellSuitors.UNKNOWN, OUTSIDE = BellSuitors.OUTSIDE,
        NOT = BellSuitors.NOT, FULL = BellSuitors.FULL;
    private static final String THREE = "b1,1,1;";
    private static final int FAULT1 = -11, FAULT2 = -12, FAULT3 = -13, FAULT4 = -14;
    private final Held held;

    TextBounds(Held held) {
        this.held = held;
    }

    void test() {
        newObject();
        letters();
        fullText();
        longestText();
        howManyBells();
        weights();
        asManyPlaces();
        bellsFirstAndOnce();
        howManyChanges();
        everyChange();
        everyCall();
        howManySuitors();
        strengths();
        callOnce();
        figures();
        words();
        blanks();
        sideBySide();
        firstFault();
        faultAtTheEnd();
        leastFault();
        noWord();
        otherWordFirst();
        tooManyNumbers();
        tooFewWeights();
        numberFaults();
        againFaults();
        oddFaults();
        emptyText();
        methodLeftOut();
        callLeftOut();
        textIsEmptyThen();
        textReadAnew();
        towerBegins();
        faultLeavesAll();
        latestFault();
        methodBounds();
    }

    /** The text behind a tower that stands already: what tower() and fault() answer. */
    private void reads(String text, int answer, int faultAt) {
        BellSuitors x = Fed.with(THREE);
        held.is("tower() of '" + text + "'", Fed.tell(x, text), answer);
        held.is("fault() of '" + text + "'", x.fault(), faultAt);
    }

    private void newObject() {
        held.promise(1, "No TOWER.");
        BellSuitors x = new BellSuitors();
        int[] due = {0, 0, 0, 0, 0, 0, 0, NONE, 0, 0, 0, 0, 0, 0, 0};
        for (int what = 0; what < due.length; what++) {
            held.is("told(" + what + ")", x.told(what), due[what]);
        }
        held.is("fault()", x.fault(), NONE);
        held.is("bell(0, 0)", x.bell(0, 0), UNKNOWN);
        held.is("suitor(0, 0)", x.suitor(0, 0), UNKNOWN);
        held.is("ring(1)", x.ring(1), NOT);
        held.is("goBack(0)", x.goBack(0), NOT);
        held.is("seed(0)", x.seed(0), 0);
    }

    private void letters() {
        held.promise(2, "One letter (a number 0 .. 255) comes behind THE TEXT: how many it has.");
        BellSuitors x = new BellSuitors();
        held.is("feed(0)", x.feed(0), 1);
        held.is("feed(255)", x.feed(255), 2);
        held.is("told(3)", x.told(3), 2);
        held.promise(2, "OUTSIDE,");
        for (int letter : new int[] {-1, 256, Integer.MIN_VALUE, Integer.MAX_VALUE, NONE}) {
            held.is("feed(" + letter + ")", x.feed(letter), OUTSIDE);
        }
        held.is("told(3)", x.told(3), 2);
    }

    private void fullText() {
        held.promise(2, "FULL (240).");
        BellSuitors x = new BellSuitors();
        for (int n = 1; n <= 240; n++) {
            held.is("letter " + n, x.feed(' '), n);
        }
        held.is("letter 241", x.feed('x'), FULL);
        held.is("letter 241 again", x.feed(' '), FULL);
        held.is("told(3)", x.told(3), 240);
        held.is("tower() of 240 blanks", x.tower(), 0);
        held.is("the next text begins", x.feed(' '), 1);
    }

    private void longestText() {
        held.terms(3, "THE TOWER is told in a text (240 letters at most): clauses:");
        BellSuitors x = Fed.with(THREE + " ".repeat(230) + "c1;");
        held.is("all 240 are read", x.told(0), 3);
        held.is("the call told by the last three", x.method(NONE), 1);
        BellSuitors y = new BellSuitors();
        Fed.feed(y, THREE + " ".repeat(230) + "c1;x");
        held.is("what came when it was full is not read", y.tower(), 3);
        reads(THREE + " ".repeat(232) + "x", FAULT1, 239);
        reads(THREE + " ".repeat(231) + "c1", FAULT1, 240);
    }

    private void howManyBells() {
        held.terms(3, "'b' W {',' W} ';' (3 to 6 BELLS by WEIGHT,");
        reads("b1;", FAULT1, 2);
        reads("b1,1;", FAULT1, 4);
        for (int n = 3; n <= 6; n++) {
            reads(ByHand.bells(n), n, NONE);
        }
        reads("b1,1,1,1,1,1,1;", FAULT1, 12);
    }

    private void weights() {
        held.terms(7, "1 .. 20 each;");
        reads("b0,1,1;", FAULT2, 1);
        reads("b1,1,0;", FAULT2, 5);
        reads("b21,1,1;", FAULT2, 1);
        reads("b1,1,1,1,1,21;", FAULT2, 11);
        reads("b999,1,1;", FAULT2, 1);
        BellSuitors x = Fed.with("b1,20,19,2;");
        int[] due = {1, 20, 19, 2};
        for (int b = 0; b < due.length; b++) {
            held.is("bell(" + b + ", 0)", x.bell(b, 0), due[b]);
        }
    }

    private void asManyPlaces() {
        held.terms(31, "there are as many PLACES;");
        for (int n = 3; n <= 6; n++) {
            BellSuitors x = Fed.with(ByHand.bells(n));
            held.is(n + " BELLS: the last PLACE", x.write(0, n - 1), 1);
            held.is(n + " BELLS: one more", x.write(0, n), UNKNOWN);
            held.is(n + " BELLS: the last BELL is in it", x.bell(n - 1, 1), n - 1);
        }
    }

    private void bellsFirstAndOnce() {
        held.terms(3, "first, once)");
        reads("m7;b1,1,1;", FAULT1, 0);
        reads("b1,1,1;b1,1,1;", FAULT3, 7);
        reads("b1,1,1;m7;r1;c7;b1,1,1;", FAULT3, 16);
    }

    private void howManyChanges() {
        held.terms(3, "'m' P {',' P} ';' (THE METHOD: 1 to 12 CHANGES,");
        reads(THREE + "m;", FAULT1, 8);
        for (int n = 1; n <= 12; n++) {
            BellSuitors x = Fed.with(THREE + "m4" + ",1".repeat(n - 1) + ";");
            held.is("told(1)", x.told(1), n);
            held.is("the first", x.method(0), 4);
            held.is("the last", x.method(n - 1), n == 1 ? 4 : 1);
        }
        reads(THREE + "m4" + ",1".repeat(12) + ";", FAULT1, 31);
    }

    private void everyChange() {
        held.terms(6, "each a SET of PLACES that stay; all other PLACES are in runs, side by side, of an even number each; once)");
        for (int n = 3; n <= 6; n++) {
            for (int set = 0; set < 1 << n; set++) {
                String text = ByHand.bells(n) + "m" + set + ";";
                boolean fine = ByHand.isChange(set, n);
                reads(text, fine ? n : FAULT4, fine ? NONE : 2 * n + 2);
                held.is("method(0) of '" + text + "'", Fed.with(text).method(0), fine ? set : NOT);
            }
        }
        reads(THREE + "m7;m7;", FAULT3, 10);
    }

    private void everyCall() {
        held.terms(6, "'c' P ';' (THE CALL: a CHANGE likewise;");
        for (int n = 3; n <= 6; n++) {
            for (int set = 0; set < 1 << n; set++) {
                String text = ByHand.bells(n) + "c" + set + ";";
                boolean fine = ByHand.isChange(set, n);
                reads(text, fine ? n : FAULT4, fine ? NONE : 2 * n + 2);
                held.is("method(-1) of '" + text + "'", Fed.with(text).method(NONE), fine ? set : NOT);
            }
            reads(ByHand.bells(n) + "c" + (1 << n) + ";", FAULT2, 2 * n + 2);
        }
        reads(THREE + "c;", FAULT1, 8);
        reads(THREE + "c1,1;", FAULT1, 9);
    }

    private void howManySuitors() {
        held.terms(5, "'r' S ';' (SUITORS, no more than BELLS:");
        for (int n = 3; n <= 6; n++) {
            for (int suitors = 0; suitors <= n; suitors++) {
                BellSuitors x = Fed.with(ByHand.bells(n) + "r1;".repeat(suitors));
                held.is(n + " BELLS, told(2)", x.told(2), suitors);
            }
            reads(ByHand.bells(n) + "r1;".repeat(n + 1), FAULT3, 2 * n + 1 + 3 * n);
        }
    }

    private void strengths() {
        held.terms(8, "strength S, 1 .. 20)");
        reads(THREE + "r0;", FAULT2, 8);
        reads(THREE + "r21;", FAULT2, 8);
        reads(THREE + "r;", FAULT1, 8);
        reads(THREE + "r1,1;", FAULT1, 9);
        BellSuitors x = Fed.with(THREE + "r1;r20;r 019;");
        int[] due = {1, 20, 19};
        for (int r = 0; r < due.length; r++) {
            held.is("suitor(" + r + ", 0)", x.suitor(r, 0), due[r]);
        }
    }

    private void callOnce() {
        held.terms(3, "once).");
        reads(THREE + "c7;c7;", FAULT3, 10);
        reads(THREE + "c7;m7;r1;c1;", FAULT3, 16);
    }

    private void figures() {
        held.terms(3, "NUMBERS have one to three figures;");
        BellSuitors x = Fed.with("b7,07,007,020;m015,009;c003;r009;");
        held.is("told(0)", x.told(0), 4);
        held.is("bell(2, 0)", x.bell(2, 0), 7);
        held.is("bell(3, 0)", x.bell(3, 0), 20);
        held.is("method(0)", x.method(0), 15);
        held.is("method(-1)", x.method(NONE), 3);
        held.is("suitor(0, 0)", x.suitor(0, 0), 9);
        reads("b0007,7,7;", FAULT2, 1);
        reads("b,7,7;", FAULT1, 1);
    }

    private void words() {
        held.terms(3, "a word is one letter;");
        reads("bb1,1,1;", FAULT1, 1);
        reads(THREE + "mm7;", FAULT1, 8);
        reads(THREE + "rc7;", FAULT1, 8);
        reads("B1,1,1;", FAULT1, 0);
    }

    private void blanks() {
        held.terms(3, "blanks (32) may stand anywhere but within NUMBERS;");
        String text = "b10,2,13;m1,4;r12;r1;c7;";
        for (int at = 0; at <= text.length(); at++) {
            boolean within = at > 0 && at < text.length() && isFigure(text.charAt(at - 1)) && isFigure(text.charAt(at));
            for (int n = 1; n <= 3; n++) {
                String blank = text.substring(0, at) + " ".repeat(n) + text.substring(at);
                reads(blank, within ? FAULT1 : 3, within ? at + n : NONE);
            }
        }
        for (int letter : new int[] {0, 9, 10, 11, 12, 13, 31, 33, 95, 133, 160, 255}) {
            reads(THREE + (char) letter, FAULT1, 7);
            reads((char) letter + THREE, FAULT1, 0);
        }
    }

    private static boolean isFigure(char letter) {
        return letter >= '0' && letter <= '9';
    }

    private void sideBySide() {
        held.terms(3, "two NUMBERS side by side need one.");
        held.is("without one they are one NUMBER", Fed.with("b1,1,12;").bell(2, 0), 12);
        reads("b1,1,1 2;", FAULT1, 7);
        reads(THREE + "m1 4;", FAULT1, 10);
        reads(THREE + "r1 2;", FAULT1, 10);
    }

    private void firstFault() {
        held.terms(4, "FAULTS, at the first letter that has one");
        reads(THREE + "m5;b", FAULT4, 8);
        reads(THREE + "b0,x", FAULT3, 7);
        reads("b0,1;x", FAULT2, 1);
        reads(THREE + "m1,5,9,x", FAULT4, 10);
        reads(THREE + "m1,9,5,x", FAULT2, 10);
        reads(THREE + "m1,x,5,9", FAULT1, 10);
        reads(THREE + "m8x", FAULT2, 8);
        reads(THREE + "m5x", FAULT4, 8);
        reads("b1,1,1234x", FAULT2, 5);
    }

    private void faultAtTheEnd() {
        held.terms(4, "(the end at the text's length),");
        String text = "b10,2,13;m1,4;r12;c7;";
        for (int cut = 0; cut <= text.length(); cut++) {
            String part = text.substring(0, cut);
            boolean whole = part.isEmpty() || part.endsWith(";");
            int bells = part.isEmpty() ? 0 : 3;
            for (int blanks = 0; blanks <= 2; blanks++) {
                reads(part + " ".repeat(blanks), whole ? bells : FAULT1, whole ? NONE : cut + blanks);
            }
        }
        reads("b1,1,21", FAULT2, 5);
    }

    private void leastFault() {
        held.terms(3, "of these the least:");
        reads("b1,1,1 1234;", FAULT1, 7);
        reads("1234", FAULT1, 0);
        reads("b1,1,1b", FAULT1, 6);
        reads(THREE + "m1;c1m", FAULT1, 12);
        reads(THREE + "r1;r1;r1r", FAULT1, 15);
        reads(THREE + "m1;mm", FAULT3, 10);
        reads(THREE + "m8;", FAULT2, 8);
        reads(THREE + "m0000;", FAULT2, 8);
        reads(THREE + "c10;", FAULT2, 8);
    }

    private void noWord() {
        held.terms(3, "1 it cannot stand there (a letter that is no word,");
        for (int letter = 0; letter <= 255; letter++) {
            char c = (char) letter;
            boolean word = c == 'm' || c == 'r' || c == 'c';
            boolean number = isFigure(c);
            if (c != ' ' && c != 'b') {
                reads(THREE + c, FAULT1, word ? 8 : 7);
            }
            if (c != ' ') {
                reads("b" + c, c == '0' ? FAULT2 : FAULT1, number && c != '0' ? 2 : 1);
            }
            if (c != ';') {
                boolean goesOn = number || c == ',' || c == ' ';
                reads("b2,2,1" + c, FAULT1, goesOn ? 7 : 6);
            }
        }
    }

    private void otherWordFirst() {
        held.terms(3, "another word first than 'b';");
        for (int letter = 0; letter <= 255; letter++) {
            if (letter != ' ' && letter != 'b') {
                reads((char) letter + "1,1,1;", FAULT1, 0);
                reads("  " + (char) letter + "1;" + THREE, FAULT1, 2);
            }
        }
    }

    private void tooManyNumbers() {
        held.terms(4, "a seventh W, a 13th P at its ',';");
        reads("b1,1,1,1,1,1 , 1;", FAULT1, 13);
        reads("b1,1,1,1,1,1,", FAULT1, 12);
        reads("b1,1,1,1,1,1,99;", FAULT1, 12);
        reads(THREE + "m1" + ",1".repeat(11) + " ,5;", FAULT1, 32);
        reads(THREE + "m1" + ",1".repeat(11) + ",", FAULT1, 31);
    }

    private void tooFewWeights() {
        held.terms(4, "the ';' behind fewer than three W).");
        reads("b;", FAULT1, 1);
        reads("b1 ;", FAULT1, 3);
        reads("b1,1 ;", FAULT1, 5);
        reads("b1,1;m9;", FAULT1, 4);
        reads("b1,1,1;", 3, NONE);
    }

    private void numberFaults() {
        held.terms(4, "2 a NUMBER of four figures or more, or out of its bounds (P: 0 to all PLACES; at its first).");
        reads("b1000,1,1;", FAULT2, 1);
        reads("b1,1, 0001;", FAULT2, 6);
        reads("b1,00000000000000000001,1;", FAULT2, 3);
        reads("b1,4294967297,1;", FAULT2, 3);
        reads(THREE + "r0001;", FAULT2, 8);
        for (int n = 3; n <= 6; n++) {
            int at = 2 * n + 2;
            int all = (1 << n) - 1;
            reads(ByHand.bells(n) + "m" + all + ";c" + all + ";", n, NONE);
            reads(ByHand.bells(n) + "m" + (all + 1) + ";", FAULT2, at);
            reads(ByHand.bells(n) + "m" + all + ", " + (all + 1) + ";", FAULT2, at + (all > 9 ? 4 : 3));
            reads(ByHand.bells(n) + "m999;", FAULT2, at);
            reads(ByHand.bells(n) + "c 0000;", FAULT2, at + 1);
        }
        reads(ByHand.bells(4) + "m0;c0;", 4, NONE);
    }

    private void againFaults() {
        held.terms(4, "3 'b', 'm', 'c' again, an 'r' too many (at it).");
        reads(THREE + " b", FAULT3, 8);
        reads(THREE + "m7; m", FAULT3, 11);
        reads(THREE + "c7; c", FAULT3, 11);
        reads(THREE + "r1;r1;r1; r", FAULT3, 17);
        reads(THREE + "r1;r1;r", FAULT1, 14);
        reads(THREE + "m7;r1;m7;", FAULT3, 13);
    }

    private void oddFaults() {
        held.terms(4, "4 a P by which a run is of an odd number (at the P).");
        reads(THREE + "m0;", FAULT4, 8);
        reads(THREE + "m 005;", FAULT4, 9);
        reads(THREE + "m1,4, 3;", FAULT4, 13);
        reads(THREE + "c2;", FAULT4, 8);
        reads(ByHand.bells(6) + "m0,2;", FAULT4, 16);
        reads(ByHand.bells(5) + "m0;", FAULT4, 12);
        reads(ByHand.bells(6) + "m4;", FAULT4, 14);
        reads(ByHand.bells(6) + "m12;", 6, NONE);
    }

    private void emptyText() {
        held.terms(3, "An empty text (or one of blanks alone): no TOWER.");
        for (String text : new String[] {"", " ", " ".repeat(240)}) {
            BellSuitors x = Fed.with("b2,2,2;m1;r1;r1;c4;");
            x.ring(3);
            x.call();
            x.keep(0);
            x.wet(true);
            held.is("tower()", Fed.tell(x, text), 0);
            int[] due = {0, 0, 0, 0, 0, 0, 0, NONE, 0, 0, 0, 0, 0, 0, 0};
            for (int what = 0; what < due.length; what++) {
                held.is("told(" + what + ")", x.told(what), due[what]);
            }
            held.is("fault()", x.fault(), NONE);
            held.is("method(0)", x.method(0), NOT);
            held.is("bell(0, 0)", x.bell(0, 0), UNKNOWN);
            held.is("suitor(0, 0)", x.suitor(0, 0), UNKNOWN);
            held.is("rowAt(0)", x.rowAt(0), NOT);
            held.is("change(123, 123)", x.change(123, 123), OUTSIDE);
            held.is("undo()", x.undo(), NOT);
            held.is("goBack(0)", x.goBack(0), NOT);
        }
    }

    private void methodLeftOut() {
        held.terms(6, "Without 'm' THE METHOD is one CHANGE by which all stay;");
        for (int n = 3; n <= 6; n++) {
            BellSuitors x = Fed.with(ByHand.bells(n) + "c" + ((1 << n) - 4) + ";");
            held.is("told(1)", x.told(1), 1);
            held.is("method(0)", x.method(0), (1 << n) - 1);
            held.is("method(1)", x.method(1), NONE);
            held.is("method(-1)", x.method(NONE), (1 << n) - 4);
            held.is("ring(3)", x.ring(3), ByHand.asNumber(ByHand.rounds(n)));
            held.is("told(10)", x.told(10), 0);
        }
    }

    private void callLeftOut() {
        held.terms(6, "without 'c' so is THE CALL.");
        for (int n = 3; n <= 6; n++) {
            BellSuitors x = Fed.with(ByHand.bells(n) + "m" + ((1 << n) - 4) + ";");
            held.is("method(-1)", x.method(NONE), (1 << n) - 1);
            held.is("method(0)", x.method(0), (1 << n) - 4);
            x.call();
            held.is("ring(1)", x.ring(1), ByHand.asNumber(ByHand.rounds(n)));
        }
        BellSuitors x = Fed.with("b1,1,1;c1;");
        held.is("told", x.method(NONE), 1);
        Fed.tell(x, THREE);
        held.is("left out in the next text", x.method(NONE), 7);
    }

    private void textIsEmptyThen() {
        held.promise(3, "THE TEXT (it is empty then, with a FAULT, too) becomes THE TOWER");
        for (String text : new String[] {THREE, "x", "b1,1,1;m5;", " ", ""}) {
            BellSuitors x = new BellSuitors();
            Fed.tell(x, text);
            held.is("told(3) behind '" + text + "'", x.told(3), 0);
            held.is("feed() behind '" + text + "'", x.feed(' '), 1);
            held.is("tower() behind '" + text + "'", x.tower(), 0);
            held.is("told(0) behind '" + text + "'", x.told(0), 0);
        }
    }

    private void textReadAnew() {
        held.promise(3, "THE TEXT (it is empty then, with a FAULT, too)");
        BellSuitors x = new BellSuitors();
        String[] texts = {"b1,1,1;m1;c1;r1;r1;r1;x", "b2,2,2;m4;c4;r2;r2;r2;", "b3,3,3;m1,4;c7;r3;r3;r3;", "b1,1,1;m1;m", "b4,4,4,4;m0;c9;r4;r4;r4;r4;",
            "b1,1,1;r1;c1;m1,5;", "b5,5,5;"};
        int[] due = {FAULT1, 3, 3, FAULT3, 4, FAULT4, 3};
        for (int i = 0; i < texts.length; i++) {
            held.is("of what older texts told nothing is left: tower() of '" + texts[i] + "'", Fed.tell(x, texts[i]), due[i]);
        }
        held.same("told", new int[] {x.told(1), x.told(2), x.method(0), x.method(NONE), x.bell(2, 0)}, 1, 0, 7, 7, 5);
    }

    private static BellSuitors afterAnEvening() {
        BellSuitors x = Fed.with("b9,9,9;m1;r1;r1;r1;c4;");
        x.seed(77);
        x.wet(true);
        x.ring(2);
        x.swap(0, 2);
        x.keep(0);
        x.keep(1);
        x.ring(1);
        x.call();
        x.hear(0, 213);
        x.write(0, 2);
        return x;
    }

    private void towerBegins() {
        held.promise(3, "(ROUNDS, no ROW RUNG, nobody OUT, TIRED, not WET; nothing HEARD, no BOOK; IMAGES, what could be undone are gone; "
            + "THE SEED stays)");
        BellSuitors x = afterAnEvening();
        held.is("tower()", Fed.tell(x, "b9,9,9,9;m0,9;r1;r1;r1;r1;"), 4);
        int[] due = {4, 2, 4, 0, 0, 1234, 0, NONE, 0, 0, 0, 0, 15, 0, 0};
        for (int what = 0; what < due.length; what++) {
            held.is("told(" + what + ")", x.told(what), due[what]);
        }
        for (int r = 0; r < 4; r++) {
            held.is("suitor(" + r + ", 1)", x.suitor(r, 1), r);
            held.is("suitor(" + r + ", 2)", x.suitor(r, 2), 0);
            held.is("suitor(" + r + ", 3)", x.suitor(r, 3), 0);
        }
        held.is("judge()", x.judge(), NONE);
        held.is("undo()", x.undo(), NOT);
        held.is("goBack(0)", x.goBack(0), NOT);
        held.is("goBack(1)", x.goBack(1), NOT);
        held.is("seed(0)", x.seed(0), 77);
    }

    private void faultLeavesAll() {
        held.promise(3, "how many BELLS; -10 less the number of its FAULT (all else is as it was).");
        String[] texts = {"b1,1,1;m1,", "b1,1,1;m8;", "b1,1,1,1;c0;b", "b1,1,1,1,1;m0;"};
        for (int number = 1; number <= 4; number++) {
            BellSuitors x = afterAnEvening();
            held.is("tower()", Fed.tell(x, texts[number - 1]), -10 - number);
            held.same("all else", withoutFault(Probe.everything(x)), withoutFault(Probe.everything(afterAnEvening())));
        }
        BellSuitors x = afterAnEvening();
        Fed.tell(x, "b1,1,1,1,1;m0;");
        held.is("undo()", x.undo(), 1);
        held.is("goBack(0)", x.goBack(0), 1);
        held.is("goBack(1)", x.goBack(1), 1);
        held.is("seed(0)", x.seed(0), 77);
    }

    /** Where the fault was differs, and is no part of all else. */
    private static int[] withoutFault(int[] read) {
        int[] rest = read.clone();
        rest[15] = 0;
        return rest;
    }

    private void latestFault() {
        held.promise(4, "The letter of the FAULT of the latest tower(); NONE.");
        BellSuitors x = new BellSuitors();
        held.is("ahead of any", x.fault(), NONE);
        Fed.tell(x, "x");
        held.is("the least letter", x.fault(), 0);
        Fed.feed(x, "b1,1,1;");
        held.is("till the next tower()", x.fault(), 0);
        x.tower();
        held.is("behind a good one", x.fault(), NONE);
        Fed.tell(x, "b1,1,1");
        held.is("at the end", x.fault(), 6);
        Fed.tell(x, "b1,1;");
        held.is("the latest", x.fault(), 4);
        x.tower();
        held.is("behind an empty one", x.fault(), NONE);
        Fed.tell(x, " ".repeat(240));
        held.is("behind blanks", x.fault(), NONE);
        held.is("the greatest", Fed.with(" ".repeat(239) + "b").fault(), 240);
    }

    private void methodBounds() {
        held.promise(6, "The SET of a CHANGE of THE METHOD (0 on); NONE: there is no such; i = NONE: THE CALL.");
        BellSuitors x = Fed.with(THREE + "m1,4,7;c4;");
        int[] due = {1, 4, 7};
        for (int i = 0; i < due.length; i++) {
            held.is("method(" + i + ")", x.method(i), due[i]);
        }
        held.is("method(NONE)", x.method(NONE), 4);
        for (int i : new int[] {3, 12, -2, Integer.MAX_VALUE, Integer.MIN_VALUE, UNKNOWN}) {
            held.is("method(" + i + ")", x.method(i), NONE);
        }
        BellSuitors shorter = Fed.with(THREE + "m1,4,7,1;");
        Fed.tell(shorter, THREE + "m4;");
        held.is("of an older tower there is no such", shorter.method(1), NONE);
        held.promise(6, "NOT: no TOWER.");
        for (int i : new int[] {NONE, 0, 1, -2, 12}) {
            held.is("method(" + i + ")", new BellSuitors().method(i), NOT);
        }
    }
}
