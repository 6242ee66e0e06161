/** Sentences on TEXTS, FAULT and THE TAPE, and of the promises 5 to 7. */
final class TextEdges extends Edges {
    private static final String REST = ";gives 0;spoils 0;";

    TextEdges(Due due, Document document) {
        super(due, document);
    }

    @Override
    void all() {
        tape();
        tokens();
        grammar();
        worked();
        faults();
        test(TERMS, "There are 6 TEXTS at most, TEXT 0 with them.", this::textsAreSix);
        feeding();
        reading();
        forcing();
    }

    /** What gives comes to; the E must be of -99 .. 99 by itself, lest the bound be seen. */
    private void comes(String e, int want) {
        GoldTurnsBack x = ruled("5", e, "0");
        coin(x, COIN, 8, 31, 5, 17, 3);
        is(e, x.told(0, 8), want);
    }

    private void stands(String text) {
        is("'" + text + "'", text(valley(), text), 1);
    }

    private void fault(String text, int place) {
        GoldTurnsBack x = valley();
        is("'" + text + "'", text(x, text), -100 - place);
        is("no text came of '" + text + "'", x.count(3), 1);
    }

    private void standsE(String e) {
        stands("turns " + e + REST);
    }

    /** The place is that in the E. */
    private void faultE(String e, int place) {
        fault("turns " + e + REST, 6 + place);
    }

    private void tape() {
        test(TERMS, "A TEXT is read from THE TAPE (160 bytes at most).", () -> {
            String long160 = "turns " + "1+".repeat(67) + "08;gives 3;spoils 4;";
            is("its size", long160.length(), 160);
            GoldTurnsBack x = valley();
            is("a text of 160 bytes", text(x, long160), 1);
            x.force(1);
            x.coin(COIN, 0, 1);
            are("by it", answers(3, i -> x.told(0, i + 7)), 67 + 8, 3, 4);
            GoldTurnsBack y = valley();
            is("the 161st byte is left out", text(y, " " + long160), -100 - 160);
        });
    }

    private void tokens() {
        test(TERMS, "TOKENS, each as long as can be: WORDS (a .. z),", () -> {
            stands("turns value" + REST);
            fault("turnsvalue" + REST, 0);
            fault("turns valueage" + REST, 6);
            fault("turns value age" + REST, 12);
            fault("tur ns 7" + REST, 0);
            fault("turns val ue" + REST, 6);
            fault("turns VALUE" + REST, 6);
            fault("turns valuE" + REST, 6);
            stands("turns not0and0or0" + REST);
            fault("turns 0andnot0" + REST, 7);
            fault("turnsz 7" + REST, 0);
            fault("turns valuez" + REST, 6);
            fault("turns valuea" + REST, 6);
            fault("turns `" + REST, 6);
            fault("turns {" + REST, 6);
            fault("turns value`" + REST, 11);
            fault("turns value{" + REST, 11);
        });
        test(TERMS, "NUMBERS (digits, 4 at most),", () -> {
            comes("9999=9998+1", 1);
            comes("0000", 0);
            comes("0099", 99);
            faultE("0123456789", 0);
            faultE("00000", 0);
            faultE("10000", 0);
            faultE("1+12345", 2);
            faultE("1234 5", 5);
            faultE("12value", 2);
            faultE("/", 0);
            faultE(":", 0);
        });
        test(TERMS, "SIGNS ( ) ; + - * < = ;", () -> {
            comes("(5+4-3)*2", 12);
            comes("5<6", 1);
            comes("5=6", 0);
            for (char c : "!\"#$%&',./:>?@[]^_{|}~\\\t\r".toCharArray()) {
                faultE("1" + c + "1", 1);
            }
            faultE("5<=6", 2);
            faultE("5==6", 2);
            faultE("5<<6", 2);
            faultE("5**6", 2);
        });
        test(TERMS, "blanks (32, 10) may stand between.", () -> {
            stands("  turns\n\n7\n;\ngives\n( first )*\n5 ; spoils   2 ; \n ");
            stands("turns7;gives(first)*5;spoils2;");
            for (int other : new int[] {0, 9, 11, 12, 13, 31, 33, 127, 128, 160, 255}) {
                GoldTurnsBack x = valley();
                is("byte " + other, text(x, "turns 7" + (char) other + REST), -107);
            }
        });
    }

    private void grammar() {
        test(TERMS, "TEXT: turns E ; gives E ; spoils E ;", () -> {
            stands("turns 1;gives 2;spoils 3;");
            fault("gives 2;turns 1;spoils 3;", 0);
            fault("turns 1;spoils 3;gives 2;", 8);
            fault("turns 1;gives 2;gives 3;", 16);
            fault("turns 1;gives 2;", 16);
            fault("turns 1;gives 2;spoils 3", 24);
            fault("turns 1;gives 2;spoils 3;;", 25);
            fault("turns 1;gives 2;spoils 3;turns 1;", 25);
            fault("turns 1;gives 2;spoils 3;\n4", 26);
            fault(";turns 1;gives 2;spoils 3;", 0);
            fault("turns 1 gives 2;spoils 3;", 8);
            fault("turns;gives 2;spoils 3;", 5);
        });
        test(TERMS, "E: AND { or AND }.", () -> {
            comes("1 or 0 and 0", 1);
            comes("0 and 0 or 1", 1);
            comes("0 or 0 or 0 or 1", 1);
            faultE("or 1", 0);
            faultE("1 or", 4);
            faultE("1 or or 1", 5);
        });
        test(TERMS, "AND: NOT { and NOT }.", () -> {
            comes("1 and not 0 and 1", 1);
            comes("not 0 and 0", 0);
            comes("not 1 and 0", 0);
            faultE("and 1", 0);
            faultE("1 and", 5);
            faultE("1 and or 1", 6);
        });
        test(TERMS, "NOT: not NOT, or SUM, perhaps < or = and a SUM.", () -> {
            comes("not not 5", 1);
            comes("not 3 < 2", 1);
            comes("not 2 = 2", 0);
            comes("1 + 1 = 2", 1);
            comes("1 < 1 + 1", 1);
            comes("7", 7);
            faultE("1 < 2 < 3", 6);
            faultE("1 < 2 = 3", 6);
            faultE("1 = 2 = 3", 6);
            comes("(1 < 2) < 3", 1);
            comes("5 < 6 and 6 < 7", 1);
            faultE("1 < not 2", 4);
            faultE("1 = not 2", 4);
            faultE("1 not 2", 2);
            faultE("not", 3);
        });
        test(TERMS, "SUM: TERM { + or - TERM }.", () -> {
            comes("9 - 3 - 2", 4);
            comes("9 - 3 + 2", 8);
            comes("9 - 3 * 2", 3);
            faultE("+ 1", 0);
            faultE("1 + + 1", 4);
            faultE("1 +", 3);
            faultE("1 + not 1", 4);
        });
        test(TERMS, "TERM: ONE { * ONE }.", () -> {
            comes("2 * 3 * 4", 24);
            comes("2 * - 3", -6);
            comes("- 2 * - 3", 6);
            faultE("* 1", 0);
            faultE("1 * * 1", 4);
            faultE("1 *", 3);
            faultE("2 * not 1", 4);
        });
        test(TERMS, "ONE: a NUMBER, a NAME, - ONE, ( E ).", () -> {
            comes("31", 31);
            comes("value", 31);
            comes("- value", -31);
            comes("- - 4", 4);
            comes("5 - - 4", 9);
            comes("-2 + 5", 3);
            comes("-(2 or 0)", -1);
            comes("(((7)))", 7);
            comes("- (2 + 3)", -5);
            faultE("()", 1);
            faultE("(1", 2);
            faultE("1)", 1);
            faultE("-", 1);
            faultE("- not 1", 2);
            faultE("(1 2)", 3);
            faultE("1 (2)", 2);
            faultE("value 2", 6);
        });
        test(TERMS, "NAMES are value first number age owner day; turns, gives, spoils, or, and, not are KEYS.", () -> {
            for (String name : new String[] {"value", "first", "number", "age", "owner", "day"}) {
                standsE(name);
                fault(name + " 1" + REST, 0);
                faultE("1 " + name, 2);
                faultE(name.substring(1), 0);
                faultE(name.substring(0, name.length() - 1), 0);
                faultE(name + "s", 0);
            }
            for (String key : new String[] {"turns", "gives", "spoils", "or", "and"}) {
                faultE(key, 0);
                faultE("1+" + key, 2);
            }
            faultE("1 turns 2", 2);
        });
    }

    private void worked() {
        test(TERMS, "An E is an int (32 bits, wrapping):", () -> {
            comes("4096 * 4096 * 256", 0);
            comes("4096 * 4096 * 256 + 5", 5);
            comes("4096 * 4096 * 128 < 0", 1);
            comes("4096 * 4096 * 128 - 1 < 0", 0);
            comes("-(4096 * 4096 * 128) < 0", 1);
            comes("4096 * 4096 * 128 = -(4096 * 4096 * 128)", 1);
            comes("4096 * 4096 * 128 + 4096 * 4096 * 128", 0);
            comes("0 - 4096 * 4096 * 128 - 1 < 0", 0);
            // 2^31 less 1, and 1, is the least int: the bound below.
            comes("(4096 * 4096 * 128 - 1) + 1", -99);
            comes("4096 * 4096 * 128 - 1", 99);
            // 9999 to the third is 999700029999; less 233 times 2^32 that is -1027349969.
            comes("9999 * 9999 * 9999 + 8000 * 8000 * 16 + 3349 * 1000 + 969", 0);
        });
        test(TERMS, "of or, and, not, <, = 1 or 0 (what is not 0 is true).", () -> {
            comes("7 or 0", 1);
            comes("0 or 7", 1);
            comes("0 or 0", 0);
            comes("-7 or -7", 1);
            comes("7 and -7", 1);
            comes("7 and 0", 0);
            comes("0 and 7", 0);
            comes("not 7", 0);
            comes("not -7", 0);
            comes("not 0", 1);
            comes("not not 7", 1);
            comes("-1 < 0", 1);
            comes("0 < 0", 0);
            comes("0 < -1", 0);
            comes("7 = 7", 1);
            comes("7 = -7", 0);
            comes("(5 < 6) + (5 < 6)", 2);
            comes("4096 * 4096 * 128 or 0", 1);
            comes("4096 * 4096 * 256 or 0", 0);
        });
    }

    private void faults() {
        test(TERMS, "FAULT: the place of the first byte of the first TOKEN that can't stand there", () -> {
            fault("value", 0);
            fault("  value", 2);
            fault("turns 7 gives", 8);
            fault("turns 7 + ; $$$ 99999", 10);
            fault("turns 7 7 $", 8);
            fault("turns 7;gives value value;spoils $;", 20);
            fault("turns 1 + 2) ;", 11);
        });
        test(TERMS, "(the text's size, if it ends too early),", () -> {
            fault("", 0);
            fault(" ", 1);
            fault("\n \n", 3);
            fault("turns", 5);
            fault("turns 7", 7);
            fault("turns 7  ", 9);
            fault("turns 7;", 8);
            fault("turns (7", 8);
            fault("turns not", 9);
            fault("turns 1;gives 2;spoils 3 ", 25);
        });
        test(TERMS, "also of a byte that begins none,", () -> {
            fault("$", 0);
            fault("turns 7$;", 7);
            fault("turns $;", 6);
            fault("turns 7;gives 1;spoils 1;$", 25);
            fault("turns 7;gives 1;spoils 1; " + (char) 255, 26);
            fault("turns 7" + (char) 0, 7);
            fault("turns 7/", 7);
            fault("turns 7:", 7);
            fault("turns 1234:", 10);
        });
        test(TERMS, "a WORD that is neither KEY nor NAME,", () -> {
            fault("turn 7;", 0);
            fault("turns x;", 6);
            fault("turns 7 x;", 8);
            fault("turns 7 xor 1;", 8);
            fault("turns 1 + ages;", 10);
            fault("turns 1 + " + "z".repeat(100) + ";", 10);
        });
        test(TERMS, "a NUMBER that is too long,", () -> {
            fault("turns 12345;", 6);
            fault("turns 1 + 00000;", 10);
            fault("turns 7 12345;", 8);
            fault("12345", 0);
            fault("turns " + "9".repeat(154), 6);
        });
        test(TERMS, "a ( , a not, a - ahead of a ONE while 5 of these are open", () -> {
            standsE("(((((1)))))");
            faultE("((((((1))))))", 5);
            standsE("-----1");
            faultE("------1", 5);
            standsE("not not not not not 1");
            faultE("not not not not not not 1", 20);
            faultE("not not not not not (1)", 20);
            faultE("not not not not not -1", 20);
            faultE("(((((not 1)))))", 5);
            faultE("(((((-1)))))", 5);
            faultE("-----(1)", 5);
            standsE("not (-(-1))");
            faultE("not (-(-(1)))", 8);
            faultE("not (-(--1))", 8);
            standsE("not (-(2-(3)))");
            faultE("not not (-(2-(3)))", 13);
        });
        test(TERMS, "(a ( till its ) , not and - till what they belong to ends).", () -> {
            standsE("(((((1)))))+(((((1)))))");
            standsE("(((((1))+((1)))))");
            standsE("-----1*-----1--- - -1");
            standsE("not not not not not 1 and not not not not not 1");
            standsE("not not not not not 1 or (((((1)))))");
            // The nots belong to all of the comparison, so they are open still on its right.
            faultE("not not not not not 1 < -1", 24);
            faultE("not not not not not 1 = (1)", 24);
            standsE("not not not not 1 < -1");
            faultE("not not not not 1 < -(1)", 21);
            // The - belongs to the ONE alone, so it is open no more behind that.
            standsE("----1 < (((((1)))))");
            standsE("not not not (-1 + -1) * -1 < -1");
            faultE("not not not (-1 + -(1))", 19);
            // A - between two TERMS is none of these.
            standsE("(((((1-1)))))");
            faultE("(((((1--1)))))", 7);
        });
    }

    private void textsAreSix() {
        GoldTurnsBack x = valley();
        is("text 0 is there", x.count(3), 1);
        for (int i = 1; i < 6; i++) {
            is("a text", text(x, "turns " + i + REST), i);
        }
        textsAreLong();
        is("texts", x.count(3), 6);
        is("a seventh", text(x, "turns 6" + REST), FULL);
        is("texts", x.count(3), 6);
        is("none is numbered 6", x.force(6), BAD);
        x.coin(COIN, 0, 1);
        for (int i = 5; i > 0; i--) {
            x.force(i);
            is("each is as it was", x.told(0, 7), i);
        }
    }

    /** As many as 512 calls can feed. */
    private void textsAreLong() {
        GoldTurnsBack x = valley();
        x.coin(COIN, 0, 1);
        for (int i = 1; i < 4; i++) {
            String text = "turns " + "1+".repeat(60 + i) + "0;gives " + i + ";spoils 3;";
            text += " ".repeat(160 - text.length());
            is("its size", text.length(), 160);
            is("a long text", text(x, text), i);
        }
        for (int i = 1; i < 4; i++) {
            x.force(i);
            are("by text " + i, answers(3, what -> x.told(0, what + 7)), 60 + i, i, 3);
        }
    }

    private void feeding() {
        test(5, "A byte (0 .. 255) comes behind THE TAPE: how many it has.", () -> {
            GoldTurnsBack x = valley();
            is("feed(0)", x.feed(0), 1);
            is("feed(255)", x.feed(255), 2);
            is("count(4)", x.count(4), 2);
            GoldTurnsBack y = valley();
            Valley.feed(y, "turns 7;gives 1;spoils 1");
            is("the last one", y.feed(';'), 25);
            is("it came behind", y.text(), 1);
        });
        test(5, "BAD; FULL.", () -> {
            GoldTurnsBack x = valley();
            for (int i = 0; i < 160; i++) {
                is("feed", x.feed(' '), i + 1);
            }
            is("the 161st", x.feed(' '), FULL);
            is("how many", x.count(4), 160);
            for (int letter : new int[] {-1, 256, FAR, FAR_BELOW}) {
                is("feed(" + letter + ") of a full tape", x.feed(letter), BAD);
            }
            is("text()", x.text(), -100 - 160);
            for (int letter : new int[] {-1, 256, FAR, FAR_BELOW}) {
                is("feed(" + letter + ")", x.feed(letter), BAD);
            }
            is("how many", x.count(4), 0);
        });
    }

    private void reading() {
        test(6, "THE TAPE, which is empty then, is a TEXT: its number;", () -> {
            GoldTurnsBack x = valley();
            is("the first", text(x, "turns 3" + REST), 1);
            is("the tape is empty", x.count(4), 0);
            is("nothing of it is left", text(x, "turns 4" + REST), 2);
            x.coin(COIN, 0, 1);
            is("the rule is what it was", x.told(0, 7), 7);
            is("five bytes", text(x, "turns"), -105);
            is("of four bytes the fifth that stood there is none", text(x, "turn"), -100);
            is("a number", text(x, "turns 1234;gives 0;spoils 12345"), -100 - 26);
            is("of it as much as was fed", text(x, "turns 1;gives 0;spoils (1 + 123"), -100 - 31);
            x.force(1);
            is("text 1", x.told(0, 7), 3);
            x.force(2);
            is("text 2", x.told(0, 7), 4);
        });
        test(6, "-100 less the place of its FAULT.", () -> {
            GoldTurnsBack x = valley();
            is("an empty tape", x.text(), -100);
            is("a fault at 6", text(x, "turns $"), -106);
            is("the tape is empty", x.count(4), 0);
            is("a good text behind a fault", text(x, "turns 3" + REST), 1);
            GoldTurnsBack y = valley();
            is("a fault at 159", text(y, " ".repeat(159) + "$"), -259);
            is("a fault at 160", text(y, " ".repeat(160)), -260);
        });
        test(6, "FULL: no TEXT more has room (THE TAPE stays).", () -> {
            GoldTurnsBack x = valley();
            for (int i = 1; i < 6; i++) {
                text(x, "turns " + i + REST);
            }
            is("an empty tape", x.text(), FULL);
            Valley.feed(x, "turns 8");
            is("a tape with a fault", x.text(), FULL);
            is("it stays", x.count(4), 7);
            Valley.feed(x, REST);
            is("a good tape", x.text(), FULL);
            is("it stays", x.count(4), 7 + REST.length());
            is("one more byte comes behind it", x.feed(' '), 8 + REST.length());
        });
    }

    private void forcing() {
        test(7, "A TEXT is THE RULE: which was.", () -> {
            GoldTurnsBack x = valley();
            x.coin(COIN, 0, 1);
            text(x, "turns 3" + REST);
            is("force(0)", x.force(0), 0);
            is("force(1)", x.force(1), 0);
            is("by it", x.told(0, 7), 3);
            is("force(1) again", x.force(1), 1);
            is("force(0)", x.force(0), 1);
            is("by it", x.told(0, 7), 7);
        });
        test(7, "BAD.", () -> {
            GoldTurnsBack x = valley();
            text(x, "turns 3" + REST);
            for (int text : new int[] {-1, 2, 5, 6, FAR, FAR_BELOW}) {
                is("force(" + text + ")", x.force(text), BAD);
            }
            is("the rule", x.count(5), 0);
        });
    }
}
