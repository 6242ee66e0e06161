/** Promises 5 to 7: feed, text, force; and the grammar of texts. */
public final class TextsTest {
    private static final Due due = new Due();

    public static void main(String[] args) {
        bytesCome();
        theTapeIsFull();
        textsAreNumbered();
        namesAreRead();
        expressionsAreWorked();
        faults();
        depthFaults();
        forced();
        due.end();
    }

    private static void bytesCome() {
        GoldTurnsBack x = new GoldTurnsBack();
        due.is("feed(0)", x.feed(0), 1);
        due.is("feed(255)", x.feed(255), 2);
        due.is("feed(256)", x.feed(256), Valley.BAD);
        due.is("feed(-1)", x.feed(-1), Valley.BAD);
        due.is("count(4)", x.count(4), 2);
        due.is("byte 0 begins none", x.text(), -100);
        due.is("the tape is empty", x.count(4), 0);
    }

    private static void theTapeIsFull() {
        GoldTurnsBack x = new GoldTurnsBack();
        Valley.feed(x, "turns 3;gives 4;spoils 5;");
        for (int i = 25; i < 160; i++) {
            due.is("feed", x.feed(i % 2 == 0 ? 10 : 32), i + 1);
        }
        due.is("one more", x.feed(32), Valley.FULL);
        due.is("a bad one more", x.feed(256), Valley.BAD);
        due.is("count(4)", x.count(4), 160);
        due.is("text()", x.text(), 1);
        due.is("feed again", x.feed(32), 1);
        endsWithTheTape("turns", 'z', 0);
        endsWithTheTape("turns ", '7', 6);
        endsWithTheTape("turns ", ' ', 160);
        endsWithTheTape("turns 1", '+', 8);
        endsWithTheTape("turns(((((1", ')', 16);
    }

    private static void endsWithTheTape(String text, char letter, int place) {
        GoldTurnsBack x = new GoldTurnsBack();
        Valley.feed(x, text);
        for (int i = text.length(); i < 160; i++) {
            x.feed(letter);
        }
        due.is("160 bytes of " + text + letter, x.text(), -100 - place);
    }

    private static void textsAreNumbered() {
        GoldTurnsBack x = new GoldTurnsBack();
        for (int i = 1; i < 6; i++) {
            due.is("text " + i, Valley.text(x, "turns " + i + ";gives 1;spoils 1;"), i);
            due.is("the tape is empty", x.count(4), 0);
            due.is("texts", x.count(3), i + 1);
            due.is("a fault", Valley.text(x, i < 5 ? "x" : ""), i < 5 ? -100 : Valley.FULL);
        }
        Valley.feed(x, "turns");
        due.is("no room", x.text(), Valley.FULL);
        due.is("the tape stays", x.count(4), 5);
        due.is("texts", x.count(3), 6);
        due.is("the rule is still 0", x.count(5), 0);
    }

    private static void namesAreRead() {
        GoldTurnsBack x = new GoldTurnsBack();
        x.set(0, 0, 61);
        Valley.coin(x, 0, 8, 31, 5, 17, 3);
        String[] names = {"value", "first", "number", "age", "owner"};
        int[] want = {31, 5, 8, 17, 3};
        for (int i = 0; i < names.length; i++) {
            x.force(Valley.text(x, "turns 1;gives " + names[i] + ";spoils 0;"));
            due.is(names[i], x.told(0, 8), want[i]);
        }
        GoldTurnsBack y = Valley.ruled("turns day;gives day;spoils day;");
        y.coin(0, 0, 1);
        y.set(0, 0, 61);
        due.is("day", y.told(0, 8), 61);
    }

    /** What gives tells of an E, kept within -99 .. 99 by the E itself. */
    private static void worked(String e, int want) {
        GoldTurnsBack x = Valley.ruled("turns 5;gives " + e + ";spoils 0;");
        Valley.coin(x, 0, 8, 31, 5, 17, 3);
        due.is(e, x.told(0, 8), want);
    }

    private static void expressionsAreWorked() {
        worked("7", 7);
        worked("0098", 98);
        worked("1 + 2 * 3", 7);
        worked("(1 + 2) * 3", 9);
        worked("9 - 3 - 2", 4);
        worked("9 - 3 + 2", 8);
        worked("2 * 3 * 4", 24);
        worked("- 2 + 5", 3);
        worked("-2*-3", 6);
        worked("- - 4", 4);
        worked("5--4", 9);
        worked("5 < 6", 1);
        worked("6 < 6", 0);
        worked("0 - 6 < 5", 1);
        worked("5 = 5", 1);
        worked("5 = 4", 0);
        worked("not 5", 0);
        worked("not 0", 1);
        worked("not not 7", 1);
        worked("not 3 < 2", 1);
        worked("not 2 = 2", 0);
        worked("7 and 2", 1);
        worked("7 and 0", 0);
        worked("0 or 6", 1);
        worked("0 or 0", 0);
        worked("1 or 0 and 0", 1);
        worked("(1 or 0) and 0", 0);
        worked("1 + 1 = 2 and 3 < 4", 1);
        worked("not 0 and 0", 0);
        worked("(3 < 4) + (4 < 3) + (2 = 2) * 5", 6);
        worked("value - first * number", -9);
        worked("age + owner - 30", -10);
        worked("0 - 9999", -99);
        worked("9999", 99);
        worked("9999 * 9999 * 9999 < 0", 1);
    }

    private static void fault(String text, int place) {
        GoldTurnsBack x = new GoldTurnsBack();
        due.is("text: " + text, Valley.text(x, text), -100 - place);
        due.is("the tape is empty", x.count(4), 0);
        due.is("no text came", x.count(3), 1);
    }

    private static void stands(String text) {
        GoldTurnsBack x = new GoldTurnsBack();
        due.is("text: " + text, Valley.text(x, text), 1);
    }

    private static void faults() {
        stands("turns7;gives1;spoils2;");
        stands("\n turns\n7 ;gives 1\n;spoils 2; \n");
        fault("", 0);
        fault("   ", 3);
        fault("gives 1;", 0);
        fault(" 7", 1);
        fault("turns 7", 7);
        fault("turns 7 ;", 9);
        fault("turns 7 ; ", 10);
        fault("turns ;", 6);
        fault("turns 7 gives 1;", 8);
        fault("turns 7; turns 1;", 9);
        fault("turns 7;gives 1;spoils 2", 24);
        fault("turns 7;gives 1;spoils 2;;", 25);
        fault("turns 7;gives 1;spoils 2; turns", 26);
        fault("turns 7;gives 1;spoils 2; $", 26);
        fault("turns 12345;", 6);
        fault("turns 00001;", 6);
        fault("turns 7 + wert;", 10);
        fault("turns values;", 6);
        fault("turns valu;", 6);
        fault("turnsvalue;", 0);
        fault("turns Value;", 6);
        fault("turns value7;", 11);
        fault("turns 7 7;", 8);
        fault("turns 1 < 2 < 3;", 12);
        fault("turns 1 <= 2;", 9);
        fault("turns 1 + not 2;", 10);
        fault("turns 1 = not 2;", 10);
        fault("turns - not 2;", 8);
        fault("turns 1 +;", 9);
        fault("turns 1 + * 2;", 10);
        fault("turns + 1;", 6);
        fault("turns (1;", 8);
        fault("turns 1);", 7);
        fault("turns ();", 7);
        fault("turns (1", 8);
        fault("turns 1 and;", 11);
        fault("turns or 1;", 6);
        fault("turns gives;", 6);
        fault("turns 1 / 2;", 8);
        fault("turns 1\t;", 7);
        fault("turns" + (char) 200 + "1;", 5);
    }

    private static void e(String e, int place) {
        String text = "turns " + e + ";gives 0;spoils 0;";
        if (place < 0) {
            stands(text);
        } else {
            fault(text, 6 + place);
        }
    }

    private static void depthFaults() {
        e("(((((1)))))", -1);
        e("((((((1))))))", 5);
        e("-----1", -1);
        e("------1", 5);
        e("not not not not not 1", -1);
        e("not not not not not not 1", 20);
        e("not not not not not (1)", 20);
        e("not not not not not -1", 20);
        e("((((-1))))", -1);
        e("(((((-1)))))", 5);
        e("(((((1-1)))))", -1);
        e("(((((1--1)))))", 7);
        e("(((((not 1)))))", 5);
        e("(((((1))))) + (((((1)))))", -1);
        e("-----1*-----1", -1);
        e("----(1+-1)", 7);
        e("----(1-1)", -1);
        e("not not not not not 1 and not not not not not 1", -1);
        e("not not not not not 1 < 2 or not 1", -1);
        e("not not not not 1 < -1", -1);
        e("not not not not not 1 < -1", 24);
        e("not not not (-1 + -1) * -1", -1);
        e("not not not (-1 + -(1))", 19);
        e("(((((1)", 7);
    }

    private static void forced() {
        GoldTurnsBack x = new GoldTurnsBack();
        x.coin(0, 0, 10);
        due.is("force(1) too early", x.force(1), Valley.BAD);
        due.is("force(0)", x.force(0), 0);
        Valley.text(x, "turns 3;gives 1;spoils 1;");
        due.is("a text is no rule by itself", x.told(0, 7), 7);
        due.is("force(1)", x.force(1), 0);
        due.is("turns by it", x.told(0, 7), 3);
        due.is("count(5)", x.count(5), 1);
        due.is("force(2)", x.force(2), Valley.BAD);
        due.is("force(-1)", x.force(-1), Valley.BAD);
        due.is("force(0)", x.force(0), 1);
        due.is("turns by 0", x.told(0, 7), 7);
    }
}
