/** Promises 1 to 5: a new object, the tape, what is read and which fault is found where. */
public final class ReadTest {
    private static final Checks CHECKS = new Checks();

    public static void main(String[] args) {
        newObject();
        feed();
        back();
        tokens();
        syntax();
        room();
        roomOfTokens();
        faultsOfWhatIsTold();
        whichFaultIsFirst();
        aFaultChangesNothing();
        aTextIsInPlaceOfTheOneAhead();
        lawsNotTold();
        theLastOneCounts();
        CHECKS.end();
    }

    private static void fault(String text, int fault, int place) {
        MincedCases x = new MincedCases();
        Checks.feed(x, text);
        CHECKS.due("read() of " + text, x.read(), fault);
        CHECKS.due("place() of " + text, x.place(), place);
        CHECKS.due("count(8) behind " + text, x.count(8), 0);
    }

    private static void fine(String text) {
        fault(text, 0, MincedCases.NONE);
    }

    private static void newObject() {
        MincedCases x = new MincedCases();
        for (int what = 0; what <= 16; what++) {
            CHECKS.due("new: count(" + what + ")", x.count(what), what == 4 ? 1 : 0);
        }
        CHECKS.due("new: place()", x.place(), -1);
        CHECKS.due("new: person(0, 0)", x.person(0, 0), -1);
        CHECKS.due("new: undo()", x.undo(), false);
        CHECKS.due("new: restore(0)", x.restore(0), false);
    }

    private static void feed() {
        MincedCases x = new MincedCases();
        for (int i = 1; i <= 100; i++) {
            CHECKS.due("feed " + i, x.feed(-1, 0, Integer.MIN_VALUE, Integer.MAX_VALUE, 7), 20 * i);
        }
        CHECKS.due("feed 101", x.feed(1, 2, 3, 4, 5), -1);
        CHECKS.due("count(8)", x.count(8), 2000);
        CHECKS.due("back(1)", x.back(1), 1999);
        CHECKS.due("feed with 1 byte left", x.feed(1, 2, 3, 4, 5), -1);
        CHECKS.due("back(18)", x.back(18), 1981);
        CHECKS.due("feed with 19 bytes left", x.feed(1, 2, 3, 4, 5), -1);
        CHECKS.due("back(1)", x.back(1), 1980);
        CHECKS.due("feed with 20 bytes left", x.feed(1, 2, 3, 4, 5), 2000);

        // "seed" " 123" "    " "    " "   ;": the highest byte of each comes first.
        MincedCases y = new MincedCases();
        CHECKS.due("feed", y.feed(0x73656564, 0x20313233, 0x20202020, 0x20202020, 0x2020203b), 20);
        CHECKS.due("read", y.read(), 0);
        // A no-token in the last byte is found at its place.
        y.feed(0x20202020, 0x20202020, 0x20202020, 0x20202020, 0x202020ff);
        CHECKS.due("read", y.read(), 1);
        CHECKS.due("place", y.place(), 19);
    }

    private static void back() {
        MincedCases x = new MincedCases();
        CHECKS.due("back(0) of nothing", x.back(0), 0);
        CHECKS.due("back(1) of nothing", x.back(1), -1);
        x.feed(1, 2, 3, 4, 5);
        CHECKS.due("back(-1)", x.back(-1), -1);
        CHECKS.due("back(MIN)", x.back(Integer.MIN_VALUE), -1);
        CHECKS.due("back(MAX)", x.back(Integer.MAX_VALUE), -1);
        CHECKS.due("back(21)", x.back(21), -1);
        CHECKS.due("count(8)", x.count(8), 20);
        CHECKS.due("back(0)", x.back(0), 20);
        CHECKS.due("back(5)", x.back(5), 15);
        CHECKS.due("back(15)", x.back(15), 0);
        // What went is gone: the text goes on behind what is left.
        MincedCases y = new MincedCases();
        Checks.feed(y, "plate 3;#########");
        y.back(9);
        Checks.feed(y, "seed 4;");
        CHECKS.due("read", y.read(), 0);
        CHECKS.due("count(4)", y.count(4), 3);
    }

    private static void tokens() {
        fine("");
        fine("   \t\n\r  ");
        fine("person abcdefgh 1 2 3 4;");
        fault("person abcdefghi 1 2 3 4;", 1, 7);
        fine("person a 0001 2 3 4;");
        fault("person a 00001 2 3 4;", 1, 9);
        fine("person a1 2 3 4;");
        fine("person zyxz 1 2 3 4;");
        fine("seed 0000;");
        fine("person a\t1\n2\r3 4\n;\n");
        fault("persona 1 2 3 4;", 1, 0);
        fault("person A 1 2 3 4;", 1, 7);
        fault("person a_b 1 2 3 4;", 1, 8);
        fault("#", 1, 0);
        fault("plate 1; #", 1, 9);
        fault("plate 1;" + (char) 11, 1, 8);
        fault("plate 1;" + (char) 0, 1, 8);
        fault("plate 1;" + (char) 160, 1, 8);
        fault("plate" + (char) 12 + "1;", 1, 5);
        fine("costs=if 1<2then 3else 4;");
        fine("costs=if1<2then3else4;");
        fault("costs=ifa<2then3else4;", 1, 6);
        fault("quarrelsx = 1;", 1, 0);
        String[] words = {"person", "suit", "stays", "quarrels", "dulls", "costs", "plate", "thumb", "seed", "if", "then",
            "else", "stuff", "fine", "dull", "rest", "all", "apart", "day", "turns", "most"};
        for (String word : words) {
            fault("person " + word + " 1 2 3 4;", 1, 7);
            fine("person x" + word.substring(1) + " 1 2 3 4;");
        }
        String[] vars = {"stuff", "fine", "dull", "rest", "all", "apart", "day", "turns", "most"};
        for (String var : vars) {
            fine("stays = " + var + ";");
        }
        for (String word : new String[] {"x", "person", "then", "suit", "plate", "seed"}) {
            fault("stays = " + word + ";", 1, 8);
        }
    }

    private static void syntax() {
        fault("person", 1, 6);
        fault("person  ", 1, 8);
        fault("person a 1 2 3 4", 1, 16);
        fault("person a 1 2 3;", 1, 14);
        fault("person a 1 2 3 4 5;", 1, 17);
        fault("person 1 2 3 4;", 1, 7);
        fault("person a b 1 2 3 4;", 1, 9);
        fault(";", 1, 0);
        fault("plate 1;;", 1, 8);
        fault("plate;", 1, 5);
        fault("plate 1 2;", 1, 8);
        fault("plate -1;", 1, 6);
        fault("thumb x;", 1, 6);
        fault("seed = 1;", 1, 5);
        fault("1", 1, 0);
        fault("x", 1, 0);
        fault("if", 1, 0);
        fault("person a 1 1 1 1; suit a 1 1;", 1, 25);
        fault("person a 1 1 1 1; suit a b 1;", 1, 28);
        fault("person a 1 1 1 1; suit a b 1 1 1;", 1, 31);
        fault("stays 1;", 1, 6);
        fault("stays = ;", 1, 8);
        fault("stays = 1", 1, 9);
        fault("stays = 1 2;", 1, 10);
        fault("stays = - 1;", 1, 8);
        fault("stays = 1 + ;", 1, 12);
        fault("stays = 1 + + 1;", 1, 12);
        fault("stays = 1 * / 1;", 1, 12);
        fault("stays = (1;", 1, 10);
        fault("stays = 1);", 1, 9);
        fault("stays = ();", 1, 9);
        fault("stays = 1 < 2;", 1, 10);
        fault("stays = (1 < 2);", 1, 11);
        fault("stays = if 1 < 2 then 3;", 1, 23);
        fault("stays = if 1 then 3 else 4;", 1, 13);
        fault("stays = if 1 < 2 < 3 then 3 else 4;", 1, 17);
        fault("stays = if 1 < 2 else 4;", 1, 17);
        fault("stays = if 1 < 2 then if 1 < 2 then 1 else 2 else 3;", 1, 22);
        fault("stays = 1 + if 1 < 2 then 1 else 2;", 1, 12);
        fault("stays = (if 1 < 2 then 1 else 2);", 1, 9);
        fault("stays = = 1;", 1, 8);
        fine("stays = if 1 < 2 then 3 else 4;");
        fine("stays = if (1 + 2) * 3 < 2 / (4 - 1) then 3 - 1 else if 1 < 2 then 5 else 4 * (2);");
    }

    private static String people(int n) {
        StringBuilder text = new StringBuilder();
        for (int i = 0; i < n; i++) {
            text.append("person ").append((char) ('a' + i)).append(" 1 1 1 1;");
        }
        return text.toString();
    }

    private static String opened(int n) {
        return "(".repeat(n) + "1" + ")".repeat(n);
    }

    private static void room() {
        fine(people(6));
        fault(people(7), 2, people(6).length());
        fault(people(6) + "person", 2, people(6).length());
        fault(people(6) + "person 7", 2, people(6).length());
        // Told twice, they are no less of them.
        fault("person a 1 1 1 1;".repeat(7), 2, 6 * 17);
        String suits = people(2) + "suit a b 1 0;".repeat(8);
        fine(suits);
        fault(suits + "suit a b 1 0;", 2, suits.length());
        fault(suits + "suit #", 2, suits.length());
        String ifs = "stays = " + "if 1 < 1 then 1 else ".repeat(4);
        fine(ifs + "2;");
        fine(ifs + "2; dulls = " + "if 1 < 1 then 1 else ".repeat(4) + "2;");
        fine(ifs + "2; " + ifs + "2;");
        fault(ifs + "if 1 < 1 then 1 else 2;", 2, ifs.length());
        fault(ifs + "if #", 2, ifs.length());
        fine("stays = " + opened(6) + ";");
        fault("stays = " + opened(7) + ";", 2, 14);
        fault("stays = (((((((", 2, 14);
        fault("stays = ((((((", 1, 14);
        fine("stays = if " + opened(6) + " < " + opened(6) + " then " + opened(6) + " else " + opened(6) + ";");
        fine("stays = " + opened(6) + " + " + opened(6) + " * " + opened(6) + ";");
        fine("stays = (((((1 + (2)) * (3)) - (4)) / (5)) + (6));");
        fault("stays = if " + opened(7) + " < 1 then 1 else 1;", 2, 17);
        fault("stays = if 1 < 1 then 1 else " + opened(7) + ";", 2, 35);
        fault("stays = 1 * 1 + (2 * (3 - (1 + (1 + (1 + (1 + (2)))))));", 2, 46);
        // There may be as many of the others as one likes.
        fine("plate 1;".repeat(20) + "seed 1;".repeat(20) + "thumb 1;".repeat(20) + "costs = 1;".repeat(20));
    }

    private static void roomOfTokens() {
        String three = "plate 1;";
        String t396 = three.repeat(132);
        String t400 = t396 + "stays=1;";
        int end = t400.length();
        fine(t400);
        fault(t400 + three, 2, end);
        fault(t400 + "  " + three, 2, end + 2);
        fault(t400 + ")", 1, end);
        fault(t400 + "#", 1, end);
        fault(t400 + "x", 1, end);
        fine(t400 + "   ");
        String t399 = three.repeat(133);
        fault(t399 + "plate", 1, t399.length() + 5);
        fault(t399 + "plate 1", 2, t399.length() + 6);
        fault(t399 + "plate x", 1, t399.length() + 6);
        fault(t399 + "person a", 2, t399.length() + 7);
        fault(t399 + "suit a", 2, t399.length() + 5);
        fault(t399 + "stays =", 2, t399.length() + 6);
        fault(t396 + "stays = 1 +", 1, t396.length() + 11);
        fault(t396 + "stays = 1 + 1", 2, t396.length() + 12);
        fault(t396 + "stays = 1 + +", 1, t396.length() + 12);
        fault(t396 + "stays = 1 1", 1, t396.length() + 10);
        fault(t396 + "stays = (1", 1, t396.length() + 10);
        fault(t396 + "stays = (1)", 2, t396.length() + 10);
        fault(t396 + "stays = if 1", 1, t396.length() + 12);
        fault(t396 + "stays = if 1 < 1", 2, t396.length() + 13);
        fine("costs=" + "1+".repeat(198) + "1;");
        fault("costs=" + "1+".repeat(199) + "1;", 2, 6 + 398);
        // Laws are kept to their last token, text by text.
        String people = "person a 1 1 1 1;person b 2 2 2 2;";
        MincedCases x = new MincedCases();
        for (int i = 0; i < 6; i++) {
            Checks.feed(x, people + "dulls=2;costs=" + "0+".repeat(189) + i + ";");
            CHECKS.due("read of a long law", x.read(), 0);
            CHECKS.due("a long law", x.tells(0, 1, 3), i);
            CHECKS.due("a short one", x.tells(0, 1, 2), 2);
        }
        fault("(".repeat(2000), 1, 0);
        fault("costs=" + "1+".repeat(997), 2, 6 + 398);
    }

    private static void faultsOfWhatIsTold() {
        String ab = "person a 1 1 1 1; person b 2 2 2 2; ";
        fault("person a 1 1 1 1; person a 1 1 1 1;", 3, 25);
        fault("person a 1 1 1 1; person ab 1 1 1 1; person ab 1 1 1 1;", 3, 44);
        fine("person a 1 1 1 1; person aa 1 1 1 1; person aaaaaaaa 1 1 1 1; person aaaaaaab 1 1 1 1;");
        fault(ab + "suit a a 1 0;", 3, 43);
        fault(ab + "suit b b 0 0;", 3, 43);
        fault(ab + "suit c c 1 0;", 4, 41);
        fault(ab + "suit a c 1 0;", 4, 43);
        fault(ab + "suit c a 1 0;", 4, 41);
        fault("suit a b 1 0; " + ab, 4, 5);
        fault("person a 1 1 1 1; suit a b 1 0; person b 1 1 1 1;", 4, 25);
        fine(ab + "suit a b 1 0; suit b a 30 29;");
        fault(ab + "suit a b 0 0;", 5, 45);
        fault(ab + "suit a b 31 0;", 5, 45);
        fault(ab + "suit a b 1 30;", 5, 47);
        fine("person a 0 99 0 99;");
        fault("person a 100 0 0 0;", 5, 9);
        fault("person a 0 100 0 0;", 5, 11);
        fault("person a 0 0 9999 0;", 5, 13);
        fault("person a 0 0 0 100;", 5, 15);
        fine("plate 1; plate 9; thumb 0; thumb 100; seed 0; seed 9999;");
        fault("plate 0;", 5, 6);
        fault("plate 10;", 5, 6);
        fault("plate 0; plate 1;", 5, 6);
        fault("thumb 101;", 5, 6);
        fine("costs = 9999 + 0;");
    }

    private static void whichFaultIsFirst() {
        fault("plate 0; plate", 1, 14);
        fault("plate 0;" + people(7), 2, 8 + people(6).length());
        fault("suit x y 99 99; plate 0; #", 1, 25);
        fault("suit x y 99 99; plate 0;", 4, 5);
        fault("plate 0; suit x y 99 99;", 5, 6);
        fault("person a 1 1 1 100; person a 1 1 1 1;", 5, 15);
        fault("person a 1 1 1 1; person a 1 1 1 100;", 3, 25);
        fault("stays = ((((((( # ", 2, 14);
        fault("# stays = (((((((", 1, 0);
        MincedCases x = new MincedCases();
        Checks.feed(x, "#");
        x.read();
        CHECKS.due("place behind a fault", x.place(), 0);
        CHECKS.due("read of an empty tape", x.read(), 0);
        CHECKS.due("place behind none", x.place(), -1);
        Checks.feed(x, "plate 0;");
        CHECKS.due("read of a wrong plate", x.read(), 5);
        Checks.feed(x, "plate 1;");
        CHECKS.due("read of a right one", x.read(), 0);
        CHECKS.due("place behind it", x.place(), -1);
    }

    private static void aFaultChangesNothing() {
        MincedCases x = Checks.town("person a 10 0 0 0; person b 0 0 0 0; suit a b 2 1; plate 4; thumb 50; seed 3; dulls = 3;");
        x.put(0, 1);
        x.bread(2, 7);
        x.hold(1);
        x.tell(0, 0, 3, true);
        for (String bad : new String[] {"person c 1 1 1 1; #", "person c 1 1 1 100;", "suit a b 1 1;", people(7), "plate 3; plate 0;"}) {
            Checks.feed(x, bad);
            CHECKS.due("bytes of " + bad, x.count(8), bad.length());
            CHECKS.due("a fault in " + bad, x.read() != 0, true);
            int[] due = {2, 1, 0, 1, 4, 3, 7, 1, 0, 2, 1, 1};
            for (int what = 0; what < due.length; what++) {
                CHECKS.due("count(" + what + ") behind " + bad, x.count(what), due[what]);
            }
            CHECKS.due("person", x.person(0, 0), 5);
            CHECKS.due("suit", x.suit(0, 3), 1);
            CHECKS.due("tells", x.tells(0, 1, 2), 3);
        }
        CHECKS.due("undo", x.undo(), true);
        CHECKS.due("undo", x.undo(), true);
        CHECKS.due("person", x.person(0, 0), 10);
        CHECKS.due("restore", x.restore(1), true);
        CHECKS.due("person", x.person(0, 0), 5);
    }

    private static void aTextIsInPlaceOfTheOneAhead() {
        MincedCases x = Checks.town("person a 10 0 0 0; person b 0 0 0 0; suit a b 1 0; plate 4; thumb 100; dulls = 3;");
        x.put(0, 1);
        x.days(3);
        x.bread(2, 7);
        x.hold(0);
        x.hold(1);
        x.hold(2);
        x.tell(0, 0, 3, true);
        Checks.feed(x, "person c 1 2 3 4; person d 1 1 1 1; person e 1 1 1 1;");
        CHECKS.due("read", x.read(), 0);
        int[] due = {3, 0, 0, 0, 1, 0, 0, 0, 0, 0, 0, 0, 0, 18, 7, 0, 0};
        for (int what = 0; what < due.length; what++) {
            CHECKS.due("count(" + what + ")", x.count(what), due[what]);
        }
        CHECKS.due("person(0, 3)", x.person(0, 3), 4);
        CHECKS.due("person(0, 6)", x.person(0, 6), 0);
        CHECKS.due("undo", x.undo(), false);
        for (int slot = 0; slot < 3; slot++) {
            CHECKS.due("restore", x.restore(slot), false);
        }
        CHECKS.due("suit", x.suit(0, 0), -1);
        x.read();
        CHECKS.due("an empty text: nobody", x.count(0), 0);
        CHECKS.due("an empty text: person", x.person(0, 0), -1);
    }

    private static void lawsNotTold() {
        MincedCases x = Checks.town("stays = 9; quarrels = 0; dulls = 9; costs = 9; plate 7; thumb 100; seed 77;");
        Checks.feed(x, "person a 10 2 0 0; person b 0 3 0 0; person c 0 3 0 0;");
        x.read();
        CHECKS.due("apart", x.tells(0, 1, 1), 11);
        CHECKS.due("quarrel", x.tells(0, 1, 0), 1);
        CHECKS.due("no quarrel", x.tells(1, 2, 0), 0);
        CHECKS.due("dulls", x.tells(0, 1, 2), 0);
        CHECKS.due("costs", x.tells(0, 1, 3), 1);
        for (int stuff = 0; stuff < 4; stuff++) {
            CHECKS.due("stays", x.tells(0, 1, 4 + stuff), 0);
        }
        CHECKS.due("plate", x.count(4), 1);
        // Seed 7 would have a thumb of 15 on day 0, seed 0 has none; no thumb is told of itself.
        CHECKS.due("thumb", x.count(12), 0);
        Checks.feed(x, "seed 7; thumb 15;");
        x.read();
        CHECKS.due("seed 7", x.count(12), 1);
        Checks.feed(x, "thumb 48;");
        x.read();
        CHECKS.due("seed 0", x.count(12), 0);
        Checks.feed(x, "thumb 49;");
        x.read();
        CHECKS.due("seed 0", x.count(12), 1);
    }

    private static void theLastOneCounts() {
        MincedCases x = Checks.town("person a 10 2 0 0; person b 0 3 0 0; plate 2; plate 3; thumb 100; thumb 0;"
            + "costs = if 1 < 2 then 3 else 4; costs = 5; dulls = 5; dulls = if 2 < 1 then 6 else 7; costs = 8 - 1;");
        CHECKS.due("plate", x.count(4), 3);
        CHECKS.due("thumb", x.count(12), 0);
        CHECKS.due("costs", x.tells(0, 1, 3), 7);
        CHECKS.due("dulls", x.tells(0, 1, 2), 7);
    }
}
