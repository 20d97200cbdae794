/** The boundary cases of texts and of promises 1 to 5. */
final class TextEdges {
    private static final int NONE = MincedCases.NONE;
    private static final int SYNTAX = 1;
    private static final int ROOM = 2;
    private static final int TWICE = 3;
    private static final int NAME = 4;
    private static final int WRONG = 5;
    private static final String[] WORDS = {"person", "suit", "stays", "quarrels", "dulls", "costs", "plate", "thumb", "seed", "if",
        "then", "else", "stuff", "fine", "dull", "rest", "all", "apart", "day", "turns", "most"};
    private static final String AB = "person a 10 0 0 0; person b 0 0 0 0; ";

    private final Edges e;

    private TextEdges(Edges edges) {
        e = edges;
    }

    static void lookAt(Edges edges) {
        TextEdges t = new TextEdges(edges);
        t.bytes();
        t.names();
        t.ints();
        t.tokens();
        t.people();
        t.suits();
        t.laws();
        t.otherTells();
        t.placesOfFaults();
        t.roomForTokens();
        t.roomForTokensOfEachTell();
        t.roomForSorts();
        t.faultsOfWhatIsTold();
        t.aTextWithAFault();
        t.aTextWithout();
        t.aNewObject();
        t.feed();
        t.back();
        t.read();
    }

    private static boolean isBlank(int sign) {
        return sign == 9 || sign == 10 || sign == 13 || sign == 32;
    }

    private static boolean isLetter(int sign) {
        return sign >= 97 && sign <= 122;
    }

    private static boolean isDigit(int sign) {
        return sign >= 48 && sign <= 57;
    }

    private static String people(int n) {
        StringBuilder text = new StringBuilder();
        for (int i = 0; i < n; i++) {
            text.append("person ").append((char) ('a' + i)).append(" 1 1 1 1;");
        }
        return text.toString();
    }

    private static MincedCases read(String text) {
        return Checks.town(text);
    }

    private void readsNext(MincedCases x, String text, int fault) {
        Checks.feed(x, text);
        e.due("read() of " + text, x.read(), fault);
    }

    // ---- what a text is made of ----

    private void bytes() {
        e.edge("I.1", "A TEXT has 2,000 bytes at most.", () -> {
            e.due("the last TELL of 2,000 bytes", read(" ".repeat(1992) + "plate 7;").count(4), 7);
            e.fault(" ".repeat(1999) + "#", SYNTAX, 1999);
            e.fault(" ".repeat(1993) + "plate 7", SYNTAX, 2000);
            e.fault("(".repeat(2000), SYNTAX, 0);
            MincedCases x = new MincedCases();
            Checks.feed(x, " ".repeat(1992) + "plate 7;");
            e.due("a 2,001st byte", x.feed(0, 0, 0, 0, 0), NONE);
            e.due("read", x.read(), 0);
        });
        e.edge("I.2", "with blanks (9, 10, 13, 32) between or not", () -> {
            for (int sign = 0; sign < 256; sign++) {
                String text = "plate" + (char) sign + "7;";
                if (isBlank(sign) || sign == '0') {
                    e.fine(text);
                } else if (isDigit(sign)) {
                    e.fault(text, WRONG, 5);
                } else {
                    e.fault(text, SYNTAX, isLetter(sign) ? 0 : 5);
                }
            }
            e.fine("person a1 2 3 4;");
            e.fine("\t\n\r person \t\n\r a\t1\n2\r3 4\t;\n\r");
            e.fine("stays=if 1<2then 3else 4;");
            e.fine("stays=(1)*(2);plate 1;");
        });
    }

    private void names() {
        e.edge("I.3", "NAMES (letters a .. z, 8 at most", () -> {
            for (int sign = 0; sign < 256; sign++) {
                String text = "person " + (char) sign + " 1 2 3 4;";
                if (isLetter(sign)) {
                    e.fine(text);
                } else {
                    e.fault(text, SYNTAX, isBlank(sign) ? 9 : 7);
                }
            }
            for (int length = 1; length <= 20; length++) {
                String text = "person " + "z".repeat(length) + " 1 2 3 4;";
                e.fault(text, length <= 8 ? 0 : SYNTAX, length <= 8 ? NONE : 7);
            }
            // Each of the eight letters tells names apart.
            for (int at = 0; at < 8; at++) {
                String other = "a".repeat(at) + "b" + "a".repeat(7 - at);
                e.fine("person aaaaaaaa 1 1 1 1; person " + other + " 1 1 1 1;");
                e.fine("person aaaaaaaa 1 1 1 1; person " + "a".repeat(at + 1 == 8 ? 7 : at + 1) + " 1 1 1 1;");
            }
            e.fault("person zzzzzzzz 1 1 1 1; person zzzzzzzz 1 1 1 1;", TWICE, 32);
        });
        e.edge("I.4", "none of the words in quotes)", () -> {
            for (String word : WORDS) {
                e.fault("person " + word + " 1 2 3 4;", SYNTAX, 7);
                e.fine("person " + word.substring(0, word.length() - 1) + "q 1 2 3 4;");
                e.fine("person x" + word.substring(1) + " 1 2 3 4;");
                if (word.length() < 8) {
                    e.fine("person " + word + "q 1 2 3 4;");
                    e.fine("person q" + word + " 1 2 3 4;");
                }
            }
        });
    }

    private void ints() {
        e.edge("I.5", "INTS (1 to 4 digits)", () -> {
            for (int length = 1; length <= 20; length++) {
                for (String digit : new String[] {"0", "9"}) {
                    String text = "seed " + digit.repeat(length) + ";";
                    e.fault(text, length <= 4 ? 0 : SYNTAX, length <= 4 ? NONE : 5);
                }
            }
            e.fault("seed ;", SYNTAX, 5);
            e.due("all four digits", read("plate 0009;").count(4), 9);
            for (int sign = 0; sign < 256; sign++) {
                String text = "seed " + (char) sign + ";";
                boolean isInt = isDigit(sign);
                e.fault(text, isInt ? 0 : SYNTAX, isInt ? NONE : isBlank(sign) ? 6 : 5);
            }
        });
    }

    private void tokens() {
        e.edge("I.6", "TOKENS, the longest that can be", () -> {
            e.fault("person a 12 3 4;", SYNTAX, 15);
            e.fault("person ab 1 2 3 4; suit a b 1 0;", NAME, 24);
            e.fault("persona 1 2 3 4;", SYNTAX, 0);
            e.fault("stays = days;", SYNTAX, 8);
            e.fault("stays = ifday < 1 then 1 else 1;", SYNTAX, 8);
            e.fault("stays = if 1 < day then dayelse 1;", SYNTAX, 24);
            e.fine("stays = if1<2then3else4;");
        });
        e.edge("I.7", "A longer one, all else, is no TOKEN.", () -> {
            for (int sign = 0; sign < 256; sign++) {
                boolean blank = isBlank(sign);
                e.fault("plate 7;" + (char) sign, blank ? 0 : SYNTAX, blank ? NONE : 8);
            }
            e.fault("person abcdefghi 1 2 3 4;", SYNTAX, 7);
            e.fault("quarrelsx = 1;", SYNTAX, 0);
            e.fault("person a 12345 2 3 4;", SYNTAX, 9);
            e.fault("person a 00001 2 3 4;", SYNTAX, 9);
            // As many digits as would wrap around to a small number, as many letters as to a short name.
            e.fault("plate 4294967297;", SYNTAX, 6);
            e.fault("plate 18446744073709551617;", SYNTAX, 6);
            e.fault(AB + "suit " + "a".repeat(14) + " b 1 0;", SYNTAX, AB.length() + 5);
            e.fault("seed " + "1".repeat(1900) + ";", SYNTAX, 5);
            e.fault("person " + "a".repeat(1900) + " 1 2 3 4;", SYNTAX, 7);
        });
        e.edge("I.8", "text: {TELL}.", () -> {
            e.fine("");
            e.fine(" ");
            e.fine("\t\n\r ".repeat(500));
            e.fault(";", SYNTAX, 0);
        });
    }

    // ---- how many there are of what, and how much ----

    private void people() {
        e.edge("I.9", "PEOPLE, 6 at most", () -> {
            for (int n = 0; n <= 6; n++) {
                MincedCases x = read(people(n));
                e.due("people", x.count(0), n);
                e.due("the last one", x.person(n - 1, 4), n == 0 ? NONE : 4);
                e.due("no more", x.person(n, 4), NONE);
            }
            e.fault(people(7), ROOM, people(6).length());
        });
        e.edge("I.10", "how much of each STUFF 0 .. 3 their CASE has 0 .. 99", () -> {
            for (int stuff = 0; stuff < 4; stuff++) {
                String ahead = "person a " + "5 ".repeat(stuff);
                String behind = " 5".repeat(3 - stuff) + ";";
                e.due("0", read(ahead + "0" + behind).person(0, stuff), 0);
                e.due("99", read(ahead + "99" + behind).person(0, stuff), 99);
                e.fault(ahead + "100" + behind, WRONG, ahead.length());
                e.fault(ahead + "9999" + behind, WRONG, ahead.length());
            }
        });
    }

    private void suits() {
        e.edge("I.11", "SUITS, 8 at most", () -> {
            for (int n = 0; n <= 8; n++) {
                MincedCases x = read(AB + "suit a b 1 0;".repeat(n));
                e.due("suits", x.count(1), n);
                e.due("the last one", x.suit(n - 1, 1), n == 0 ? NONE : 1);
                e.due("no more", x.suit(n, 1), NONE);
            }
            e.fault(AB + "suit a b 1 0;".repeat(9), ROOM, AB.length() + 8 * 13);
        });
        e.edge("I.12", "every how many days 1 .. 30", () -> {
            e.due("1", read(AB + "suit a b 1 0;").suit(0, 2), 1);
            e.due("30", read(AB + "suit a b 30 0;").suit(0, 2), 30);
            e.fault(AB + "suit a b 0 0;", WRONG, AB.length() + 9);
            e.fault(AB + "suit a b 31 0;", WRONG, AB.length() + 9);
            e.fault(AB + "suit a b 9999 0;", WRONG, AB.length() + 9);
        });
        e.edge("I.13", "from which day on 0 .. 29", () -> {
            e.due("0", read(AB + "suit a b 1 0;").suit(0, 3), 0);
            e.due("29", read(AB + "suit a b 1 29;").suit(0, 3), 29);
            e.fault(AB + "suit a b 1 30;", WRONG, AB.length() + 11);
            e.fault(AB + "suit a b 1 9999;", WRONG, AB.length() + 11);
        });
        e.edge("I.14", "numbered each from 0 on as they stand", () -> {
            MincedCases x = read("person a 1 0 0 0; plate 2; person b 2 0 0 0; suit b a 1 0; person c 3 0 0 0; suit a c 2 0;");
            for (int i = 0; i < 3; i++) {
                e.due("person " + i, x.person(i, 0), i + 1);
            }
            e.due("suit 0", x.suit(0, 0), 1);
            e.due("suit 0", x.suit(0, 1), 0);
            e.due("suit 1", x.suit(1, 0), 0);
            e.due("suit 1", x.suit(1, 1), 2);
        });
    }

    private void laws() {
        e.edge("I.15", "LAWS: STAYS (0), QUARRELS (apart), DULLS (0), COSTS (1), if not told", () -> {
            String two = "person a 1 9 9 9; person b 0 9 9 9; person c 0 9 9 9;";
            MincedCases x = read(two + "stays = 9; quarrels = 0; dulls = 9; costs = 9;");
            readsNext(x, two, 0);
            for (MincedCases y : new MincedCases[] {x, read(two)}) {
                e.due("quarrels = apart, 0", y.tells(1, 2, 0), 0);
                e.due("quarrels = apart, 1", y.tells(0, 1, 0), 1);
                e.due("dulls = 0", y.tells(0, 1, 2), 0);
                e.due("costs = 1", y.tells(0, 1, 3), 1);
                for (int stuff = 0; stuff < 4; stuff++) {
                    e.due("stays = 0", y.tells(0, 1, 4 + stuff), 0);
                }
            }
        });
        e.edge("I.16", "if not told; the last one.", () -> {
            MincedCases x = read(AB + "stays = 1; quarrels = 0; dulls = 2; costs = 3; costs = 4; dulls = 5; quarrels = 1; stays = 6;");
            int[] want = {1, 10, 5, 4, 6};
            for (int what = 0; what < want.length; what++) {
                e.due("the last of two: tells(0, 1, " + what + ")", x.tells(0, 1, what), want[what]);
            }
            e.due("the last of 96", read(AB + "costs = 9;".repeat(95) + "costs=8;").tells(0, 1, 3), 8);
            e.due("the short one behind a long", read(AB + "costs = if 1 < 2 then 3 else 4; costs = 5;").tells(0, 1, 3), 5);
            e.due("the long one behind a short", read(AB + "costs = 5; costs = if 2 < 1 then 3 else 4;").tells(0, 1, 3), 4);
            // As long as there is room for, text by text.
            MincedCases y = new MincedCases();
            for (int i = 0; i < 6; i++) {
                readsNext(y, AB + "dulls=2;costs=" + "0+".repeat(189) + i + ";", 0);
                e.due("a long law", y.tells(0, 1, 3), i);
                e.due("a short one", y.tells(0, 1, 2), 2);
            }
        });
    }

    private void otherTells() {
        e.edge("I.17", "PLATE 1 .. 9: how FINE the one is that is on at first (1)", () -> {
            for (int fine = 1; fine <= 9; fine++) {
                e.due("plate " + fine, read("plate " + fine + ";").count(4), fine);
            }
            e.fault("plate 0;", WRONG, 6);
            e.fault("plate 10;", WRONG, 6);
            e.fault("plate 9999;", WRONG, 6);
            e.fault("plate 0; plate 1;", WRONG, 6);
            MincedCases x = read("plate 7;");
            readsNext(x, "", 0);
            e.due("not told", x.count(4), 1);
            e.due("the last one", read("plate 3; plate 9; plate 2;").count(4), 2);
        });
        e.edge("I.18", "THUMB: on how many of 100 days 0 .. 100 (0)", () -> {
            MincedCases never = read("thumb 0;");
            MincedCases always = read("thumb 100;");
            MincedCases notTold = read("thumb 100;");
            readsNext(notTold, "seed 5;", 0);
            for (int day = 0; day < 60; day++) {
                e.due("thumb 0", never.count(12), 0);
                e.due("thumb 100", always.count(12), 1);
                e.due("not told", notTold.count(12), 0);
                never.days(1);
                always.days(1);
                notTold.days(1);
            }
            e.due("thumb 0", never.count(6), 0);
            e.due("thumb 100", always.count(6), 60);
            e.due("not told", notTold.count(6), 0);
            // LOT 100 of day 0: of seed 79 it is 0, of seed 10 it is 99.
            e.due("0 is never", read("seed 79; thumb 0;").count(12), 0);
            e.due("not told is never", read("seed 79;").count(12), 0);
            e.due("1 is at times", read("seed 79; thumb 1;").count(12), 1);
            e.due("99 is not always", read("seed 10; thumb 99;").count(12), 0);
            e.due("100 is always", read("seed 10; thumb 100;").count(12), 1);
            e.fault("thumb 101;", WRONG, 6);
            e.fault("thumb 9999;", WRONG, 6);
            e.due("the last one", read("thumb 0; thumb 100;").count(12), 1);
            e.due("the last one", read("thumb 100; thumb 0;").count(12), 0);
        });
        e.edge("I.19", "SEED 0 .. 9999 (0): the last one.", () -> {
            // LOT 100 of day 0: of seed 0 it is 48, of seed 9999 it is 64.
            e.due("seed 0", read("seed 0; thumb 48;").count(12), 0);
            e.due("seed 0", read("seed 0; thumb 49;").count(12), 1);
            e.due("seed 9999", read("seed 9999; thumb 64;").count(12), 0);
            e.due("seed 9999", read("seed 9999; thumb 65;").count(12), 1);
            e.fault("seed 10000;", SYNTAX, 5);
            MincedCases x = read("seed 9999;");
            readsNext(x, "thumb 49;", 0);
            e.due("not told", x.count(12), 1);
            e.due("the last one", read("seed 0; seed 9999; thumb 49;").count(12), 0);
            e.due("the last one", read("seed 9999; seed 0; thumb 49;").count(12), 1);
        });
    }

    // ---- faults ----

    private void placesOfFaults() {
        e.edge("I.20", "FAULTS of a text, the first by its place", () -> {
            e.fault("# " + people(7), SYNTAX, 0);
            e.fault(people(7) + " #", ROOM, people(6).length());
            e.fault("stays = ((((((( #", ROOM, 14);
            e.fault("stays = # (((((((", SYNTAX, 8);
            e.fault("plate ; plate ;", SYNTAX, 6);
        });
        e.edge("I.21", "(a byte; the text's end: its length)", () -> {
            e.fault("plate", SYNTAX, 5);
            e.fault("plate   ", SYNTAX, 8);
            e.fault("   plate 1", SYNTAX, 10);
            e.fault("stays = (1", SYNTAX, 10);
            e.fault("#", SYNTAX, 0);
            e.fault(" ".repeat(1999) + "p", SYNTAX, 1999);
            e.fault(" ".repeat(1995) + "plate", SYNTAX, 2000);
        });
        e.edge("I.22", "of one place the least: 1 SYNTAX", () -> {
            String full = "plate 1;".repeat(132) + "stays=1;";
            for (String wrong : new String[] {"#", ")", "x", "7", ";", "if", "then", "(", "all", "abcdefghi", "12345"}) {
                e.fault(full + wrong, SYNTAX, full.length());
            }
            // At the 401st token the sort may have no room either: both are ROOM.
            String room = people(6) + "plate 1;".repeat(118) + "stays=1;";
            e.fine(room);
            e.fault(room + "person", ROOM, room.length());
        });
        e.edge("I.23", "a TOKEN, or what is none, with which no text goes on.", () -> {
            String[][] cut = {
                {"", "="}, {"person ", "1"}, {"person a ", "b"}, {"person a 1 ", ";"}, {"person a 1 1 1 1 ", "1"},
                {"suit ", "1"}, {"suit a ", "1"}, {"suit a b ", ";"}, {"suit a b 1 ", ";"}, {"suit a b 1 1 ", "1"},
                {"stays ", "1"}, {"stays = ", ";"}, {"stays = ", "x"}, {"stays = 1 ", "1"}, {"stays = 1 ", "("}, {"stays = 1 ", "<"},
                {"stays = 1 ", "then"}, {"stays = 1 ", ")"}, {"stays = (1 ", ";"}, {"stays = (", ")"}, {"stays = (", "if"},
                {"stays = 1 + ", "-"}, {"stays = ", "-"}, {"stays = 1 * ", "/"}, {"stays = 1 / ", "if"}, {"stays = if ", "if"},
                {"stays = if 1 ", "then"}, {"stays = if 1 ", ";"}, {"stays = if 1 < ", "<"}, {"stays = if 1 < 1 ", "<"},
                {"stays = if 1 < 1 ", "else"}, {"stays = if 1 < 1 then ", "if"}, {"stays = if 1 < 1 then 1 ", ";"},
                {"stays = if 1 < 1 then 1 else ", ";"}, {"stays = if 1 < 1 then 1 else 1 ", "else"},
                {"plate ", "x"}, {"plate ", ";"}, {"plate 1 ", "1"}, {"thumb ", "-"}, {"thumb 1 ", "="}, {"seed ", "seed"},
                {"seed 1 ", ")"}, {"plate 1; ", ";"}, {"plate 1; ", "a"}, {"plate 1; ", "then"}, {"plate 1; ", "day"}};
            for (String[] c : cut) {
                e.fault(c[0] + c[1], SYNTAX, c[0].length());
                e.fault(c[0] + c[1] + " #", SYNTAX, c[0].length());
                e.fault(c[0] + "#", SYNTAX, c[0].length());
            }
        });
    }

    private void roomForTokens() {
        e.edge("I.24", "2 ROOM: a 401st TOKEN", () -> {
            String full = "plate 1;".repeat(132) + "stays=1;";
            e.fine(full);
            e.fine(full + "  \n ");
            e.fault(full + "plate", ROOM, full.length());
            e.fault(full + "   plate 1;", ROOM, full.length() + 3);
            e.fault(full + "plate #", ROOM, full.length());
            String t399 = "plate 1;".repeat(133);
            e.fault(t399 + "plate", SYNTAX, t399.length() + 5);
            e.fault(t399 + "plate 1", ROOM, t399.length() + 6);
            e.fault(t399 + "plate 0 ;", ROOM, t399.length() + 6);
            e.fine("costs=" + "1+".repeat(198) + "1;");
            e.fault("costs=" + "1+".repeat(199) + "1;", ROOM, 6 + 398);
            e.fault("costs=" + "1+".repeat(996) + "1;", ROOM, 6 + 398);
            // What is told wrong ahead of it is no fault of form.
            e.fault("plate 0;".repeat(132) + "stays=1;seed 1;", ROOM, full.length());
        });
    }

    /** Tells of three tokens and of four, so many tokens in all (6 or more), a byte between each two of them. */
    private static String tokens(int n) {
        int fours = n % 3;
        return "plate 1 ; ".repeat((n - 4 * fours) / 3) + "stays = 1 ; ".repeat(fours);
    }

    private void roomForTokensOfEachTell() {
        e.edge("I.41", "2 ROOM: a 401st TOKEN; one more of a sort than told", () -> {
            String[] tells = {"person a 1 1 1 1 ; ", "suit a b 1 1 ; ", "plate 1 ; ", "thumb 1 ; ", "seed 1 ; ", "stays = 1 ; ",
                "costs = if ( 1 + all ) < 2 * day then 3 / 4 else ( ( 5 ) ) ; "};
            for (String tell : tells) {
                int length = tell.split(" ").length;
                // It ends with the 398th token, then the 399th, .. until it begins with the 403rd.
                for (int ahead = 398 - length; ahead <= 402; ahead++) {
                    String text = (tell.startsWith("suit") ? AB.replace(";", " ;") : "");
                    text += tokens(ahead - (text.isEmpty() ? 0 : 14)) + tell;
                    String[] all = text.split(" ");
                    int place = placeIn(text, 400);
                    e.due("tokens", all.length, ahead + length);
                    boolean room = all.length <= 400;
                    e.fault(text, room ? 0 : ROOM, room ? NONE : place);
                    // Behind it stands more, and then no text has room.
                    e.fault(text + tokens(30), ROOM, placeIn(text + tokens(30), 400));
                }
            }
        });
        e.edge("I.42", "SYNTAX: a TOKEN, or what is none, with which no text goes on. 2 ROOM: a 401st TOKEN", () -> {
            // What was too much in the text ahead is not there in this one.
            for (String ahead : new String[] {tokens(401), tokens(402), tokens(403), tokens(410), tokens(399) + "#", "#"}) {
                MincedCases x = new MincedCases();
                Checks.feed(x, ahead);
                e.due("a fault of the text ahead", x.read() != 0, true);
                readsNext(x, tokens(6), 0);
                Checks.feed(x, ahead);
                x.read();
                readsNext(x, tokens(6) + "plate", SYNTAX);
                e.due("place", x.place(), tokens(6).length() + 5);
            }
            MincedCases y = new MincedCases();
            readsNext(y, tokens(410), ROOM);
            readsNext(y, tokens(400), 0);
        });
    }

    private static int placeIn(String text, int token) {
        String[] all = text.split(" ");
        int place = 0;
        for (int i = 0; i < token && i < all.length; i++) {
            place += all[i].length() + 1;
        }
        return place;
    }

    private void roomForSorts() {
        e.edge("I.25", "one more of a sort than told (at its first TOKEN)", () -> {
            String six = people(6);
            e.fine(six);
            e.fault(six + " person g 1 1 1 1;", ROOM, six.length() + 1);
            e.fault(six + "person", ROOM, six.length());
            e.fault(six + "person #", ROOM, six.length());
            e.fault("person a 1 1 1 1;".repeat(7), ROOM, 6 * 17);
            String eight = AB + "suit a b 1 0;".repeat(8);
            e.fine(eight);
            e.fault(eight + " suit a b 1 0;", ROOM, eight.length() + 1);
            e.fault(eight + "suit", ROOM, eight.length());
            e.fault(eight + "suit #", ROOM, eight.length());
            e.fault("suit x y 1 0;".repeat(9), ROOM, 8 * 13);
            e.fine(people(6) + "suit a b 1 0;".repeat(8));
            e.fine("plate 1;".repeat(33) + "thumb 1;".repeat(33) + "seed 1;".repeat(33) + "costs = 1;".repeat(25));
        });
        e.edge("I.26", "a 5th if of a LAW (at it)", () -> {
            String one = "if 1 < 1 then 1 else ";
            String four = "stays = " + one.repeat(4);
            e.fine(four + "2;");
            e.fault(four + one + "2;", ROOM, four.length());
            e.fault(four + "if", ROOM, four.length());
            e.fault(four + "if #", ROOM, four.length());
            e.fault(four + "2 if", SYNTAX, four.length() + 2);
            for (String law : new String[] {"quarrels", "dulls", "costs"}) {
                e.fine(four + "2; " + law + " = " + one.repeat(4) + "2;");
                String five = four + "2; " + law + " = " + one.repeat(4);
                e.fault(five + one + "2;", ROOM, five.length());
            }
            e.fine(four + "2; " + four + "2;");
        });
        e.edge("I.27", "a 7th ( within one another (at it)", () -> {
            String six = "((((((1))))))";
            e.fine("stays = " + six + ";");
            e.fine("stays = " + six + " + " + six + " * " + six + ";");
            e.fine("stays = if " + six + " < " + six + " then " + six + " else " + six + ";");
            e.fine("stays = (((((1 + (2)) * (3)) - (4)) / (5)) + (6)) * (((((1 + (2))))));");
            e.fine("stays = " + "(1) + ".repeat(20) + "1;");
            e.fault("stays = (" + six + ");", ROOM, 14);
            e.fault("stays = (((((((", ROOM, 14);
            e.fault("stays = ((((((", SYNTAX, 14);
            e.fault("stays = ((((((( #", ROOM, 14);
            e.fault("stays = (((((((((", ROOM, 14);
            e.fault("stays = ((((((1 (", SYNTAX, 16);
            e.fault("stays = if (" + six + ") < 1 then 1 else 1;", ROOM, 17);
            e.fault("stays = if 1 < (" + six + ") then 1 else 1;", ROOM, 21);
            e.fault("stays = if 1 < 1 then (" + six + ") else 1;", ROOM, 28);
            e.fault("stays = if 1 < 1 then 1 else (" + six + ");", ROOM, 35);
            e.fault("stays = 1 * (1 + (1 - (1 / (1 * (1 + (1 * (1)))))));", ROOM, 42);
        });
    }

    private void faultsOfWhatIsTold() {
        e.edge("I.28", "If there is none, likewise", () -> {
            e.fault("plate 0; suit x y 0 30; #", SYNTAX, 24);
            e.fault("plate 0;" + people(7), ROOM, 8 + people(6).length());
            e.fault("plate 0; plate", SYNTAX, 14);
            e.fault("plate 0; suit x y 0 30;", WRONG, 6);
            e.fault("suit x y 0 30; plate 0;", NAME, 5);
            e.fault("person a 1 1 1 100; person a 1 1 1 1;", WRONG, 15);
            e.fault("person a 1 1 1 1; person a 1 1 1 100;", TWICE, 25);
        });
        e.edge("I.29", "3 TWICE: a NAME told already", () -> {
            e.fault("person a 1 1 1 1; person a 1 1 1 1;", TWICE, 25);
            e.fault("person a 1 1 1 1; person b 1 1 1 1; person a 1 1 1 1;", TWICE, 43);
            e.fault("person a 1 1 1 1; person b 1 1 1 1; person b 1 1 1 1;", TWICE, 43);
            String five = people(5);
            e.fault(five + "person a 1 1 1 1;", TWICE, five.length() + 7);
            e.fault(five + "person e 1 1 1 1;", TWICE, five.length() + 7);
            // Names of other lengths or in another order are other names.
            e.fine("person a 1 1 1 1; person aa 1 1 1 1; person aaa 1 1 1 1; person b 1 1 1 1; person bb 1 1 1 1;");
            e.fine("person ab 1 1 1 1; person ba 1 1 1 1; person bab 1 1 1 1; person abb 1 1 1 1; person c 1 1 1 1;");
            e.fine("person az 1 1 1 1; person za 1 1 1 1; person ayz 1 1 1 1; person yza 1 1 1 1; person bz 1 1 1 1;");
            // Told in the text ahead, it is not told already.
            MincedCases x = read(people(6));
            readsNext(x, people(6), 0);
            e.due("people", x.count(0), 6);
            readsNext(x, "person a 1 1 1 1; #", SYNTAX);
            readsNext(x, people(6), 0);
        });
        e.edge("I.30", "(at the second NAME) a SUIT of one with themselves", () -> {
            e.fault(AB + "suit a a 1 0;", TWICE, AB.length() + 7);
            e.fault(AB + "suit b b 1 0;", TWICE, AB.length() + 7);
            e.fault(AB + "suit a b 1 0; suit   b   b 0 30;", TWICE, AB.length() + 25);
            e.fine(AB + "suit a b 1 0; suit b a 1 0;");
        });
        e.edge("I.31", "4 NAME: (at it) no such PERSON told ahead", () -> {
            e.fault("suit a b 1 0;", NAME, 5);
            e.fault(AB + "suit c a 1 0;", NAME, AB.length() + 5);
            e.fault(AB + "suit a c 1 0;", NAME, AB.length() + 7);
            e.fault(AB + "suit c c 1 0;", NAME, AB.length() + 5);
            e.fault(AB + "suit aa b 1 0;", NAME, AB.length() + 5);
            e.fault("suit a b 1 0; " + AB, NAME, 5);
            e.fault("person a 1 1 1 1; suit a b 1 0; person b 1 1 1 1;", NAME, 25);
            e.fine("person a 1 1 1 1; person b 1 1 1 1; suit b a 1 0;");
            // A person of the text ahead is no person of this one.
            MincedCases x = read(AB);
            readsNext(x, "suit a b 1 0;", NAME);
            e.due("place", x.place(), 5);
            readsNext(x, AB + "#", SYNTAX);
            readsNext(x, "suit a b 1 0;", NAME);
        });
        e.edge("I.32", "5 WRONG (at the INT): a number not as told above.", () -> {
            e.fault("person a 100 1 1 1;", WRONG, 9);
            e.fault("person a 1 1 1   100;", WRONG, 17);
            e.fault("person a 100 100 100 100;", WRONG, 9);
            e.fault(AB + "suit a b 0 30;", WRONG, AB.length() + 9);
            e.fault(AB + "suit a b 1 30;", WRONG, AB.length() + 11);
            e.fault("plate 0;", WRONG, 6);
            e.fault("thumb 101;", WRONG, 6);
            e.fault("plate 10; plate 9;", WRONG, 6);
            // In a law every int can be.
            e.fine("stays = 0 + 9999 + 100; quarrels = 0; dulls = 9999; costs = 101;");
        });
    }

    // ---- what a read does ----

    private static final String BUSY = "person a 10 4 0 1; person b 3 4 6 0; person c 3 4 6 0; suit a b 3 2; suit c a 1 0;"
        + "plate 5; quarrels = apart - 1; stays = stuff + 1; dulls = 40; costs = 7; thumb 100; seed 9;";

    /** A town in which something of everything has been done. */
    private static MincedCases busy() {
        MincedCases x = read(BUSY);
        x.days(2);
        x.put(1, 2);
        x.bread(3, 9);
        x.hold(1);
        x.tell(0, 0, 5, true);
        return x;
    }

    private void aTextWithAFault() {
        e.edge("I.33", "A text with a FAULT changes nothing but the tape", () -> {
            String lead = "person q 9 9 9 9; person r 8 8 8 8; suit q r 7 7; plate 8; thumb 1; seed 1; stays = 8; quarrels = 0 - 1;"
                + "dulls = 88; costs = 88;";
            String[] bad = {lead + "#", lead + people(5), lead + "person q 1 1 1 1;", lead + "suit q z 1 1;", lead + "plate 0;"};
            for (int fault = SYNTAX; fault <= WRONG; fault++) {
                MincedCases x = busy();
                int[] ahead = Edges.all(x);
                Checks.feed(x, bad[fault - 1]);
                e.due("fault", x.read(), fault);
                e.same("behind fault " + fault, Edges.all(x), ahead);
                e.due("the tape is empty", x.count(8), 0);
                e.due("what is told counts", x.two(1, NONE), busy().two(1, NONE));
                e.due("in 5 days", x.then(NONE, 2, 5), busy().then(NONE, 2, 5));
                e.due("undo", x.undo(), true);
                e.due("undo", x.undo(), true);
                e.due("undo", x.undo(), true);
                e.due("undo", x.undo(), false);
                int[] undone = {3, 2, 0, 0, 5, 0, 0, 0};
                for (int what = 0; what < undone.length; what++) {
                    e.due("all undone: count(" + what + ")", x.count(what), undone[what]);
                }
                e.due("restore", x.restore(1), true);
                e.due("day", x.count(2), 2);
            }
        });
    }

    private MincedCases readAnew(String text) {
        MincedCases x = busy();
        readsNext(x, text, 0);
        return x;
    }

    private void aTextWithout() {
        String there = "else it is in place of the one ahead: ";
        e.edge("I.34", there, () -> {
            MincedCases x = readAnew("person q 9 9 9 9;");
            e.due("people", x.count(0), 1);
            e.due("suits", x.count(1), 0);
            e.due("case", x.person(0, 0), 9);
            e.due("others", x.person(1, 0), NONE);
            e.due("put through", x.person(0, 6), 0);
            e.due("turns", x.count(3), 0);
            e.due("paid", x.count(7), 0);
            e.due("plate", x.count(4), 1);
            MincedCases same = readAnew(BUSY);
            e.same("as if new", Edges.all(same), Edges.all(read(BUSY)));
        });
        e.edge("I.35", "day 0", () -> e.due("day", readAnew(BUSY).count(2), 0));
        e.edge("I.36", "the screw empty", () -> {
            MincedCases x = readAnew(BUSY);
            e.due("in the screw", x.count(6), 0);
            for (int stuff = 0; stuff < 4; stuff++) {
                e.due("screw " + stuff, x.screw(stuff), 0);
            }
        });
        e.edge("I.37", "nothing dull", () -> {
            e.due("dull ahead", busy().count(5) > 0, true);
            e.due("dull", readAnew(BUSY).count(5), 0);
        });
        e.edge("I.38", "nothing can be undone", () -> {
            MincedCases x = readAnew("");
            e.due("things", x.count(9), 0);
            e.due("undo", x.undo(), false);
        });
        e.edge("I.39", "nothing is TOLD", () -> {
            MincedCases x = readAnew(BUSY);
            e.due("told", x.count(10), 0);
            e.due("no such k", x.two(1, NONE), NONE);
            e.due("numbered from 0 on", x.tell(0, 0, 1, true), 0);
        });
        e.edge("I.40", "SLOTS hold nothing.", () -> {
            MincedCases x = busy();
            x.hold(0);
            x.hold(2);
            readsNext(x, BUSY, 0);
            e.due("slots", x.count(11), 0);
            for (int slot = 0; slot < 3; slot++) {
                e.due("restore", x.restore(slot), false);
            }
        });
    }

    // ---- promises 1 to 5 ----

    private void aNewObject() {
        e.edge("1.1", "No PEOPLE.", () -> {
            MincedCases x = new MincedCases();
            for (int what = 0; what <= 16; what++) {
                e.due("count(" + what + ")", x.count(what), what == 4 ? 1 : 0);
            }
            e.due("person", x.person(0, 0), NONE);
            e.due("suit", x.suit(0, 0), NONE);
            e.due("put", x.put(0, 1), NONE);
        });
    }

    private void feed() {
        e.edge("2.1", "Twenty bytes, the highest of a first, come behind the tape", () -> {
            String[] texts = {"plate 7;            ", "            plate 7;"};
            for (String text : texts) {
                MincedCases x = new MincedCases();
                byte[] b = text.getBytes(java.nio.charset.StandardCharsets.ISO_8859_1);
                e.due("feed", x.feed(Checks.word(b, 0), Checks.word(b, 4), Checks.word(b, 8), Checks.word(b, 12),
                    Checks.word(b, 16)), 20);
                e.due("read", x.read(), 0);
                e.due("plate", x.count(4), 7);
            }
            // A byte of 255 in each place is found there, bytes of more than 127 being no less bytes.
            for (int at = 0; at < 20; at++) {
                int[] words = {0x20202020, 0x20202020, 0x20202020, 0x20202020, 0x20202020};
                words[at / 4] |= 255 << 8 * (3 - at % 4);
                MincedCases x = new MincedCases();
                x.feed(words[0], words[1], words[2], words[3], words[4]);
                e.due("read", x.read(), SYNTAX);
                e.due("place", x.place(), at);
            }
        });
        e.edge("2.2", "how many it has.", () -> {
            MincedCases x = new MincedCases();
            for (int i = 1; i <= 100; i++) {
                e.due("feed " + i, x.feed(-1, 0, Integer.MIN_VALUE, Integer.MAX_VALUE, 1), 20 * i);
            }
        });
        e.edge("2.3", "NONE, and nothing comes, if it would have more than 2,000.", () -> {
            MincedCases x = new MincedCases();
            Checks.feed(x, "plate 7;" + " ".repeat(1992));
            e.due("feed of a full tape", x.feed(0, 0, 0, 0, 0), NONE);
            e.due("bytes", x.count(8), 2000);
            x.back(1);
            e.due("feed with room for 1", x.feed(0, 0, 0, 0, 0), NONE);
            e.due("bytes", x.count(8), 1999);
            x.back(18);
            e.due("feed with room for 19", x.feed(0, 0, 0, 0, 0), NONE);
            e.due("bytes", x.count(8), 1981);
            e.due("nothing came", x.read(), 0);
            Checks.feed(x, " ".repeat(1980));
            e.due("feed with room for 20", x.feed(0x20202020, 0x20202020, 0x20202020, 0x20202020, 0x20202023), 2000);
            e.due("read", x.read(), SYNTAX);
            e.due("place", x.place(), 1999);
        });
    }

    private void back() {
        e.edge("3.1", "The last n bytes of the tape go: how many it has.", () -> {
            MincedCases x = new MincedCases();
            e.due("none of none", x.back(0), 0);
            Checks.feed(x, "plate 7;#");
            e.due("none", x.back(0), 9);
            e.due("the last", x.back(1), 8);
            Checks.feed(x, "plate 8;");
            e.due("read", x.read(), 0);
            e.due("plate", x.count(4), 8);
            Checks.feed(x, "#".repeat(2000));
            e.due("all", x.back(2000), 0);
            e.due("read", x.read(), 0);
        });
        e.edge("3.2", "NONE, and nothing goes, if it has not so many", () -> {
            MincedCases x = new MincedCases();
            e.due("1 of none", x.back(1), NONE);
            Checks.feed(x, "plate 7;");
            e.due("9 of 8", x.back(9), NONE);
            e.due("2,000 of 8", x.back(2000), NONE);
            e.due("MAX of 8", x.back(Integer.MAX_VALUE), NONE);
            e.due("bytes", x.count(8), 8);
            e.due("read", x.read(), 0);
            e.due("1 behind a read", x.back(1), NONE);
        });
        e.edge("3.3", "or n is below 0.", () -> {
            MincedCases x = new MincedCases();
            Checks.feed(x, "plate 7;");
            e.due("-1", x.back(-1), NONE);
            e.due("MIN", x.back(Integer.MIN_VALUE), NONE);
            e.due("bytes", x.count(8), 8);
            e.due("read", x.read(), 0);
        });
    }

    private void read() {
        e.edge("4.1", "The tape, which is empty then, is read", () -> {
            MincedCases x = new MincedCases();
            Checks.feed(x, "plate 7;");
            e.due("read", x.read(), 0);
            e.due("bytes", x.count(8), 0);
            Checks.feed(x, "#plate 7;");
            e.due("read", x.read(), SYNTAX);
            e.due("bytes behind a fault", x.count(8), 0);
            e.due("read of an empty tape", x.read(), 0);
            e.due("which is a text, too", x.count(4), 1);
        });
        e.edge("4.2", "0, or the number of its FAULT.", () -> {
            String[] texts = {"", "#", people(7), "person a 1 1 1 1; person a 1 1 1 1;", "suit a b 1 1;", "plate 0;"};
            MincedCases x = new MincedCases();
            for (int fault = 0; fault < texts.length; fault++) {
                readsNext(x, texts[fault], fault);
            }
        });
        e.edge("5.1", "The byte of the latest read()'s FAULT", () -> {
            MincedCases x = new MincedCases();
            readsNext(x, "#", SYNTAX);
            e.due("place", x.place(), 0);
            readsNext(x, "plate 0;", WRONG);
            e.due("place", x.place(), 6);
            Checks.feed(x, "plate");
            x.put(0, 1);
            e.due("place ahead of the next read", x.place(), 6);
            e.due("read", x.read(), SYNTAX);
            e.due("place", x.place(), 5);
        });
        e.edge("5.2", "NONE without.", () -> {
            MincedCases x = new MincedCases();
            e.due("no read yet", x.place(), NONE);
            readsNext(x, "plate 0;", WRONG);
            readsNext(x, "plate 1;", 0);
            e.due("no fault", x.place(), NONE);
            readsNext(x, "#", SYNTAX);
            readsNext(x, "", 0);
            e.due("no fault of an empty text", x.place(), NONE);
        });
    }
}
