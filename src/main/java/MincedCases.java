/** A town whose people, two by two, have their cases minced together; ../shared/DOC.md says what each call answers. */
public final class MincedCases {
    public static final int NONE = -1;

    private static final int NOT_SO = -2;
    private static final int NO_GAIN = -100000;

    private static final int MAX_PEOPLE = 6;
    private static final int STUFFS = 4;
    private static final int MAX_SUITS = 8;
    private static final int SUIT_PARTS = 4;
    private static final int FINEST = 9;
    private static final int MOST_BREAD = 99;
    private static final int MOST_AMOUNT = 999;
    private static final int MOST_DAYS = 60;
    private static final int MOST_SEEDS = 20;
    private static final int LAST_END = 200;
    private static final int SLOTS = 3;

    private final Tape tape = new Tape();
    private final Text text = new Text();
    private final Text draft = new Text();
    private final Reader reader = new Reader(tape, draft);
    private final Mincer mincer = new Mincer(text);
    private final State now = new State();
    private final State trial = new State();
    private final History history = new History();
    private final State[] slots = new State[SLOTS];
    private final boolean[] held = new boolean[SLOTS];
    private final Rows rows = new Rows(text, mincer);
    private final Foes foes = new Foes(text, mincer);
    private final Told told = new Told(text, mincer);
    private int faultPlace = NONE;

    public MincedCases() {
        for (int slot = 0; slot < SLOTS; slot++) {
            slots[slot] = new State();
        }
    }

    // ---- the tape ----

    public int feed(int a, int b, int c, int d, int e) {
        if (!tape.hasRoomFor(20)) {
            return NONE;
        }
        tape.append(a);
        tape.append(b);
        tape.append(c);
        tape.append(d);
        tape.append(e);
        return tape.size;
    }

    public int back(int n) {
        if (n < 0 || n > tape.size) {
            return NONE;
        }
        tape.size -= n;
        return tape.size;
    }

    public int read() {
        int fault = reader.readTape();
        faultPlace = reader.faultPlace();
        tape.size = 0;
        if (fault == Reader.NO_FAULT) {
            text.copyFrom(draft);
            startAnew();
        }
        return fault;
    }

    private void startAnew() {
        now.startFrom(text);
        history.clear();
        told.clear();
        rows.forgetFound();
        for (int slot = 0; slot < SLOTS; slot++) {
            held[slot] = false;
        }
    }

    public int place() {
        return faultPlace;
    }

    // ---- what is so now ----

    public int person(int person, int what) {
        if (!isPerson(person)) {
            return NONE;
        }
        if (isStuff(what)) {
            return now.amount(person, what);
        }
        switch (what) {
            case 4: return now.ofAll(person);
            case 5: return mincer.foesOf(now, person);
            case 6: return now.puts[person];
            default: return NONE;
        }
    }

    public int screw(int stuff) {
        return isStuff(stuff) ? now.screw[stuff] : NONE;
    }

    public int suit(int suit, int what) {
        if (suit < 0 || suit >= text.suitCount) {
            return NONE;
        }
        if (what >= 0 && what < SUIT_PARTS) {
            return text.suitPart(suit, what);
        }
        if (what == SUIT_PARTS) {
            return text.isDue(suit, now.day) ? 1 : 0;
        }
        return NONE;
    }

    public int tells(int person, int other, int what) {
        if (!areTwo(person, other)) {
            return NONE;
        }
        if (isStuff(what - 4)) {
            return mincer.staying(now, person, other, what - 4);
        }
        switch (what) {
            case 0: return mincer.quarrel(now, person, other) ? 1 : 0;
            case 1: return now.apart(person, other);
            case 2: return mincer.wear(Laws.DULLS, now, person, other);
            case 3: return mincer.wear(Laws.COSTS, now, person, other);
            default: return NONE;
        }
    }

    public int count(int what) {
        switch (what) {
            case 0: return text.people;
            case 1: return text.suitCount;
            case 2: return now.day;
            case 3: return now.turns;
            case 4: return now.fine;
            case 5: return now.dull;
            case 6: return now.inScrew();
            case 7: return now.paid;
            case 8: return tape.size;
            case 9: return history.size;
            case 10: return told.size;
            case 11: return heldSlots();
            case 12: return text.isThumb(text.seed, now.day) ? 1 : 0;
            case 13: return ofAllPeople();
            case 14: return mincer.whoQuarrels(now);
            case 15: return stuffsInScrew();
            case 16: return suitsDue();
            default: return NONE;
        }
    }

    private int heldSlots() {
        int sum = 0;
        for (int slot = 0; slot < SLOTS; slot++) {
            sum += held[slot] ? 1 : 0;
        }
        return sum;
    }

    private int ofAllPeople() {
        int sum = 0;
        for (int person = 0; person < text.people; person++) {
            sum += now.ofAll(person);
        }
        return sum;
    }

    private int stuffsInScrew() {
        int bits = 0;
        for (int stuff = 0; stuff < STUFFS; stuff++) {
            bits |= now.screw[stuff] > 0 ? 1 << stuff : 0;
        }
        return bits;
    }

    private int suitsDue() {
        int bits = 0;
        for (int suit = 0; suit < text.suitCount; suit++) {
            bits |= text.isDue(suit, now.day) ? 1 << suit : 0;
        }
        return bits;
    }

    // ---- what is done by hand ----

    public int put(int person, int other) {
        if (!areTwo(person, other)) {
            return NONE;
        }
        rememberNow();
        mincer.putThrough(now, person, other);
        return now.turns;
    }

    public boolean bread(int stuff, int v) {
        if (!isStuff(stuff) || v < 1 || v > MOST_BREAD) {
            return false;
        }
        rememberNow();
        now.screw[stuff] += v;
        return true;
    }

    public boolean plate(int fine) {
        if (fine < 1 || fine > FINEST || (fine == now.fine && now.dull == 0)) {
            return false;
        }
        rememberNow();
        now.changePlate(fine);
        return true;
    }

    public int wash() {
        rememberNow();
        int gone = now.inScrew();
        now.emptyScrew();
        return gone;
    }

    public int days(int n) {
        if (!areDays(n)) {
            return NONE;
        }
        if (n > 0) {
            rememberNow();
            mincer.goDays(now, n, text.seed);
        }
        return now.day;
    }

    public boolean undo() {
        rows.forgetFound();
        return history.bringBack(now);
    }

    private void rememberNow() {
        rows.forgetFound();
        history.remember(now);
    }

    public boolean hold(int slot) {
        if (!isSlot(slot)) {
            return false;
        }
        slots[slot].copyFrom(now);
        held[slot] = true;
        return true;
    }

    public boolean restore(int slot) {
        if (!isSlot(slot) || !held[slot]) {
            return false;
        }
        now.copyFrom(slots[slot]);
        history.clear();
        rows.forgetFound();
        return true;
    }

    // ---- rows of turns ----

    public int calm(int i) {
        if (!isTurnNumber(i)) {
            return NONE;
        }
        rows.find(now, Rows.CALM, 0, 0, 0);
        return rows.answer(i);
    }

    public int rich(int person, int stuff, int v, int i) {
        if (!isPerson(person) || !isStuff(stuff) || !isAmount(v) || !isTurnNumber(i)) {
            return NONE;
        }
        rows.find(now, Rows.RICH, person, stuff, v);
        return rows.answer(i);
    }

    public int alike(int person, int other, int i) {
        if (!areTwo(person, other) || !isTurnNumber(i)) {
            return NONE;
        }
        rows.find(now, Rows.ALIKE, person, other, 0);
        return rows.answer(i);
    }

    // ---- one turn that would be ----

    public int best(int what) {
        if (!isZeroOrOne(what)) {
            return NONE;
        }
        int two = NOT_SO;
        int fewest = NOT_SO;
        for (int one = 0; one < text.people; one++) {
            for (int other = one + 1; other < text.people; other++) {
                int left = quarrelsBehind(one, other);
                if (two == NOT_SO || left < fewest) {
                    two = 10 * one + other;
                    fewest = left;
                }
            }
        }
        return what == 0 ? two : fewest;
    }

    private int quarrelsBehind(int one, int other) {
        trial.copyFrom(now);
        mincer.putThrough(trial, one, other);
        return mincer.quarrels(trial);
    }

    public int gain(int person, int other, int stuff) {
        if (!areTwo(person, other) || !isStuff(stuff)) {
            return NO_GAIN;
        }
        return mincer.share(now, person, other, stuff) - now.amount(person, stuff);
    }

    public int plates(int person, int other, int what) {
        if (!areTwo(person, other) || !isZeroOrOne(what)) {
            return NONE;
        }
        int which = NONE;
        int least = NONE;
        for (int fine = 1; fine <= FINEST; fine++) {
            trial.copyFrom(now);
            trial.changePlate(fine);
            mincer.putThrough(trial, person, other);
            int left = trial.inScrew();
            if (which == NONE || left < least) {
                which = fine;
                least = left;
            }
        }
        return what == 0 ? which : least;
    }

    public int crumbs(int person, int other, int stuff, int v) {
        if (!areTwo(person, other) || !isStuff(stuff) || !isAmount(v)) {
            return NONE;
        }
        trial.copyFrom(now);
        for (int more = 0; more <= MOST_BREAD; more++) {
            trial.screw[stuff] = now.screw[stuff] + more;
            if (mincer.share(trial, person, other, stuff) >= v) {
                return more;
            }
        }
        return NOT_SO;
    }

    // ---- who stands how to whom ----

    public int poorest(int what) {
        if (!isZeroOrOne(what)) {
            return NONE;
        }
        int who = NOT_SO;
        int least = NOT_SO;
        for (int person = 0; person < text.people; person++) {
            int has = now.ofAll(person);
            if (who == NOT_SO || has < least) {
                who = person;
                least = has;
            }
        }
        return what == 0 ? who : least;
    }

    public int foes(int what) {
        switch (what) {
            case 0: return mincer.quarrels(now);
            case 1: return mincer.firstQuarrel(now);
            default: return NONE;
        }
    }

    public int peace(int what) {
        if (!isZeroOrOne(what)) {
            return NONE;
        }
        foes.lookAt(now);
        int gone = foes.fewestGone();
        return what == 0 ? Integer.bitCount(gone) : gone;
    }

    public int paired(int i) {
        if (i != NONE && !isPerson(i)) {
            return NONE;
        }
        foes.lookAt(now);
        return i == NONE ? foes.mostPairs() : foes.partnerOf(i);
    }

    public int most(int stuff, int what) {
        if (!isStuff(stuff) || !isZeroOrOne(what)) {
            return NONE;
        }
        int who = NOT_SO;
        int most = NOT_SO;
        for (int person = 0; person < text.people; person++) {
            int has = now.amount(person, stuff);
            if (who == NOT_SO || has > most) {
                who = person;
                most = has;
            }
        }
        return what == 0 ? who : most;
    }

    public int likest(int what) {
        if (!isZeroOrOne(what)) {
            return NONE;
        }
        int two = NOT_SO;
        int least = NOT_SO;
        for (int one = 0; one < text.people; one++) {
            for (int other = one + 1; other < text.people; other++) {
                int apart = now.apart(one, other);
                if (two == NOT_SO || apart < least) {
                    two = 10 * one + other;
                    least = apart;
                }
            }
        }
        return what == 0 ? two : least;
    }

    public int fair(int stuff) {
        if (!isStuff(stuff)) {
            return NONE;
        }
        if (text.people == 0) {
            return 0;
        }
        int least = now.amount(0, stuff);
        int most = least;
        for (int person = 1; person < text.people; person++) {
            int has = now.amount(person, stuff);
            least = Math.min(least, has);
            most = Math.max(most, has);
        }
        return most - least;
    }

    // ---- days that would be ----

    public int ends() {
        trial.copyFrom(now);
        for (int n = 0; n <= LAST_END; n++) {
            if (!mincer.anySuitQuarrels(trial)) {
                return n;
            }
            mincer.goSuits(trial);
        }
        return NOT_SO;
    }

    public int bill(int n) {
        if (!areDays(n)) {
            return NONE;
        }
        trial.copyFrom(now);
        for (int day = 0; day < n; day++) {
            mincer.goSuits(trial);
        }
        return trial.paid - now.paid;
    }

    public int then(int person, int stuff, int n) {
        if ((person != NONE && !isPerson(person)) || !isStuff(stuff) || !areDays(n)) {
            return NONE;
        }
        lookAhead(n, text.seed);
        return person == NONE ? trial.screw[stuff] : trial.amount(person, stuff);
    }

    public int foesIn(int person, int n) {
        if (!isPerson(person) || !areDays(n)) {
            return NONE;
        }
        lookAhead(n, text.seed);
        return mincer.foesOf(trial, person);
    }

    public int turnsIn(int n) {
        if (!areDays(n)) {
            return NONE;
        }
        lookAhead(n, text.seed);
        return trial.turns;
    }

    public int year(int person, int other, int n, int s) {
        if (!areTwo(person, other) || !areDays(n) || s < 1 || s > MOST_SEEDS) {
            return NONE;
        }
        int sum = 0;
        for (int more = 0; more < s; more++) {
            lookAhead(n, text.seed + more);
            sum += mincer.quarrel(trial, person, other) ? 1 : 0;
        }
        return sum;
    }

    private void lookAhead(int n, int seed) {
        trial.copyFrom(now);
        mincer.goDays(trial, n, seed);
    }

    // ---- what is told of two unknown ----

    public int tell(int person, int stuff, int v, boolean so) {
        if (!isPerson(person) || !isStuff(stuff) || !isAmount(v)) {
            return NONE;
        }
        return told.add(person, stuff, v, so);
    }

    public int forget() {
        int were = told.size;
        told.clear();
        return were;
    }

    public int two(int k, int i) {
        if (k < 0 || k > told.size || i < NONE) {
            return NONE;
        }
        int left = told.pairsLeft(now, k);
        return i == NONE ? Integer.bitCount(left) : told.pairOf(left, i);
    }

    public int ask(int k, int v) {
        if (k < 0 || k > told.size || !isAmount(v)) {
            return NONE;
        }
        int left = told.pairsLeft(now, k);
        return left == 0 ? NOT_SO : told.bestQuestion(now, left, v);
    }

    // ---- which arguments there are ----

    private boolean isPerson(int person) {
        return person >= 0 && person < text.people;
    }

    private boolean areTwo(int person, int other) {
        return isPerson(person) && isPerson(other) && person != other;
    }

    private static boolean isStuff(int stuff) {
        return stuff >= 0 && stuff < STUFFS;
    }

    private static boolean isAmount(int v) {
        return v >= 0 && v <= MOST_AMOUNT;
    }

    private static boolean areDays(int n) {
        return n >= 0 && n <= MOST_DAYS;
    }

    private static boolean isSlot(int slot) {
        return slot >= 0 && slot < SLOTS;
    }

    private static boolean isZeroOrOne(int what) {
        return what == 0 || what == 1;
    }

    private static boolean isTurnNumber(int i) {
        return i >= NONE && i < Rows.MOST_TURNS;
    }

    /** The bytes that were fed and not read yet. */
    private static final class Tape {
        private final byte[] bytes = new byte[2000];
        private int size;

        boolean hasRoomFor(int more) {
            return size + more <= bytes.length;
        }

        void append(int four) {
            for (int shift = 24; shift >= 0 && hasRoomFor(1); shift -= 8) {
                bytes[size] = (byte) (four >>> shift);
                size++;
            }
        }

        /** The byte at a place, 0 .. 255; NONE behind the end. */
        int byteAt(int at) {
            return at >= 0 && at < size ? bytes[at] & 255 : NONE;
        }
    }

    /** The tokens that a tape is cut into. */
    private static final class Tokens {
        static final int MOST = 400;

        static final int END = 0;
        static final int NO_TOKEN = 1;
        static final int NAME = 2;
        static final int INT = 3;
        // Signs and words have their kinds in the order of SIGNS and WORDS.
        static final int SEMICOLON = 4;
        static final int EQUALS = 5;
        static final int PLUS = 6;
        static final int MINUS = 7;
        static final int TIMES = 8;
        static final int OVER = 9;
        static final int LESS = 10;
        static final int OPEN = 11;
        static final int CLOSE = 12;
        static final int PERSON = 13;
        static final int SUIT = 14;
        static final int STAYS = 15;
        static final int COSTS = 18;
        static final int PLATE = 19;
        static final int THUMB = 20;
        static final int SEED = 21;
        static final int IF = 22;
        static final int THEN = 23;
        static final int ELSE = 24;
        static final int FIRST_VAR = 25;
        static final int LAST_VAR = 33;

        private static final String SIGNS = ";=+-*/<()";
        private static final int COLUMN = 8;
        private static final String WORDS =
            "person  suit    stays   quarrelsdulls   costs   plate   thumb   seed    if      then    else    stuff   fine    dull    rest    all     apart   day     turns   most    ";
        private static final int LONGEST_WORD = 8;
        private static final int LONGEST_INT = 4;

        private final Tape tape;
        // One more than a text may have, as its place may be asked for, and the end.
        private final byte[] kinds = new byte[MOST + 2];
        private final short[] places = new short[MOST + 2];
        private final long[] values = new long[MOST + 2];
        private int size;
        private int at;

        Tokens(Tape tape) {
            this.tape = tape;
        }

        void cut() {
            at = 0;
            size = 0;
            boolean ended = false;
            for (int i = 0; i < kinds.length && !ended; i++) {
                cutOne();
                ended = kinds[i] == END;
            }
        }

        int kind(int token) {
            return token >= 0 && token < size ? kinds[token] : END;
        }

        int placeOf(int token) {
            return token >= 0 && token < size ? places[token] : tape.size;
        }

        /** The number of an INT, or a NAME as a number of its own. */
        long value(int token) {
            return token >= 0 && token < size ? values[token] : 0;
        }

        private void cutOne() {
            while (at < tape.size && isBlank(tape.byteAt(at))) {
                at++;
            }
            int from = at;
            int first = tape.byteAt(at);
            if (first == NONE) {
                keep(END, from, 0);
            } else if (isLetter(first)) {
                cutWord(from);
            } else if (isDigit(first)) {
                cutInt(from);
            } else {
                int sign = SIGNS.indexOf((char) first);
                at++;
                keep(sign < 0 ? NO_TOKEN : SEMICOLON + sign, from, 0);
            }
        }

        private void keep(int kind, int place, long value) {
            if (size < kinds.length) {
                kinds[size] = (byte) kind;
                places[size] = (short) place;
                values[size] = value;
                size++;
            }
        }

        private void cutWord(int from) {
            long name = 0;
            while (at < tape.size && isLetter(tape.byteAt(at))) {
                // Five bits a letter: of a run that is too long the name is never used.
                name = name * 32 + (tape.byteAt(at) - 'a' + 1);
                at++;
            }
            if (at - from > LONGEST_WORD) {
                keep(NO_TOKEN, from, 0);
            } else {
                int word = wordNumber(from);
                keep(word < 0 ? NAME : PERSON + word, from, name);
            }
        }

        private void cutInt(int from) {
            int number = 0;
            while (at < tape.size && isDigit(tape.byteAt(at))) {
                number = number * 10 + (tape.byteAt(at) - '0');
                at++;
            }
            keep(at - from > LONGEST_INT ? NO_TOKEN : INT, from, number);
        }

        private int wordNumber(int from) {
            for (int start = 0; start + COLUMN <= WORDS.length(); start += COLUMN) {
                if (isWord(start, from)) {
                    return start / COLUMN;
                }
            }
            return NONE;
        }

        /** Whether the column at start holds just what stands on the tape from .. at. */
        private boolean isWord(int start, int from) {
            for (int i = 0; i < COLUMN; i++) {
                int due = from + i < at ? tape.byteAt(from + i) : ' ';
                if (WORDS.charAt(start + i) != due) {
                    return false;
                }
            }
            return true;
        }

        private static boolean isBlank(int sign) {
            return sign == 9 || sign == 10 || sign == 13 || sign == 32;
        }

        private static boolean isLetter(int sign) {
            return sign >= 'a' && sign <= 'z';
        }

        private static boolean isDigit(int sign) {
            return sign >= '0' && sign <= '9';
        }
    }

    /** Reads a tape into a text and finds its first fault. */
    private static final class Reader {
        static final int NO_FAULT = 0;
        private static final int SYNTAX = 1;
        private static final int ROOM = 2;
        private static final int TWICE = 3;
        private static final int NO_SUCH_NAME = 4;
        private static final int WRONG = 5;
        private static final int MAX_NESTED = 6;

        private final Tokens tokens;
        private final Text text;
        private int token;
        private int kind;
        private int fault;
        private int faultToken;
        // A fault of what is told counts only where the whole text has none of form.
        private int laterFault;
        private int laterToken;

        Reader(Tape tape, Text draft) {
            tokens = new Tokens(tape);
            text = draft;
        }

        /** Reads the tape into the draft: its fault, if any. */
        int readTape() {
            tokens.cut();
            text.clear();
            fault = NO_FAULT;
            laterFault = NO_FAULT;
            token = 0;
            kind = tokens.kind(0);
            for (int tells = 0; tells <= Tokens.MOST && kind != Tokens.END; tells++) {
                readTell();
            }
            checkRoomForTokens();
            return fault == NO_FAULT ? laterFault : fault;
        }

        private void checkRoomForTokens() {
            boolean oneTooMany = tokens.kind(Tokens.MOST) != Tokens.END;
            if (oneTooMany && (fault == NO_FAULT || faultToken > Tokens.MOST)) {
                fault = ROOM;
                faultToken = Tokens.MOST;
            }
        }

        int faultPlace() {
            if (fault != NO_FAULT) {
                return tokens.placeOf(faultToken);
            }
            return laterFault != NO_FAULT ? tokens.placeOf(laterToken) : NONE;
        }

        private void take() {
            if (fault == NO_FAULT) {
                token++;
                kind = token < tokens.size ? tokens.kinds[token] : Tokens.END;
            }
        }

        private void expect(int due) {
            if (kind == due) {
                take();
            } else {
                fail(SYNTAX);
            }
        }

        /** Behind the first fault the text seems to end, so that every loop of the reader ends. */
        private void fail(int number) {
            if (fault == NO_FAULT) {
                fault = number;
                faultToken = token;
            }
            kind = Tokens.END;
        }

        private void failLater(int number) {
            if (laterFault == NO_FAULT) {
                laterFault = number;
                laterToken = token;
            }
        }

        private void readTell() {
            if (kind >= Tokens.STAYS && kind <= Tokens.COSTS) {
                readLaw(kind - Tokens.STAYS);
                return;
            }
            switch (kind) {
                case Tokens.PERSON:
                    readPerson();
                    break;
                case Tokens.SUIT:
                    readSuit();
                    break;
                case Tokens.PLATE:
                    take();
                    text.plate = readInt(1, 9);
                    break;
                case Tokens.THUMB:
                    take();
                    text.thumb = readInt(0, 100);
                    break;
                case Tokens.SEED:
                    take();
                    text.seed = readInt(0, 9999);
                    break;
                default:
                    fail(SYNTAX);
                    break;
            }
            expect(Tokens.SEMICOLON);
        }

        private void readPerson() {
            if (text.people >= MAX_PEOPLE) {
                fail(ROOM);
                return;
            }
            take();
            int person = text.people;
            if (kind == Tokens.NAME) {
                long name = tokens.value(token);
                if (text.personNamed(name) != NONE) {
                    failLater(TWICE);
                }
                text.names[person] = name;
                text.people++;
            }
            expect(Tokens.NAME);
            for (int stuff = 0; stuff < STUFFS; stuff++) {
                text.cases[person * STUFFS + stuff] = readInt(0, 99);
            }
        }

        private void readSuit() {
            if (text.suitCount >= MAX_SUITS) {
                fail(ROOM);
                return;
            }
            take();
            int suit = text.suitCount;
            text.suitCount++;
            int one = readName(NONE);
            int other = readName(one);
            int every = readInt(1, 30);
            int first = readInt(0, 29);
            text.setSuit(suit, one, other, every, first);
        }

        /** The person whose name stands here, who must not be the given one. */
        private int readName(int taken) {
            int person = NONE;
            if (kind == Tokens.NAME) {
                person = text.personNamed(tokens.value(token));
                if (person == NONE) {
                    failLater(NO_SUCH_NAME);
                } else if (person == taken) {
                    failLater(TWICE);
                }
            }
            expect(Tokens.NAME);
            return person;
        }

        private int readInt(int least, int most) {
            int value = (int) tokens.value(token);
            if (kind == Tokens.INT && (value < least || value > most)) {
                failLater(WRONG);
            }
            expect(Tokens.INT);
            return value;
        }

        private void readLaw(int law) {
            take();
            expect(Tokens.EQUALS);
            text.laws.begin(law);
            for (int ifs = 0; kind == Tokens.IF && ifs <= Laws.MAX_IFS; ifs++) {
                if (ifs == Laws.MAX_IFS) {
                    fail(ROOM);
                }
                expect(Tokens.IF);
                readSum(0);
                text.laws.endPart(law);
                expect(Tokens.LESS);
                readSum(0);
                text.laws.endPart(law);
                expect(Tokens.THEN);
                readSum(0);
                text.laws.endPart(law);
                expect(Tokens.ELSE);
            }
            readSum(0);
            text.laws.endPart(law);
            expect(Tokens.SEMICOLON);
        }

        /** An E: parts with + and - between, each of them units with * and / between. */
        private void readSum(int nested) {
            int waiting = NONE;
            boolean ended = false;
            for (int parts = 0; parts <= Tokens.MOST && !ended; parts++) {
                readUnit(nested);
                for (int units = 0; units < Tokens.MOST && (kind == Tokens.TIMES || kind == Tokens.OVER); units++) {
                    int sign = kind;
                    take();
                    readUnit(nested);
                    text.laws.addSign(sign);
                }
                // A + or - joins what is ahead of it with the whole part behind it.
                if (waiting != NONE) {
                    text.laws.addSign(waiting);
                }
                ended = kind != Tokens.PLUS && kind != Tokens.MINUS;
                waiting = kind;
                if (!ended) {
                    take();
                }
            }
        }

        private void readUnit(int nested) {
            if (kind == Tokens.INT) {
                text.laws.addInt((int) tokens.value(token));
                take();
            } else if (kind >= Tokens.FIRST_VAR && kind <= Tokens.LAST_VAR) {
                text.laws.addVar(kind - Tokens.FIRST_VAR);
                take();
            } else if (kind == Tokens.OPEN && nested >= MAX_NESTED) {
                fail(ROOM);
            } else if (kind == Tokens.OPEN) {
                take();
                readSum(nested + 1);
                expect(Tokens.CLOSE);
            } else {
                fail(SYNTAX);
            }
        }
    }

    /** The four laws of a text: each part a run of cells, operands ahead of their sign. */
    private static final class Laws {
        static final int STAYS = 0;
        static final int QUARRELS = 1;
        static final int DULLS = 2;
        static final int COSTS = 3;
        static final int MAX_IFS = 4;

        static final int STUFF = 0;
        static final int FINE = 1;
        static final int DULL = 2;
        static final int REST = 3;
        static final int ALL = 4;
        static final int APART = 5;
        static final int DAY = 6;
        static final int TURNS = 7;
        static final int MOST = 8;
        static final int VARS = 9;

        private static final int LAWS = 4;
        // Each if has three parts; one more stands last.
        private static final int MAX_PARTS = 3 * MAX_IFS + 1;
        private static final int EDGES = MAX_PARTS + 1;
        // A cell below VAR_CELL is an int, one below SIGN_CELL a var, any other a sign.
        private static final int VAR_CELL = 10000;
        private static final int SIGN_CELL = VAR_CELL + VARS;

        private final int[] cells = new int[Tokens.MOST + LAWS];
        private final int[] edges = new int[LAWS * EDGES];
        private final int[] parts = new int[LAWS];
        private final int[] stack = new int[32];
        private int used;
        private boolean dividedByZero;

        void clear() {
            used = 0;
            begin(STAYS);
            addInt(0);
            endPart(STAYS);
            begin(QUARRELS);
            addVar(APART);
            endPart(QUARRELS);
            begin(DULLS);
            addInt(0);
            endPart(DULLS);
            begin(COSTS);
            addInt(1);
            endPart(COSTS);
        }

        void copyFrom(Laws other) {
            System.arraycopy(other.cells, 0, cells, 0, cells.length);
            System.arraycopy(other.edges, 0, edges, 0, edges.length);
            System.arraycopy(other.parts, 0, parts, 0, parts.length);
            used = other.used;
        }

        /** A law told anew leaves its old cells unused: together they are never more than the tokens. */
        void begin(int law) {
            parts[law] = 0;
            edges[law * EDGES] = used;
        }

        void endPart(int law) {
            if (parts[law] < MAX_PARTS) {
                parts[law]++;
                edges[law * EDGES + parts[law]] = used;
            }
        }

        void addInt(int value) {
            addCell(value);
        }

        void addVar(int variable) {
            addCell(VAR_CELL + variable);
        }

        void addSign(int sign) {
            addCell(SIGN_CELL + sign);
        }

        private void addCell(int cell) {
            if (used < cells.length) {
                cells[used] = cell;
                used++;
            }
        }

        int value(int law, int[] vars) {
            dividedByZero = false;
            int last = parts[law] - 1;
            int part = 0;
            boolean found = false;
            for (int ifs = 0; ifs < MAX_IFS && part < last && !found; ifs++) {
                if (partValue(law, part, vars) < partValue(law, part + 1, vars)) {
                    part += 2;
                    found = true;
                } else {
                    part += 3;
                }
            }
            int value = partValue(law, part, vars);
            return dividedByZero ? 0 : value;
        }

        private int partValue(int law, int part, int[] vars) {
            int edge = law * EDGES + part;
            int top = 0;
            for (int at = edges[edge]; at < edges[edge + 1]; at++) {
                int cell = cells[at];
                if (cell < SIGN_CELL && top < stack.length) {
                    stack[top] = cell < VAR_CELL ? cell : vars[cell - VAR_CELL];
                    top++;
                } else if (top >= 2) {
                    top--;
                    int left = stack[top - 1];
                    int right = stack[top];
                    switch (cell - SIGN_CELL) {
                        case Tokens.PLUS:
                            stack[top - 1] = left + right;
                            break;
                        case Tokens.MINUS:
                            stack[top - 1] = left - right;
                            break;
                        case Tokens.TIMES:
                            stack[top - 1] = left * right;
                            break;
                        default:
                            dividedByZero |= right == 0;
                            stack[top - 1] = right == 0 ? 0 : left / right;
                            break;
                    }
                }
            }
            return stack[0];
        }
    }

    /** What a text tells. */
    private static final class Text {
        private static final int ONE = 0;
        private static final int OTHER = 1;
        private static final int EVERY = 2;
        private static final int FIRST = 3;

        private final long[] names = new long[MAX_PEOPLE];
        private final int[] cases = new int[MAX_PEOPLE * STUFFS];
        private final int[] suits = new int[MAX_SUITS * SUIT_PARTS];
        private final Laws laws = new Laws();
        private int people;
        private int suitCount;
        private int plate;
        private int thumb;
        private int seed;

        Text() {
            clear();
        }

        private void clear() {
            people = 0;
            suitCount = 0;
            plate = 1;
            thumb = 0;
            seed = 0;
            laws.clear();
        }

        void copyFrom(Text other) {
            System.arraycopy(other.cases, 0, cases, 0, cases.length);
            System.arraycopy(other.suits, 0, suits, 0, suits.length);
            laws.copyFrom(other.laws);
            people = other.people;
            suitCount = other.suitCount;
            plate = other.plate;
            thumb = other.thumb;
            seed = other.seed;
        }

        int personNamed(long name) {
            for (int person = 0; person < people; person++) {
                if (names[person] == name) {
                    return person;
                }
            }
            return NONE;
        }

        void setSuit(int suit, int one, int other, int every, int first) {
            suits[suit * SUIT_PARTS + ONE] = one;
            suits[suit * SUIT_PARTS + OTHER] = other;
            suits[suit * SUIT_PARTS + EVERY] = every;
            suits[suit * SUIT_PARTS + FIRST] = first;
        }

        int suitPart(int suit, int part) {
            return suits[suit * SUIT_PARTS + part];
        }

        boolean isDue(int suit, int day) {
            int behind = day - suitPart(suit, FIRST);
            int every = suitPart(suit, EVERY);
            return behind >= 0 && every > 0 && behind % every == 0;
        }

        boolean isThumb(int bySeed, int day) {
            return lot(100, bySeed, 4 * day) < thumb;
        }

        static int thumbStuff(int bySeed, int day) {
            return lot(STUFFS, bySeed, 4 * day + 1);
        }

        private static int lot(int n, int bySeed, int which) {
            int h = stirred(stirred(bySeed, 161), which);
            return n > 0 ? (h >>> 1) % n : 0;
        }

        private static int stirred(int h, int by) {
            int mixed = (h ^ by) * 1103515245 + 12345;
            return mixed ^ (mixed >>> 15);
        }
    }

    /** All that goes on: what days and hands change. */
    private static final class State {
        private final int[] cases = new int[MAX_PEOPLE * STUFFS];
        private final int[] screw = new int[STUFFS];
        private final int[] puts = new int[MAX_PEOPLE];
        private int day;
        private int turns;
        private int fine = 1;
        private int dull;
        private int paid;

        void copyFrom(State other) {
            System.arraycopy(other.cases, 0, cases, 0, cases.length);
            System.arraycopy(other.screw, 0, screw, 0, screw.length);
            System.arraycopy(other.puts, 0, puts, 0, puts.length);
            day = other.day;
            turns = other.turns;
            fine = other.fine;
            dull = other.dull;
            paid = other.paid;
        }

        void startFrom(Text text) {
            System.arraycopy(text.cases, 0, cases, 0, cases.length);
            for (int person = 0; person < MAX_PEOPLE; person++) {
                puts[person] = 0;
            }
            emptyScrew();
            changePlate(text.plate);
            day = 0;
            turns = 0;
            paid = 0;
        }

        void changePlate(int to) {
            fine = to;
            dull = 0;
        }

        void emptyScrew() {
            for (int stuff = 0; stuff < STUFFS; stuff++) {
                screw[stuff] = 0;
            }
        }

        int amount(int person, int stuff) {
            return cases[person * STUFFS + stuff];
        }

        void setAmount(int person, int stuff, int v) {
            cases[person * STUFFS + stuff] = v;
        }

        int ofAll(int person) {
            int sum = 0;
            for (int stuff = 0; stuff < STUFFS; stuff++) {
                sum += amount(person, stuff);
            }
            return sum;
        }

        int inScrew() {
            int sum = 0;
            for (int stuff = 0; stuff < STUFFS; stuff++) {
                sum += screw[stuff];
            }
            return sum;
        }

        int apart(int one, int other) {
            int sum = 0;
            for (int stuff = 0; stuff < STUFFS; stuff++) {
                sum += Math.abs(amount(one, stuff) - amount(other, stuff));
            }
            return sum;
        }
    }

    /** What the laws of a text make of a state. */
    private static final class Mincer {
        private static final int MOST_DULL = 99;
        private static final int MOST_WEAR = 99;

        private final Text text;
        private final int[] vars = new int[Laws.VARS];

        Mincer(Text text) {
            this.text = text;
        }

        /** Sets the vars as for QUARRELS. */
        private void lookAt(State s, int one, int other) {
            int apart = 0;
            int most = 0;
            int which = 0;
            for (int stuff = 0; stuff < STUFFS; stuff++) {
                int differ = Math.abs(s.amount(one, stuff) - s.amount(other, stuff));
                apart += differ;
                if (differ > most) {
                    most = differ;
                    which = stuff;
                }
            }
            vars[Laws.STUFF] = which;
            vars[Laws.FINE] = s.fine;
            vars[Laws.DULL] = s.dull;
            vars[Laws.REST] = 0;
            vars[Laws.ALL] = 0;
            vars[Laws.APART] = apart;
            vars[Laws.DAY] = s.day;
            vars[Laws.TURNS] = s.turns;
            vars[Laws.MOST] = most;
        }

        /** Sets the vars as for DULLS and COSTS. */
        private void lookAtTurn(State s, int one, int other) {
            lookAt(s, one, other);
            vars[Laws.ALL] = s.ofAll(one) + s.ofAll(other);
            vars[Laws.REST] = s.inScrew();
        }

        boolean quarrel(State s, int one, int other) {
            lookAt(s, one, other);
            return text.laws.value(Laws.QUARRELS, vars) > 0;
        }

        /** What DULLS or COSTS tells of two. */
        int wear(int law, State s, int one, int other) {
            lookAtTurn(s, one, other);
            return wearOf(law);
        }

        /** As wear, where the two have been looked at already. */
        private int wearOf(int law) {
            return heldTo(MOST_WEAR, text.laws.value(law, vars));
        }

        int staying(State s, int one, int other, int stuff) {
            lookAt(s, one, other);
            return stayingOf(s, one, other, stuff);
        }

        /** What each of two takes home of a stuff. */
        int share(State s, int one, int other, int stuff) {
            lookAt(s, one, other);
            return (allOf(s, one, other, stuff) - stayingOf(s, one, other, stuff)) / 2;
        }

        /** As staying, where the two have been looked at already. */
        private int stayingOf(State s, int one, int other, int stuff) {
            int all = allOf(s, one, other, stuff);
            vars[Laws.STUFF] = stuff;
            vars[Laws.REST] = s.screw[stuff];
            vars[Laws.ALL] = all;
            vars[Laws.MOST] = Math.max(s.amount(one, stuff), s.amount(other, stuff));
            return heldTo(all, text.laws.value(Laws.STAYS, vars));
        }

        private static int allOf(State s, int one, int other, int stuff) {
            return s.amount(one, stuff) + s.amount(other, stuff) + s.screw[stuff];
        }

        private static int heldTo(int most, int value) {
            return Math.max(0, Math.min(most, value));
        }

        void putThrough(State s, int one, int other) {
            lookAtTurn(s, one, other);
            int cost = wearOf(Laws.COSTS);
            int duller = wearOf(Laws.DULLS);
            // The vars still tell how it was ahead: a stuff's own are set anew, the others are not.
            for (int stuff = 0; stuff < STUFFS; stuff++) {
                int all = allOf(s, one, other, stuff);
                int half = (all - stayingOf(s, one, other, stuff)) / 2;
                s.setAmount(one, stuff, half);
                s.setAmount(other, stuff, half);
                s.screw[stuff] = all - 2 * half;
            }
            s.dull = Math.min(MOST_DULL, s.dull + duller);
            s.paid += cost;
            s.turns++;
            s.puts[one]++;
            s.puts[other]++;
        }

        /** Days with thumbs. */
        void goDays(State s, int n, int seed) {
            for (int i = 0; i < n; i++) {
                int day = s.day;
                goSuits(s);
                if (text.isThumb(seed, day)) {
                    s.screw[Text.thumbStuff(seed, day)]++;
                }
            }
        }

        /** A day without a thumb. */
        void goSuits(State s) {
            for (int suit = 0; suit < text.suitCount; suit++) {
                int one = text.suitPart(suit, Text.ONE);
                int other = text.suitPart(suit, Text.OTHER);
                if (text.isDue(suit, s.day) && quarrel(s, one, other)) {
                    putThrough(s, one, other);
                }
            }
            s.day++;
        }

        boolean anySuitQuarrels(State s) {
            for (int suit = 0; suit < text.suitCount; suit++) {
                if (quarrel(s, text.suitPart(suit, Text.ONE), text.suitPart(suit, Text.OTHER))) {
                    return true;
                }
            }
            return false;
        }

        int foesOf(State s, int person) {
            int bits = 0;
            for (int other = 0; other < text.people; other++) {
                if (other != person && quarrel(s, person, other)) {
                    bits |= 1 << other;
                }
            }
            return bits;
        }

        int whoQuarrels(State s) {
            int bits = 0;
            for (int one = 0; one < text.people; one++) {
                bits |= foesOf(s, one);
            }
            return bits;
        }

        int quarrels(State s) {
            int sum = 0;
            for (int one = 0; one < text.people; one++) {
                for (int other = one + 1; other < text.people; other++) {
                    sum += quarrel(s, one, other) ? 1 : 0;
                }
            }
            return sum;
        }

        int firstQuarrel(State s) {
            for (int one = 0; one < text.people; one++) {
                for (int other = one + 1; other < text.people; other++) {
                    if (quarrel(s, one, other)) {
                        return 10 * one + other;
                    }
                }
            }
            return NOT_SO;
        }
    }

    /** Finds the fewest turns behind which something is so, and keeps the row found last. */
    private static final class Rows {
        static final int CALM = 0;
        static final int RICH = 1;
        static final int ALIKE = 2;
        static final int MOST_TURNS = 3;

        private final Text text;
        private final Mincer mincer;
        private final State[] behind = new State[MOST_TURNS + 1];
        private final int[] row = new int[MOST_TURNS];
        private boolean known;
        private int turns;
        private int goal;
        private int person;
        private int second;
        private int amount;

        Rows(Text text, Mincer mincer) {
            this.text = text;
            this.mincer = mincer;
            for (int turn = 0; turn <= MOST_TURNS; turn++) {
                behind[turn] = new State();
            }
        }

        void forgetFound() {
            known = false;
        }

        /** The second is the stuff (RICH) or the other person (ALIKE). */
        void find(State now, int newGoal, int newPerson, int newSecond, int newAmount) {
            // The turns of one row are asked for one by one, and the search is dear.
            if (known && goal == newGoal && person == newPerson && second == newSecond && amount == newAmount) {
                return;
            }
            goal = newGoal;
            person = newPerson;
            second = newSecond;
            amount = newAmount;
            known = true;
            turns = NOT_SO;
            behind[0].copyFrom(now);
            for (int limit = 0; limit <= MOST_TURNS && turns == NOT_SO; limit++) {
                if (reaches(0, limit)) {
                    turns = limit;
                }
            }
        }

        /** How many turns (i NONE), or the i-th of the row found last. */
        int answer(int i) {
            if (turns == NOT_SO || i == NONE) {
                return turns;
            }
            return i >= 0 && i < turns ? row[i] : NONE;
        }

        private boolean reaches(int done, int limit) {
            if (done >= limit || done >= MOST_TURNS) {
                return isSo(behind[done]);
            }
            for (int one = 0; one < text.people; one++) {
                for (int other = one + 1; other < text.people; other++) {
                    if (done + 1 < limit || canMakeSo(one, other)) {
                        row[done] = 10 * one + other;
                        behind[done + 1].copyFrom(behind[done]);
                        mincer.putThrough(behind[done + 1], one, other);
                        if (reaches(done + 1, limit)) {
                            return true;
                        }
                    }
                }
            }
            return false;
        }

        /** Nobody gets rich by a last turn of others: without it fewer turns would have done. */
        private boolean canMakeSo(int one, int other) {
            return goal != RICH || one == person || other == person;
        }

        private boolean isSo(State s) {
            switch (goal) {
                case RICH: return s.amount(person, second) >= amount;
                case ALIKE: return s.apart(person, second) == 0;
                default: return mincer.firstQuarrel(s) == NOT_SO;
            }
        }
    }

    /** Who quarrels with whom, to be parted or paired. */
    private static final class Foes {
        private final Text text;
        private final Mincer mincer;
        private final int[] foeBits = new int[MAX_PEOPLE];

        Foes(Text text, Mincer mincer) {
            this.text = text;
            this.mincer = mincer;
        }

        void lookAt(State s) {
            for (int person = 0; person < text.people; person++) {
                foeBits[person] = mincer.foesOf(s, person);
            }
        }

        /** The bits of those who must be gone. */
        int fewestGone() {
            int everybody = everybody();
            int fewest = everybody;
            for (int gone = 0; gone <= everybody; gone++) {
                if (Integer.bitCount(gone) < Integer.bitCount(fewest) && isPeaceWithout(gone)) {
                    fewest = gone;
                }
            }
            return fewest;
        }

        private int everybody() {
            return (1 << text.people) - 1;
        }

        private boolean isPeaceWithout(int gone) {
            for (int person = 0; person < text.people; person++) {
                if (!isBit(gone, person) && (foeBits[person] & ~gone) != 0) {
                    return false;
                }
            }
            return true;
        }

        int mostPairs() {
            return mostPairsFrom(0, everybody());
        }

        /** The most pairs among those from a person on who are free. */
        private int mostPairsFrom(int person, int free) {
            if (person >= text.people) {
                return 0;
            }
            int most = mostPairsFrom(person + 1, free);
            for (int other = person + 1; isBit(free, person) && other < text.people; other++) {
                if (isBit(foeBits[person] & free, other)) {
                    most = Math.max(most, 1 + mostPairsFrom(person + 1, free & ~(1 << other)));
                }
            }
            return most;
        }

        private static boolean isBit(int bits, int number) {
            return (bits >> number & 1) != 0;
        }

        int partnerOf(int asked) {
            int free = everybody();
            for (int person = 0; person < text.people; person++) {
                if (isBit(free, person)) {
                    int partner = firstPartner(person, free);
                    if (person == asked) {
                        return partner;
                    }
                    if (partner == asked) {
                        return person;
                    }
                    if (partner != NOT_SO) {
                        free &= ~(1 << partner);
                    }
                }
            }
            return NOT_SO;
        }

        /** The first choice of a person, all ahead of whom are settled, that still leaves as many pairs. */
        private int firstPartner(int person, int free) {
            int most = mostPairsFrom(person, free);
            if (mostPairsFrom(person + 1, free) == most) {
                return NOT_SO;
            }
            for (int other = person + 1; other < text.people; other++) {
                boolean canPair = isBit(foeBits[person] & free, other);
                if (canPair && 1 + mostPairsFrom(person + 1, free & ~(1 << other)) == most) {
                    return other;
                }
            }
            return NOT_SO;
        }
    }

    /** What is told of two unknown who are put through now. */
    private static final class Told {
        private static final int MOST_TOLD = 20;

        private final Text text;
        private final Mincer mincer;
        private final int[] persons = new int[MOST_TOLD];
        private final int[] stuffs = new int[MOST_TOLD];
        private final int[] amounts = new int[MOST_TOLD];
        private final boolean[] sos = new boolean[MOST_TOLD];
        private int size;

        Told(Text text, Mincer mincer) {
            this.text = text;
            this.mincer = mincer;
        }

        void clear() {
            size = 0;
        }

        int add(int person, int stuff, int v, boolean so) {
            if (size >= MOST_TOLD) {
                return NONE;
            }
            persons[size] = person;
            stuffs[size] = stuff;
            amounts[size] = v;
            sos[size] = so;
            size++;
            return size - 1;
        }

        /** The pairs, a bit each as they are numbered by the lesser, then the other, of which the first k are so. */
        int pairsLeft(State now, int k) {
            int bits = 0;
            int pair = 0;
            for (int one = 0; one < text.people; one++) {
                for (int other = one + 1; other < text.people; other++) {
                    bits |= fits(now, one, other, k) ? 1 << pair : 0;
                    pair++;
                }
            }
            return bits;
        }

        private boolean fits(State now, int one, int other, int k) {
            for (int i = 0; i < k && i < size; i++) {
                boolean has = amountBehind(now, one, other, persons[i], stuffs[i]) >= amounts[i];
                if (has != sos[i]) {
                    return false;
                }
            }
            return true;
        }

        private int amountBehind(State now, int one, int other, int person, int stuff) {
            if (person == one || person == other) {
                return mincer.share(now, one, other, stuff);
            }
            return now.amount(person, stuff);
        }

        /** The i-th of the pairs that are left. */
        int pairOf(int left, int i) {
            int pair = 0;
            int ahead = 0;
            for (int one = 0; one < text.people; one++) {
                for (int other = one + 1; other < text.people; other++) {
                    if ((left >> pair & 1) != 0) {
                        if (ahead == i) {
                            return 10 * one + other;
                        }
                        ahead++;
                    }
                    pair++;
                }
            }
            return NONE;
        }

        int bestQuestion(State now, int left, int v) {
            int question = NOT_SO;
            int fewest = NOT_SO;
            for (int person = 0; person < text.people; person++) {
                for (int stuff = 0; stuff < STUFFS; stuff++) {
                    int so = pairsWithSo(now, left, person, stuff, v);
                    int worst = Math.max(so, Integer.bitCount(left) - so);
                    if (question == NOT_SO || worst < fewest) {
                        question = 10 * person + stuff;
                        fewest = worst;
                    }
                }
            }
            return question;
        }

        private int pairsWithSo(State now, int left, int person, int stuff, int v) {
            int sum = 0;
            int pair = 0;
            for (int one = 0; one < text.people; one++) {
                for (int other = one + 1; other < text.people; other++) {
                    boolean isLeft = (left >> pair & 1) != 0;
                    if (isLeft && amountBehind(now, one, other, person, stuff) >= v) {
                        sum++;
                    }
                    pair++;
                }
            }
            return sum;
        }
    }

    /** The states ahead of the last things done. */
    private static final class History {
        private static final int MOST_UNDONE = 40;

        private final State[] ring = new State[MOST_UNDONE];
        private int next;
        private int size;

        History() {
            for (int i = 0; i < MOST_UNDONE; i++) {
                ring[i] = new State();
            }
        }

        void clear() {
            size = 0;
        }

        void remember(State now) {
            ring[next].copyFrom(now);
            next = (next + 1) % MOST_UNDONE;
            size = Math.min(size + 1, MOST_UNDONE);
        }

        boolean bringBack(State now) {
            if (size == 0) {
                return false;
            }
            next = (next + MOST_UNDONE - 1) % MOST_UNDONE;
            size--;
            now.copyFrom(ring[next]);
            return true;
        }
    }
}
