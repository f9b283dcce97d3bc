import java.util.Arrays;

/** Always even: a town in whose places, at each stroke of an hour, nobody may be odd. */
public final class EvenTown {
    /** There is none. */
    public static final int NONE = -1;
    /** No number is there. */
    public static final int GAP = -1000000;

    private static final int MOST_PLACES = 6;
    private static final int MOST_WAYS = 15;
    private static final int MOST_PERSONS = 5;
    private static final int MOST_DOGS = 3;
    private static final int MOST_ERRANDS = 8;
    private static final int MOST_STROKES = 8;
    private static final int MOST_MINUTES = 999;
    private static final int MOST_HIRE = 99;
    private static final int MOST_WORTH = 999;
    private static final int MOST_HOUR = 999;
    private static final int MOST_UNITS = 40;
    private static final int MOST_WITHIN = 6;
    private static final int MOST_COUNTS = 40;
    private static final int MOST_LATER = 1000;
    private static final int MOST_TIME = 100000;
    private static final int MOST_PLAN_BYTES = 400;
    private static final int BOXES = 3;
    private static final int SORTS = 3;
    private static final int TAPE_ROOM = 1600;
    /** 40 units, 39 signs or words between them, 7 times not ahead of each. */
    private static final int RULE_ROOM = 400;
    private static final int USUAL_HOUR = 60;
    private static final int USUAL_STROKES = 3;

    /** A table of two places, or of a place and how many are there (0 .. 5), has six numbers a row. */
    private static final int ROW = 6;
    private static final int PAIRS = ROW * MOST_PLACES;
    private static final int CROWDS = 6;
    /** All places of all persons: 6 * 6 * 6 * 6 * 6. */
    private static final int MOST_STATES = 7776;
    /** A bit for each of the strokes 1 .. 8. */
    private static final int ALL_STROKES = 510;
    /** More minutes than any walk by ways takes: there is no way. */
    private static final int FAR = 1000000;
    /** What can't be weighs so much that no sum with it comes above FLOOR, and no VALUE comes below FLOOR. */
    private static final int NEVER = GAP;
    private static final int FLOOR = NEVER / 2;

    private static final int FAULT_TOKEN = 1;
    private static final int FAULT_STAND = 2;
    private static final int FAULT_TOLD = 3;
    private static final int FAULT_NUMBER = 4;
    private static final int FAULT_NAME = 5;

    /** Kinds of tokens; a sign's kind is its byte (40 .. 62). */
    private static final int AT_END = 0;
    private static final int NO_TOKEN = 1;
    private static final int NUMBER = 2;
    private static final int NAME = 3;
    /** The words that stand for themselves: their kinds go on from FIRST_WORD in this order. */
    private static final String WORDS =
            "place empty way minutes person at hire dog errand stroke worth hour strokes rule or and not here dogs ";
    private static final int FIRST_WORD = 100;
    private static final int PLACE = 100;
    private static final int EMPTY = 101;
    private static final int WAY = 102;
    private static final int MINUTES = 103;
    private static final int PERSON = 104;
    private static final int AT = 105;
    private static final int HIRE = 106;
    private static final int DOG = 107;
    private static final int ERRAND = 108;
    private static final int STROKE = 109;
    private static final int WORTH = 110;
    private static final int HOUR = 111;
    private static final int STROKES = 112;
    private static final int RULE = 113;
    private static final int OR = 114;
    private static final int AND = 115;
    private static final int NOT = 116;
    private static final int HERE = 117;
    private static final int DOGS = 118;

    private final Tape tape = new Tape();
    private final Counts counts = new Counts();
    private final Answers answers;
    private final Earnest earnest = new Earnest();
    private final Earnest[] boxes = new Earnest[BOXES];
    /** What stands, and what the next text is read into: they change their parts when it has no fault. */
    private Town town = new Town();
    private Town nextTown = new Town();
    private final TownReader reader = new TownReader(tape, nextTown);
    private Plan plan = new Plan();
    private Plan nextPlan = new Plan();

    public EvenTown() {
        town.finish();
        answers = new Answers(town);
        for (int box = 0; box < BOXES; box++) {
            boxes[box] = new Earnest();
        }
    }

    public int feed(int a, int b, int c, int d, int e) {
        if (!tape.hasRoom(20)) {
            return NONE;
        }
        tape.putFour(a);
        tape.putFour(b);
        tape.putFour(c);
        tape.putFour(d);
        tape.putFour(e);
        return tape.length;
    }

    public int end(int n) {
        if (n < 0 || n > tape.length) {
            return NONE;
        }
        tape.length = n;
        return n;
    }

    public int town() {
        boolean faultless = reader.readInto(nextTown);
        tape.length = 0;
        if (!faultless) {
            return NONE;
        }
        Town old = town;
        town = nextTown;
        nextTown = old;
        answers.turnTo(town);
        plan.stayHome(town);
        earnest.begin(town);
        counts.size = 0;
        for (int box = 0; box < BOXES; box++) {
            boxes[box].kept = false;
        }
        return town.persons.size;
    }

    public int plan() {
        if (tape.length > MOST_PLAN_BYTES) {
            return -2;
        }
        int lines = nextPlan.readFrom(tape, town);
        tape.length = 0;
        if (lines == NONE) {
            return NONE;
        }
        Plan old = plan;
        plan = nextPlan;
        nextPlan = old;
        return lines;
    }

    public int fault(int what) {
        return what == 0 ? tape.faultKind : what == 1 ? tape.faultPlace : NONE;
    }

    public int minutes(int a, int b) {
        if (!town.hasPlace(a) || !town.hasPlace(b)) {
            return NONE;
        }
        int least = town.least[a * ROW + b];
        return least < FAR ? least : NONE;
    }

    public int right(int place, int many, int stroke) {
        if (!town.hasPlace(place) || many < 0 || many >= CROWDS || !isStroke(stroke, MOST_STROKES)) {
            return NONE;
        }
        return town.isRight(place, many, stroke) ? 1 : 0;
    }

    public int judge(int what) {
        if (what < 0 || what > 2) {
            return NONE;
        }
        plan.judgeIn(town);
        return what == 0 ? plan.judgedKind : what == 1 ? plan.judgedStroke : plan.judgedNumber;
    }

    public int value(int what) {
        return isSort(what) ? answers.worthOfPlan(what, plan) : GAP;
    }

    public int best(int what) {
        return isSort(what) ? answers.bestWorth(what) : GAP;
    }

    public int bestAt(int what, int stroke, int person) {
        if (!isSort(what) || !isStroke(stroke, town.strokes) || !town.hasPerson(person)) {
            return NONE;
        }
        return answers.bestPlace(what, stroke, person);
    }

    public int breaks(int what, int part) {
        if (!isSort(what) || part < -1 || part > 0) {
            return GAP;
        }
        answers.findBreak(what);
        return part == 0 ? answers.breakStroke[what] : answers.breakWorth[what];
    }

    public int spare(int place, int what) {
        return isSort(what) && town.hasPlace(place) ? answers.spareWorth(place, what) : GAP;
    }

    public int often(int n, int what) {
        return isSort(what) && n >= 2 && n <= 8 ? answers.oftenWorth(n, what) : GAP;
    }

    public int built(int minutes, int what, int part) {
        if (!isSort(what) || minutes < 1 || minutes > MOST_MINUTES || part < -1 || part > 0) {
            return GAP;
        }
        answers.findBuilt(minutes, what);
        return part == 0 ? answers.builtPair[what] : answers.builtWorth[what];
    }

    public int meet(int a, int b, int place) {
        if (!town.hasPerson(a) || !town.hasPerson(b) || a == b || !town.hasPlace(place)) {
            return NONE;
        }
        return answers.firstMeeting(a, b, place, counts);
    }

    public int mend() {
        return earnest.leastMending(town);
    }

    public int where(int person) {
        return town.hasPerson(person) ? earnest.place[person] : NONE;
    }

    public boolean send(int person, int place) {
        if (!town.hasPerson(person) || !town.hasPlace(place)
                || !town.gets(earnest.place[person], place)) {
            return false;
        }
        earnest.sent[person] = place;
        return true;
    }

    public int strike() {
        return earnest.stroke >= MOST_STROKES ? NONE : earnest.strikeNow(town);
    }

    public int count(int stroke, int place, int many) {
        if (!isStroke(stroke, MOST_STROKES) || !town.hasPlace(place) || many < 0 || many >= CROWDS) {
            return NONE;
        }
        return counts.tell(stroke, place, many);
    }

    public boolean untell(int count) {
        return counts.takeBack(count);
    }

    public int later(int by) {
        if (by < 0 || by > MOST_LATER || counts.time + by > MOST_TIME) {
            return NONE;
        }
        counts.time += by;
        return counts.time;
    }

    public int states(int stroke, int k) {
        return isStroke(stroke, town.strokes) ? answers.statesAt(stroke, counts, k) : NONE;
    }

    public int sure(int person, int place, int stroke, int k) {
        if (!town.hasPerson(person) || !town.hasPlace(place) || !isStroke(stroke, town.strokes)) {
            return NONE;
        }
        int all = answers.statesAt(stroke, counts, k);
        int there = answers.statesWith(stroke, person, place);
        return there == 0 ? 0 : there == all ? 2 : 1;
    }

    public int image(int box) {
        if (box < 0 || box >= BOXES) {
            return NONE;
        }
        boxes[box].copyFrom(earnest);
        boxes[box].kept = true;
        return earnest.stroke;
    }

    public int back(int box) {
        if (box < 0 || box >= BOXES || !boxes[box].kept) {
            return NONE;
        }
        earnest.copyFrom(boxes[box]);
        return earnest.stroke;
    }

    public int about(int what) {
        switch (what) {
            case 0: return town.places.size;
            case 1: return town.persons.size;
            case 2: return town.dogs.size;
            case 3: return town.errands;
            case 4: return town.ways;
            case 5: return counts.size;
            case 6: return counts.time;
            case 7: return tape.length;
            case 8: return earnest.stroke;
            case 9: return earnest.odd;
            case 10: return town.rule.units;
            case 11: return town.hour;
            case 12: return town.strokes;
            default: return NONE;
        }
    }

    private static boolean isSort(int what) {
        return what >= 0 && what < SORTS;
    }

    private static boolean isStroke(int stroke, int last) {
        return stroke >= 1 && stroke <= last;
    }

    /** The bytes told so far, the token in them at which a reader stands, and the latest reading's fault. */
    private static final class Tape {
        private final byte[] bytes = new byte[TAPE_ROOM];
        int length;
        /** Where the token begins, and what it is. */
        int at;
        int kind;
        /** A word's letters, five bits each; an N's number. */
        long word;
        int number;
        int faultKind;
        int faultPlace = NONE;
        private int next;

        boolean hasRoom(int more) {
            return length + more <= TAPE_ROOM;
        }

        void putFour(int four) {
            for (int shift = 24; shift >= 0 && length < TAPE_ROOM; shift -= 8) {
                bytes[length] = (byte) (four >> shift);
                length++;
            }
        }

        void begin() {
            faultKind = 0;
            faultPlace = NONE;
            next = 0;
            step();
        }

        void step() {
            while (next < length && (bytes[next] == 32 || bytes[next] == 10)) {
                next++;
            }
            at = next;
            if (next >= length) {
                kind = AT_END;
            } else if (isLetter(bytes[next])) {
                stepWord();
                kind = next - at > 8 ? NO_TOKEN : kindOf(word);
            } else if (isDigit(bytes[next])) {
                stepNumber();
            } else {
                char sign = (char) (bytes[next] & 255);
                kind = ";()<>=+-*/".indexOf(sign) >= 0 ? sign : NO_TOKEN;
                next++;
            }
        }

        private void stepWord() {
            word = 0;
            while (next < length && isLetter(bytes[next])) {
                word = word * 32 + (bytes[next] - 'a' + 1);
                next++;
            }
        }

        private void stepNumber() {
            number = 0;
            while (next < length && isDigit(bytes[next])) {
                number = number * 10 + (bytes[next] - '0');
                next++;
            }
            boolean good = next - at <= 4 && (next >= length || !isLetter(bytes[next]));
            kind = good ? NUMBER : NO_TOKEN;
        }

        private static boolean isLetter(int sign) {
            return sign >= 'a' && sign <= 'z';
        }

        private static boolean isDigit(int sign) {
            return sign >= '0' && sign <= '9';
        }

        private static int kindOf(long word) {
            int kind = FIRST_WORD;
            long told = 0;
            for (int i = 0; i < WORDS.length(); i++) {
                char letter = WORDS.charAt(i);
                if (letter != ' ') {
                    told = told * 32 + (letter - 'a' + 1);
                } else if (told == word) {
                    return kind;
                } else {
                    told = 0;
                    kind++;
                }
            }
            return NAME;
        }

        /** Puts a fault at the token; false, so that a reader can answer with it. */
        boolean blame(int fault) {
            faultKind = fault;
            faultPlace = at;
            return false;
        }

        boolean refuse() {
            return blame(kind == NO_TOKEN ? FAULT_TOKEN : FAULT_STAND);
        }

        boolean pass(int wanted) {
            if (kind != wanted) {
                return refuse();
            }
            step();
            return true;
        }

        int passNumber(int least, int most) {
            int passed = NONE;
            if (kind != NUMBER) {
                refuse();
            } else if (number < least || number > most) {
                blame(FAULT_NUMBER);
            } else {
                passed = number;
                step();
            }
            return passed;
        }

        int passKnown(Names names) {
            int known = NONE;
            if (kind != NAME) {
                refuse();
            } else {
                known = names.find(word);
                if (known == NONE) {
                    blame(FAULT_NAME);
                } else {
                    step();
                }
            }
            return known;
        }
    }

    /** Names of one sort, numbered as told. */
    private static final class Names {
        private final long[] words;
        int size;

        Names(int room) {
            words = new long[room];
        }

        boolean isFull() {
            return size >= words.length;
        }

        int find(long word) {
            for (int i = 0; i < size; i++) {
                if (words[i] == word) {
                    return i;
                }
            }
            return NONE;
        }

        int add(long word) {
            if (isFull()) {
                return NONE;
            }
            words[size] = word;
            size++;
            return size - 1;
        }
    }

    /** What a town's text tells. */
    private static final class Town {
        final Names places = new Names(MOST_PLACES);
        final Names persons = new Names(MOST_PERSONS);
        final Names dogs = new Names(MOST_DOGS);
        final boolean[] empty = new boolean[MOST_PLACES];
        final int[] home = new int[MOST_PERSONS];
        final int[] hire = new int[MOST_PERSONS];
        final int[] dogPlace = new int[MOST_DOGS];
        final int[] errandPerson = new int[MOST_ERRANDS];
        final int[] errandPlace = new int[MOST_ERRANDS];
        final int[] errandStroke = new int[MOST_ERRANDS];
        final int[] errandWorth = new int[MOST_ERRANDS];
        /** Minutes of each pair: those of the ways told, until finish() makes them the least. */
        final int[] least = new int[PAIRS];
        /** At place * ROW + many a bit for each stroke at which that is right. */
        final int[] rightBits = new int[PAIRS];
        final Rule rule = new Rule();
        int errands;
        int ways;
        int hour;
        int strokes;

        Town() {
            clear();
        }

        void clear() {
            places.size = 0;
            persons.size = 0;
            dogs.size = 0;
            errands = 0;
            ways = 0;
            hour = USUAL_HOUR;
            strokes = USUAL_STROKES;
            rule.clear();
            Arrays.fill(least, FAR);
            for (int place = 0; place < MOST_PLACES; place++) {
                least[place * ROW + place] = 0;
            }
        }

        void addWay(int a, int b, int minutes) {
            least[a * ROW + b] = minutes;
            least[b * ROW + a] = minutes;
            ways++;
        }

        void finish() {
            layLeast();
            for (int place = 0; place < places.size; place++) {
                for (int many = 0; many < CROWDS; many++) {
                    rightBits[place * ROW + many] = strokesRight(place, many);
                }
            }
        }

        private void layLeast() {
            int size = places.size;
            for (int by = 0; by < size; by++) {
                for (int a = 0; a < size; a++) {
                    for (int b = 0; b < size; b++) {
                        int round = least[a * ROW + by] + least[by * ROW + b];
                        least[a * ROW + b] = Math.min(least[a * ROW + b], round);
                    }
                }
            }
        }

        private int strokesRight(int place, int many) {
            if (empty[place] && many > 0) {
                return 0;
            }
            int bits = 0;
            for (int stroke = 1; stroke <= MOST_STROKES; stroke++) {
                if (rule.holds(many, stroke, place, dogsAt(place))) {
                    bits |= 1 << stroke;
                }
            }
            return bits;
        }

        private int dogsAt(int place) {
            int there = 0;
            for (int dog = 0; dog < dogs.size; dog++) {
                there += dogPlace[dog] == place ? 1 : 0;
            }
            return there;
        }

        boolean hasPlace(int place) {
            return place >= 0 && place < places.size;
        }

        boolean hasPerson(int person) {
            return person >= 0 && person < persons.size;
        }

        boolean gets(int from, int to) {
            return least[from * ROW + to] <= hour;
        }

        boolean isRight(int place, int many, int stroke) {
            return (rightBits[place * ROW + many] >> stroke & 1) == 1;
        }

        /** How many of the persons stand at a place, told where they stand from an index on. */
        int crowd(int[] stands, int from, int place) {
            int there = 0;
            for (int person = 0; person < persons.size; person++) {
                there += stands[from + person] == place ? 1 : 0;
            }
            return there;
        }
    }

    /** The rule: numbers as they are and, below 0, what else is to be done, each behind its parts. */
    private static final class Rule {
        private final int[] code = new int[RULE_ROOM];
        private final int[] stack = new int[MOST_UNITS];
        private int length;
        int units;

        void clear() {
            length = 0;
            units = 0;
        }

        private boolean put(int what) {
            if (length >= RULE_ROOM) {
                return false;
            }
            code[length] = what;
            length++;
            return true;
        }

        private boolean readEither(Tape tape, int within) {
            boolean good = readBoth(tape, within);
            for (int n = 0; n < TAPE_ROOM && good && tape.kind == OR; n++) {
                tape.step();
                good = readBoth(tape, within) && put(-OR);
            }
            return good;
        }

        private boolean readBoth(Tape tape, int within) {
            boolean good = readOne(tape, within);
            for (int n = 0; n < TAPE_ROOM && good && tape.kind == AND; n++) {
                tape.step();
                good = readOne(tape, within) && put(-AND);
            }
            return good;
        }

        private boolean readOne(Tape tape, int within) {
            if (tape.kind != NOT) {
                return readRelation(tape, within);
            }
            if (within > MOST_WITHIN) {
                return tape.blame(FAULT_STAND);
            }
            tape.step();
            return readOne(tape, within + 1) && put(-NOT);
        }

        private boolean readRelation(Tape tape, int within) {
            if (!readSum(tape, within)) {
                return false;
            }
            int sign = tape.kind;
            if (sign != '<' && sign != '>' && sign != '=') {
                return true;
            }
            tape.step();
            return readSum(tape, within) && put(-sign);
        }

        private boolean readSum(Tape tape, int within) {
            boolean good = readTerm(tape, within);
            for (int n = 0; n < TAPE_ROOM && good && (tape.kind == '+' || tape.kind == '-'); n++) {
                int sign = tape.kind;
                tape.step();
                good = readTerm(tape, within) && put(-sign);
            }
            return good;
        }

        private boolean readTerm(Tape tape, int within) {
            boolean good = readUnit(tape, within);
            for (int n = 0; n < TAPE_ROOM && good && (tape.kind == '*' || tape.kind == '/'); n++) {
                int sign = tape.kind;
                tape.step();
                good = readUnit(tape, within) && put(-sign);
            }
            return good;
        }

        private boolean readUnit(Tape tape, int within) {
            if (!beginsUnit(tape.kind)) {
                return tape.refuse();
            }
            boolean opens = tape.kind == '(';
            if (units >= MOST_UNITS || opens && within > MOST_WITHIN) {
                return tape.blame(FAULT_STAND);
            }
            units++;
            int what = tape.kind == NUMBER ? tape.number : -tape.kind;
            tape.step();
            return opens ? readEither(tape, within + 1) && tape.pass(')') : put(what);
        }

        private static boolean beginsUnit(int kind) {
            return kind == NUMBER || kind == '(' || isName(kind);
        }

        private static boolean isName(int kind) {
            return kind == HERE || kind == STROKE || kind == PLACE || kind == DOGS;
        }

        boolean holds(int here, int stroke, int place, int dogs) {
            if (length == 0) {
                return here % 2 == 0;
            }
            int top = 0;
            for (int i = 0; i < length; i++) {
                int what = code[i];
                if (what >= 0 || isName(-what)) {
                    if (top < MOST_UNITS) {
                        stack[top] = what >= 0 ? what : named(-what, here, stroke, place, dogs);
                        top++;
                    }
                } else if (what == -NOT) {
                    if (top > 0) {
                        stack[top - 1] = stack[top - 1] == 0 ? 1 : 0;
                    }
                } else if (top > 1) {
                    top--;
                    stack[top - 1] = joined(-what, stack[top - 1], stack[top]);
                }
            }
            return stack[0] != 0;
        }

        private static int named(int name, int here, int stroke, int place, int dogs) {
            switch (name) {
                case HERE: return here;
                case STROKE: return stroke;
                case PLACE: return place;
                default: return dogs;
            }
        }

        private static int joined(int sign, int a, int b) {
            switch (sign) {
                case '+': return a + b;
                case '-': return a - b;
                case '*': return a * b;
                case '/': return b == 0 ? 0 : a / b;
                case '<': return a < b ? 1 : 0;
                case '>': return a > b ? 1 : 0;
                case '=': return a == b ? 1 : 0;
                case AND: return a != 0 && b != 0 ? 1 : 0;
                case OR: return a != 0 || b != 0 ? 1 : 0;
                default: return 0;
            }
        }
    }

    /** Reads a town's text, line by line. */
    private static final class TownReader {
        private final Tape tape;
        private Town town;
        private boolean hourTold;
        private boolean strokesTold;
        private boolean ruleTold;

        TownReader(Tape read, Town into) {
            tape = read;
            town = into;
        }

        boolean readInto(Town into) {
            town = into;
            town.clear();
            hourTold = false;
            strokesTold = false;
            ruleTold = false;
            tape.begin();
            boolean good = true;
            for (int line = 0; line < TAPE_ROOM && good && tape.kind != AT_END; line++) {
                good = readLine() && tape.pass(';');
            }
            if (good) {
                town.finish();
            }
            return good;
        }

        private boolean readLine() {
            switch (tape.kind) {
                case PLACE: return readPlace();
                case WAY: return readWay();
                case PERSON: return readPerson();
                case DOG: return readDog();
                case ERRAND: return readErrand();
                case HOUR: return readHour();
                case STROKES: return readStrokes();
                case RULE: return readRule();
                default: return tape.refuse();
            }
        }

        /** Steps over a line's first word, if one more such line can stand there. */
        private boolean startLine(boolean tooMany) {
            if (tooMany) {
                return tape.blame(FAULT_STAND);
            }
            tape.step();
            return true;
        }

        private boolean isNew(Names names) {
            if (tape.kind != NAME) {
                return tape.refuse();
            }
            if (names.find(tape.word) != NONE) {
                return tape.blame(FAULT_TOLD);
            }
            return true;
        }

        private boolean readPlace() {
            if (!startLine(town.places.isFull()) || !isNew(town.places)) {
                return false;
            }
            int place = town.places.add(tape.word);
            tape.step();
            if (place == NONE) {
                return false;
            }
            town.empty[place] = tape.kind == EMPTY;
            if (town.empty[place]) {
                tape.step();
            }
            return true;
        }

        private boolean readWay() {
            if (!startLine(town.ways >= MOST_WAYS)) {
                return false;
            }
            int a = tape.passKnown(town.places);
            if (a == NONE || isToldSecond(a)) {
                return false;
            }
            int b = tape.passKnown(town.places);
            if (b == NONE || !tape.pass(MINUTES)) {
                return false;
            }
            int minutes = tape.passNumber(1, MOST_MINUTES);
            if (minutes == NONE) {
                return false;
            }
            town.addWay(a, b, minutes);
            return true;
        }

        private boolean isToldSecond(int a) {
            int b = tape.kind == NAME ? town.places.find(tape.word) : NONE;
            if (b == NONE || b != a && town.least[a * ROW + b] >= FAR) {
                return false;
            }
            tape.blame(FAULT_TOLD);
            return true;
        }

        private boolean readPerson() {
            if (!startLine(town.persons.isFull()) || !isNew(town.persons) || !isNew(town.dogs)) {
                return false;
            }
            int person = town.persons.add(tape.word);
            tape.step();
            int place = tape.pass(AT) ? tape.passKnown(town.places) : NONE;
            if (person == NONE || place == NONE || !tape.pass(HIRE)) {
                return false;
            }
            int hire = tape.passNumber(0, MOST_HIRE);
            if (hire == NONE) {
                return false;
            }
            town.home[person] = place;
            town.hire[person] = hire;
            return true;
        }

        private boolean readDog() {
            if (!startLine(town.dogs.isFull()) || !isNew(town.persons) || !isNew(town.dogs)) {
                return false;
            }
            int dog = town.dogs.add(tape.word);
            tape.step();
            int place = tape.pass(AT) ? tape.passKnown(town.places) : NONE;
            if (dog == NONE || place == NONE) {
                return false;
            }
            town.dogPlace[dog] = place;
            return true;
        }

        private boolean readErrand() {
            if (!startLine(town.errands >= MOST_ERRANDS)) {
                return false;
            }
            int person = tape.passKnown(town.persons);
            if (person == NONE || !tape.pass(AT)) {
                return false;
            }
            int place = tape.passKnown(town.places);
            if (place == NONE || !tape.pass(STROKE)) {
                return false;
            }
            int stroke = tape.passNumber(1, MOST_STROKES);
            if (stroke == NONE || !tape.pass(WORTH)) {
                return false;
            }
            int worth = tape.passNumber(0, MOST_WORTH);
            if (worth == NONE) {
                return false;
            }
            town.errandPerson[town.errands] = person;
            town.errandPlace[town.errands] = place;
            town.errandStroke[town.errands] = stroke;
            town.errandWorth[town.errands] = worth;
            town.errands++;
            return true;
        }

        private boolean readHour() {
            if (!startLine(hourTold)) {
                return false;
            }
            hourTold = true;
            town.hour = tape.passNumber(1, MOST_HOUR);
            return town.hour != NONE;
        }

        private boolean readStrokes() {
            if (!startLine(strokesTold)) {
                return false;
            }
            strokesTold = true;
            town.strokes = tape.passNumber(1, MOST_STROKES);
            return town.strokes != NONE;
        }

        private boolean readRule() {
            if (!startLine(ruleTold)) {
                return false;
            }
            ruleTold = true;
            return town.rule.readEither(tape, 0);
        }
    }

    /** A told plan: where each person is at each stroke, and what is judged of it. */
    private static final class Plan {
        /** At stroke * MOST_PERSONS + person their place; at stroke 0 their home. */
        private final int[] stands = new int[(MOST_STROKES + 1) * MOST_PERSONS];
        int judgedKind;
        int judgedStroke;
        int judgedNumber;

        void stayHome(Town town) {
            for (int person = 0; person < town.persons.size; person++) {
                stayFrom(0, person, town.home[person]);
            }
        }

        private void stayFrom(int first, int person, int place) {
            for (int stroke = first; stroke <= MOST_STROKES; stroke++) {
                stands[stroke * MOST_PERSONS + person] = place;
            }
        }

        /** How many lines; NONE, if there was a fault. */
        int readFrom(Tape tape, Town town) {
            stayHome(town);
            tape.begin();
            int told = 0;
            int lines = 0;
            while (lines < MOST_PLAN_BYTES && tape.kind != AT_END) {
                int person = tape.kind == NAME ? town.persons.find(tape.word) : NONE;
                if (person != NONE && (told >> person & 1) == 1) {
                    tape.blame(FAULT_TOLD);
                    return NONE;
                }
                person = tape.passKnown(town.persons);
                if (person == NONE || !readPlaces(tape, town, person) || !tape.pass(';')) {
                    return NONE;
                }
                told |= 1 << person;
                lines++;
            }
            return lines;
        }

        private boolean readPlaces(Tape tape, Town town, int person) {
            if (tape.kind != NAME) {
                return tape.refuse();
            }
            for (int stroke = 1; stroke <= town.strokes && tape.kind == NAME; stroke++) {
                int place = tape.passKnown(town.places);
                if (place == NONE) {
                    return false;
                }
                stayFrom(stroke, person, place);
            }
            return true;
        }

        void judgeIn(Town town) {
            judgedKind = 0;
            judgedStroke = NONE;
            judgedNumber = NONE;
            for (int stroke = 1; stroke <= town.strokes && judgedKind == 0; stroke++) {
                note(1, stroke, firstLate(town, stroke));
                note(2, stroke, firstWrong(town, stroke));
                note(3, stroke, firstUndone(town, stroke));
            }
        }

        private void note(int kind, int stroke, int number) {
            if (judgedKind == 0 && number != NONE) {
                judgedKind = kind;
                judgedStroke = stroke;
                judgedNumber = number;
            }
        }

        private int firstLate(Town town, int stroke) {
            for (int person = 0; person < town.persons.size; person++) {
                if (!town.gets(placeAt(stroke - 1, person), placeAt(stroke, person))) {
                    return person;
                }
            }
            return NONE;
        }

        private int firstWrong(Town town, int stroke) {
            for (int place = 0; place < town.places.size; place++) {
                int many = town.crowd(stands, stroke * MOST_PERSONS, place);
                if (!town.isRight(place, many, stroke)) {
                    return place;
                }
            }
            return NONE;
        }

        private int firstUndone(Town town, int stroke) {
            for (int errand = 0; errand < town.errands; errand++) {
                if (town.errandStroke[errand] == stroke
                        && placeAt(stroke, town.errandPerson[errand]) != town.errandPlace[errand]) {
                    return errand;
                }
            }
            return NONE;
        }

        int placeAt(int stroke, int person) {
            return stands[stroke * MOST_PERSONS + person];
        }

        /** What the plan is worth on such a day; GAP, if it is not lawful, or misses what must be done. */
        int worthOn(Day day) {
            if (!day.possible) {
                return GAP;
            }
            int worth = 0;
            for (int stroke = 1; stroke <= day.strokes; stroke++) {
                if (firstLate(day.town, stroke) != NONE || firstWrong(day.town, stroke) != NONE) {
                    return GAP;
                }
                for (int person = 0; person < day.town.persons.size; person++) {
                    worth += day.step(stroke, person, placeAt(stroke - 1, person), placeAt(stroke, person));
                }
            }
            return worth < FLOOR ? GAP : worth;
        }
    }

    /** A day as it is asked about: a town, by what it is valued, and what is other than told. */
    private static final class Day {
        Town town;
        int strokes;
        /** Whether a day such as this can have a value at all. */
        boolean possible;
        int states;
        /** By how much a state's number grows with the place of a person. */
        final int[] stride = new int[MOST_PERSONS];
        /** Of each pair of places what a walk adds to the value; NEVER if nobody gets there. */
        final int[] walk = new int[PAIRS];
        /** What a person's being at a place at a stroke adds to it. */
        final int[] gain = new int[(MOST_STROKES + 1) * MOST_PERSONS * ROW];
        final int[] rightBits = new int[PAIRS];
        private int what;
        private int hour;

        Day(Town first) {
            town = first;
        }

        /** Lays the day by what it is valued, with so many strokes for each one told. */
        void lay(Town asked, int by, int times) {
            town = asked;
            what = by;
            possible = false;
            if (times < 1 || asked.strokes * times > MOST_STROKES || asked.hour / times == 0) {
                return;
            }
            strokes = asked.strokes * times;
            hour = asked.hour / times;
            possible = what == 0 || errandsCanBe();
            layStates();
            System.arraycopy(asked.rightBits, 0, rightBits, 0, PAIRS);
            for (int pair = 0; pair < PAIRS; pair++) {
                walk[pair] = walkOf(asked.least[pair]);
            }
            for (int stroke = 1; stroke <= strokes; stroke++) {
                layGains(stroke, times);
            }
        }

        private boolean errandsCanBe() {
            for (int errand = 0; errand < town.errands; errand++) {
                if (town.errandStroke[errand] > town.strokes) {
                    return false;
                }
            }
            return true;
        }

        private void layStates() {
            states = 1;
            for (int person = town.persons.size - 1; person >= 0; person--) {
                stride[person] = states;
                states *= town.places.size;
            }
        }

        private int walkOf(int minutes) {
            return minutes > hour ? NEVER : what == 2 ? -minutes : 0;
        }

        private void layGains(int stroke, int times) {
            for (int person = 0; person < town.persons.size; person++) {
                for (int place = 0; place < town.places.size; place++) {
                    gain[(stroke * MOST_PERSONS + person) * ROW + place] = gainOf(stroke, person, place, times);
                }
            }
        }

        private int gainOf(int stroke, int person, int place, int times) {
            int worth = 0;
            boolean done = false;
            boolean missed = false;
            for (int errand = 0; errand < town.errands; errand++) {
                if (town.errandPerson[errand] == person && town.errandStroke[errand] * times == stroke) {
                    boolean there = town.errandPlace[errand] == place;
                    worth += there ? town.errandWorth[errand] : 0;
                    done |= there;
                    missed |= !there;
                }
            }
            boolean away = town.home[person] != place;
            if (what == 0) {
                return away ? worth - town.hire[person] : worth;
            }
            return missed ? NEVER : what == 1 && away && !done ? -1 : 0;
        }

        void freeStroke(int stroke) {
            for (int i = 0; i < PAIRS; i++) {
                rightBits[i] |= 1 << stroke;
            }
        }

        void freePlace(int place) {
            for (int many = 0; many < CROWDS; many++) {
                rightBits[place * ROW + many] = ALL_STROKES;
            }
        }

        /** Builds one way more; whether that changes any walk. */
        boolean build(int a, int b, int minutes) {
            boolean changed = false;
            for (int from = 0; from < town.places.size; from++) {
                for (int to = 0; to < town.places.size; to++) {
                    int there = town.least[from * ROW + a] + minutes + town.least[b * ROW + to];
                    int round = town.least[from * ROW + b] + minutes + town.least[a * ROW + to];
                    int least = Math.min(town.least[from * ROW + to], Math.min(there, round));
                    int now = walkOf(least);
                    changed |= now != walk[from * ROW + to];
                    walk[from * ROW + to] = now;
                }
            }
            return changed;
        }

        int step(int stroke, int person, int from, int to) {
            return walk[from * ROW + to] + gain[(stroke * MOST_PERSONS + person) * ROW + to];
        }

        int placeIn(int state, int person) {
            int width = stride[person];
            int radix = town.places.size;
            return width < 1 || radix < 1 ? 0 : state / width % radix;
        }

        /** How many are at each place in a state: three bits a place. */
        int crowds(int state) {
            int crowds = 0;
            for (int person = 0; person < town.persons.size; person++) {
                crowds += 1 << 3 * placeIn(state, person);
            }
            return crowds;
        }
    }

    /** All days that can be, state by state: which is best, and which states stand in any. */
    private static final class Days {
        /** Of one stroke alone: for each lawful state the most that the strokes behind can add; else NEVER. */
        private final int[] table = new int[MOST_STATES];
        /** A bit for each stroke at which all places are right in a state. */
        private final int[] lawful = new int[MOST_STATES];
        private final int[] weight = new int[PAIRS];
        private final int[] line = new int[MOST_PLACES];
        private final int[] from = new int[MOST_PERSONS];

        int worthOf(Day day) {
            if (!day.possible) {
                return GAP;
            }
            layLawful(day);
            layTable(day, 1);
            startAtHome(day.town);
            int most = NEVER;
            for (int state = 0; state < day.states; state++) {
                most = Math.max(most, table[state] + stepTo(day, 1, state));
            }
            return most < FLOOR ? GAP : most;
        }

        private void startAtHome(Town town) {
            for (int person = 0; person < town.persons.size; person++) {
                from[person] = town.home[person];
            }
        }

        private void layLawful(Day day) {
            for (int state = 0; state < day.states; state++) {
                int crowds = day.crowds(state);
                int bits = ALL_STROKES;
                for (int place = 0; place < day.town.places.size; place++) {
                    bits &= day.rightBits[place * ROW + (crowds >> 3 * place & 7)];
                }
                lawful[state] = bits;
            }
        }

        /** Fills the table for a stroke, coming from the last one. */
        private void layTable(Day day, int first) {
            Arrays.fill(table, 0, day.states, 0);
            keepLawful(day, day.strokes);
            for (int stroke = day.strokes - 1; stroke >= first; stroke--) {
                for (int person = 0; person < day.town.persons.size; person++) {
                    layWeights(day, stroke + 1, person);
                    goBack(day, person);
                }
                keepLawful(day, stroke);
            }
        }

        private void keepLawful(Day day, int stroke) {
            for (int state = 0; state < day.states; state++) {
                if ((lawful[state] >> stroke & 1) == 0) {
                    table[state] = NEVER;
                }
            }
        }

        private void layWeights(Day day, int stroke, int person) {
            int size = day.town.places.size;
            for (int a = 0; a < size; a++) {
                for (int b = 0; b < size; b++) {
                    weight[a * ROW + b] = day.step(stroke, person, a, b);
                }
            }
        }

        /** Lets one person go: each state gets the best of those that differ in the place of this person alone. */
        private void goBack(Day day, int person) {
            int width = day.stride[person];
            int size = day.town.places.size;
            int block = width * size;
            int blocks = block < 1 ? 0 : day.states / block;
            for (int i = 0; i < blocks; i++) {
                for (int j = 0; j < width; j++) {
                    int first = i * block + j;
                    boolean any = false;
                    for (int b = 0; b < size; b++) {
                        line[b] = table[first + b * width];
                        any |= line[b] > FLOOR;
                    }
                    for (int a = 0; a < size && any; a++) {
                        table[first + a * width] = bestOfLine(a * ROW, size);
                    }
                }
            }
        }

        private int bestOfLine(int row, int size) {
            int most = NEVER;
            for (int b = 0; b < size; b++) {
                most = Math.max(most, line[b] + weight[row + b]);
            }
            return most < FLOOR ? NEVER : most;
        }

        /** What all steps to a state add, from where the persons stand in the row from. */
        private int stepTo(Day day, int stroke, int state) {
            int sum = 0;
            for (int person = 0; person < day.town.persons.size; person++) {
                sum += day.step(stroke, person, from[person], day.placeIn(state, person));
            }
            return sum;
        }

        /** Behind worthOf(day): writes the first row of places whose worth that is. The table is laid anew for each
            stroke: all strokes' tables at once would be most of what an object holds. */
        void layFirstRow(Day day, int worth, int[] row) {
            int rest = worth;
            startAtHome(day.town);
            for (int stroke = 1; stroke <= day.strokes; stroke++) {
                int state = firstOf(day, stroke, rest);
                rest -= stepTo(day, stroke, state);
                for (int person = 0; person < day.town.persons.size; person++) {
                    from[person] = day.placeIn(state, person);
                    row[stroke * MOST_PERSONS + person] = from[person];
                }
                layTable(day, stroke + 1);
            }
        }

        private int firstOf(Day day, int stroke, int rest) {
            for (int state = 0; state < day.states; state++) {
                if (table[state] + stepTo(day, stroke, state) == rest) {
                    return state;
                }
            }
            return 0;
        }

        /** Gives each state a bit for each stroke at which some lawful plan stands there; the day is by what 0. */
        void layAlive(Day day, int[] alive) {
            layLawful(day);
            System.arraycopy(day.walk, 0, weight, 0, PAIRS);
            Arrays.fill(alive, 0, day.states, 0);
            Arrays.fill(table, 0, day.states, NEVER);
            table[homeState(day)] = 0;
            for (int stroke = 1; stroke <= day.strokes; stroke++) {
                goAll(day);
                for (int state = 0; state < day.states; state++) {
                    if (table[state] > FLOOR && (lawful[state] >> stroke & 1) == 1) {
                        alive[state] |= 1 << stroke;
                    } else {
                        table[state] = NEVER;
                    }
                }
            }
            for (int stroke = day.strokes - 1; stroke >= 1; stroke--) {
                goAll(day);
                for (int state = 0; state < day.states; state++) {
                    if (table[state] < FLOOR || (alive[state] >> stroke & 1) == 0) {
                        alive[state] &= ~(1 << stroke);
                        table[state] = NEVER;
                    }
                }
            }
        }

        private void goAll(Day day) {
            for (int person = 0; person < day.town.persons.size; person++) {
                goBack(day, person);
            }
        }

        private static int homeState(Day day) {
            int state = 0;
            for (int person = 0; person < day.town.persons.size; person++) {
                state += day.stride[person] * day.town.home[person];
            }
            return state;
        }
    }

    /** Answers what is asked of a town, and keeps what is dear to find. */
    private static final class Answers {
        private Town town;
        private final Day day;
        private final Days days = new Days();
        private final boolean[] bestKnown = new boolean[SORTS];
        private final int[] bestWorth = new int[SORTS];
        private final int[][] bestRow = new int[SORTS][(MOST_STROKES + 1) * MOST_PERSONS];
        private final boolean[] breakKnown = new boolean[SORTS];
        final int[] breakWorth = new int[SORTS];
        final int[] breakStroke = new int[SORTS];
        /** By each what the minutes that were asked last; 0 if none were. */
        private final int[] builtMinutes = new int[SORTS];
        final int[] builtWorth = new int[SORTS];
        final int[] builtPair = new int[SORTS];
        private final int[] alive = new int[MOST_STATES];
        private boolean aliveKnown;
        private long aliveCounts;

        Answers(Town first) {
            town = first;
            day = new Day(first);
        }

        void turnTo(Town other) {
            town = other;
            aliveKnown = false;
            for (int what = 0; what < SORTS; what++) {
                bestKnown[what] = false;
                breakKnown[what] = false;
                builtMinutes[what] = 0;
            }
        }

        int worthOfPlan(int what, Plan plan) {
            day.lay(town, what, 1);
            return plan.worthOn(day);
        }

        int bestWorth(int what) {
            if (!bestKnown[what]) {
                day.lay(town, what, 1);
                bestWorth[what] = days.worthOf(day);
                if (bestWorth[what] != GAP) {
                    days.layFirstRow(day, bestWorth[what], bestRow[what]);
                }
                bestKnown[what] = true;
            }
            return bestWorth[what];
        }

        int bestPlace(int what, int stroke, int person) {
            return bestWorth(what) == GAP ? NONE : bestRow[what][stroke * MOST_PERSONS + person];
        }

        /** Finds breakWorth and breakStroke. */
        void findBreak(int what) {
            if (breakKnown[what]) {
                return;
            }
            breakWorth[what] = GAP;
            breakStroke[what] = GAP;
            for (int stroke = 1; stroke <= town.strokes; stroke++) {
                day.lay(town, what, 1);
                day.freeStroke(stroke);
                int worth = days.worthOf(day);
                if (worth > breakWorth[what]) {
                    breakWorth[what] = worth;
                    breakStroke[what] = stroke;
                }
            }
            breakKnown[what] = true;
        }

        int spareWorth(int place, int what) {
            day.lay(town, what, 1);
            day.freePlace(place);
            return days.worthOf(day);
        }

        int oftenWorth(int n, int what) {
            day.lay(town, what, n);
            return days.worthOf(day);
        }

        /** Finds builtWorth and builtPair. */
        void findBuilt(int minutes, int what) {
            if (builtMinutes[what] == minutes) {
                return;
            }
            int before = bestWorth(what);
            builtWorth[what] = GAP;
            builtPair[what] = GAP;
            for (int a = 0; a < town.places.size; a++) {
                for (int b = a + 1; b < town.places.size; b++) {
                    day.lay(town, what, 1);
                    int worth = day.build(a, b, minutes) ? days.worthOf(day) : before;
                    if (worth > builtWorth[what]) {
                        builtWorth[what] = worth;
                        builtPair[what] = 100 * a + b;
                    }
                }
            }
            builtMinutes[what] = minutes;
        }

        /** Finds which states stand in plans that agree with such counts, and lays the day for reading them. */
        private void findAlive(Counts counts, long which) {
            day.lay(town, 0, 1);
            if (aliveKnown && aliveCounts == which) {
                return;
            }
            counts.narrow(which, day.rightBits);
            days.layAlive(day, alive);
            aliveKnown = true;
            aliveCounts = which;
        }

        int firstMeeting(int a, int b, int place, Counts counts) {
            findAlive(counts, 0L);
            int met = 0;
            for (int state = 0; state < day.states; state++) {
                if (day.placeIn(state, a) == place && day.placeIn(state, b) == place
                        && (day.crowds(state) >> 3 * place & 7) == 2) {
                    met |= alive[state];
                }
            }
            for (int stroke = 1; stroke <= town.strokes; stroke++) {
                if ((met >> stroke & 1) == 1) {
                    return stroke;
                }
            }
            return NONE;
        }

        int statesAt(int stroke, Counts counts, int k) {
            findAlive(counts, counts.knownAt(k));
            int many = 0;
            for (int state = 0; state < day.states; state++) {
                many += alive[state] >> stroke & 1;
            }
            return many;
        }

        /** Behind statesAt: of those states the ones with a person at a place. */
        int statesWith(int stroke, int person, int place) {
            int many = 0;
            for (int state = 0; state < day.states; state++) {
                if (day.placeIn(state, person) == place) {
                    many += alive[state] >> stroke & 1;
                }
            }
            return many;
        }
    }

    /** Counts told by lookers, each with the times at which it was told and untold. */
    private static final class Counts {
        private final int[] stroke = new int[MOST_COUNTS];
        private final int[] place = new int[MOST_COUNTS];
        private final int[] many = new int[MOST_COUNTS];
        private final int[] told = new int[MOST_COUNTS];
        /** NONE, while a count is not untold. */
        private final int[] untold = new int[MOST_COUNTS];
        int size;
        int time;

        int tell(int atStroke, int atPlace, int soMany) {
            if (size >= MOST_COUNTS) {
                return NONE;
            }
            stroke[size] = atStroke;
            place[size] = atPlace;
            many[size] = soMany;
            told[size] = time;
            untold[size] = NONE;
            size++;
            return size - 1;
        }

        boolean takeBack(int count) {
            if (count < 0 || count >= size || untold[count] != NONE) {
                return false;
            }
            untold[count] = time;
            return true;
        }

        /** A bit for each count that counts as known at k. */
        long knownAt(int k) {
            long known = 0;
            for (int count = 0; count < size; count++) {
                boolean over = untold[count] != NONE && untold[count] <= k;
                if (told[count] <= k && !over) {
                    known |= 1L << count;
                }
            }
            return known;
        }

        /** Takes from what is right all that is not as these counts tell. */
        void narrow(long which, int[] rightBits) {
            for (int count = 0; count < size; count++) {
                for (int there = 0; there < CROWDS && (which >> count & 1) == 1; there++) {
                    if (there != many[count]) {
                        rightBits[place[count] * ROW + there] &= ~(1 << stroke[count]);
                    }
                }
            }
        }
    }

    /** Where all are in earnest, and who is sent where. */
    private static final class Earnest {
        final int[] place = new int[MOST_PERSONS];
        final int[] sent = new int[MOST_PERSONS];
        int stroke;
        int odd;
        /** In a box: whether anything is kept there. */
        boolean kept;

        void begin(Town town) {
            stroke = 0;
            odd = 0;
            System.arraycopy(town.home, 0, place, 0, MOST_PERSONS);
            System.arraycopy(town.home, 0, sent, 0, MOST_PERSONS);
        }

        void copyFrom(Earnest other) {
            stroke = other.stroke;
            odd = other.odd;
            System.arraycopy(other.place, 0, place, 0, MOST_PERSONS);
            System.arraycopy(other.sent, 0, sent, 0, MOST_PERSONS);
        }

        /** All go where they are sent (who is not sent: where they are); how many places are not right then. */
        int strikeNow(Town town) {
            System.arraycopy(sent, 0, place, 0, MOST_PERSONS);
            stroke++;
            int wrong = 0;
            for (int at = 0; at < town.places.size; at++) {
                wrong += town.isRight(at, town.crowd(place, 0, at), stroke) ? 0 : 1;
            }
            odd += wrong;
            return wrong;
        }

        /** The least minutes of pairing the places with odd numbers; NONE if that can't be. */
        int leastMending(Town town) {
            int bits = 0;
            for (int at = 0; at < town.places.size; at++) {
                bits |= town.crowd(place, 0, at) % 2 << at;
            }
            int least = leastPairing(town, bits, 0);
            return least < FAR ? least : NONE;
        }

        /** Pairs the odd places from a first one on; a bit tells which are odd. */
        private static int leastPairing(Town town, int bits, int first) {
            if (first >= town.places.size) {
                return 0;
            }
            if ((bits >> first & 1) == 0) {
                return leastPairing(town, bits, first + 1);
            }
            int least = FAR;
            for (int at = first + 1; at < town.places.size; at++) {
                if ((bits >> at & 1) == 1) {
                    int others = leastPairing(town, bits & ~(1 << at), first + 1);
                    least = Math.min(least, town.least[first * ROW + at] + others);
                }
            }
            return least;
        }
    }
}
