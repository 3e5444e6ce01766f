import java.util.NoSuchElementException;

/** A press that prints only the errors of others; ../shared/DOC.md tells what it does. */
public final class ErrataPress {
    private static final int MOST_HOUSES = 4;
    private static final int MOST_SHEETS = 8;
    private static final int MOST_READERS = 5;
    private static final int LEAST_LETTERS = 3;
    private static final int MOST_LETTERS = 8;
    private static final int ALPHABET = 6;
    private static final int MOST_KEPT = 99;
    private static final int MOST_CALM_SHAME = 20;
    private static final int MOST_INPUT = 60;
    private static final int MOST_LINE = 2 + 2 * MOST_LETTERS;
    private static final int MOST_CHANGES = 8;
    private static final int LAST_HOUSE_NUMBER = 6;
    private static final int LAST_SHEET_NUMBER = 5;
    private static final int LAST_ACCOUNT = 14;

    /** What is at a place, as markAt tells it. */
    private static final int RIGHT = 0;
    private static final int PLAIN = 1;
    private static final int LICENSED = 2;
    private static final int SHOWN = 3;

    /** Reasons, as refusal tells them. */
    private static final int NO_REASON = 0;
    private static final int FULL = 1;
    private static final int SET_ALREADY = 2;
    private static final int RIGHT_LETTER = 3;
    private static final int NO_MISPRINT = 4;
    private static final int LICENSED_ALREADY = 5;
    private static final int ASHAMED = 6;
    private static final int TOO_FEW_COINS = 7;
    private static final int NOTHING_TO_PRINT = 8;
    private static final int ORDER_REFUSED = 9;

    /** Outcomes of changes that cannot be: a change that can be answers 0 or more. */
    private static final int OUTSIDE = -1;
    private static final int ILLEGAL = -2;
    private static final int REFUSED = -3;

    private static final int NONE = -1;

    private final State state = new State();
    /** The state ahead of the change that is being made. */
    private final State before = new State();
    /** Where sheets are corrected in thought. */
    private final State thought = new State();
    private final State snapshot = new State();
    private final History history = new History();
    private final Refusal latestRefusal = new Refusal();
    private final OrderText input = new OrderText();
    private final LineText written = new LineText();
    private boolean hasSnapshot;
    private int errorOffset = NONE;

    public ErrataPress() {
    }

    // Houses, sheets and misprints

    public int house(int coins) throws IllegalArgumentException, UnsupportedOperationException {
        before.copyFrom(state);
        return settle(addHouse(coins));
    }

    public int sheet(int house, int word)
            throws IndexOutOfBoundsException, IllegalArgumentException, UnsupportedOperationException {
        before.copyFrom(state);
        return settle(addSheet(house, word));
    }

    public int take(int sheet) throws IndexOutOfBoundsException {
        before.copyFrom(state);
        return settle(takeSheet(sheet));
    }

    public int set(int sheet, int place, char letter)
            throws IndexOutOfBoundsException, IllegalArgumentException, UnsupportedOperationException {
        before.copyFrom(state);
        return settle(setLetter(sheet, place, letter));
    }

    public int license(int sheet, int place) throws IndexOutOfBoundsException, UnsupportedOperationException {
        before.copyFrom(state);
        return settle(sellLicence(sheet, place));
    }

    public int correct(int sheet, int place) throws IndexOutOfBoundsException, UnsupportedOperationException {
        before.copyFrom(state);
        return settle(takeFine(sheet, place));
    }

    public int reader(int kind, int taste) throws IllegalArgumentException, UnsupportedOperationException {
        before.copyFrom(state);
        return settle(addReader(kind, taste));
    }

    public int edition() throws UnsupportedOperationException {
        before.copyFrom(state);
        return settle(printEdition());
    }

    public int day() {
        before.copyFrom(state);
        return settle(state.passDay());
    }

    public int houseOf(int house, int what) throws IndexOutOfBoundsException, IllegalArgumentException {
        if (!state.hasHouse(house)) {
            throw new IndexOutOfBoundsException("no such house");
        }
        if (what < 0 || what > LAST_HOUSE_NUMBER) {
            throw new IllegalArgumentException("no such number of a house");
        }
        return state.numberOfHouse(house, what);
    }

    public int sheetOf(int sheet, int what) throws IndexOutOfBoundsException, IllegalArgumentException {
        if (!state.hasSheet(sheet)) {
            throw new IndexOutOfBoundsException("no such sheet");
        }
        if (what < 0 || what > LAST_SHEET_NUMBER) {
            throw new IllegalArgumentException("no such number of a sheet");
        }
        return state.numberOfSheet(sheet, what);
    }

    public char letterAt(int sheet, int place, boolean isRight) throws IndexOutOfBoundsException {
        if (!state.hasPlace(sheet, place)) {
            throw new IndexOutOfBoundsException("no such place");
        }
        return letterOf(isRight ? state.rightAt(sheet, place) : state.placedAt(sheet, place));
    }

    public int markAt(int sheet, int place) throws IndexOutOfBoundsException {
        if (!state.hasPlace(sheet, place)) {
            throw new IndexOutOfBoundsException("no such place");
        }
        return state.levelAt(sheet, place);
    }

    // Fines, laughs and bargains

    public int fine(int sheet, int place, boolean isAgain) throws IndexOutOfBoundsException {
        if (!state.hasPlace(sheet, place)) {
            throw new IndexOutOfBoundsException("no such place");
        }
        return isAgain ? state.fineAtOnce(sheet, place) : state.fineByRules(sheet, place);
    }

    public int fines(int sheet, boolean isAgain) throws IndexOutOfBoundsException {
        if (!state.hasSheet(sheet)) {
            throw new IndexOutOfBoundsException("no such sheet");
        }
        return isAgain ? finesInThought(sheet) : state.finesByPlace(sheet);
    }

    public boolean canMend(int sheet) throws IndexOutOfBoundsException {
        if (!state.hasSheet(sheet)) {
            throw new IndexOutOfBoundsException("no such sheet");
        }
        return state.finesByPlace(sheet) <= state.coins[state.owners[sheet]];
    }

    public int laughing(int sheet, int place) throws IndexOutOfBoundsException {
        if (!state.hasPlace(sheet, place)) {
            throw new IndexOutOfBoundsException("no such place");
        }
        return state.laughersAt(sheet, place);
    }

    public int bargain(boolean isPlace) throws NoSuchElementException {
        int best = bestBargain();
        if (best == NONE) {
            throw new NoSuchElementException("no bargain");
        }
        return isPlace ? best % MOST_LETTERS : best / MOST_LETTERS;
    }

    public int wouldShame(int house) throws IndexOutOfBoundsException {
        if (!state.hasHouse(house)) {
            throw new IndexOutOfBoundsException("no such house");
        }
        return atMostKept(state.shame[house] + state.shameToCome(house));
    }

    public int wouldLaugh(boolean isAgain) {
        return isAgain ? state.laughsByReader() : state.laughsByMisprint();
    }

    public int nearest(int sheet) throws IndexOutOfBoundsException {
        if (!state.hasSheet(sheet)) {
            throw new IndexOutOfBoundsException("no such sheet");
        }
        int best = 0;
        for (int other = 1; other < state.sheets; other++) {
            if (state.unlike(sheet, other) < state.unlike(sheet, best)) {
                best = other;
            }
        }
        return best;
    }

    public int calmIn(int house) throws IndexOutOfBoundsException {
        if (!state.hasHouse(house)) {
            throw new IndexOutOfBoundsException("no such house");
        }
        return Math.max(0, state.shame[house] - MOST_CALM_SHAME);
    }

    // Orders, lines, texts, accounts, undo and snapshot

    public int ashamed(int place) throws NoSuchElementException {
        for (int house = 0; house < state.houses; house++) {
            if (state.rankOfHouse(house) == place) {
                return house;
            }
        }
        throw new NoSuchElementException("no such place");
    }

    public int worst(int place) throws NoSuchElementException {
        for (int sheet = 0; sheet < state.sheets; sheet++) {
            if (state.rankOfSheet(sheet) == place) {
                return sheet;
            }
        }
        throw new NoSuchElementException("no such place");
    }

    public int line(int sheet) throws IndexOutOfBoundsException {
        if (!state.hasSheet(sheet)) {
            throw new IndexOutOfBoundsException("no such sheet");
        }
        written.length = 0;
        written.putNumber(state.owners[sheet]);
        written.put(':');
        for (int place = 0; place < state.lengths[sheet]; place++) {
            writePlace(sheet, place);
        }
        return written.length;
    }

    public int houseLine(int house) throws IndexOutOfBoundsException {
        if (!state.hasHouse(house)) {
            throw new IndexOutOfBoundsException("no such house");
        }
        written.length = 0;
        written.putNumber(house);
        written.put('$');
        written.putNumber(state.coins[house]);
        written.put('~');
        written.putNumber(state.shame[house]);
        if (state.isAshamed(house)) {
            written.put('*');
        }
        return written.length;
    }

    public char character(int index) throws IndexOutOfBoundsException {
        if (index < 0 || index >= written.length) {
            throw new IndexOutOfBoundsException("no such character");
        }
        return written.signs[index];
    }

    public int append(char c) throws IllegalStateException {
        if (input.length >= MOST_INPUT) {
            throw new IllegalStateException("the input is full");
        }
        input.signs[input.length] = c;
        input.length++;
        return input.length;
    }

    public int run() throws IllegalArgumentException, UnsupportedOperationException {
        errorOffset = input.findError();
        before.copyFrom(state);
        int outcome = errorOffset == NONE ? carryOutAll() : ILLEGAL;
        input.length = 0;
        if (outcome < 0) {
            state.copyFrom(before);
        }
        if (outcome == REFUSED) {
            throw new UnsupportedOperationException("an order is refused");
        }
        if (outcome < 0) {
            throw new IllegalArgumentException("the text cannot be carried out");
        }
        history.keep(before);
        return outcome;
    }

    public int errorPosition() {
        return errorOffset;
    }

    public int refusal(boolean isBehind, boolean isDetail) throws NoSuchElementException {
        int reason = isBehind ? latestRefusal.reasonBehind : latestRefusal.reason;
        if (reason == NO_REASON) {
            throw new NoSuchElementException("no such reason");
        }
        if (!isDetail) {
            return reason;
        }
        return isBehind ? latestRefusal.detailBehind : latestRefusal.detail;
    }

    public int account(int what) throws IllegalArgumentException {
        if (what < 0 || what > LAST_ACCOUNT) {
            throw new IllegalArgumentException("no such account");
        }
        if (what == 13) {
            return input.length;
        }
        if (what == 14) {
            return history.count;
        }
        return state.sumUp(what);
    }

    public boolean isWell() {
        if (state.laughsByMisprint() != state.laughsByReader()) {
            return false;
        }
        for (int sheet = 0; sheet < state.sheets; sheet++) {
            if (state.finesByPlace(sheet) != finesInThought(sheet) || !isSheetWell(sheet)) {
                return false;
            }
        }
        return true;
    }

    public double meanShame() throws ArithmeticException {
        if (state.houses == 0) {
            throw new ArithmeticException("no houses");
        }
        int sum = 0;
        for (int house = 0; house < state.houses; house++) {
            sum += state.shame[house];
        }
        return (double) sum / (double) state.houses;
    }

    public float errorShare() throws ArithmeticException {
        int letters = 0;
        for (int sheet = 0; sheet < state.sheets; sheet++) {
            letters += state.lengths[sheet];
        }
        if (letters == 0) {
            throw new ArithmeticException("no sheets");
        }
        return (float) state.countInAll(PLAIN) / (float) letters;
    }

    public int undo() throws IllegalStateException {
        if (history.count == 0) {
            throw new IllegalStateException("nothing to undo");
        }
        history.takeBack(state);
        return history.count;
    }

    public int save() {
        snapshot.copyFrom(state);
        hasSnapshot = true;
        return state.sheets;
    }

    public int restore() throws IllegalStateException {
        if (!hasSnapshot) {
            throw new IllegalStateException("no snapshot");
        }
        state.copyFrom(snapshot);
        history.count = 0;
        return state.sheets;
    }

    // Changes: each answers OUTSIDE, ILLEGAL or REFUSED and changes nothing, or is made

    /** Keeps what was before a change that was made, and throws for one that was not. */
    private int settle(int outcome) {
        if (outcome == OUTSIDE) {
            throw new IndexOutOfBoundsException("no such house, sheet or place");
        }
        if (outcome == ILLEGAL) {
            throw new IllegalArgumentException("out of range");
        }
        if (outcome == REFUSED) {
            throw new UnsupportedOperationException("refused");
        }
        history.keep(before);
        return outcome;
    }

    private int refuse(int reason, int detail) {
        latestRefusal.become(reason, detail);
        return REFUSED;
    }

    private int addHouse(int coins) {
        if (coins < 0 || coins > MOST_KEPT) {
            return ILLEGAL;
        }
        if (state.houses >= MOST_HOUSES) {
            return refuse(FULL, MOST_HOUSES);
        }
        return state.appendHouse(coins);
    }

    private int addSheet(int house, int word) {
        if (!state.hasHouse(house)) {
            return OUTSIDE;
        }
        int letters = lettersIn(word);
        if (letters == 0) {
            return ILLEGAL;
        }
        if (state.sheets >= MOST_SHEETS) {
            return refuse(FULL, MOST_SHEETS);
        }
        return state.appendSheet(house, word, letters);
    }

    private int takeSheet(int sheet) {
        if (!state.hasSheet(sheet)) {
            return OUTSIDE;
        }
        state.removeSheet(sheet);
        return state.sheets;
    }

    private int setLetter(int sheet, int place, char letter) {
        if (!state.hasPlace(sheet, place)) {
            return OUTSIDE;
        }
        if (letter < 'a' || letter > 'f') {
            return ILLEGAL;
        }
        int number = letter - 'a' + 1;
        if (number == state.placedAt(sheet, place)) {
            return refuse(SET_ALREADY, place);
        }
        if (number == state.rightAt(sheet, place)) {
            return refuse(RIGHT_LETTER, place);
        }
        state.putLetter(sheet, place, number);
        return state.countOnSheet(sheet, PLAIN);
    }

    private int sellLicence(int sheet, int place) {
        if (!state.hasPlace(sheet, place)) {
            return OUTSIDE;
        }
        int level = state.levelAt(sheet, place);
        int house = state.owners[sheet];
        int cost = state.licenceCost(house);
        if (level == RIGHT) {
            return refuse(NO_MISPRINT, place);
        }
        if (level >= LICENSED) {
            return refuse(LICENSED_ALREADY, place);
        }
        if (state.isAshamed(house)) {
            return refuse(ASHAMED, state.shame[house]);
        }
        if (cost > state.coins[house]) {
            return refuse(TOO_FEW_COINS, state.coins[house]);
        }
        state.coins[house] -= cost;
        state.licencesPaid += cost;
        state.levels[sheet * MOST_LETTERS + place] = LICENSED;
        return cost;
    }

    private int takeFine(int sheet, int place) {
        if (!state.hasPlace(sheet, place)) {
            return OUTSIDE;
        }
        int house = state.owners[sheet];
        int due = state.fineByRules(sheet, place);
        if (state.levelAt(sheet, place) == RIGHT) {
            return refuse(NO_MISPRINT, place);
        }
        if (due > state.coins[house]) {
            return refuse(TOO_FEW_COINS, state.coins[house]);
        }
        state.coins[house] -= due;
        state.finesPaid[house] += due;
        state.putLetter(sheet, place, state.rightAt(sheet, place));
        return due;
    }

    private int addReader(int kind, int taste) {
        if (kind < 0 || kind > 1 || taste < 1 || taste > ALPHABET) {
            return ILLEGAL;
        }
        if (state.readers >= MOST_READERS) {
            return refuse(FULL, MOST_READERS);
        }
        return state.appendReader(kind, taste);
    }

    private int printEdition() {
        if (state.countInAll(LICENSED) == state.countInAll(SHOWN)) {
            return refuse(NOTHING_TO_PRINT, state.editions);
        }
        int laughsNow = 0;
        for (int sheet = 0; sheet < state.sheets; sheet++) {
            for (int place = 0; place < state.lengths[sheet]; place++) {
                if (state.levelAt(sheet, place) == LICENSED) {
                    laughsNow += state.printOne(sheet, place);
                }
            }
        }
        state.editions++;
        state.laughs += laughsNow;
        return laughsNow;
    }

    /** Carries out the orders of a text without error until one cannot be; answers how many, or what hinders it. */
    private int carryOutAll() {
        int done = 0;
        input.at = 0;
        for (int k = 0; k < MOST_INPUT && input.at < input.length && input.readNext(); k++) {
            int outcome = carryOutOrder();
            if (outcome == REFUSED) {
                latestRefusal.standBehind(ORDER_REFUSED, done);
            }
            if (outcome < 0) {
                return outcome;
            }
            done++;
        }
        return done;
    }

    private int carryOutOrder() {
        switch (input.order) {
            case 'h':
                return addHouse(input.first);
            case 's':
                return addSheet(input.first, input.second);
            case 'm':
                return setLetter(input.first, input.second, input.letter);
            case 'l':
                return sellLicence(input.first, input.second);
            case 'c':
                return takeFine(input.first, input.second);
            case 'r':
                return addReader(input.first, input.second);
            case 'x':
                return takeSheet(input.first);
            case 'e':
                return printEdition();
            default:
                return state.passDay();
        }
    }

    // Second ways and helpers

    private int finesInThought(int sheet) {
        thought.copyFrom(state);
        int sum = 0;
        for (int place = 0; place < thought.lengths[sheet]; place++) {
            sum += thought.fineByRules(sheet, place);
            thought.putLetter(sheet, place, thought.rightAt(sheet, place));
        }
        return sum;
    }

    private boolean isSheetWell(int sheet) {
        for (int place = 0; place < state.lengths[sheet]; place++) {
            if (state.fineByRules(sheet, place) != state.fineAtOnce(sheet, place)) {
                return false;
            }
            if (state.levelAt(sheet, place) >= LICENSED && !state.isMisprint(sheet, place)) {
                return false;
            }
        }
        return true;
    }

    /** The sheet and the place of the best bargain in one number, or NONE. */
    private int bestBargain() {
        int best = NONE;
        int bestWorth = 0;
        for (int sheet = 0; sheet < state.sheets; sheet++) {
            int cost = state.licenceCost(state.owners[sheet]);
            boolean canLicense = state.canPayLicence(state.owners[sheet]);
            for (int place = 0; canLicense && place < state.lengths[sheet]; place++) {
                int worth = Integer.bitCount(state.laughersAt(sheet, place)) - cost;
                if (state.levelAt(sheet, place) == PLAIN && (best == NONE || worth > bestWorth)) {
                    best = sheet * MOST_LETTERS + place;
                    bestWorth = worth;
                }
            }
        }
        return best;
    }

    private void writePlace(int sheet, int place) {
        int level = state.levelAt(sheet, place);
        char letter = letterOf(state.placedAt(sheet, place));
        written.put(level == RIGHT ? letter : (char) (letter - 'a' + 'A'));
        if (level == LICENSED) {
            written.put('\'');
        }
        if (level == SHOWN) {
            written.put('!');
        }
    }

    /** How many letters a word has, 0 for what is no word. */
    private static int lettersIn(int word) {
        int rest = word;
        int letters = 0;
        while (letters < MOST_LETTERS && rest % 10 >= 1 && rest % 10 <= ALPHABET) {
            rest /= 10;
            letters++;
        }
        return rest == 0 && letters >= LEAST_LETTERS ? letters : 0;
    }

    private static char letterOf(int number) {
        return (char) ('a' + number - 1);
    }

    private static int atMostKept(int number) {
        return Math.min(MOST_KEPT, number);
    }

    /** What changes can change; its callers look at house, sheet and place before they ask. */
    private static final class State {
        int houses;
        int sheets;
        int readers;
        int days;
        int editions;
        int printed;
        int laughs;
        int licencesPaid;
        final int[] coins = new int[MOST_HOUSES];
        final int[] shame = new int[MOST_HOUSES];
        final int[] finesPaid = new int[MOST_HOUSES];
        final int[] owners = new int[MOST_SHEETS];
        final int[] lengths = new int[MOST_SHEETS];
        /** The letters of a sheet stand from MOST_LETTERS times its number. */
        final int[] rights = new int[MOST_SHEETS * MOST_LETTERS];
        final int[] placed = new int[MOST_SHEETS * MOST_LETTERS];
        final int[] levels = new int[MOST_SHEETS * MOST_LETTERS];
        final int[] kinds = new int[MOST_READERS];
        final int[] tastes = new int[MOST_READERS];

        void copyFrom(State other) {
            houses = other.houses;
            sheets = other.sheets;
            readers = other.readers;
            days = other.days;
            editions = other.editions;
            printed = other.printed;
            laughs = other.laughs;
            licencesPaid = other.licencesPaid;
            System.arraycopy(other.coins, 0, coins, 0, MOST_HOUSES);
            System.arraycopy(other.shame, 0, shame, 0, MOST_HOUSES);
            System.arraycopy(other.finesPaid, 0, finesPaid, 0, MOST_HOUSES);
            System.arraycopy(other.owners, 0, owners, 0, MOST_SHEETS);
            System.arraycopy(other.lengths, 0, lengths, 0, MOST_SHEETS);
            System.arraycopy(other.rights, 0, rights, 0, MOST_SHEETS * MOST_LETTERS);
            System.arraycopy(other.placed, 0, placed, 0, MOST_SHEETS * MOST_LETTERS);
            System.arraycopy(other.levels, 0, levels, 0, MOST_SHEETS * MOST_LETTERS);
            System.arraycopy(other.kinds, 0, kinds, 0, MOST_READERS);
            System.arraycopy(other.tastes, 0, tastes, 0, MOST_READERS);
        }

        boolean hasHouse(int house) {
            return house >= 0 && house < houses;
        }

        boolean hasSheet(int sheet) {
            return sheet >= 0 && sheet < sheets;
        }

        boolean hasPlace(int sheet, int place) {
            return hasSheet(sheet) && place >= 0 && place < lengths[sheet];
        }

        int rightAt(int sheet, int place) {
            return rights[sheet * MOST_LETTERS + place];
        }

        int placedAt(int sheet, int place) {
            return placed[sheet * MOST_LETTERS + place];
        }

        boolean isMisprint(int sheet, int place) {
            return placedAt(sheet, place) != rightAt(sheet, place);
        }

        /** RIGHT, PLAIN, LICENSED or SHOWN. */
        int levelAt(int sheet, int place) {
            return levels[sheet * MOST_LETTERS + place];
        }

        int howBad(int sheet, int place) {
            int cell = sheet * MOST_LETTERS + place;
            return Math.abs(placed[cell] - rights[cell]);
        }

        boolean isAshamed(int house) {
            return shame[house] > MOST_CALM_SHAME;
        }

        // What is counted

        /** The places of a sheet that are at a level or above it: PLAIN counts all misprints. */
        int countOnSheet(int sheet, int level) {
            int count = 0;
            for (int place = 0; place < lengths[sheet]; place++) {
                if (levels[sheet * MOST_LETTERS + place] >= level) {
                    count++;
                }
            }
            return count;
        }

        int countOfHouse(int house, int level) {
            int count = 0;
            for (int sheet = 0; sheet < sheets; sheet++) {
                if (owners[sheet] == house) {
                    count += countOnSheet(sheet, level);
                }
            }
            return count;
        }

        int countInAll(int level) {
            int count = 0;
            for (int sheet = 0; sheet < sheets; sheet++) {
                count += countOnSheet(sheet, level);
            }
            return count;
        }

        int badness(int sheet) {
            int sum = 0;
            for (int place = 0; place < lengths[sheet]; place++) {
                sum += howBad(sheet, place);
            }
            return sum;
        }

        int sheetsOf(int house) {
            int count = 0;
            for (int sheet = 0; sheet < sheets; sheet++) {
                if (owners[sheet] == house) {
                    count++;
                }
            }
            return count;
        }

        int ashamedHouses() {
            int count = 0;
            for (int house = 0; house < houses; house++) {
                if (isAshamed(house)) {
                    count++;
                }
            }
            return count;
        }

        int numberOfHouse(int house, int what) {
            switch (what) {
                case 0:
                    return coins[house];
                case 1:
                    return shame[house];
                case 2:
                    return sheetsOf(house);
                case 3:
                    return countOfHouse(house, PLAIN);
                case 4:
                    return countOfHouse(house, LICENSED);
                case 5:
                    return licenceCost(house);
                default:
                    return finesPaid[house];
            }
        }

        int numberOfSheet(int sheet, int what) {
            switch (what) {
                case 0:
                    return owners[sheet];
                case 1:
                    return lengths[sheet];
                case 2:
                    return countOnSheet(sheet, PLAIN);
                case 3:
                    return countOnSheet(sheet, LICENSED);
                case 4:
                    return countOnSheet(sheet, SHOWN);
                default:
                    return badness(sheet);
            }
        }

        /** The accounts 0 to 12. */
        int sumUp(int what) {
            switch (what) {
                case 0:
                    return houses;
                case 1:
                    return sheets;
                case 2:
                    return readers;
                case 3:
                    return days;
                case 4:
                    return editions;
                case 5:
                    return countInAll(PLAIN);
                case 6:
                    return countInAll(LICENSED);
                case 7:
                    return countInAll(SHOWN);
                case 8:
                    return printed;
                case 9:
                    return laughs;
                case 10:
                    return licencesPaid;
                case 11:
                    return sumOfHouses(finesPaid);
                default:
                    return sumOfHouses(coins);
            }
        }

        private int sumOfHouses(int[] row) {
            int sum = 0;
            for (int house = 0; house < houses && house < row.length; house++) {
                sum += row[house];
            }
            return sum;
        }

        // Licences, fines and laughs

        int licenceCost(int house) {
            return 2 + countOfHouse(house, LICENSED);
        }

        boolean canPayLicence(int house) {
            return !isAshamed(house) && coins[house] >= licenceCost(house);
        }

        int fineByRules(int sheet, int place) {
            int level = levelAt(sheet, place);
            if (level == RIGHT) {
                return 0;
            }
            int due = 1 + howBad(sheet, place);
            if (level >= LICENSED) {
                due += 2;
            }
            if (level == SHOWN) {
                due *= 2;
            }
            return due;
        }

        int fineAtOnce(int sheet, int place) {
            switch (levelAt(sheet, place)) {
                case PLAIN:
                    return howBad(sheet, place) + 1;
                case LICENSED:
                    return howBad(sheet, place) + 3;
                case SHOWN:
                    return 2 * howBad(sheet, place) + 6;
                default:
                    return 0;
            }
        }

        int finesByPlace(int sheet) {
            int sum = 0;
            for (int place = 0; place < lengths[sheet]; place++) {
                sum += fineByRules(sheet, place);
            }
            return sum;
        }

        /** Whether a reader laughs at a misprint with this letter that is so bad. */
        private boolean isLaughing(int reader, int letter, int bad) {
            return kinds[reader] == 0 ? letter == tastes[reader] : bad >= tastes[reader];
        }

        int laughersAt(int sheet, int place) {
            int letter = placedAt(sheet, place);
            int bad = howBad(sheet, place);
            int laughers = 0;
            for (int reader = 0; bad > 0 && reader < readers; reader++) {
                if (isLaughing(reader, letter, bad)) {
                    laughers |= 1 << reader;
                }
            }
            return laughers;
        }

        int laughsByMisprint() {
            int sum = 0;
            for (int sheet = 0; sheet < sheets; sheet++) {
                for (int place = 0; place < lengths[sheet]; place++) {
                    if (levelAt(sheet, place) == LICENSED) {
                        sum += Integer.bitCount(laughersAt(sheet, place));
                    }
                }
            }
            return sum;
        }

        int laughsByReader() {
            int sum = 0;
            for (int reader = 0; reader < readers; reader++) {
                sum += laughsOf(reader);
            }
            return sum;
        }

        private int laughsOf(int reader) {
            int count = 0;
            for (int sheet = 0; sheet < sheets; sheet++) {
                for (int place = 0; place < lengths[sheet]; place++) {
                    boolean isDue = levelAt(sheet, place) == LICENSED;
                    if (isDue && isLaughing(reader, placedAt(sheet, place), howBad(sheet, place))) {
                        count++;
                    }
                }
            }
            return count;
        }

        int shameToCome(int house) {
            int sum = 0;
            for (int sheet = 0; sheet < sheets; sheet++) {
                for (int place = 0; owners[sheet] == house && place < lengths[sheet]; place++) {
                    if (levelAt(sheet, place) == LICENSED) {
                        sum += howBad(sheet, place);
                    }
                }
            }
            return sum;
        }

        // Words and orders

        /** How many letters set on a sheet and of the right word of another are unlike, or just one has. */
        int unlike(int sheet, int other) {
            int both = Math.min(lengths[sheet], lengths[other]);
            int count = Math.max(lengths[sheet], lengths[other]) - both;
            for (int place = 0; place < both; place++) {
                if (placedAt(sheet, place) != rightAt(other, place)) {
                    count++;
                }
            }
            return count;
        }

        int rankOfHouse(int house) {
            int rank = 0;
            for (int other = 0; other < houses; other++) {
                if (isMoreAshamed(other, house)) {
                    rank++;
                }
            }
            return rank;
        }

        private boolean isMoreAshamed(int house, int other) {
            if (shame[house] != shame[other]) {
                return shame[house] > shame[other];
            }
            if (coins[house] != coins[other]) {
                return coins[house] < coins[other];
            }
            return house < other;
        }

        int rankOfSheet(int sheet) {
            int rank = 0;
            for (int other = 0; other < sheets; other++) {
                if (isWorse(other, sheet)) {
                    rank++;
                }
            }
            return rank;
        }

        private boolean isWorse(int sheet, int other) {
            int more = badness(sheet) - badness(other);
            if (more == 0) {
                more = countOnSheet(sheet, PLAIN) - countOnSheet(other, PLAIN);
            }
            return more > 0 || more == 0 && sheet < other;
        }

        // Changes that can be made: their callers have looked at what stands against them

        int appendHouse(int withCoins) {
            coins[houses] = withCoins;
            shame[houses] = 0;
            finesPaid[houses] = 0;
            houses++;
            return houses - 1;
        }

        int appendSheet(int house, int word, int letters) {
            int rest = word;
            owners[sheets] = house;
            lengths[sheets] = letters;
            for (int place = letters - 1; place >= 0; place--) {
                rights[sheets * MOST_LETTERS + place] = rest % 10;
                putLetter(sheets, place, rest % 10);
                rest /= 10;
            }
            sheets++;
            return sheets - 1;
        }

        int appendReader(int kind, int taste) {
            kinds[readers] = kind;
            tastes[readers] = taste;
            readers++;
            return readers - 1;
        }

        void removeSheet(int sheet) {
            int later = sheets - sheet - 1;
            int from = (sheet + 1) * MOST_LETTERS;
            int to = sheet * MOST_LETTERS;
            System.arraycopy(owners, sheet + 1, owners, sheet, later);
            System.arraycopy(lengths, sheet + 1, lengths, sheet, later);
            System.arraycopy(rights, from, rights, to, later * MOST_LETTERS);
            System.arraycopy(placed, from, placed, to, later * MOST_LETTERS);
            System.arraycopy(levels, from, levels, to, later * MOST_LETTERS);
            sheets--;
        }

        /** Sets a letter; whatever was licensed or shown at its place is gone with the letter before. */
        void putLetter(int sheet, int place, int number) {
            int cell = sheet * MOST_LETTERS + place;
            placed[cell] = number;
            levels[cell] = number == rights[cell] ? RIGHT : PLAIN;
        }

        /** Prints a misprint; answers how many readers laugh. */
        int printOne(int sheet, int place) {
            int house = owners[sheet];
            int laughers = Integer.bitCount(laughersAt(sheet, place));
            shame[house] = atMostKept(shame[house] + howBad(sheet, place));
            coins[house] = atMostKept(coins[house] + laughers);
            levels[sheet * MOST_LETTERS + place] = SHOWN;
            printed++;
            return laughers;
        }

        /** Lets a day go by; answers how many houses are ashamed then. */
        int passDay() {
            for (int house = 0; house < houses; house++) {
                shame[house] = Math.max(0, shame[house] - 1);
                coins[house] = atMostKept(coins[house] + 1);
            }
            days++;
            return ashamedHouses();
        }
    }

    /** The states before the latest changes, in rows that are used again in a ring. */
    private static final class History {
        private final State[] rows = new State[MOST_CHANGES];
        private int next;
        int count;

        History() {
            for (int k = 0; k < MOST_CHANGES; k++) {
                rows[k] = new State();
            }
        }

        void keep(State earlier) {
            rows[next].copyFrom(earlier);
            next = (next + 1) % MOST_CHANGES;
            count = Math.min(MOST_CHANGES, count + 1);
        }

        /** Its caller has seen that count is not 0. */
        void takeBack(State into) {
            next = (next + MOST_CHANGES - 1) % MOST_CHANGES;
            into.copyFrom(rows[next]);
            count--;
        }
    }

    /** The latest refusal, and what stands behind it. */
    private static final class Refusal {
        int reason = NO_REASON;
        int detail;
        int reasonBehind = NO_REASON;
        int detailBehind;

        void become(int newReason, int newDetail) {
            reason = newReason;
            detail = newDetail;
            reasonBehind = NO_REASON;
            detailBehind = 0;
        }

        /** Puts the latest refusal behind a new one. */
        void standBehind(int newReason, int newDetail) {
            reasonBehind = reason;
            detailBehind = detail;
            reason = newReason;
            detail = newDetail;
        }
    }

    /** The input, and what was read last of it. */
    private static final class OrderText {
        final char[] signs = new char[MOST_INPUT];
        int length;
        int at;
        char order;
        int first;
        int second;
        char letter;

        /** The error position, or NONE; each order takes a sign at least, so that the bound is never met. */
        int findError() {
            at = 0;
            for (int k = 0; k < MOST_INPUT; k++) {
                if (!readNext()) {
                    return at;
                }
                if (at >= length) {
                    return NONE;
                }
            }
            return at;
        }

        /** Reads an order, and the semicolon before it; if it cannot be, at stands where it fails. */
        boolean readNext() {
            if (at > 0 && !readSign(';')) {
                return false;
            }
            if (at >= length || at >= MOST_INPUT) {
                return false;
            }
            order = signs[at];
            return readOrder();
        }

        private boolean readOrder() {
            switch (order) {
                case 'h':
                    at++;
                    return readCoins();
                case 's':
                    at++;
                    return readFirst() && readSign('=') && readWord();
                case 'm':
                    at++;
                    return readFirst() && readSecond() && readLetter();
                case 'l':
                case 'c':
                case 'r':
                    at++;
                    return readFirst() && readSecond();
                case 'x':
                    at++;
                    return readFirst();
                case 'e':
                case 'd':
                    at++;
                    return true;
                default:
                    return false;
            }
        }

        private boolean isAhead(char least, char most) {
            return at < length && at < MOST_INPUT && signs[at] >= least && signs[at] <= most;
        }

        private boolean readSign(char sign) {
            if (!isAhead(sign, sign)) {
                return false;
            }
            at++;
            return true;
        }

        private boolean readFirst() {
            first = readDigit();
            return first != NONE;
        }

        private boolean readSecond() {
            second = readDigit();
            return second != NONE;
        }

        private int readDigit() {
            if (!isAhead('0', '9')) {
                return NONE;
            }
            int digit = signs[at] - '0';
            at++;
            return digit;
        }

        private boolean readCoins() {
            first = readDigit();
            if (first != NONE && isAhead('0', '9')) {
                first = first * 10 + readDigit();
            }
            return first != NONE;
        }

        private boolean readLetter() {
            if (!isAhead('a', 'f')) {
                return false;
            }
            letter = signs[at];
            at++;
            return true;
        }

        private boolean readWord() {
            int letters = 0;
            second = 0;
            while (letters < MOST_LETTERS && readLetter()) {
                second = second * 10 + letter - 'a' + 1;
                letters++;
            }
            return letters >= LEAST_LETTERS;
        }
    }

    /** The line; no line is longer than its row. */
    private static final class LineText {
        final char[] signs = new char[MOST_LINE];
        int length;

        void put(char sign) {
            if (length < MOST_LINE) {
                signs[length] = sign;
                length++;
            }
        }

        /** Writes a number from 0 to 99. */
        void putNumber(int number) {
            if (number >= 10) {
                put((char) ('0' + number / 10));
            }
            put((char) ('0' + number % 10));
        }
    }
}
