import java.util.ArrayDeque;
import java.util.ArrayList;
import java.util.Deque;
import java.util.HashSet;
import java.util.List;
import java.util.NoSuchElementException;
import java.util.Set;
import java.util.regex.Matcher;
import java.util.regex.Pattern;

/** The document once more, told in strings and lists instead of rows: ModelTest holds the class against it. */
final class Model {
    private static final Pattern TEXT = Pattern.compile(
        "(h\\d{1,2}|s\\d=[a-f]{3,8}|m\\d\\d[a-f]|[lcr]\\d\\d|x\\d|[ed])(;(h\\d{1,2}|s\\d=[a-f]{3,8}|m\\d\\d[a-f]|[lcr]\\d\\d|x\\d|[ed]))*");

    private static final class House {
        int coins;
        int shame;
        int fines;

        void gain(int more) {
            coins = coins + more > 99 ? 99 : coins + more;
        }

        void blush(int more) {
            shame = shame + more > 99 ? 99 : shame + more;
        }
    }

    private static final class Sheet {
        House house;
        String right;
        String set;
        Set<Integer> licensed = new HashSet<>();
        Set<Integer> shown = new HashSet<>();

        int bad(int place) {
            return Math.abs(right.charAt(place) - set.charAt(place));
        }

        int misprints() {
            int count = 0;
            for (int place = 0; place < right.length(); place++) {
                count += bad(place) > 0 ? 1 : 0;
            }
            return count;
        }

        int together() {
            int sum = 0;
            for (int place = 0; place < right.length(); place++) {
                sum += bad(place);
            }
            return sum;
        }

        void put(int place, char letter) {
            set = set.substring(0, place) + letter + set.substring(place + 1);
            licensed.remove(place);
            shown.remove(place);
        }

        int fine(int place) {
            int fine = bad(place) == 0 ? 0 : bad(place) + 1 + (licensed.contains(place) ? 2 : 0);
            return shown.contains(place) ? fine + fine : fine;
        }

        int fines() {
            int sum = 0;
            for (int place = 0; place < right.length(); place++) {
                sum += fine(place);
            }
            return sum;
        }
    }

    private static final class World {
        List<House> houses = new ArrayList<>();
        List<Sheet> sheets = new ArrayList<>();
        List<int[]> readers = new ArrayList<>();
        int day;
        int editions;
        int printed;
        int laughs;
        int paid;

        World copy() {
            World other = new World();
            for (House house : houses) {
                House twin = new House();
                twin.coins = house.coins;
                twin.shame = house.shame;
                twin.fines = house.fines;
                other.houses.add(twin);
            }
            for (Sheet sheet : sheets) {
                Sheet twin = new Sheet();
                twin.house = other.houses.get(houses.indexOf(sheet.house));
                twin.right = sheet.right;
                twin.set = sheet.set;
                twin.licensed.addAll(sheet.licensed);
                twin.shown.addAll(sheet.shown);
                other.sheets.add(twin);
            }
            other.readers.addAll(readers);
            other.day = day;
            other.editions = editions;
            other.printed = printed;
            other.laughs = laughs;
            other.paid = paid;
            return other;
        }
    }

    private World world = new World();
    private World saved;
    private final Deque<World> past = new ArrayDeque<>();
    private String input = "";
    private String line = "";
    private int error = -1;
    private int[] reason;
    private int[] behind;

    private UnsupportedOperationException refused(int number, int detail) {
        reason = new int[] {number, detail};
        behind = null;
        return new UnsupportedOperationException();
    }

    private static void inside(boolean isInside) {
        if (!isInside) {
            throw new IndexOutOfBoundsException();
        }
    }

    private static void legal(boolean isLegal) {
        if (!isLegal) {
            throw new IllegalArgumentException();
        }
    }

    private Sheet sheetAt(int sheet) {
        inside(sheet >= 0 && sheet < world.sheets.size());
        return world.sheets.get(sheet);
    }

    private Sheet sheetAt(int sheet, int place) {
        Sheet at = sheetAt(sheet);
        inside(place >= 0 && place < at.right.length());
        return at;
    }

    private House houseAt(int house) {
        inside(house >= 0 && house < world.houses.size());
        return world.houses.get(house);
    }

    private interface Change {
        int make();
    }

    private int changed(Change change) {
        World before = world.copy();
        int answer = change.make();
        past.addLast(before);
        if (past.size() > 8) {
            past.removeFirst();
        }
        return answer;
    }

    // Changes

    int house(int coins) {
        return changed(() -> doHouse(coins));
    }

    int sheet(int house, int word) {
        return changed(() -> doSheet(house, Integer.toString(word)));
    }

    int take(int sheet) {
        return changed(() -> doTake(sheet));
    }

    int set(int sheet, int place, char letter) {
        return changed(() -> doSet(sheet, place, letter));
    }

    int license(int sheet, int place) {
        return changed(() -> doLicense(sheet, place));
    }

    int correct(int sheet, int place) {
        return changed(() -> doCorrect(sheet, place));
    }

    int reader(int kind, int taste) {
        return changed(() -> doReader(kind, taste));
    }

    int edition() {
        return changed(this::doEdition);
    }

    int day() {
        return changed(this::doDay);
    }

    private int doHouse(int coins) {
        legal(coins >= 0 && coins <= 99);
        if (world.houses.size() == 4) {
            throw refused(1, 4);
        }
        House house = new House();
        house.coins = coins;
        world.houses.add(house);
        return world.houses.size() - 1;
    }

    private int doSheet(int house, String digits) {
        House owner = houseAt(house);
        legal(digits.matches("[1-6]{3,8}"));
        if (world.sheets.size() == 8) {
            throw refused(1, 8);
        }
        Sheet sheet = new Sheet();
        sheet.house = owner;
        StringBuilder word = new StringBuilder();
        for (char digit : digits.toCharArray()) {
            word.append("?abcdef".charAt(digit - '0'));
        }
        sheet.right = word.toString();
        sheet.set = sheet.right;
        world.sheets.add(sheet);
        return world.sheets.size() - 1;
    }

    private int doTake(int sheet) {
        sheetAt(sheet);
        world.sheets.remove(sheet);
        return world.sheets.size();
    }

    private int doSet(int sheet, int place, char letter) {
        Sheet at = sheetAt(sheet, place);
        legal("abcdef".indexOf(letter) >= 0);
        if (at.set.charAt(place) == letter) {
            throw refused(2, place);
        }
        if (at.right.charAt(place) == letter) {
            throw refused(3, place);
        }
        at.put(place, letter);
        return at.misprints();
    }

    private int price(House house) {
        return 2 + licensedOf(house);
    }

    private int licensedOf(House house) {
        return world.sheets.stream().filter(sheet -> sheet.house == house).mapToInt(sheet -> sheet.licensed.size()).sum();
    }

    private int doLicense(int sheet, int place) {
        Sheet at = sheetAt(sheet, place);
        if (at.bad(place) == 0) {
            throw refused(4, place);
        }
        if (at.licensed.contains(place)) {
            throw refused(5, place);
        }
        if (at.house.shame > 20) {
            throw refused(6, at.house.shame);
        }
        int price = price(at.house);
        if (at.house.coins < price) {
            throw refused(7, at.house.coins);
        }
        at.house.coins -= price;
        world.paid += price;
        at.licensed.add(place);
        return price;
    }

    private int doCorrect(int sheet, int place) {
        Sheet at = sheetAt(sheet, place);
        if (at.bad(place) == 0) {
            throw refused(4, place);
        }
        int fine = at.fine(place);
        if (at.house.coins < fine) {
            throw refused(7, at.house.coins);
        }
        at.house.coins -= fine;
        at.house.fines += fine;
        at.put(place, at.right.charAt(place));
        return fine;
    }

    private int doReader(int kind, int taste) {
        legal((kind == 0 || kind == 1) && taste > 0 && taste < 7);
        if (world.readers.size() == 5) {
            throw refused(1, 5);
        }
        world.readers.add(new int[] {kind, taste});
        return world.readers.size() - 1;
    }

    private Set<Integer> due(Sheet sheet) {
        Set<Integer> due = new HashSet<>(sheet.licensed);
        due.removeAll(sheet.shown);
        return due;
    }

    private int doEdition() {
        int before = world.printed;
        int laughs = 0;
        for (Sheet sheet : world.sheets) {
            for (int place : due(sheet)) {
                int here = Integer.bitCount(laughers(sheet, place));
                sheet.house.blush(sheet.bad(place));
                sheet.house.gain(here);
                laughs += here;
                world.printed++;
                sheet.shown.add(place);
            }
        }
        if (world.printed == before) {
            throw refused(8, world.editions);
        }
        world.editions++;
        world.laughs += laughs;
        return laughs;
    }

    private int doDay() {
        world.day++;
        int ashamed = 0;
        for (House house : world.houses) {
            if (house.shame > 0) {
                house.shame--;
            }
            house.gain(1);
            ashamed += house.shame >= 21 ? 1 : 0;
        }
        return ashamed;
    }

    // Questions

    int houseOf(int house, int what) {
        House at = houseAt(house);
        legal(what >= 0 && what <= 6);
        int sheets = 0;
        int misprints = 0;
        for (Sheet sheet : world.sheets) {
            sheets += sheet.house == at ? 1 : 0;
            misprints += sheet.house == at ? sheet.misprints() : 0;
        }
        return new int[] {at.coins, at.shame, sheets, misprints, licensedOf(at), price(at), at.fines}[what];
    }

    int sheetOf(int sheet, int what) {
        Sheet at = sheetAt(sheet);
        legal(what >= 0 && what <= 5);
        return new int[] {world.houses.indexOf(at.house), at.right.length(), at.misprints(), at.licensed.size(),
            at.shown.size(), at.together()}[what];
    }

    char letterAt(int sheet, int place, boolean isRight) {
        Sheet at = sheetAt(sheet, place);
        return (isRight ? at.right : at.set).charAt(place);
    }

    int markAt(int sheet, int place) {
        Sheet at = sheetAt(sheet, place);
        return (at.bad(place) > 0 ? 1 : 0) + (at.licensed.contains(place) ? 1 : 0) + (at.shown.contains(place) ? 1 : 0);
    }

    int fine(int sheet, int place) {
        return sheetAt(sheet, place).fine(place);
    }

    int fines(int sheet) {
        return sheetAt(sheet).fines();
    }

    boolean canMend(int sheet) {
        return sheetAt(sheet).fines() <= sheetAt(sheet).house.coins;
    }

    int laughing(int sheet, int place) {
        return laughers(sheetAt(sheet, place), place);
    }

    private int laughers(Sheet sheet, int place) {
        int set = 0;
        for (int k = 0; k < world.readers.size() && sheet.bad(place) > 0; k++) {
            int taste = world.readers.get(k)[1];
            boolean likesLetter = world.readers.get(k)[0] == 0 && sheet.set.charAt(place) - 'a' == taste - 1;
            boolean likesBad = world.readers.get(k)[0] == 1 && sheet.bad(place) >= taste;
            set += likesLetter || likesBad ? 1 << k : 0;
        }
        return set;
    }

    int bargain(boolean isPlace) {
        int[] best = null;
        for (int s = world.sheets.size() - 1; s >= 0; s--) {
            Sheet sheet = world.sheets.get(s);
            int price = price(sheet.house);
            for (int place = sheet.right.length() - 1; place >= 0; place--) {
                int worth = Integer.bitCount(laughers(sheet, place)) - price;
                boolean isPlain = sheet.bad(place) > 0 && !sheet.licensed.contains(place);
                boolean canBe = sheet.house.shame < 21 && sheet.house.coins >= price;
                if (isPlain && canBe && (best == null || worth >= best[2])) {
                    best = new int[] {s, place, worth};
                }
            }
        }
        if (best == null) {
            throw new NoSuchElementException();
        }
        return best[isPlace ? 1 : 0];
    }

    int wouldShame(int house) {
        int shame = houseAt(house).shame;
        for (Sheet sheet : world.sheets) {
            for (int place : due(sheet)) {
                shame += sheet.house == houseAt(house) ? sheet.bad(place) : 0;
            }
        }
        return Math.min(shame, 99);
    }

    int wouldLaugh() {
        int laughs = 0;
        for (Sheet sheet : world.sheets) {
            for (int place : due(sheet)) {
                laughs += Integer.bitCount(laughers(sheet, place));
            }
        }
        return laughs;
    }

    int nearest(int sheet) {
        String set = sheetAt(sheet).set + "........";
        int best = 0;
        int least = 99;
        for (int s = 0; s < world.sheets.size(); s++) {
            String right = world.sheets.get(s).right + "........";
            int unlike = 0;
            for (int place = 0; place < 8; place++) {
                unlike += set.charAt(place) == right.charAt(place) ? 0 : 1;
            }
            if (unlike < least) {
                least = unlike;
                best = s;
            }
        }
        return best;
    }

    int calmIn(int house) {
        int shame = houseAt(house).shame;
        int days = 0;
        while (shame - days > 20) {
            days++;
        }
        return days;
    }

    int ashamed(int place) {
        List<House> order = new ArrayList<>(world.houses);
        order.sort((a, b) -> a.shame != b.shame ? b.shame - a.shame : a.coins - b.coins);
        return world.houses.indexOf(ranked(order, place));
    }

    int worst(int place) {
        List<Sheet> order = new ArrayList<>(world.sheets);
        order.sort((a, b) -> a.together() != b.together() ? b.together() - a.together() : b.misprints() - a.misprints());
        return world.sheets.indexOf(ranked(order, place));
    }

    private static <T> T ranked(List<T> order, int place) {
        if (place < 0 || place >= order.size()) {
            throw new NoSuchElementException();
        }
        return order.get(place);
    }

    int line(int sheet) {
        Sheet at = sheetAt(sheet);
        StringBuilder text = new StringBuilder(world.houses.indexOf(at.house) + ":");
        for (int place = 0; place < at.right.length(); place++) {
            String letter = at.set.substring(place, place + 1);
            text.append(at.bad(place) > 0 ? letter.toUpperCase() : letter);
            text.append(at.shown.contains(place) ? "!" : at.licensed.contains(place) ? "'" : "");
        }
        line = text.toString();
        return line.length();
    }

    int houseLine(int house) {
        House at = houseAt(house);
        line = house + "$" + at.coins + "~" + at.shame + (at.shame > 20 ? "*" : "");
        return line.length();
    }

    char character(int index) {
        inside(index >= 0 && index < line.length());
        return line.charAt(index);
    }

    int append(char c) {
        if (input.length() == 60) {
            throw new IllegalStateException();
        }
        input += c;
        return input.length();
    }

    /** The longest beginning that can go on to a text, as the matcher sees it. */
    private static int errorOf(String text) {
        for (int length = 0; length <= text.length(); length++) {
            Matcher matcher = TEXT.matcher(text.substring(0, length));
            boolean isWhole = matcher.matches();
            if (!isWhole && !matcher.hitEnd()) {
                return length - 1;
            }
            if (length == text.length()) {
                return isWhole ? -1 : length;
            }
        }
        return -1;
    }

    int run() {
        String text = input;
        input = "";
        error = errorOf(text);
        legal(error < 0);
        World before = world;
        world = before.copy();
        String[] orders = text.split(";");
        for (int k = 0; k < orders.length; k++) {
            try {
                carryOut(orders[k]);
            } catch (UnsupportedOperationException e) {
                int[] why = reason;
                world = before;
                UnsupportedOperationException thrown = refused(9, k);
                behind = why;
                throw thrown;
            } catch (RuntimeException e) {
                world = before;
                throw new IllegalArgumentException();
            }
        }
        past.addLast(before);
        if (past.size() > 8) {
            past.removeFirst();
        }
        return orders.length;
    }

    private void carryOut(String order) {
        int first = order.length() > 1 ? order.charAt(1) - '0' : 0;
        int second = order.length() > 2 ? order.charAt(2) - '0' : 0;
        switch (order.charAt(0)) {
            case 'h' -> doHouse(Integer.parseInt(order.substring(1)));
            case 's' -> doSheet(first, digits(order.substring(3)));
            case 'm' -> doSet(first, second, order.charAt(3));
            case 'l' -> doLicense(first, second);
            case 'c' -> doCorrect(first, second);
            case 'r' -> doReader(first, second);
            case 'x' -> doTake(first);
            case 'e' -> doEdition();
            default -> doDay();
        }
    }

    private static String digits(String word) {
        StringBuilder digits = new StringBuilder();
        for (char letter : word.toCharArray()) {
            digits.append(letter - 'a' + 1);
        }
        return digits.toString();
    }

    int errorPosition() {
        return error;
    }

    int refusal(boolean isBehind, boolean isDetail) {
        int[] told = isBehind ? behind : reason;
        if (told == null) {
            throw new NoSuchElementException();
        }
        return told[isDetail ? 1 : 0];
    }

    int account(int what) {
        legal(what >= 0 && what < 15);
        int misprints = 0;
        int licensed = 0;
        int shown = 0;
        int coins = 0;
        int fines = 0;
        for (Sheet sheet : world.sheets) {
            misprints += sheet.misprints();
            licensed += sheet.licensed.size();
            shown += sheet.shown.size();
        }
        for (House house : world.houses) {
            coins += house.coins;
            fines += house.fines;
        }
        return new int[] {world.houses.size(), world.sheets.size(), world.readers.size(), world.day, world.editions,
            misprints, licensed, shown, world.printed, world.laughs, world.paid, fines, coins, input.length(),
            past.size()}[what];
    }

    double meanShame() {
        if (world.houses.isEmpty()) {
            throw new ArithmeticException();
        }
        double sum = 0;
        for (House house : world.houses) {
            sum += house.shame;
        }
        return sum / world.houses.size();
    }

    float errorShare() {
        float misprints = 0;
        float letters = 0;
        for (Sheet sheet : world.sheets) {
            misprints += sheet.misprints();
            letters += sheet.right.length();
        }
        if (letters == 0) {
            throw new ArithmeticException();
        }
        return misprints / letters;
    }

    int undo() {
        if (past.isEmpty()) {
            throw new IllegalStateException();
        }
        world = past.removeLast();
        return past.size();
    }

    int save() {
        saved = world.copy();
        return world.sheets.size();
    }

    int restore() {
        if (saved == null) {
            throw new IllegalStateException();
        }
        world = saved.copy();
        past.clear();
        return world.sheets.size();
    }
}
