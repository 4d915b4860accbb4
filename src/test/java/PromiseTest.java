import java.util.ArrayList;
import java.util.Arrays;
import java.util.List;

/** Promise by promise: ordinary inputs, edges, wrong inputs, and that what is refused changes nothing. */
public final class PromiseTest {
    private static final Class<?> INDEX = IndexOutOfBoundsException.class;
    private static final Class<?> ARGUMENT = IllegalArgumentException.class;
    private static final Class<?> STATE = IllegalStateException.class;
    private static final int REFUSED = -9;
    private static final int NONE = -1;
    private static final int[] WRONG_ROWS = {-1, 4, Integer.MIN_VALUE, Integer.MAX_VALUE};
    private static final int[] WRONG_SIGNS = {-1, 128, Integer.MIN_VALUE, Integer.MAX_VALUE};
    private static final int[] WRONG_KINDS = {-1, 5, Integer.MIN_VALUE, Integer.MAX_VALUE};
    private static final int[] WRONG_RADICES = {1, 37, 0, -1, Integer.MIN_VALUE, Integer.MAX_VALUE};
    private static final int[] WRONG_CODE_RADICES = {11, 37, 0, -1, Integer.MIN_VALUE, Integer.MAX_VALUE};

    private static int promise = 0;
    private static int wrong = 0;

    private interface Call {
        Object on(Signproduct x);
    }

    private interface CallOfOne {
        Object on(Signproduct x, int argument);
    }

    public static void main(String[] args) {
        oneSign();
        rows();
        wholeRows();
        cases();
        numbers();
        pieces();
        codes();
        asked();
        whole();
        System.out.println(wrong == 0 ? "promises: all answers are as due" : "promises: " + wrong + " answers are not as due");
        if (wrong != 0) {
            System.exit(1);
        }
    }

    // ---- how a test tells

    private static void fail(String what) {
        wrong++;
        System.out.println("promise " + promise + ": " + what);
    }

    private static void is(Object got, Object due) {
        if (!due.equals(got)) {
            fail("answered " + got + ", due is " + due + ", at " + line());
        }
    }

    private static void rowIs(Signproduct x, int row, String due) {
        if (!plain(x, row).equals(due)) {
            fail("row " + row + " is \"" + plain(x, row) + "\", due is \"" + due + "\", at " + line());
        }
    }

    private static String line() {
        return Arrays.stream(new Throwable().getStackTrace())
                .filter(e -> !e.getMethodName().matches("line|is|rowIs|throwsIt|throwsForAll|refused|counts|asks"))
                .findFirst().map(StackTraceElement::toString).orElse("?");
    }

    /** The row's signs as they are, not as text() has them. */
    private static String plain(Signproduct x, int row) {
        StringBuilder text = new StringBuilder();
        for (int place = 0; place < x.size(row); place++) {
            text.append((char) x.sign(row, place));
        }
        return text.toString();
    }

    // By the checksum, which has all signs in it: an object is promised for 512 calls alone.
    private static String state(Signproduct x) {
        return x.house(0) + "|" + x.house(2) + "|" + x.digest();
    }

    private static Signproduct with(String... texts) {
        Signproduct x = new Signproduct();
        for (int row = 0; row < texts.length; row++) {
            for (char c : texts[row].toCharArray()) {
                x.put(row, c);
            }
        }
        return x;
    }

    private static String many(String of, int times) {
        return of.repeat(times);
    }

    private static void throwsIt(Signproduct x, Class<?> due, Call call) {
        String before = state(x);
        Class<?> thrown = null;
        try {
            call.on(x);
        } catch (RuntimeException e) {
            thrown = e.getClass();
        }
        if (thrown != due) {
            fail("threw " + thrown + ", due is " + due + ", at " + line());
        }
        if (!state(x).equals(before)) {
            fail("changed something by a call that throws, at " + line());
        }
    }

    private static void throwsForAll(Signproduct x, int[] arguments, Class<?> due, CallOfOne call) {
        for (int argument : arguments) {
            throwsIt(x, due, y -> call.on(y, argument));
        }
    }

    private static void refused(Signproduct x, Call call) {
        String before = state(x);
        is(call.on(x), REFUSED);
        if (!state(x).equals(before)) {
            fail("changed something by a call that is REFUSED, at " + line());
        }
    }

    /** The call is one that tells a row to become something: house(0) grows by one. */
    private static void counts(Signproduct x, Object due, Call call) {
        int before = x.house(0);
        is(call.on(x), due);
        is(x.house(0), before + 1);
    }

    /** The call asks alone: nothing is other by it. */
    private static void asks(Signproduct x, Object due, Call call) {
        String before = state(x);
        is(call.on(x), due);
        is(state(x), before);
    }

    // ---- promises 1 to 16

    private static void oneSign() {
        promise = 1;
        Signproduct x = new Signproduct();
        for (int row = 0; row < 4; row++) {
            is(x.size(row), 0);
        }
        for (int what = 0; what < 3; what++) {
            is(x.house(what), 0);
        }
        Signproduct other = with("a");
        is(new Signproduct().size(0), 0);
        is(other.size(0), 1);
        kindsAndRanks();
        kindQuestions();
        belonging();
        values();
    }

    private static void kindsAndRanks() {
        int[] counts = new int[5];
        for (int sign = 0; sign < 128; sign++) {
            boolean space = sign >= 9 && sign <= 13 || sign >= 28 && sign <= 32;
            int kind = "0123456789".indexOf(sign) >= 0 ? 0 : "ABCDEFGHIJKLMNOPQRSTUVWXYZ".indexOf(sign) >= 0 ? 1
                    : "abcdefghijklmnopqrstuvwxyz".indexOf(sign) >= 0 ? 2 : space ? 3 : 4;
            promise = 2;
            is(with().kind(sign), kind);
            promise = 3;
            is(with().rankOf(sign), counts[kind]);
            promise = 4;
            is(with().signOf(kind, counts[kind]), sign);
            counts[kind]++;
        }
        promise = 5;
        for (int kind = 0; kind < 5; kind++) {
            is(with().count(kind), counts[kind]);
        }
        is(Arrays.toString(counts), "[10, 26, 26, 10, 56]");
        promise = 4;
        for (int kind = 0; kind < 5; kind++) {
            int of = kind;
            refused(with(), y -> y.signOf(of, counts[of]));
            refused(with(), y -> y.signOf(of, 127));
            throwsIt(with(), ARGUMENT, y -> y.signOf(of, 128));
            throwsIt(with(), ARGUMENT, y -> y.signOf(of, -1));
        }
        throwsForAll(with(), WRONG_KINDS, ARGUMENT, (y, kind) -> y.signOf(kind, 0));
        throwsForAll(with(), WRONG_KINDS, ARGUMENT, (y, kind) -> y.signOf(kind, 127));
        throwsForAll(with(), WRONG_SIGNS, ARGUMENT, (y, rank) -> y.signOf(0, rank));
        promise = 5;
        throwsForAll(with(), WRONG_KINDS, ARGUMENT, (y, kind) -> y.count(kind));
        promise = 2;
        throwsForAll(with(), WRONG_SIGNS, ARGUMENT, (y, sign) -> y.kind(sign));
        promise = 3;
        throwsForAll(with(), WRONG_SIGNS, ARGUMENT, (y, sign) -> y.rankOf(sign));
    }

    private static void kindQuestions() {
        for (int sign = 0; sign < 128; sign++) {
            boolean digit = sign >= 48 && sign <= 57;
            boolean capital = sign >= 65 && sign <= 90;
            boolean small = sign >= 97 && sign <= 122;
            promise = 6;
            is(with().isDigit(sign), digit);
            promise = 7;
            is(with().isLetter(sign), capital || small);
            promise = 8;
            is(with().isLetterOrDigit(sign), capital || small || digit);
            promise = 9;
            is(with().isCapital(sign), capital);
            promise = 10;
            is(with().isSpace(sign), sign >= 9 && sign <= 13 || sign >= 28 && sign <= 32);
        }
        promise = 6;
        throwsForAll(with(), WRONG_SIGNS, ARGUMENT, (y, sign) -> y.isDigit(sign));
        promise = 7;
        throwsForAll(with(), WRONG_SIGNS, ARGUMENT, (y, sign) -> y.isLetter(sign));
        promise = 8;
        throwsForAll(with(), WRONG_SIGNS, ARGUMENT, (y, sign) -> y.isLetterOrDigit(sign));
        promise = 9;
        throwsForAll(with(), WRONG_SIGNS, ARGUMENT, (y, sign) -> y.isCapital(sign));
        promise = 10;
        throwsForAll(with(), WRONG_SIGNS, ARGUMENT, (y, sign) -> y.isSpace(sign));
    }

    private static void belonging() {
        for (int sign = 0; sign < 128; sign++) {
            boolean capital = sign >= 65 && sign <= 90;
            boolean small = sign >= 97 && sign <= 122;
            promise = 11;
            is(with().capital(sign), small ? sign - 32 : sign);
            promise = 12;
            is(with().small(sign), capital ? sign + 32 : sign);
            promise = 13;
            is(with().turned(sign), capital ? sign + 32 : small ? sign - 32 : sign);
        }
        promise = 11;
        throwsForAll(with(), WRONG_SIGNS, ARGUMENT, (y, sign) -> y.capital(sign));
        promise = 12;
        throwsForAll(with(), WRONG_SIGNS, ARGUMENT, (y, sign) -> y.small(sign));
        promise = 13;
        throwsForAll(with(), WRONG_SIGNS, ARGUMENT, (y, sign) -> y.turned(sign));
    }

    private static void values() {
        String smalls = "0123456789abcdefghijklmnopqrstuvwxyz";
        for (int sign = 0; sign < 128; sign++) {
            int value = sign >= 65 && sign <= 90 ? sign - 55 : smalls.indexOf(sign);
            promise = 14;
            is(with().value(sign), value);
            promise = 15;
            for (int radix = -3; radix <= 99; radix++) {
                boolean has = radix >= 2 && radix <= 36 && value < radix;
                is(with().digit(sign, radix), has ? value : NONE);
            }
        }
        promise = 14;
        throwsForAll(with(), WRONG_SIGNS, ARGUMENT, (y, sign) -> y.value(sign));
        promise = 15;
        int[] notAsked = {-4, 100, Integer.MIN_VALUE, Integer.MAX_VALUE};
        throwsForAll(with(), WRONG_SIGNS, ARGUMENT, (y, sign) -> y.digit(sign, 10));
        throwsForAll(with(), notAsked, ARGUMENT, (y, radix) -> y.digit(48, radix));
        promise = 16;
        for (int value = -3; value <= 99; value++) {
            for (int radix = -3; radix <= 99; radix++) {
                boolean has = radix >= 2 && radix <= 36 && value >= 0 && value < radix;
                is(with().digitSign(value, radix), has ? (int) smalls.charAt(value) : 0);
            }
        }
        throwsForAll(with(), notAsked, ARGUMENT, (y, value) -> y.digitSign(value, 10));
        throwsForAll(with(), notAsked, ARGUMENT, (y, radix) -> y.digitSign(0, radix));
    }

    // ---- promises 17 to 23

    private static void rows() {
        Signproduct full = with(many("a", 60));
        promise = 17;
        Signproduct x = new Signproduct();
        for (int many = 1; many <= 60; many++) {
            int due = many;
            counts(x, due, y -> y.put(3, due));
        }
        is(x.sign(3, 0), 1);
        is(x.sign(3, 59), 60);
        is(x.size(2), 0);
        counts(x, 1, y -> y.put(0, 0));
        counts(x, 2, y -> y.put(0, 127));
        rowIs(x, 0, "\0\u007f");
        throwsIt(full, STATE, y -> y.put(0, 97));
        throwsForAll(full, WRONG_SIGNS, ARGUMENT, (y, sign) -> y.put(0, sign));
        throwsForAll(full, WRONG_ROWS, INDEX, (y, row) -> y.put(row, 128));
        putOthers(full);
        changeAndInsert(full);
        removeAndDrop();
    }

    private static void putOthers(Signproduct full) {
        promise = 18;
        Signproduct nearly = with(many("a", 59), many("a", 59));
        counts(nearly, 60, y -> y.putRank(0, 0, 9));
        promise = 19;
        counts(nearly, 60, y -> y.putDigit(1, 9, 10));
        rowIs(nearly, 0, many("a", 59) + "9");
        rowIs(nearly, 1, many("a", 59) + "9");
        promise = 18;
        Signproduct x = with("", "x");
        counts(x, 2, y -> y.putRank(1, 3, 5));
        counts(x, 3, y -> y.putRank(1, 4, 55));
        counts(x, 4, y -> y.putRank(1, 0, 0));
        counts(x, 5, y -> y.putRank(1, 1, 25));
        counts(x, 6, y -> y.putRank(1, 2, 25));
        rowIs(x, 1, "x\u001c\u007f0Zz");
        int[] counts = {10, 26, 26, 10, 56};
        for (int kind = 0; kind < 5; kind++) {
            int of = kind;
            throwsIt(x, ARGUMENT, y -> y.putRank(1, of, counts[of]));
            throwsIt(full, ARGUMENT, y -> y.putRank(0, of, -1));
            throwsIt(full, ARGUMENT, y -> y.putRank(0, of, Integer.MAX_VALUE));
            throwsIt(full, STATE, y -> y.putRank(0, of, counts[of] - 1));
        }
        throwsForAll(full, WRONG_KINDS, ARGUMENT, (y, kind) -> y.putRank(0, kind, 0));
        throwsForAll(full, WRONG_ROWS, INDEX, (y, row) -> y.putRank(row, 5, 0));
        promise = 19;
        Signproduct z = with("-");
        counts(z, 2, y -> y.putDigit(0, 0, 2));
        counts(z, 3, y -> y.putDigit(0, 9, 10));
        counts(z, 4, y -> y.putDigit(0, 10, 11));
        counts(z, 5, y -> y.putDigit(0, 35, 36));
        rowIs(z, 0, "-09az");
        throwsIt(z, ARGUMENT, y -> y.putDigit(0, 2, 2));
        throwsIt(z, ARGUMENT, y -> y.putDigit(0, 36, 36));
        throwsIt(full, ARGUMENT, y -> y.putDigit(0, -1, 36));
        throwsIt(full, ARGUMENT, y -> y.putDigit(0, Integer.MIN_VALUE, 36));
        throwsIt(full, STATE, y -> y.putDigit(0, 35, 36));
        throwsForAll(full, WRONG_RADICES, ARGUMENT, (y, radix) -> y.putDigit(0, 0, radix));
        throwsForAll(full, WRONG_ROWS, INDEX, (y, row) -> y.putDigit(row, 0, 37));
    }

    private static void changeAndInsert(Signproduct full) {
        promise = 20;
        Signproduct x = with("abc");
        counts(x, 97, y -> y.change(0, 0, 0));
        counts(x, 99, y -> y.change(0, 2, 127));
        counts(x, 98, y -> y.change(0, 1, 98));
        rowIs(x, 0, "\0b\u007f");
        throwsForAll(x, new int[] {3, -1, 60, Integer.MIN_VALUE, Integer.MAX_VALUE}, INDEX,
                (y, place) -> y.change(0, place, 128));
        throwsIt(x, INDEX, y -> y.change(1, 0, 65));
        throwsForAll(x, WRONG_ROWS, INDEX, (y, row) -> y.change(row, 0, 128));
        throwsForAll(x, WRONG_SIGNS, ARGUMENT, (y, sign) -> y.change(0, 0, sign));
        throwsIt(full, INDEX, y -> y.change(0, 60, 65));
        promise = 21;
        Signproduct z = new Signproduct();
        counts(z, 1, y -> y.insert(2, 0, 'b'));
        counts(z, 2, y -> y.insert(2, 0, 'a'));
        counts(z, 3, y -> y.insert(2, 2, 'd'));
        counts(z, 4, y -> y.insert(2, 2, 'c'));
        rowIs(z, 2, "abcd");
        throwsForAll(z, new int[] {5, -1, 60, Integer.MIN_VALUE, Integer.MAX_VALUE}, INDEX,
                (y, place) -> y.insert(2, place, 128));
        throwsForAll(full, new int[] {61, -1}, INDEX, (y, place) -> y.insert(0, place, 65));
        throwsForAll(full, WRONG_ROWS, INDEX, (y, row) -> y.insert(row, 0, 128));
        throwsForAll(full, WRONG_SIGNS, ARGUMENT, (y, sign) -> y.insert(0, 60, sign));
        throwsForAll(full, new int[] {0, 30, 60}, STATE, (y, place) -> y.insert(0, place, 65));
        Signproduct nearly = with(many("b", 59));
        counts(nearly, 60, y -> y.insert(0, 59, 'c'));
        rowIs(nearly, 0, many("b", 59) + "c");
    }

    private static void removeAndDrop() {
        promise = 22;
        Signproduct x = with("", "abcd");
        counts(x, 98, y -> y.remove(1, 1));
        rowIs(x, 1, "acd");
        counts(x, 100, y -> y.remove(1, 2));
        counts(x, 97, y -> y.remove(1, 0));
        rowIs(x, 1, "c");
        throwsForAll(x, new int[] {1, -1, 60, Integer.MIN_VALUE, Integer.MAX_VALUE}, INDEX,
                (y, place) -> y.remove(1, place));
        throwsIt(x, INDEX, y -> y.remove(0, 0));
        throwsForAll(x, WRONG_ROWS, INDEX, (y, row) -> y.remove(row, 0));
        counts(x, 99, y -> y.remove(1, 0));
        rowIs(x, 1, "");
        promise = 23;
        Signproduct z = with("abcde");
        counts(z, 5, y -> y.drop(0, 0));
        counts(z, 3, y -> y.drop(0, 2));
        rowIs(z, 0, "abc");
        counts(z, 0, y -> y.drop(0, 4));
        counts(z, 0, y -> y.drop(0, 60));
        rowIs(z, 0, "");
        throwsForAll(z, new int[] {-1, 61, Integer.MIN_VALUE, Integer.MAX_VALUE}, ARGUMENT, (y, many) -> y.drop(0, many));
        throwsForAll(z, WRONG_ROWS, INDEX, (y, row) -> y.drop(row, 61));
    }

    // ---- promises 24 to 28

    private static void wholeRows() {
        promise = 24;
        Signproduct x = with("abc", "xy");
        counts(x, 2, y -> y.copy(0, 1));
        rowIs(x, 0, "xy");
        rowIs(x, 1, "xy");
        counts(x, 2, y -> y.copy(0, 0));
        x.put(1, 'z');
        rowIs(x, 0, "xy");
        counts(x, 0, y -> y.copy(1, 2));
        rowIs(x, 1, "");
        throwsForAll(x, WRONG_ROWS, INDEX, (y, row) -> y.copy(row, 0));
        throwsForAll(x, WRONG_ROWS, INDEX, (y, row) -> y.copy(0, row));
        promise = 25;
        Signproduct z = with("abc", "", "", "xy");
        counts(z, 2, y -> y.swap(0, 3));
        rowIs(z, 0, "xy");
        rowIs(z, 3, "abc");
        counts(z, 0, y -> y.swap(3, 1));
        rowIs(z, 1, "abc");
        counts(z, 3, y -> y.swap(1, 1));
        rowIs(z, 1, "abc");
        z.put(0, 'z');
        rowIs(z, 3, "");
        throwsForAll(z, WRONG_ROWS, INDEX, (y, row) -> y.swap(row, 0));
        throwsForAll(z, WRONG_ROWS, INDEX, (y, row) -> y.swap(0, row));
        join();
        reverseAndStrip();
    }

    private static void join() {
        promise = 26;
        Signproduct x = with("ab", "cd", many("e", 30), many("f", 57));
        counts(x, 4, y -> y.join(0, 1));
        rowIs(x, 0, "abcd");
        rowIs(x, 1, "cd");
        throwsIt(x, STATE, y -> y.join(3, 0));
        counts(x, 59, y -> y.join(3, 1));
        throwsIt(x, STATE, y -> y.join(3, 1));
        counts(x, 4, y -> y.join(1, 1));
        rowIs(x, 1, "cdcd");
        counts(x, 60, y -> y.join(2, 2));
        rowIs(x, 2, many("e", 60));
        throwsIt(x, STATE, y -> y.join(2, 2));
        throwsForAll(x, WRONG_ROWS, INDEX, (y, row) -> y.join(row, 2));
        throwsForAll(x, WRONG_ROWS, INDEX, (y, row) -> y.join(2, row));
        x.drop(0, 60);
        counts(x, 60, y -> y.join(2, 0));
        counts(x, 60, y -> y.join(0, 2));
        Signproduct tooMany = with(many("g", 31));
        throwsIt(tooMany, STATE, y -> y.join(0, 0));
    }

    private static void reverseAndStrip() {
        promise = 27;
        Signproduct x = with("abc", "abcd", "a");
        counts(x, 3, y -> y.reverse(0));
        counts(x, 4, y -> y.reverse(1));
        counts(x, 1, y -> y.reverse(2));
        counts(x, 0, y -> y.reverse(3));
        rowIs(x, 0, "cba");
        rowIs(x, 1, "dcba");
        rowIs(x, 2, "a");
        throwsForAll(x, WRONG_ROWS, INDEX, (y, row) -> y.reverse(row));
        promise = 28;
        Signproduct z = with("\t \u001ca b\r\u001f\n", " \t\u000b", "\bx\u000e", "  ab");
        counts(z, 6, y -> y.strip(0));
        rowIs(z, 0, "a b");
        counts(z, 0, y -> y.strip(0));
        rowIs(z, 0, "a b");
        counts(z, 3, y -> y.strip(1));
        rowIs(z, 1, "");
        counts(z, 0, y -> y.strip(1));
        counts(z, 0, y -> y.strip(2));
        rowIs(z, 2, "\bx\u000e");
        counts(z, 2, y -> y.strip(3));
        rowIs(z, 3, "ab");
        throwsForAll(z, WRONG_ROWS, INDEX, (y, row) -> y.strip(row));
    }

    // ---- promises 29 to 32

    private static void cases() {
        String some = "azAZ@[`{09 \t";
        promise = 29;
        Signproduct x = with(some, some, some);
        counts(x, 2, y -> y.capitals(0));
        rowIs(x, 0, "AZAZ@[`{09 \t");
        counts(x, 0, y -> y.capitals(0));
        counts(x, 0, y -> y.capitals(3));
        throwsForAll(x, WRONG_ROWS, INDEX, (y, row) -> y.capitals(row));
        promise = 30;
        counts(x, 2, y -> y.smalls(1));
        rowIs(x, 1, "azaz@[`{09 \t");
        counts(x, 0, y -> y.smalls(1));
        counts(with("ZaB"), 2, y -> y.smalls(0));
        throwsForAll(x, WRONG_ROWS, INDEX, (y, row) -> y.smalls(row));
        promise = 31;
        counts(x, 4, y -> y.turn(2));
        rowIs(x, 2, "AZaz@[`{09 \t");
        counts(x, 4, y -> y.turn(2));
        rowIs(x, 2, some);
        counts(x, 0, y -> y.turn(3));
        throwsForAll(x, WRONG_ROWS, INDEX, (y, row) -> y.turn(row));
        promise = 32;
        counts(x, 65, y -> y.turnAt(2, 0));
        counts(x, 122, y -> y.turnAt(2, 3));
        counts(x, 64, y -> y.turnAt(2, 4));
        counts(x, 9, y -> y.turnAt(2, 11));
        rowIs(x, 2, "AzAz@[`{09 \t");
        throwsForAll(x, new int[] {12, -1, Integer.MIN_VALUE, Integer.MAX_VALUE}, INDEX, (y, place) -> y.turnAt(2, place));
        throwsIt(x, INDEX, y -> y.turnAt(3, 0));
        throwsForAll(x, WRONG_ROWS, INDEX, (y, row) -> y.turnAt(row, 0));
    }

    // ---- promises 33 to 38

    private static void numbers() {
        promise = 33;
        asks(with("zik0zj"), 2147483647, y -> y.number(0, 36));
        asks(with("ZIK0zJ"), 2147483647, y -> y.number(0, 36));
        refused(with("zik0zk"), y -> y.number(0, 36));
        asks(with("2147483647"), 2147483647, y -> y.number(0, 10));
        refused(with("2147483648"), y -> y.number(0, 10));
        refused(with("4294967297"), y -> y.number(0, 10));
        asks(with(many("1", 31)), 2147483647, y -> y.number(0, 2));
        refused(with(many("1", 32)), y -> y.number(0, 2));
        refused(with("1" + many("0", 59)), y -> y.number(0, 2));
        refused(with("1" + many("0", 32)), y -> y.number(0, 2));
        refused(with(many("z", 60)), y -> y.number(0, 36));
        asks(with(many("0", 58) + "1f"), 31, y -> y.number(0, 16));
        asks(with("0"), 0, y -> y.number(0, 2));
        refused(with("2"), y -> y.number(0, 2));
        refused(with("1 "), y -> y.number(0, 36));
        refused(with("-1"), y -> y.number(0, 36));
        refused(with("", "1"), y -> y.number(0, 36));
        throwsForAll(with("1"), WRONG_RADICES, ARGUMENT, (y, radix) -> y.number(0, radix));
        throwsForAll(with(""), WRONG_RADICES, ARGUMENT, (y, radix) -> y.number(0, radix));
        throwsForAll(with("1"), WRONG_ROWS, INDEX, (y, row) -> y.number(row, 1));
        numbersOfSome();
        written();
        leastAndSum();
    }

    private static void numbersOfSome() {
        promise = 34;
        Signproduct x = with("7f-10g");
        asks(x, 7, y -> y.numberOf(0, 0, 1, 8));
        asks(x, 127, y -> y.numberOf(0, 0, 2, 16));
        asks(x, 2, y -> y.numberOf(0, 3, 2, 2));
        asks(x, 16, y -> y.numberOf(0, 5, 1, 17));
        refused(x, y -> y.numberOf(0, 5, 1, 16));
        refused(x, y -> y.numberOf(0, 1, 2, 16));
        refused(x, y -> y.numberOf(0, 0, 0, 16));
        refused(x, y -> y.numberOf(0, 6, 0, 16));
        refused(x, y -> y.numberOf(0, 6, 1, 16));
        refused(x, y -> y.numberOf(0, 3, 4, 36));
        refused(x, y -> y.numberOf(0, 0, 60, 36));
        refused(x, y -> y.numberOf(1, 0, 0, 36));
        refused(with("12147483648"), y -> y.numberOf(0, 1, 10, 10));
        asks(with("12147483647"), 2147483647, y -> y.numberOf(0, 1, 10, 10));
        asks(with(many("1", 60)), 1, y -> y.numberOf(0, 59, 1, 10));
        Signproduct dropped = with("1234");
        dropped.drop(0, 2);
        refused(dropped, y -> y.numberOf(0, 1, 2, 10));
        refused(dropped, y -> y.numberOf(0, 2, 1, 10));
        throwsForAll(x, new int[] {7, -1, Integer.MIN_VALUE, Integer.MAX_VALUE}, INDEX, (y, p) -> y.numberOf(0, p, 61, 1));
        throwsIt(x, INDEX, y -> y.numberOf(1, 1, 0, 10));
        throwsForAll(x, WRONG_ROWS, INDEX, (y, row) -> y.numberOf(row, 0, 61, 1));
        throwsForAll(x, new int[] {-1, 61, Integer.MIN_VALUE, Integer.MAX_VALUE}, ARGUMENT, (y, m) -> y.numberOf(0, 0, m, 10));
        throwsForAll(x, WRONG_RADICES, ARGUMENT, (y, radix) -> y.numberOf(0, 0, 1, radix));
        throwsForAll(x, WRONG_RADICES, ARGUMENT, (y, radix) -> y.numberOf(0, 6, 0, radix));
    }

    private static void written() {
        promise = 35;
        Signproduct x = with("some", "other");
        counts(x, 1, y -> y.write(0, 0, 2));
        rowIs(x, 0, "0");
        counts(x, 31, y -> y.write(0, 2147483647, 2));
        rowIs(x, 0, many("1", 31));
        for (int radix = 2; radix <= 36; radix++) {
            for (int number : new int[] {0, 1, radix - 1, radix, radix * radix - 1, radix * radix, 2147483646}) {
                String due = Integer.toString(number, radix);
                int by = radix;
                counts(x, due.length(), y -> y.write(0, number, by));
                rowIs(x, 0, due);
            }
            x = with("", "other");
        }
        throwsForAll(x, new int[] {-1, Integer.MIN_VALUE}, ARGUMENT, (y, number) -> y.write(1, number, 10));
        throwsForAll(x, WRONG_RADICES, ARGUMENT, (y, radix) -> y.write(1, 7, radix));
        throwsForAll(x, WRONG_ROWS, INDEX, (y, row) -> y.write(row, -1, 10));
        rowIs(x, 1, "other");
        promise = 36;
        Signproduct z = with("ZIK0ZJ", "000", "zik0zk", "1x");
        counts(z, 31, y -> y.convert(0, 36, 2));
        counts(z, 8, y -> y.convert(0, 2, 16));
        rowIs(z, 0, "7fffffff");
        counts(z, 1, y -> y.convert(1, 2, 2));
        rowIs(z, 1, "0");
        refused(z, y -> y.convert(2, 36, 2));
        refused(z, y -> y.convert(3, 10, 2));
        refused(with(""), y -> y.convert(0, 10, 2));
        throwsForAll(with(""), WRONG_RADICES, ARGUMENT, (y, radix) -> y.convert(0, radix, 2));
        throwsForAll(with(""), WRONG_RADICES, ARGUMENT, (y, radix) -> y.convert(0, 2, radix));
        throwsForAll(z, WRONG_ROWS, INDEX, (y, row) -> y.convert(row, 1, 1));
    }

    private static void leastAndSum() {
        promise = 37;
        asks(with("0"), 2, y -> y.leastRadix(0));
        asks(with("1"), 2, y -> y.leastRadix(0));
        asks(with("12"), 3, y -> y.leastRadix(0));
        asks(with("a9"), 11, y -> y.leastRadix(0));
        asks(with(many("zZ", 30)), 36, y -> y.leastRadix(0));
        refused(with(""), y -> y.leastRadix(0));
        refused(with("1+"), y -> y.leastRadix(0));
        refused(with(" 1"), y -> y.leastRadix(0));
        throwsForAll(with("1"), WRONG_ROWS, INDEX, (y, row) -> y.leastRadix(row));
        promise = 38;
        asks(with("19aZ - @"), 55, y -> y.sumOf(0));
        asks(with(many("z", 60)), 2100, y -> y.sumOf(0));
        asks(with(" ."), 0, y -> y.sumOf(0));
        asks(with(""), 0, y -> y.sumOf(0));
        throwsForAll(with("1"), WRONG_ROWS, INDEX, (y, row) -> y.sumOf(row));
    }

    // ---- promises 39 to 43

    private static void pieces() {
        Signproduct x = with("12ab3 \t4..c", many("a ", 30), many("b", 60));
        promise = 39;
        asks(x, 7, y -> y.pieces(0));
        asks(x, 60, y -> y.pieces(1));
        asks(x, 1, y -> y.pieces(2));
        asks(x, 0, y -> y.pieces(3));
        throwsForAll(x, WRONG_ROWS, INDEX, (y, row) -> y.pieces(row));
        promise = 40;
        int[][] due = {{1, 0, 2}, {0, 2, 3}, {2, 5, 2}, {1, 7, 1}, {3, 8, 1}, {3, 9, 1}, {0, 10, 1}};
        for (int piece = 0; piece < due.length; piece++) {
            for (int what = 0; what < 3; what++) {
                int of = piece;
                int asked = what;
                asks(x, due[piece][what], y -> y.ofPiece(0, of, asked));
            }
        }
        asks(x, 59, y -> y.ofPiece(1, 59, 1));
        throwsForAll(x, new int[] {7, -1, 60, Integer.MIN_VALUE, Integer.MAX_VALUE}, INDEX, (y, p) -> y.ofPiece(0, p, 3));
        throwsIt(x, INDEX, y -> y.ofPiece(1, 60, 0));
        throwsIt(x, INDEX, y -> y.ofPiece(3, 0, 0));
        throwsForAll(x, WRONG_ROWS, INDEX, (y, row) -> y.ofPiece(row, 0, 3));
        throwsForAll(x, new int[] {-1, 3, Integer.MIN_VALUE, Integer.MAX_VALUE}, ARGUMENT, (y, what) -> y.ofPiece(0, 0, what));
        promise = 41;
        asks(x, "n2w3g2n1m1m1w1", y -> y.sorts(0));
        asks(x, many("w1g1", 30), y -> y.sorts(1));
        asks(x, "w60", y -> y.sorts(2));
        asks(x, "", y -> y.sorts(3));
        asks(with("A\u001c\t _0Z9@"), "w1g3m1n1w2m1", y -> y.sorts(0));
        asks(with("a" + many("1", 8) + many(" ", 10) + many("3", 11)), "w9g10n11", y -> y.sorts(0));
        throwsForAll(x, WRONG_ROWS, INDEX, (y, row) -> y.sorts(row));
        takeAndSorts();
    }

    private static void takeAndSorts() {
        promise = 42;
        Signproduct x = with("12ab3 \t4..c");
        counts(x, 3, y -> y.take(0, 1, 3));
        rowIs(x, 3, "ab3");
        rowIs(x, 0, "12ab3 \t4..c");
        throwsForAll(x, new int[] {7, -1, 60, Integer.MIN_VALUE, Integer.MAX_VALUE}, INDEX, (y, p) -> y.take(0, p, 3));
        throwsIt(x, INDEX, y -> y.take(3, 1, 0));
        throwsForAll(x, WRONG_ROWS, INDEX, (y, row) -> y.take(row, 0, 0));
        throwsForAll(x, WRONG_ROWS, INDEX, (y, row) -> y.take(0, 0, row));
        throwsIt(with("a"), INDEX, y -> y.take(1, 0, 0));
        counts(x, 2, y -> y.take(0, 2, 0));
        rowIs(x, 0, " \t");
        counts(x, 2, y -> y.take(0, 0, 0));
        rowIs(x, 0, " \t");
        promise = 43;
        Signproduct z = with("12ab3 \t4..c");
        asks(z, 2, y -> y.ofSort(0, 0));
        asks(z, 2, y -> y.ofSort(0, 1));
        asks(z, 1, y -> y.ofSort(0, 2));
        asks(z, 2, y -> y.ofSort(0, 3));
        asks(z, 0, y -> y.ofSort(1, 3));
        throwsForAll(z, new int[] {-1, 4, Integer.MIN_VALUE, Integer.MAX_VALUE}, ARGUMENT, (y, sort) -> y.ofSort(0, sort));
        throwsForAll(z, WRONG_ROWS, INDEX, (y, row) -> y.ofSort(row, 4));
    }

    // ---- promises 44 and 45

    private static void codes() {
        promise = 44;
        Signproduct x = with("\0\u007f@", "old", many("c", 30), many("d", 31));
        counts(x, 6, y -> y.code(0, 1, 16));
        rowIs(x, 1, "007f40");
        rowIs(x, 0, "\0\u007f@");
        counts(x, 6, y -> y.code(0, 1, 12));
        rowIs(x, 1, "00a754");
        counts(x, 6, y -> y.code(0, 0, 36));
        rowIs(x, 0, "003j1s");
        counts(x, 60, y -> y.code(2, 2, 16));
        rowIs(x, 2, many("63", 30));
        refused(x, y -> y.code(2, 0, 16));
        refused(x, y -> y.code(3, 0, 16));
        refused(x, y -> y.code(3, 3, 36));
        throwsForAll(x, WRONG_CODE_RADICES, ARGUMENT, (y, radix) -> y.code(3, 0, radix));
        throwsForAll(x, WRONG_ROWS, INDEX, (y, row) -> y.code(row, 0, 11));
        throwsForAll(x, WRONG_ROWS, INDEX, (y, row) -> y.code(0, row, 11));
        x.drop(1, 60);
        counts(x, 0, y -> y.code(1, 0, 16));
        rowIs(x, 0, "");
        decoded();
    }

    private static void decoded() {
        promise = 45;
        Signproduct x = with("007F40", "old", many("63", 30));
        counts(x, 3, y -> y.decode(0, 1, 16));
        rowIs(x, 1, "\0\u007f@");
        rowIs(x, 0, "007F40");
        counts(x, 3, y -> y.decode(0, 0, 16));
        rowIs(x, 0, "\0\u007f@");
        counts(x, 30, y -> y.decode(2, 2, 16));
        rowIs(x, 2, many("c", 30));
        counts(x, 0, y -> y.decode(3, 2, 16));
        rowIs(x, 2, "");
        refused(with("7f4", "old"), y -> y.decode(0, 1, 16));
        refused(with("80", "old"), y -> y.decode(0, 1, 16));
        refused(with("417f80", "old"), y -> y.decode(0, 0, 16));
        refused(with("4g", "old"), y -> y.decode(0, 1, 16));
        refused(with("g4", "old"), y -> y.decode(0, 1, 16));
        refused(with("4 ", "old"), y -> y.decode(0, 1, 16));
        refused(with("zz", "old"), y -> y.decode(0, 1, 36));
        refused(with("a8", "old"), y -> y.decode(0, 1, 12));
        counts(with("a7", "old"), 1, y -> y.decode(0, 1, 12));
        counts(with("3j", "old"), 1, y -> y.decode(0, 1, 36));
        refused(with("3k", "old"), y -> y.decode(0, 1, 36));
        throwsForAll(with("7"), WRONG_CODE_RADICES, ARGUMENT, (y, radix) -> y.decode(0, 1, radix));
        throwsForAll(with("7"), WRONG_ROWS, INDEX, (y, row) -> y.decode(row, 1, 11));
        throwsForAll(with("7"), WRONG_ROWS, INDEX, (y, row) -> y.decode(0, row, 11));
    }

    // ---- promises 46 to 52

    private static void asked() {
        Signproduct x = with("\u001f ~\u007f\0a", "", many("a", 60));
        promise = 46;
        asks(x, 6, y -> y.size(0));
        asks(x, 0, y -> y.size(1));
        asks(x, 60, y -> y.size(2));
        throwsForAll(x, WRONG_ROWS, INDEX, (y, row) -> y.size(row));
        promise = 47;
        asks(x, 31, y -> y.sign(0, 0));
        asks(x, 97, y -> y.sign(0, 5));
        asks(x, 97, y -> y.sign(2, 59));
        throwsForAll(x, new int[] {6, -1, 60, Integer.MIN_VALUE, Integer.MAX_VALUE}, INDEX, (y, place) -> y.sign(0, place));
        throwsIt(x, INDEX, y -> y.sign(2, 60));
        throwsForAll(x, WRONG_ROWS, INDEX, (y, row) -> y.sign(row, 0));
        promise = 48;
        asks(x, "? ~??a", y -> y.text(0));
        asks(x, "", y -> y.text(1));
        asks(x, many("a", 60), y -> y.text(2));
        throwsForAll(x, WRONG_ROWS, INDEX, (y, row) -> y.text(row));
        promise = 49;
        int[] due = {3, 1, 2, 2, 3};
        Signproduct z = with("91A2bc -\t+\0");
        for (int kind = 0; kind < 5; kind++) {
            int of = kind;
            asks(z, due[kind], y -> y.ofKind(0, of));
            asks(z, 0, y -> y.ofKind(1, of));
        }
        throwsForAll(z, WRONG_KINDS, ARGUMENT, (y, kind) -> y.ofKind(0, kind));
        throwsForAll(z, WRONG_ROWS, INDEX, (y, row) -> y.ofKind(row, 5));
        compared("", "", 0);
        compared("", "a", -1);
        compared("a", "ab", -1);
        compared("ab", "abcd", -1);
        compared("ac", "abz", 1);
        compared("Za", "a", -1);
        compared("abc", "abc", 0);
        compared("\0", "\u007f", -1);
        likenesses();
    }

    private static void compared(String one, String two, int due) {
        promise = 50;
        Signproduct x = with(one, two);
        asks(x, due, y -> y.compare(0, 1));
        asks(x, -due, y -> y.compare(1, 0));
        asks(x, 0, y -> y.compare(1, 1));
        throwsForAll(x, WRONG_ROWS, INDEX, (y, row) -> y.compare(row, 0));
        throwsForAll(x, WRONG_ROWS, INDEX, (y, row) -> y.compare(0, row));
        promise = 51;
        asks(x, due == 0, y -> y.areAlike(0, 1));
        asks(x, due == 0, y -> y.areAlike(1, 0));
        asks(x, true, y -> y.areAlike(1, 1));
        throwsForAll(x, WRONG_ROWS, INDEX, (y, row) -> y.areAlike(row, 0));
        throwsForAll(x, WRONG_ROWS, INDEX, (y, row) -> y.areAlike(0, row));
    }

    private static void likenesses() {
        promise = 51;
        asks(with("aB", "ab"), false, y -> y.areAlike(0, 1));
        promise = 52;
        Signproduct x = with("aB1z", "Ab1Z", "aB1", "aB1y");
        asks(x, true, y -> y.areAlikeButCases(0, 1));
        asks(x, true, y -> y.areAlikeButCases(0, 0));
        asks(x, false, y -> y.areAlikeButCases(0, 2));
        asks(x, false, y -> y.areAlikeButCases(2, 0));
        asks(x, false, y -> y.areAlikeButCases(0, 3));
        asks(with("@", "`"), false, y -> y.areAlikeButCases(0, 1));
        asks(with("[", "{"), false, y -> y.areAlikeButCases(0, 1));
        asks(with(), true, y -> y.areAlikeButCases(0, 1));
        throwsForAll(x, WRONG_ROWS, INDEX, (y, row) -> y.areAlikeButCases(row, 0));
        throwsForAll(x, WRONG_ROWS, INDEX, (y, row) -> y.areAlikeButCases(0, row));
    }

    // ---- promises 53 to 56

    private static void whole() {
        promise = 53;
        Signproduct x = with("ab", "c", "", "def");
        asks(x, 6, y -> y.house(0));
        asks(x, 6, y -> y.house(1));
        asks(x, 0, y -> y.house(2));
        throwsForAll(x, new int[] {-1, 3, Integer.MIN_VALUE, Integer.MAX_VALUE}, ARGUMENT, (y, what) -> y.house(what));
        promise = 54;
        is(x.knock(), 1);
        is(x.knock(), 2);
        is(x.house(2), 2);
        is(x.house(0), 6);
        is(new Signproduct().knock(), 1);
        promise = 55;
        asks(new Signproduct(), true, Signproduct::isSound);
        asks(with(many("a", 30), many("z", 31), "zik0zj", "zik0zk"), true, Signproduct::isSound);
        asks(with(many("a ", 30), "0", "\0\u007f\t", "007"), true, Signproduct::isSound);
        promise = 56;
        digested(new Signproduct());
        digested(with("101", "99", "1fF", "zik0zj"));
        digested(with("zik0zk", "12ab3 \t4..c", many("a ", 30), many("9", 60)));
        digested(with("b", "a", "\0\u007f", "b"));
        Signproduct used = with("ab", many("=", 12), "", "7");
        used.knock();
        used.swap(2, 0);
        digested(used);
    }

    /** The checksum put together from the answers of the other calls, in the document's order. */
    private static void digested(Signproduct x) {
        List<Integer> all = new ArrayList<>(List.of(x.house(0), x.house(1), x.house(2)));
        for (int row = 0; row < 4; row++) {
            all.add(x.size(row));
            for (int place = 0; place < x.size(row); place++) {
                all.add(x.sign(row, place));
            }
            for (int kind = 0; kind < 5; kind++) {
                all.add(x.ofKind(row, kind));
            }
            all.addAll(List.of(x.leastRadix(row), x.sumOf(row), x.number(row, 2), x.number(row, 10),
                    x.number(row, 16), x.number(row, 36), x.pieces(row)));
            for (char c : x.sorts(row).toCharArray()) {
                all.add((int) c);
            }
            all.add(x.compare(row, (row + 1) % 4));
        }
        for (int sign = 0; sign < 128; sign++) {
            Signproduct y = new Signproduct();
            all.addAll(List.of(y.kind(sign), y.rankOf(sign), y.value(sign), y.turned(sign)));
        }
        all.add(x.isSound() ? 1 : 0);
        long d = 7838;
        for (int v : all) {
            d = d * 31 + v;
        }
        asks(x, d, Signproduct::digest);
    }
}
