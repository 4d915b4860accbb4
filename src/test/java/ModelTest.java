import java.lang.reflect.InvocationTargetException;
import java.lang.reflect.Method;
import java.math.BigInteger;
import java.util.ArrayList;
import java.util.List;
import java.util.Locale;
import java.util.Random;
import java.util.regex.Matcher;
import java.util.regex.Pattern;

/** Long runs of mixed calls, right and wrong ones, each answered by a second program over the Java library. */
public final class ModelTest {
    private static final int REFUSED = -9;
    private static final int RUNS = 800;
    // Each with a digest() behind it, and all signs at the end: at most 512, as an object is promised for.
    private static final int CALLS = 130;
    private static int wrong = 0;

    /** Each method with the kinds of its arguments: see argument(). */
    private static final String[] CALLED = {
        "kind S", "rankOf S", "signOf K k", "count K", "isDigit S", "isLetter S", "isLetterOrDigit S",
        "isCapital S", "isSpace S", "capital S", "small S", "turned S", "value S", "digit S A", "digitSign A A",
        "put R S", "put R S", "putRank R K k", "putRank R K k", "putDigit R V X", "putDigit R V X",
        "change R P S", "insert R P S", "insert R P S", "remove R P", "drop R M", "copy R R", "swap R R",
        "join R R", "reverse R", "strip R", "capitals R", "smalls R", "turn R", "turnAt R P",
        "number R X", "numberOf R P M X", "write R N X", "convert R X X", "leastRadix R", "sumOf R",
        "pieces R", "ofPiece R Q W", "sorts R", "take R Q R", "ofSort R O", "code R R C", "decode R R C",
        "decode R R C", "size R", "sign R P", "text R", "ofKind R K", "compare R R", "areAlike R R",
        "areAlikeButCases R R", "house W", "knock", "isSound", "digest",
    };

    public static void main(String[] args) throws Exception {
        for (int run = 0; run < RUNS; run++) {
            playRun(run);
        }
        System.out.println(wrong == 0 ? "model: all answers are as due" : "model: " + wrong + " answers are not as due");
        if (wrong != 0) {
            System.exit(1);
        }
    }

    private static void playRun(int run) throws Exception {
        Random random = new Random(7838L * run + 1);
        // Some runs have few faults in their arguments, so that rows get full and numbers long.
        int faults = run % 4 == 0 ? 5 : 40;
        Signproduct it = new Signproduct();
        Model model = new Model(run % 3);
        List<String> told = new ArrayList<>();
        for (int call = 0; call < CALLS; call++) {
            String[] parts = CALLED[random.nextInt(CALLED.length)].split(" ");
            Object[] given = new Object[parts.length - 1];
            Class<?>[] types = new Class<?>[given.length];
            StringBuilder line = new StringBuilder(parts[0]);
            for (int i = 0; i < given.length; i++) {
                given[i] = argument(parts[i + 1].charAt(0), random, faults, model);
                types[i] = int.class;
                line.append(' ').append(given[i]);
            }
            Object got = answer(it, Signproduct.class.getMethod(parts[0], types), given);
            Object due = answer(model, Model.class.getMethod(parts[0], types), given);
            told.add(line + " -> " + got);
            boolean same = got.equals(due);
            if (same) {
                due = model.digest();
                got = it.digest();
                same = got.equals(due);
                line.append(", then digest");
            }
            if (same && call == CALLS - 1) {
                due = true;
                got = model.isStateOf(it);
                same = got.equals(due);
                line.append(", then whether the rows are the same");
            }
            if (!same) {
                wrong++;
                System.out.println("run " + run + ": " + line + " answered " + got + ", due is " + due + ", after:");
                System.out.println(String.join("; ", told.subList(Math.max(0, told.size() - 12), told.size())));
                return;
            }
        }
    }

    private static Object answer(Object of, Method method, Object[] given) throws Exception {
        try {
            return method.invoke(of, given);
        } catch (InvocationTargetException e) {
            return "throws " + e.getCause().getClass().getName();
        }
    }

    private static int argument(char kind, Random random, int faults, Model model) {
        if (random.nextInt(faults) == 0) {
            int[] odd = {Integer.MIN_VALUE, Integer.MAX_VALUE, -1, -2, -4, 4, 5, 37, 38, 61, 100, 127, 128, 60, 0, 1, 2, 3};
            return odd[random.nextInt(odd.length)];
        }
        switch (kind) {
            case 'S': return model.likelySign(random);
            case 'K': return random.nextInt(5);
            case 'k': return random.nextInt(random.nextBoolean() ? 11 : 60);
            case 'A': return random.nextInt(103) % (random.nextBoolean() ? 40 : 103) - 3;
            case 'R': return random.nextInt(4);
            case 'V': return random.nextInt(random.nextBoolean() ? 3 : 36);
            case 'X': return new int[] {2, 3, 10, 16, 35, 36, 36, 2 + random.nextInt(35)}[random.nextInt(8)];
            case 'C': return new int[] {12, 16, 16, 36, 12 + random.nextInt(25)}[random.nextInt(5)];
            case 'P': return random.nextInt(random.nextBoolean() ? 4 : 61);
            case 'M': return random.nextInt(random.nextInt(3) == 0 ? 61 : 9);
            case 'N': return random.nextBoolean() ? random.nextInt(50) : random.nextInt() & Integer.MAX_VALUE;
            case 'Q': return random.nextInt(4);
            case 'W': return random.nextInt(3);
            case 'O': return random.nextInt(4);
            default: throw new IllegalStateException("no such kind of argument: " + kind);
        }
    }

    /** What the document says, over texts, patterns and great numbers of the library. */
    public static final class Model {
        private static final String ALL = allSigns();
        private static final String[] KINDS = {
            only("[0-9]"), only("[A-Z]"), only("[a-z]"), only("[\\x09-\\x0d\\x1c-\\x20]"),
            only("[^0-9A-Za-z\\x09-\\x0d\\x1c-\\x20]"),
        };
        private static final Pattern PIECE = Pattern.compile(
                "(?<w>[A-Za-z][A-Za-z0-9]*)|(?<n>[0-9]+)|(?<g>[\\x09-\\x0d\\x1c-\\x20]+)|(?<m>.)", Pattern.DOTALL);

        private final String[] rows = {"", "", "", ""};
        private final int taste;
        private int told = 0;
        private int knocks = 0;

        Model(int taste) {
            this.taste = taste;
        }

        private static String allSigns() {
            StringBuilder all = new StringBuilder();
            for (char c = 0; c < 128; c++) {
                all.append(c);
            }
            return all.toString();
        }

        private static String only(String pattern) {
            return ALL.replaceAll("(?s)(?!" + pattern + ").", "");
        }

        int likelySign(Random random) {
            String some = taste == 0 ? "01aZzA9f7" : taste == 1 ? "a1 Z\t.9 b" : ALL;
            return some.charAt(random.nextInt(some.length()));
        }

        boolean isStateOf(Signproduct it) {
            if (it.house(0) != told || it.house(2) != knocks) {
                return false;
            }
            for (int row = 0; row < 4; row++) {
                if (it.size(row) != rows[row].length()) {
                    return false;
                }
                for (int place = 0; place < rows[row].length(); place++) {
                    if (it.sign(row, place) != rows[row].charAt(place)) {
                        return false;
                    }
                }
            }
            return true;
        }

        private static void range(int number, int least, int most) {
            if (number < least || number > most) {
                throw new IllegalArgumentException();
            }
        }

        private static char signed(int sign) {
            range(sign, 0, 127);
            return (char) sign;
        }

        private String row(int row) {
            if (row < 0 || row > 3) {
                throw new IndexOutOfBoundsException();
            }
            return rows[row];
        }

        private static void place(int place, int many) {
            if (place < 0 || place >= many) {
                throw new IndexOutOfBoundsException();
            }
        }

        private static void room(int many) {
            if (many > 60) {
                throw new IllegalStateException();
            }
        }

        private int become(int row, String what) {
            rows[row] = what;
            told++;
            return what.length();
        }

        public int kind(int sign) {
            char c = signed(sign);
            int kind = 0;
            while (KINDS[kind].indexOf(c) < 0) {
                kind++;
            }
            return kind;
        }

        public int rankOf(int sign) {
            return KINDS[kind(sign)].indexOf(sign);
        }

        public int signOf(int kind, int rank) {
            range(kind, 0, 4);
            range(rank, 0, 127);
            return rank < KINDS[kind].length() ? KINDS[kind].charAt(rank) : REFUSED;
        }

        public int count(int kind) {
            range(kind, 0, 4);
            return KINDS[kind].length();
        }

        public boolean isDigit(int sign) {
            return Character.isDigit(signed(sign));
        }

        public boolean isLetter(int sign) {
            return Character.isLetter(signed(sign));
        }

        public boolean isLetterOrDigit(int sign) {
            return Character.isLetterOrDigit(signed(sign));
        }

        public boolean isCapital(int sign) {
            return Character.isUpperCase(signed(sign));
        }

        public boolean isSpace(int sign) {
            return Character.isWhitespace(signed(sign));
        }

        public int capital(int sign) {
            return Character.toUpperCase(signed(sign));
        }

        public int small(int sign) {
            return Character.toLowerCase(signed(sign));
        }

        public int turned(int sign) {
            return isCapital(sign) ? small(sign) : capital(sign);
        }

        public int value(int sign) {
            return Character.getNumericValue(signed(sign));
        }

        public int digit(int sign, int radix) {
            signed(sign);
            range(radix, -3, 99);
            return Character.digit((char) sign, radix);
        }

        public int digitSign(int value, int radix) {
            range(value, -3, 99);
            range(radix, -3, 99);
            return Character.forDigit(value, radix);
        }

        public int put(int row, int sign) {
            String was = row(row);
            String now = was + signed(sign);
            room(now.length());
            return become(row, now);
        }

        public int putRank(int row, int kind, int rank) {
            row(row);
            range(kind, 0, 4);
            range(rank, 0, KINDS[kind].length() - 1);
            return put(row, KINDS[kind].charAt(rank));
        }

        public int putDigit(int row, int value, int radix) {
            row(row);
            range(radix, 2, 36);
            range(value, 0, radix - 1);
            return put(row, Character.forDigit(value, radix));
        }

        public int change(int row, int place, int sign) {
            String was = row(row);
            place(place, was.length());
            become(row, was.substring(0, place) + signed(sign) + was.substring(place + 1));
            return was.charAt(place);
        }

        public int insert(int row, int place, int sign) {
            String was = row(row);
            place(place, was.length() + 1);
            String now = was.substring(0, place) + signed(sign) + was.substring(place);
            room(now.length());
            return become(row, now);
        }

        public int remove(int row, int place) {
            String was = row(row);
            place(place, was.length());
            become(row, was.substring(0, place) + was.substring(place + 1));
            return was.charAt(place);
        }

        public int drop(int row, int many) {
            String was = row(row);
            range(many, 0, 60);
            return become(row, many >= was.length() ? "" : was.substring(0, was.length() - many));
        }

        public int copy(int row, int other) {
            row(row);
            return become(row, row(other));
        }

        public int swap(int row, int other) {
            String first = row(row);
            String second = row(other);
            rows[other] = first;
            return become(row, second);
        }

        public int join(int row, int other) {
            String now = row(row) + row(other);
            room(now.length());
            return become(row, now);
        }

        public int reverse(int row) {
            return become(row, new StringBuilder(row(row)).reverse().toString());
        }

        public int strip(int row) {
            String was = row(row);
            return was.length() - become(row, was.strip());
        }

        private int differing(int row, String now) {
            String was = row(row);
            become(row, now);
            int many = 0;
            for (int i = 0; i < now.length(); i++) {
                many += was.charAt(i) == now.charAt(i) ? 0 : 1;
            }
            return many;
        }

        public int capitals(int row) {
            return differing(row, row(row).toUpperCase(Locale.ROOT));
        }

        public int smalls(int row) {
            return differing(row, row(row).toLowerCase(Locale.ROOT));
        }

        public int turn(int row) {
            StringBuilder now = new StringBuilder();
            for (char c : row(row).toCharArray()) {
                now.append((char) turned(c));
            }
            return differing(row, now.toString());
        }

        public int turnAt(int row, int place) {
            String was = row(row);
            place(place, was.length());
            change(row, place, turned(was.charAt(place)));
            return rows[row].charAt(place);
        }

        private static int numberOfText(String some, int radix) {
            if (!some.matches("[0-9A-Za-z]+")) {
                return REFUSED;
            }
            for (char c : some.toCharArray()) {
                if (Character.digit(c, radix) < 0) {
                    return REFUSED;
                }
            }
            BigInteger number = new BigInteger(some, radix);
            return number.bitLength() > 31 ? REFUSED : number.intValue();
        }

        public int number(int row, int radix) {
            row(row);
            range(radix, 2, 36);
            return numberOfText(rows[row], radix);
        }

        public int numberOf(int row, int place, int many, int radix) {
            String of = row(row);
            place(place, of.length() + 1);
            range(many, 0, 60);
            range(radix, 2, 36);
            return place + many > of.length() ? REFUSED : numberOfText(of.substring(place, place + many), radix);
        }

        public int write(int row, int number, int radix) {
            row(row);
            range(number, 0, Integer.MAX_VALUE);
            range(radix, 2, 36);
            return become(row, Integer.toString(number, radix));
        }

        public int convert(int row, int radix, int other) {
            row(row);
            range(radix, 2, 36);
            range(other, 2, 36);
            int number = number(row, radix);
            return number == REFUSED ? REFUSED : write(row, number, other);
        }

        public int leastRadix(int row) {
            String of = row(row);
            for (int radix = 2; radix <= 36; radix++) {
                boolean fits = !of.isEmpty();
                for (char c : of.toCharArray()) {
                    fits &= Character.digit(c, radix) >= 0;
                }
                if (fits) {
                    return radix;
                }
            }
            return REFUSED;
        }

        public int sumOf(int row) {
            return row(row).chars().map(this::value).filter(v -> v > 0).sum();
        }

        /** PIECE by PIECE: SORT, PLACE, how many. */
        private static List<int[]> parted(String row) {
            List<int[]> pieces = new ArrayList<>();
            Matcher matcher = PIECE.matcher(row);
            while (matcher.find()) {
                int sort = matcher.group("w") != null ? 0
                        : matcher.group("n") != null ? 1 : matcher.group("g") != null ? 2 : 3;
                pieces.add(new int[] {sort, matcher.start(), matcher.end() - matcher.start()});
            }
            return pieces;
        }

        public int pieces(int row) {
            return parted(row(row)).size();
        }

        public int ofPiece(int row, int piece, int what) {
            place(piece, pieces(row));
            range(what, 0, 2);
            return parted(rows[row]).get(piece)[what];
        }

        public String sorts(int row) {
            StringBuilder text = new StringBuilder();
            for (int[] piece : parted(row(row))) {
                text.append("wngm".charAt(piece[0])).append(piece[2]);
            }
            return text.toString();
        }

        public int take(int row, int piece, int into) {
            row(into);
            place(piece, pieces(row));
            int[] what = parted(rows[row]).get(piece);
            return become(into, rows[row].substring(what[1], what[1] + what[2]));
        }

        public int ofSort(int row, int sort) {
            row(row);
            range(sort, 0, 3);
            return (int) parted(rows[row]).stream().filter(p -> p[0] == sort).count();
        }

        public int code(int row, int into, int radix) {
            String of = row(row);
            row(into);
            range(radix, 12, 36);
            StringBuilder text = new StringBuilder();
            for (char c : of.toCharArray()) {
                String two = Integer.toString(c, radix);
                text.append(two.length() == 1 ? "0" + two : two);
            }
            return text.length() > 60 ? REFUSED : become(into, text.toString());
        }

        public int decode(int row, int into, int radix) {
            String of = row(row);
            row(into);
            range(radix, 12, 36);
            if (of.length() % 2 == 1) {
                return REFUSED;
            }
            StringBuilder text = new StringBuilder();
            for (int i = 0; i < of.length(); i += 2) {
                int sign = numberOfText(of.substring(i, i + 2), radix);
                if (sign < 0 || sign > 127) {
                    return REFUSED;
                }
                text.append((char) sign);
            }
            return become(into, text.toString());
        }

        public int size(int row) {
            return row(row).length();
        }

        public int sign(int row, int place) {
            place(place, row(row).length());
            return rows[row].charAt(place);
        }

        public String text(int row) {
            return row(row).replaceAll("[^ -~]", "?");
        }

        public int ofKind(int row, int kind) {
            String of = row(row);
            range(kind, 0, 4);
            return (int) of.chars().filter(c -> kind(c) == kind).count();
        }

        public int compare(int row, int other) {
            return Integer.signum(row(row).compareTo(row(other)));
        }

        public boolean areAlike(int row, int other) {
            return row(row).equals(row(other));
        }

        public boolean areAlikeButCases(int row, int other) {
            return row(row).equalsIgnoreCase(row(other));
        }

        public int house(int what) {
            range(what, 0, 2);
            return what == 0 ? told : what == 1 ? String.join("", rows).length() : knocks;
        }

        public int knock() {
            return ++knocks;
        }

        public boolean isSound() {
            return true;
        }

        public long digest() {
            List<Integer> all = new ArrayList<>(List.of(house(0), house(1), house(2)));
            for (int row = 0; row < 4; row++) {
                all.add(size(row));
                rows[row].chars().forEach(all::add);
                for (int kind = 0; kind < 5; kind++) {
                    all.add(ofKind(row, kind));
                }
                all.addAll(List.of(leastRadix(row), sumOf(row)));
                all.addAll(List.of(number(row, 2), number(row, 10), number(row, 16), number(row, 36), pieces(row)));
                sorts(row).chars().forEach(all::add);
                all.add(compare(row, row == 3 ? 0 : row + 1));
            }
            for (int sign = 0; sign < 128; sign++) {
                all.addAll(List.of(kind(sign), rankOf(sign), value(sign), turned(sign)));
            }
            all.add(1);
            long d = 7838;
            for (int v : all) {
                d = d * 31 + v;
            }
            return d;
        }
    }
}
