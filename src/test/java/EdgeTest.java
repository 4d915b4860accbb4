import java.math.BigInteger;
import java.nio.file.Files;
import java.nio.file.Path;
import java.util.ArrayList;
import java.util.Arrays;
import java.util.LinkedHashMap;
import java.util.LinkedHashSet;
import java.util.List;
import java.util.Map;
import java.util.Set;
import java.util.regex.Matcher;
import java.util.regex.Pattern;

/**
 * The boundary cases, sentence by sentence: each edge(..) names a promise's number (0: what stands
 * ahead of promise 1) and a sentence of DOC.md, and tests what that sentence bounds. At the end
 * DOC.md is read: a sentence of it without a test, or a test without a sentence of it, is a fault.
 *
 * Each check makes an object of its own and keeps it to the 512 calls that the document lets.
 */
public final class EdgeTest {
    private static final Class<?> INDEX = IndexOutOfBoundsException.class;
    private static final Class<?> ARGUMENT = IllegalArgumentException.class;
    private static final Class<?> STATE = IllegalStateException.class;
    private static final int REFUSED = -9;
    private static final int NONE = -1;
    private static final int LEAST = Integer.MIN_VALUE;
    private static final int GREATEST = Integer.MAX_VALUE;
    private static final String FIGURES = "0123456789abcdefghijklmnopqrstuvwxyz";
    /** Sixty signs, no two the same. */
    private static final String D60 = "!#$%&()*+,-./0123456789:;<=>@ABCDEFGHIJKLMNOPQRSTUVWXYZ[]^_{}".substring(0, 60);
    private static final String D59 = D60.substring(0, 59);
    private static final String A59 = "a".repeat(59);
    private static final String A60 = "a".repeat(60);

    /** Both edges of all runs of signs of one kind: sign, kind, rank. */
    private static final int[][] EDGES_OF_KINDS = {
        {0, 4, 0}, {8, 4, 8}, {9, 3, 0}, {13, 3, 4}, {14, 4, 9}, {27, 4, 22}, {28, 3, 5}, {32, 3, 9},
        {33, 4, 23}, {47, 4, 37}, {48, 0, 0}, {57, 0, 9}, {58, 4, 38}, {64, 4, 44}, {65, 1, 0}, {90, 1, 25},
        {91, 4, 45}, {96, 4, 50}, {97, 2, 0}, {122, 2, 25}, {123, 4, 51}, {127, 4, 55},
    };
    private static final int[] MANY_OF_KINDS = {10, 26, 26, 10, 56};

    /** What has been behind the end of each row before: nothing, or one sign, for row after row. */
    private static final String[] GONE = {"", "    ", "aaaa", "AAAA", "1111", " aA1", "1A a"};

    private static final int[] NO_ROWS = beyond(0, 3);
    private static final int[] NO_SIGNS = beyond(0, 127);
    private static final int[] NO_KINDS = beyond(0, 4);
    private static final int[] NO_RADICES = beyond(2, 36);
    private static final int[] NO_CODE_RADICES = beyond(12, 36);
    private static final int[] NOT_ASKED = beyond(-3, 99);
    private static final int[] NOT_MANY = beyond(0, 60);

    private static final Map<Integer, Set<String>> tested = new LinkedHashMap<>();
    private static int promise = 0;
    private static String sentence = "";
    private static int edges = 0;
    private static int wrong = 0;

    private interface Call {
        Object on(Signproduct x);
    }

    private interface CallOfOne {
        Object on(Signproduct x, int argument);
    }

    public static void main(String[] args) throws Exception {
        description();
        refusedAndThrown();
        whichGoesAhead();
        kinds();
        questionsOfKinds();
        casesOfOneSign();
        values();
        putting();
        puttingOthers();
        changing();
        leaving();
        copying();
        turningRound();
        cases();
        reading();
        writing();
        leastAndSum();
        countingPieces();
        tellingPieces();
        coding();
        decoding();
        asking();
        comparing();
        house();
        soundness();
        checksum();
        allSentences(Files.readString(Path.of(System.getProperty("shared", "../shared"), "DOC.md")));
        System.out.println(wrong == 0 ? "edges: all " + edges + " are as due" : "edges: " + wrong + " checks fail");
        if (wrong != 0) {
            System.exit(1);
        }
    }

    // ---- how a test tells

    private static void edge(int of, String named, Runnable test) {
        promise = of;
        sentence = named;
        edges++;
        tested.computeIfAbsent(of, key -> new LinkedHashSet<>()).add(named);
        test.run();
    }

    private static void fail(String what) {
        wrong++;
        String at = Arrays.stream(new Throwable().getStackTrace())
                .filter(e -> e.getMethodName().startsWith("lambda$"))
                .map(e -> "line " + e.getLineNumber()).reduce((a, b) -> a + ", " + b).orElse("?");
        System.out.println("promise " + promise + ": \"" + sentence + "\": " + what + ", at " + at);
    }

    private static void is(Object got, Object due) {
        if (!due.equals(got)) {
            fail("answered " + got + ", due is " + due);
        }
    }

    /** The first ones that are not let, on either side, the outermost, and some whose low bits are let. */
    private static int[] beyond(int least, int greatest) {
        return new int[] {least - 1, greatest + 1, least + 256, greatest + 65536, LEAST, GREATEST};
    }

    private static Signproduct made(String... rows) {
        Signproduct x = new Signproduct();
        for (int row = 0; row < rows.length; row++) {
            for (char sign : rows[row].toCharArray()) {
                x.put(row, sign);
            }
        }
        return x;
    }

    /** Likewise, but behind the end of each row there has been another sign, which must not count; and one knocked. */
    private static Signproduct madeAfter(String gone, String... rows) {
        Signproduct x = made(rows);
        for (int row = 0; row < gone.length(); row++) {
            if (row >= rows.length || rows[row].length() < 60) {
                x.put(row, gone.charAt(row));
                x.drop(row, 1);
            }
        }
        if (!gone.isEmpty()) {
            x.knock();
        }
        return x;
    }

    private static String[] rows(String... texts) {
        return texts;
    }

    /** The rows sign by sign, as text() does not have them. */
    private static String rowsOf(Signproduct x) {
        StringBuilder all = new StringBuilder();
        for (int row = 0; row < 4; row++) {
            int many = x.size(row);
            for (int place = 0; place < many; place++) {
                int sign = x.sign(row, place);
                all.append(sign >= ' ' && sign <= '~' ? String.valueOf((char) sign) : "<" + sign + ">");
            }
            all.append('|');
        }
        return all.toString();
    }

    private static String stateOf(Signproduct x) {
        return rowsOf(x) + " told " + x.house(0) + " signs " + x.house(1) + " knocks " + x.house(2)
                + " digest " + x.digest();
    }

    /** The call answers what is due, and nothing is other by it. */
    private static void asked(String[] rows, Object due, Call call) {
        for (String gone : GONE) {
            Signproduct x = madeAfter(gone, rows);
            is(call.on(x), due);
            is(stateOf(x), stateOf(madeAfter(gone, rows)));
        }
    }

    /** The call answers what is due, the rows are those that are named last, and house(0) is one more. */
    private static void told(String[] rows, Object due, Call call, String... after) {
        for (String gone : GONE) {
            Signproduct x = madeAfter(gone, rows);
            int before = x.house(0);
            int knocks = x.house(2);
            is(call.on(x), due);
            is(x.house(0), before + 1);
            is(x.house(1), String.join("", after).length());
            is(x.house(2), knocks);
            is(rowsOf(x), rowsOf(made(after)));
        }
    }

    private static void refused(String[] rows, Call call) {
        asked(rows, REFUSED, call);
    }

    /** The call throws just that, and nothing is other by it, not even what house(0) counts. */
    private static void thrown(String[] rows, Class<?> due, Call call) {
        for (String gone : GONE) {
            Signproduct x = madeAfter(gone, rows);
            is(outcome(x, call), due);
            is(stateOf(x), stateOf(madeAfter(gone, rows)));
        }
    }

    private static void throwsFor(String[] rows, Class<?> due, int[] arguments, CallOfOne call) {
        for (int argument : arguments) {
            thrown(rows, due, x -> call.on(x, argument));
        }
    }

    /** The first row and the last one are let, those beyond are not. */
    private static void rowEdges(String[] rows, CallOfOne call) {
        throwsFor(rows, INDEX, NO_ROWS, call);
        lets(rows, call, 0, 3);
    }

    private static void lets(String[] rows, CallOfOne call, int... arguments) {
        for (int argument : arguments) {
            is(outcome(made(rows), x -> call.on(x, argument)), "an answer");
        }
    }

    /** The exception's class, REFUSED, or that there is an answer. */
    private static Object outcome(Signproduct x, Call call) {
        try {
            Object answer = call.on(x);
            return answer.equals(REFUSED) ? answer : "an answer";
        } catch (RuntimeException e) {
            return e.getClass();
        }
    }

    /** Condition and outcome by turns: the outcome of the first condition that holds goes ahead. */
    private static void ahead(String[] rows, Call call, Object... conditions) {
        Object due = "an answer";
        for (int i = conditions.length - 2; i >= 0; i -= 2) {
            due = conditions[i].equals(true) ? conditions[i + 1] : due;
        }
        Signproduct x = made(rows);
        Object got = outcome(x, call);
        is(got, due);
        if (!got.equals("an answer")) {
            is(stateOf(x), stateOf(made(rows)));
        }
    }

    // ---- what stands ahead of promise 1

    private static void description() {
        edge(0, "An object is used for at most 512 calls after it has been made", () -> {
            Signproduct x = new Signproduct();
            for (int call = 1; call <= 512; call++) {
                is(x.knock(), call);
            }
            Signproduct changed = made("a");
            for (int call = 2; call < 512; call++) {
                changed.change(0, 0, call % 128);
            }
            is(changed.house(0), 511);
            Signproduct told = made("a", "7");
            long digest = told.digest();
            for (int call = 4; call <= 512; call++) {
                is(told.digest(), digest);
            }
        });
        edge(0, "Whole numbers have 32 bits, if nothing else is said.", () -> {
            thrown(rows(), ARGUMENT, x -> x.kind(GREATEST));
            thrown(rows(), ARGUMENT, x -> x.kind(LEAST));
            asked(rows("2147483647"), 2147483647, x -> x.number(0, 10));
            refused(rows("2147483648"), x -> x.number(0, 10));
            told(rows(), 10, x -> x.write(0, 2147483647, 10), "2147483647");
        });
        edge(0, "NONE is -1.", () -> {
            asked(rows(), -1, x -> x.value(' '));
            asked(rows(), -1, x -> x.digit('2', 2));
        });
        edge(0, "Numbers of things start with 0, if nothing else is said.", () -> {
            asked(rows("9"), 57, x -> x.sign(0, 0));
            asked(rows("9"), 1, x -> x.ofPiece(0, 0, 0));
            asked(rows("9"), 1, x -> x.ofKind(0, 0));
            asked(rows(), 48, x -> x.signOf(0, 0));
            thrown(rows("9"), INDEX, x -> x.sign(-1, 0));
            thrown(rows("9"), INDEX, x -> x.sign(0, 1));
            thrown(rows("9"), INDEX, x -> x.ofPiece(0, 1, 0));
            thrown(rows("9"), ARGUMENT, x -> x.ofKind(0, 5));
        });
        descriptionOfSigns();
        descriptionOfRows();
        descriptionOfNumbers();
        descriptionOfPieces();
        descriptionOfCodes();
    }

    private static void descriptionOfSigns() {
        edge(0, "SIGNS are the numbers 0 to 127 (as ASCII has them).", () -> {
            told(rows(), 1, x -> x.put(0, 0), "\0");
            told(rows(), 1, x -> x.put(0, 127), "\u007f");
            throwsFor(rows(), ARGUMENT, NO_SIGNS, (x, sign) -> x.put(0, sign));
            asked(rows(" ~09AZaz"), " ~09AZaz", x -> x.text(0));
        });
        edge(0, "KINDS: 0 DIGITS: 48 to 57 (\"0\" to \"9\"); 1 CAPITALS: 65 to 90 (\"A\" to \"Z\"); 2 SMALL ones: 97 to 122"
                + " (\"a\" to \"z\"); 3 SPACES: 9 to 13, and 28 to 32; 4 OTHERS: all that are none of these.", () -> {
            for (int[] sign : EDGES_OF_KINDS) {
                for (int kind = 0; kind < 5; kind++) {
                    int of = kind;
                    String one = String.valueOf((char) sign[0]);
                    asked(rows("", one), of == sign[1] ? 1 : 0, x -> x.ofKind(1, of));
                }
            }
        });
        edge(0, "LETTERS are CAPITALS and SMALL ones.", () -> {
            for (int[] sign : EDGES_OF_KINDS) {
                asked(rows(), sign[1] == 1 || sign[1] == 2, x -> x.isLetter(sign[0]));
            }
        });
        edge(0, "RANK of a SIGN: how many SIGNS of its KIND are smaller numbers.", () -> {
            int[] smaller = new int[5];
            for (int sign = 0; sign < 128; sign++) {
                int of = sign;
                int kind = made().kind(sign);
                asked(rows(), smaller[kind]++, x -> x.rankOf(of));
            }
        });
        edge(0, "A CAPITAL and the SMALL one that is 32 more belong together.", () -> {
            asked(rows(), 97, x -> x.small(65));
            asked(rows(), 122, x -> x.small(90));
            asked(rows(), 65, x -> x.capital(97));
            asked(rows(), 90, x -> x.capital(122));
        });
        edge(0, "TURNED: a CAPITAL becomes the SMALL one that belongs to it, a SMALL one its CAPITAL, each other SIGN stays.",
                () -> told(rows("@AZ[`az{\0\u007f"), 4, x -> x.turn(0), "@az[`AZ{\0\u007f"));
        edge(0, "VALUES: of the DIGITS 0 to 9, by their RANKS; of LETTERS 10 and their RANK (so \"a\" and \"A\" have 10,"
                + " \"z\" and \"Z\" 35); others have none.", () -> {
            for (int[] sign : EDGES_OF_KINDS) {
                int due = sign[1] == 0 ? sign[2] : sign[1] < 3 ? 10 + sign[2] : NONE;
                asked(rows(), due, x -> x.value(sign[0]));
            }
        });
        edge(0, "RADIX: 2 to 36.", () -> {
            for (int radix : new int[] {2, 36}) {
                asked(rows("1"), 1, x -> x.number(0, radix));
                asked(rows(), 1, x -> x.digit('1', radix));
            }
            for (int radix : new int[] {1, 37}) {
                thrown(rows("1"), ARGUMENT, x -> x.number(0, radix));
                asked(rows(), NONE, x -> x.digit('1', radix));
            }
        });
        edge(0, "A VALUE from 0 to 35 is WRITTEN as the DIGIT that has it, otherwise as the SMALL one.", () -> {
            for (int value = 0; value < 36; value++) {
                int of = value;
                asked(rows(), (int) FIGURES.charAt(of), x -> x.digitSign(of, 36));
                told(rows(), 1, x -> x.putDigit(0, of, 36), FIGURES.substring(of, of + 1));
                told(rows(), 1, x -> x.write(0, of, 36), FIGURES.substring(of, of + 1));
            }
        });
    }

    private static void descriptionOfRows() {
        edge(0, "ROWS 0 to 3 have 0 to 60 SIGNS each (none at first).", () -> {
            rowEdges(rows(), (x, row) -> x.size(row));
            rowEdges(rows(), (x, row) -> x.put(row, 'a'));
            for (int row = 0; row < 4; row++) {
                int of = row;
                asked(rows(), 0, x -> x.size(of));
                asked(rows(A60, A60, A60, A60), 60, x -> x.size(of));
                thrown(rows(A60, A60, A60, A60), STATE, x -> x.put(of, 'a'));
            }
            asked(rows(A60, A60, A60, A60), 240, x -> x.house(1));
        });
        edge(0, "PLACE: the number of a SIGN in its ROW.", () -> {
            asked(rows("", "abc"), 97, x -> x.sign(1, 0));
            asked(rows("", "abc"), 99, x -> x.sign(1, 2));
            thrown(rows("", "abc"), INDEX, x -> x.sign(1, 3));
        });
        edge(0, "ALIKE: as many SIGNS, and at each PLACE the same one.", () -> {
            asked(rows(A60, A60), true, x -> x.areAlike(0, 1));
            asked(rows(A60, A59), false, x -> x.areAlike(0, 1));
            asked(rows(A59 + "b", A60), false, x -> x.areAlike(0, 1));
            asked(rows("b" + A59, A60), false, x -> x.areAlike(0, 1));
            asked(rows(), true, x -> x.areAlike(0, 1));
        });
        edge(0, "ORDER: by the first PLACE at which they differ, the smaller SIGN first; if there is none, the one with"
                + " fewer SIGNS first.", () -> {
            ordered("aab", "aba");
            ordered("", "\0");
            ordered(A59, A60);
            ordered(A59 + "Z", A60);
            ordered("\0\u007f", "\u007f");
            ordered("a" + "z".repeat(59), "b");
        });
        edge(0, "Where two ROWS are named, both may be the same; the one that becomes something becomes what comes of the"
                + " others as they were.", () -> {
            told(rows("", "", "", "1 ab"), 4, x -> x.copy(3, 3), "", "", "", "1 ab");
            told(rows("1 ab"), 4, x -> x.swap(0, 0), "1 ab");
            told(rows("1 ab"), 8, x -> x.join(0, 0), "1 ab1 ab");
            told(rows("1 ab"), 2, x -> x.take(0, 2, 0), "ab");
            told(rows("1 ab"), 8, x -> x.code(0, 0, 16), "31206162");
            told(rows("31206162"), 4, x -> x.decode(0, 0, 16), "1 ab");
            asked(rows("1 ab"), 0, x -> x.compare(0, 0));
            asked(rows("1 ab"), true, x -> x.areAlike(0, 0));
            asked(rows("1 ab"), true, x -> x.areAlikeButCases(0, 0));
        });
    }

    private static void ordered(String first, String second) {
        asked(rows(first, second), -1, x -> x.compare(0, 1));
        asked(rows(first, second), 1, x -> x.compare(1, 0));
        asked(rows(first, first), 0, x -> x.compare(0, 1));
        asked(rows(second, second), 0, x -> x.compare(1, 0));
    }

    private static void descriptionOfNumbers() {
        edge(0, "NUMBER of some SIGNS, side by side, in a RADIX: if there is at least one, and each has a VALUE below the"
                + " RADIX: beginning with 0, SIGN by SIGN it is multiplied by the RADIX, and the VALUE added (without"
                + " bounds); otherwise there is none.", () -> {
            refused(rows(""), x -> x.number(0, 10));
            asked(rows("0"), 0, x -> x.number(0, 2));
            asked(rows("10"), 36, x -> x.number(0, 36));
            for (int radix = 2; radix <= 36; radix++) {
                int by = radix;
                String greatest = FIGURES.substring(radix - 1, radix);
                asked(rows(greatest), radix - 1, x -> x.number(0, by));
                asked(rows("1" + greatest), 2 * radix - 1, x -> x.number(0, by));
                String next = radix == 36 ? "{" : FIGURES.substring(radix, radix + 1);
                refused(rows(next), x -> x.number(0, by));
                refused(rows("1" + next), x -> x.number(0, by));
                refused(rows(next + "1"), x -> x.number(0, by));
            }
            asked(rows("z".repeat(60)), 36, x -> x.leastRadix(0));
            refused(rows("z".repeat(60)), x -> x.number(0, 36));
        });
        edge(0, "A number, 0 or more, is WRITTEN in a RADIX as the row of SIGNS that WRITE its digits in that RADIX, the"
                + " greatest one first, as few as can be; 0 as one SIGN, \"0\".", () -> {
            for (int radix = 2; radix <= 36; radix++) {
                int by = radix;
                told(rows(A60), 1, x -> x.write(0, 0, by), "0");
                told(rows(A60), 1, x -> x.write(0, by - 1, by), FIGURES.substring(by - 1, by));
                told(rows(A60), 2, x -> x.write(0, by, by), "10");
                told(rows(A60), 2, x -> x.write(0, by + 1, by), "11");
                told(rows(A60), 3, x -> x.write(0, by * by, by), "100");
                String greatest = BigInteger.valueOf(GREATEST).toString(by);
                told(rows(), greatest.length(), x -> x.write(0, GREATEST, by), greatest);
            }
        });
    }

    private static void descriptionOfPieces() {
        edge(0, "SORTS: 0 WORD: a LETTER, and all LETTERS and DIGITS that follow it; 1 NUMBER: a DIGIT, and all DIGITS that"
                + " follow it; 2 GAP: a SPACE, and all SPACES that follow it; 3 MARK: one OTHER.", () -> {
            for (int[] sign : EDGES_OF_KINDS) {
                int due = sign[1] == 0 ? 1 : sign[1] < 3 ? 0 : sign[1] == 3 ? 2 : 3;
                asked(rows(String.valueOf((char) sign[0])), due, x -> x.ofPiece(0, 0, 0));
            }
            asked(rows("aZ0zA9"), "w6", x -> x.sorts(0));
            asked(rows("09"), "n2", x -> x.sorts(0));
            asked(rows("\t\r\u001c "), "g4", x -> x.sorts(0));
            asked(rows("\b\b!!"), "m1m1m1m1", x -> x.sorts(0));
            // Each sort with each other one behind it: it ends there, but for a number behind a word.
            asked(rows("a1 1a a.a"), "w2g1n1w1g1w1m1w1", x -> x.sorts(0));
            asked(rows("1 .1. a"), "n1g1m1n1m1g1w1", x -> x.sorts(0));
        });
        edge(0, "(Of a WORD and a NUMBER: \"12ab3\" is the NUMBER 12 and the WORD ab3.)", () -> {
            asked(rows("12ab3"), "n2w3", x -> x.sorts(0));
            told(rows("12ab3"), 2, x -> x.take(0, 0, 1), "12ab3", "12");
            told(rows("12ab3"), 3, x -> x.take(0, 1, 1), "12ab3", "ab3");
        });
        edge(0, "PIECES of a ROW: the first one begins with its first SIGN, each other one with the SIGN behind the PIECE"
                + " ahead of it; each is of the SORT that begins with its first SIGN, and ends with the last one that"
                + " follows.", () -> {
            String row = "  7x7 7\t,;Q";
            int end = 0;
            int many = made(row).pieces(0);
            is(many, 9);
            for (int piece = 0; piece < many; piece++) {
                int of = piece;
                asked(rows(row), end, x -> x.ofPiece(0, of, 1));
                end += made(row).ofPiece(0, piece, 2);
            }
            is(end, row.length());
        });
        edge(0, "They are numbered as they stand.", () -> {
            asked(rows("a b"), 0, x -> x.ofPiece(0, 0, 0));
            asked(rows("a b"), 2, x -> x.ofPiece(0, 1, 0));
            asked(rows("a b"), 2, x -> x.ofPiece(0, 2, 1));
        });
    }

    private static void descriptionOfCodes() {
        edge(0, "CODE of a ROW in a RADIX from 12 to 36: SIGN by SIGN two SIGNS, that WRITE its number / RADIX (rounded"
                + " down), and what is left.", () -> {
            for (int radix = 12; radix <= 36; radix++) {
                for (int sign : new int[] {0, 1, radix - 1, radix, 2 * radix - 1, 2 * radix, 126, 127}) {
                    int by = radix;
                    String due = FIGURES.substring(sign / by, sign / by + 1) + FIGURES.substring(sign % by, sign % by + 1);
                    told(rows("", "" + (char) sign), 2, x -> x.code(1, 0, by), due, "" + (char) sign);
                }
            }
        });
        edge(0, "A ROW is a CODE, if it has 0, 2, 4 and so on SIGNS, each has a VALUE below the RADIX, and of each two (the"
                + " first and the second one, the third and the fourth one ..) the first VALUE * RADIX and the second one"
                + " are together at most 127: it was made of these numbers.", () -> {
            for (int many = 0; many <= 60; many++) {
                String code = "0".repeat(many);
                if (many % 2 == 0) {
                    told(rows(code), many / 2, x -> x.decode(0, 1, 12), code, "\0".repeat(many / 2));
                } else {
                    refused(rows(code), x -> x.decode(0, 1, 12));
                }
            }
            for (int radix = 12; radix <= 36; radix++) {
                int by = radix;
                String greatest = FIGURES.substring(by - 1, by);
                String above = by == 36 ? "{" : FIGURES.substring(by, by + 1);
                told(rows("0" + greatest), 1, x -> x.decode(0, 1, by), "0" + greatest, "" + (char) (by - 1));
                refused(rows("0" + above), x -> x.decode(0, 1, by));
                String last = FIGURES.substring(127 / by, 127 / by + 1) + FIGURES.substring(127 % by, 127 % by + 1);
                String tooGreat = FIGURES.substring(128 / by, 128 / by + 1) + FIGURES.substring(128 % by, 128 % by + 1);
                told(rows("00" + last), 2, x -> x.decode(0, 1, by), "00" + last, "\0\u007f");
                refused(rows("00" + tooGreat), x -> x.decode(0, 1, by));
                refused(rows(tooGreat + "00"), x -> x.decode(0, 1, by));
            }
        });
    }

    // ---- what is refused or throws changes nothing, and what goes ahead

    private static void refusedAndThrown() {
        String[] some = rows("12 ab", A60, "", "zik0zk");
        edge(0, "REFUSED is -9: the call is let, but can not be done; nothing changes then.", () -> {
            refused(some, x -> x.signOf(0, 10));
            refused(some, x -> x.number(0, 36));
            refused(some, x -> x.number(2, 36));
            refused(some, x -> x.number(3, 36));
            refused(some, x -> x.numberOf(0, 0, 0, 36));
            refused(some, x -> x.numberOf(0, 3, 3, 36));
            refused(some, x -> x.numberOf(0, 0, 3, 36));
            refused(some, x -> x.convert(0, 36, 2));
            refused(some, x -> x.convert(2, 36, 36));
            refused(some, x -> x.convert(3, 36, 35));
            refused(some, x -> x.leastRadix(0));
            refused(some, x -> x.leastRadix(2));
            refused(some, x -> x.code(1, 0, 16));
            refused(some, x -> x.code(1, 1, 36));
            refused(some, x -> x.decode(0, 3, 16));
            refused(some, x -> x.decode(1, 1, 12));
            refused(some, x -> x.decode(3, 3, 36));
        });
        edge(0, "A method that throws an exception changes nothing.", () -> {
            List<Call> all = new ArrayList<>(throwingAsks());
            all.addAll(throwingTellings());
            for (Call call : all) {
                Object due = outcome(made(some), call);
                is(due.equals(INDEX) || due.equals(ARGUMENT) || due.equals(STATE), true);
                thrown(some, (Class<?>) due, call);
            }
            Signproduct knocked = made(some);
            is(knocked.knock(), 1);
            is(outcome(knocked, x -> x.house(3)), ARGUMENT);
            is(knocked.house(2), 1);
        });
    }

    private static List<Call> throwingAsks() {
        return List.of(x -> x.kind(-1), x -> x.rankOf(128), x -> x.signOf(5, 0), x -> x.signOf(0, 128),
                x -> x.count(-1), x -> x.isDigit(128), x -> x.isLetter(-1), x -> x.isLetterOrDigit(128),
                x -> x.isCapital(-1), x -> x.isSpace(128), x -> x.capital(-1), x -> x.small(128), x -> x.turned(-1),
                x -> x.value(128), x -> x.digit(-1, 2), x -> x.digit(0, 100), x -> x.digitSign(100, 2),
                x -> x.digitSign(0, -4), x -> x.number(4, 10), x -> x.number(0, 1), x -> x.numberOf(0, 6, 0, 10),
                x -> x.numberOf(0, 0, 61, 10), x -> x.leastRadix(4), x -> x.sumOf(-1), x -> x.pieces(4),
                x -> x.ofPiece(0, 3, 0), x -> x.ofPiece(0, 0, 3), x -> x.sorts(-1), x -> x.ofSort(0, 4),
                x -> x.ofSort(4, 0), x -> x.size(-1), x -> x.sign(0, 5), x -> x.text(4), x -> x.ofKind(0, 5),
                x -> x.ofKind(-1, 0), x -> x.compare(0, 4), x -> x.areAlike(4, 0), x -> x.areAlikeButCases(0, -1),
                x -> x.house(3));
    }

    private static List<Call> throwingTellings() {
        return List.of(x -> x.put(4, 97), x -> x.put(0, 128), x -> x.put(1, 97), x -> x.putRank(-1, 0, 0),
                x -> x.putRank(0, 0, 10), x -> x.putRank(1, 0, 0), x -> x.putDigit(4, 0, 2), x -> x.putDigit(0, 2, 2),
                x -> x.putDigit(1, 0, 2), x -> x.change(0, 5, 97), x -> x.change(0, 0, 128), x -> x.insert(0, 6, 97),
                x -> x.insert(0, 5, 128), x -> x.insert(1, 60, 97), x -> x.insert(1, 0, 98), x -> x.remove(0, 5),
                x -> x.remove(2, 0), x -> x.drop(4, 1), x -> x.drop(0, 61), x -> x.copy(0, 4), x -> x.copy(4, 0),
                x -> x.swap(0, 4), x -> x.swap(-1, 0), x -> x.join(0, 1), x -> x.join(1, 1), x -> x.join(0, 4),
                x -> x.reverse(4), x -> x.strip(-1), x -> x.capitals(4), x -> x.smalls(-1), x -> x.turn(4),
                x -> x.turnAt(0, 5), x -> x.turnAt(4, 0), x -> x.write(0, -1, 10), x -> x.write(0, 1, 37),
                x -> x.write(4, 1, 10), x -> x.convert(3, 36, 37), x -> x.convert(3, 1, 36), x -> x.convert(4, 2, 2),
                x -> x.take(0, 3, 1), x -> x.take(0, 0, 4), x -> x.take(4, 0, 0), x -> x.code(0, 1, 11),
                x -> x.code(0, 4, 12), x -> x.decode(3, 1, 37), x -> x.decode(4, 3, 36));
    }

    private static boolean out(int number, int least, int greatest) {
        return number < least || number > greatest;
    }

    private static final int[] SOME_ROWS = {LEAST, -1, 0, 1, 2, 3, 4, GREATEST};
    private static final int[] SOME_SIGNS = {LEAST, -1, 0, 127, 128, GREATEST};
    private static final int[] SOME_RADICES = {LEAST, 1, 2, 36, 37, GREATEST};
    // None, one, two (no number and no code), all of them.
    private static final String[] SOME = rows("", "7", "+.", A60);

    private static void whichGoesAhead() {
        edge(0, "If several exceptions apply, the one that is named first is thrown; exceptions go ahead of REFUSED.", () -> {
            aheadInOneSign();
            aheadInPutting();
            aheadInPlaces();
            aheadInNumbers();
            aheadInPieces();
            aheadInCodes();
        });
    }

    private static void aheadInOneSign() {
        for (int kind : new int[] {LEAST, -1, 0, 3, 4, 5, GREATEST}) {
            for (int rank : new int[] {LEAST, -1, 0, 9, 10, 55, 56, 127, 128, GREATEST}) {
                boolean none = out(kind, 0, 4) || out(rank, 0, 127);
                ahead(rows(), x -> x.signOf(kind, rank), none, ARGUMENT,
                        !none && rank >= MANY_OF_KINDS[Math.floorMod(kind, 5)], REFUSED);
            }
        }
    }

    private static void aheadInPutting() {
        for (int row : SOME_ROWS) {
            for (int sign : SOME_SIGNS) {
                ahead(SOME, x -> x.put(row, sign), out(row, 0, 3), INDEX, out(sign, 0, 127), ARGUMENT, row == 3, STATE);
            }
            for (int kind : new int[] {LEAST, -1, 0, 4, 5, GREATEST}) {
                for (int rank : new int[] {LEAST, -1, 0, 9, 10, 55, 56, GREATEST}) {
                    boolean none = out(kind, 0, 4) || out(rank, 0, kind == 0 ? 9 : 55);
                    ahead(SOME, x -> x.putRank(row, kind, rank), out(row, 0, 3), INDEX, none, ARGUMENT, row == 3, STATE);
                }
            }
            for (int radix : SOME_RADICES) {
                for (int value : new int[] {LEAST, -1, 0, 1, 2, 35, 36, GREATEST}) {
                    boolean none = out(radix, 2, 36) || value < 0 || value >= radix;
                    ahead(SOME, x -> x.putDigit(row, value, radix), out(row, 0, 3), INDEX, none, ARGUMENT, row == 3, STATE);
                }
            }
            for (int other : SOME_ROWS) {
                boolean more = row == 3 && (other == 1 || other == 2 || other == 3) || other == 3 && (row == 1 || row == 2);
                ahead(SOME, x -> x.join(row, other), out(row, 0, 3) || out(other, 0, 3), INDEX, more, STATE);
            }
        }
    }

    private static void aheadInPlaces() {
        for (int row : SOME_ROWS) {
            int many = out(row, 0, 3) ? 0 : SOME[row].length();
            for (int place : new int[] {LEAST, -1, 0, many - 1, many, many + 1, 60, 61, GREATEST}) {
                boolean noPlace = out(row, 0, 3) || out(place, 0, many - 1);
                boolean noEnd = out(row, 0, 3) || out(place, 0, many);
                for (int sign : SOME_SIGNS) {
                    ahead(SOME, x -> x.change(row, place, sign), noPlace, INDEX, out(sign, 0, 127), ARGUMENT);
                    ahead(SOME, x -> x.insert(row, place, sign), noEnd, INDEX, out(sign, 0, 127), ARGUMENT, many == 60, STATE);
                }
                ahead(SOME, x -> x.remove(row, place), noPlace, INDEX);
                ahead(SOME, x -> x.turnAt(row, place), noPlace, INDEX);
                ahead(SOME, x -> x.sign(row, place), noPlace, INDEX);
                ahead(SOME, x -> x.drop(row, place), out(row, 0, 3), INDEX, out(place, 0, 60), ARGUMENT);
            }
        }
    }

    private static void aheadInNumbers() {
        for (int row : SOME_ROWS) {
            int many = out(row, 0, 3) ? 0 : SOME[row].length();
            for (int radix : SOME_RADICES) {
                boolean refused = row != 1 || radix != 36;
                ahead(SOME, x -> x.number(row, radix), out(row, 0, 3), INDEX, out(radix, 2, 36), ARGUMENT, refused, REFUSED);
                for (int other : SOME_RADICES) {
                    ahead(SOME, x -> x.convert(row, radix, other), out(row, 0, 3), INDEX,
                            out(radix, 2, 36) || out(other, 2, 36), ARGUMENT, refused, REFUSED);
                }
                for (int number : new int[] {LEAST, -1, 0, GREATEST}) {
                    ahead(SOME, x -> x.write(row, number, radix), out(row, 0, 3), INDEX,
                            number < 0 || out(radix, 2, 36), ARGUMENT);
                }
                for (int place : new int[] {LEAST, -1, 0, many, many + 1, GREATEST}) {
                    for (int length : new int[] {LEAST, -1, 0, 1, 60, 61, GREATEST}) {
                        boolean none = row != 1 || place != 0 || length != 1 || radix != 36;
                        boolean ofLong = row == 3 && radix == 36 && place == 0 && length == 1;
                        ahead(SOME, x -> x.numberOf(row, place, length, radix), out(row, 0, 3) || out(place, 0, many), INDEX,
                                out(length, 0, 60) || out(radix, 2, 36), ARGUMENT, none && !ofLong, REFUSED);
                    }
                }
            }
            ahead(SOME, x -> x.leastRadix(row), out(row, 0, 3), INDEX, row == 0 || row == 2, REFUSED);
        }
    }

    private static void aheadInPieces() {
        int[] pieces = {0, 1, 2, 1};
        for (int row : SOME_ROWS) {
            int many = out(row, 0, 3) ? 0 : pieces[row];
            for (int other : new int[] {LEAST, -1, 0, 1, 2, 3, 4, 5, GREATEST}) {
                ahead(SOME, x -> x.ofSort(row, other), out(row, 0, 3), INDEX, out(other, 0, 3), ARGUMENT);
                ahead(SOME, x -> x.ofKind(row, other), out(row, 0, 3), INDEX, out(other, 0, 4), ARGUMENT);
                for (int piece : new int[] {LEAST, -1, 0, many - 1, many, many + 1, GREATEST}) {
                    boolean none = out(row, 0, 3) || out(piece, 0, many - 1);
                    ahead(SOME, x -> x.ofPiece(row, piece, other), none, INDEX, out(other, 0, 2), ARGUMENT);
                    ahead(SOME, x -> x.take(row, piece, other), none || out(other, 0, 3), INDEX);
                }
            }
        }
    }

    private static void aheadInCodes() {
        for (int row : SOME_ROWS) {
            for (int into : SOME_ROWS) {
                boolean none = out(row, 0, 3) || out(into, 0, 3);
                for (int radix : new int[] {LEAST, 2, 11, 12, 36, 37, GREATEST}) {
                    ahead(SOME, x -> x.code(row, into, radix), none, INDEX, out(radix, 12, 36), ARGUMENT, row == 3, REFUSED);
                    // "aa" is a code in no radix: 10 * 12 + 10 is above 127.
                    ahead(SOME, x -> x.decode(row, into, radix), none, INDEX, out(radix, 12, 36), ARGUMENT, row != 0, REFUSED);
                }
            }
        }
    }

    // ---- promises 1 to 16

    private static void kinds() {
        edge(1, "Creates four rows without signs.", () -> {
            rowEdges(rows(), (x, row) -> x.size(row));
            for (int row = 0; row < 4; row++) {
                int of = row;
                asked(rows(), 0, x -> x.size(of));
                asked(rows(), "", x -> x.text(of));
            }
            is(made().house(0), 0);
            asked(rows(), 0, x -> x.house(1));
            is(made().house(2), 0);
            Signproduct other = made("a", "b");
            other.knock();
            is(stateOf(new Signproduct()), stateOf(made()));
        });
        edge(2, "Returns its KIND.", () -> {
            for (int[] sign : EDGES_OF_KINDS) {
                asked(rows(), sign[1], x -> x.kind(sign[0]));
            }
        });
        edge(2, "Throws `IllegalArgumentException` if sign is not 0 to 127", () -> signEdges((x, sign) -> x.kind(sign)));
        edge(3, "Returns its RANK in its KIND.", () -> {
            for (int[] sign : EDGES_OF_KINDS) {
                asked(rows(), sign[2], x -> x.rankOf(sign[0]));
            }
        });
        edge(3, "Throws `IllegalArgumentException` if sign is not 0 to 127", () -> signEdges((x, sign) -> x.rankOf(sign)));
        edge(4, "Returns the SIGN of that KIND with that RANK; REFUSED if the KIND has not so many.", () -> {
            for (int[] sign : EDGES_OF_KINDS) {
                asked(rows(), sign[0], x -> x.signOf(sign[1], sign[2]));
            }
            for (int kind = 0; kind < 5; kind++) {
                int of = kind;
                asked(rows(), of, x -> x.kind(x.signOf(of, MANY_OF_KINDS[of] - 1)));
                refused(rows(), x -> x.signOf(of, MANY_OF_KINDS[of]));
                refused(rows(), x -> x.signOf(of, 127));
            }
        });
        edge(4, "Throws `IllegalArgumentException` if kind is not 0 to 4, or rank not 0 to 127", () -> {
            throwsFor(rows(), ARGUMENT, NO_KINDS, (x, kind) -> x.signOf(kind, 0));
            lets(rows(), (x, kind) -> x.signOf(kind, 0), 0, 4);
            for (int kind = 0; kind < 5; kind++) {
                int of = kind;
                throwsFor(rows(), ARGUMENT, NO_SIGNS, (x, rank) -> x.signOf(of, rank));
                lets(rows(), (x, rank) -> x.signOf(of, rank), 0);
            }
        });
        edge(5, "Returns how many SIGNS are of it.", () -> {
            for (int kind = 0; kind < 5; kind++) {
                int of = kind;
                asked(rows(), MANY_OF_KINDS[of], x -> x.count(of));
                asked(rows("0Aa .", A60), MANY_OF_KINDS[of], x -> x.count(of));
            }
        });
        edge(5, "Throws `IllegalArgumentException` if kind is not 0 to 4", () -> {
            throwsFor(rows(), ARGUMENT, NO_KINDS, (x, kind) -> x.count(kind));
            lets(rows(), (x, kind) -> x.count(kind), 0, 4);
        });
    }

    private static void signEdges(CallOfOne call) {
        throwsFor(rows(), ARGUMENT, NO_SIGNS, call);
        lets(rows(), call, 0, 127);
    }

    private static void kindsAnswer(CallOfOne call, Integer... yes) {
        for (int[] sign : EDGES_OF_KINDS) {
            asked(rows(), List.of(yes).contains(sign[1]), x -> call.on(x, sign[0]));
        }
    }

    private static void questionsOfKinds() {
        edge(6, "Returns whether it is a DIGIT.", () -> kindsAnswer((x, sign) -> x.isDigit(sign), 0));
        edge(6, "Throws `IllegalArgumentException` if sign is not 0 to 127", () -> signEdges((x, sign) -> x.isDigit(sign)));
        edge(7, "Returns whether it is a LETTER.", () -> kindsAnswer((x, sign) -> x.isLetter(sign), 1, 2));
        edge(7, "Throws `IllegalArgumentException` if sign is not 0 to 127", () -> signEdges((x, sign) -> x.isLetter(sign)));
        edge(8, "Returns whether it is one of both.", () -> kindsAnswer((x, sign) -> x.isLetterOrDigit(sign), 0, 1, 2));
        edge(8, "Throws `IllegalArgumentException` if sign is not 0 to 127",
                () -> signEdges((x, sign) -> x.isLetterOrDigit(sign)));
        edge(9, "Returns whether it is a CAPITAL.", () -> kindsAnswer((x, sign) -> x.isCapital(sign), 1));
        edge(9, "Throws `IllegalArgumentException` if sign is not 0 to 127", () -> signEdges((x, sign) -> x.isCapital(sign)));
        edge(10, "Returns whether it is a SPACE.", () -> kindsAnswer((x, sign) -> x.isSpace(sign), 3));
        edge(10, "Throws `IllegalArgumentException` if sign is not 0 to 127", () -> signEdges((x, sign) -> x.isSpace(sign)));
    }

    private static void casesOfOneSign() {
        edge(11, "Returns the CAPITAL that belongs to it, if it is a SMALL one, otherwise itself.", () -> {
            for (int[] sign : EDGES_OF_KINDS) {
                asked(rows(), sign[1] == 2 ? sign[0] - 32 : sign[0], x -> x.capital(sign[0]));
            }
        });
        edge(11, "Throws `IllegalArgumentException` if sign is not 0 to 127", () -> signEdges((x, sign) -> x.capital(sign)));
        edge(12, "Returns the SMALL one that belongs to it, if it is a CAPITAL, otherwise itself.", () -> {
            for (int[] sign : EDGES_OF_KINDS) {
                asked(rows(), sign[1] == 1 ? sign[0] + 32 : sign[0], x -> x.small(sign[0]));
            }
        });
        edge(12, "Throws `IllegalArgumentException` if sign is not 0 to 127", () -> signEdges((x, sign) -> x.small(sign)));
        edge(13, "Returns it TURNED.", () -> {
            for (int[] sign : EDGES_OF_KINDS) {
                int due = sign[1] == 1 ? sign[0] + 32 : sign[1] == 2 ? sign[0] - 32 : sign[0];
                asked(rows(), due, x -> x.turned(sign[0]));
            }
        });
        edge(13, "Throws `IllegalArgumentException` if sign is not 0 to 127", () -> signEdges((x, sign) -> x.turned(sign)));
    }

    private static void values() {
        edge(14, "Returns its VALUE, or NONE.", () -> {
            for (int[] sign : EDGES_OF_KINDS) {
                asked(rows(), sign[1] == 0 ? sign[2] : sign[1] < 3 ? 10 + sign[2] : NONE, x -> x.value(sign[0]));
            }
        });
        edge(14, "Throws `IllegalArgumentException` if sign is not 0 to 127", () -> signEdges((x, sign) -> x.value(sign)));
        edge(15, "Returns its VALUE, if that is below radix and radix is a RADIX, otherwise NONE.", () -> {
            for (int[] sign : EDGES_OF_KINDS) {
                int value = made().value(sign[0]);
                for (int radix : new int[] {-3, 0, 1, 2, 3, 9, 10, 11, 35, 36, 37, 99}) {
                    boolean has = radix >= 2 && radix <= 36 && value < radix;
                    asked(rows(), has ? value : NONE, x -> x.digit(sign[0], radix));
                }
            }
            for (int radix = 2; radix <= 36; radix++) {
                int by = radix;
                asked(rows(), by - 1, x -> x.digit(FIGURES.charAt(by - 1), by));
                asked(rows(), NONE, x -> x.digit(by == 36 ? '{' : FIGURES.charAt(by), by));
            }
        });
        edge(15, "Throws `IllegalArgumentException` if sign is not 0 to 127, or radix not -3 to 99", () -> {
            signEdges((x, sign) -> x.digit(sign, 36));
            signEdges((x, sign) -> x.digit(sign, -3));
            throwsFor(rows(), ARGUMENT, NOT_ASKED, (x, radix) -> x.digit('0', radix));
            lets(rows(), (x, radix) -> x.digit('0', radix), -3, 99);
        });
        edge(16, "Returns the SIGN that WRITES that VALUE, if radix is a RADIX and value 0 or more and below it, otherwise 0.",
                () -> {
            int[] all = {-3, -1, 0, 1, 2, 9, 10, 11, 35, 36, 37, 99};
            for (int value : all) {
                for (int radix : all) {
                    boolean has = radix >= 2 && radix <= 36 && value >= 0 && value < radix;
                    asked(rows(), has ? (int) FIGURES.charAt(value) : 0, x -> x.digitSign(value, radix));
                }
            }
        });
        edge(16, "Throws `IllegalArgumentException` if value or radix is not -3 to 99", () -> {
            throwsFor(rows(), ARGUMENT, NOT_ASKED, (x, value) -> x.digitSign(value, 36));
            throwsFor(rows(), ARGUMENT, NOT_ASKED, (x, radix) -> x.digitSign(1, radix));
            lets(rows(), (x, value) -> x.digitSign(value, 36), -3, 99);
            lets(rows(), (x, radix) -> x.digitSign(1, radix), -3, 99);
        });
    }

    // ---- promises 17 to 28

    private static void putting() {
        edge(17, "A SIGN comes behind a ROW.", () -> {
            told(rows("", "ab"), 3, x -> x.put(1, 'c'), "", "abc");
            told(rows("", "ab"), 3, x -> x.put(1, 0), "", "ab\0");
            told(rows("", "ab"), 3, x -> x.put(1, 127), "", "ab\u007f");
        });
        edge(17, "Returns how many it has then.", () -> {
            told(rows(), 1, x -> x.put(3, 'b'), "", "", "", "b");
            told(rows(D59), 60, x -> x.put(0, 'b'), D59 + "b");
        });
        edge(17, "Throws `IndexOutOfBoundsException` if there is no such ROW", () -> rowEdges(rows(), (x, row) -> x.put(row, 97)));
        edge(17, "Throws `IllegalArgumentException` if sign is not 0 to 127", () -> signEdges((x, sign) -> x.put(0, sign)));
        edge(17, "Throws `IllegalStateException` if it has 60", () -> {
            thrown(rows(A60), STATE, x -> x.put(0, 'a'));
            thrown(rows("", "", "", A60), STATE, x -> x.put(3, 0));
            lets(rows(A60, A59), (x, row) -> x.put(row, 'a'), 1, 2);
        });
    }

    private static void puttingOthers() {
        edge(18, "The SIGN of a KIND with a RANK comes behind a ROW.", () -> {
            for (int[] sign : EDGES_OF_KINDS) {
                told(rows("ab"), 3, x -> x.putRank(0, sign[1], sign[2]), "ab" + (char) sign[0]);
            }
        });
        edge(18, "Returns how many it has then.", () -> {
            told(rows(), 1, x -> x.putRank(3, 0, 0), "", "", "", "0");
            told(rows(D59), 60, x -> x.putRank(0, 4, 55), D59 + "\u007f");
        });
        edge(18, "Throws `IndexOutOfBoundsException` if there is no such ROW",
                () -> rowEdges(rows(), (x, row) -> x.putRank(row, 0, 0)));
        edge(18, "Throws `IllegalArgumentException` if kind is not 0 to 4, or rank none of it", () -> {
            throwsFor(rows("a"), ARGUMENT, NO_KINDS, (x, kind) -> x.putRank(0, kind, 0));
            lets(rows("a"), (x, kind) -> x.putRank(0, kind, 0), 0, 4);
            for (int kind = 0; kind < 5; kind++) {
                int of = kind;
                throwsFor(rows("a"), ARGUMENT, beyond(0, MANY_OF_KINDS[of] - 1), (x, rank) -> x.putRank(0, of, rank));
                lets(rows("a"), (x, rank) -> x.putRank(0, of, rank), 0, MANY_OF_KINDS[of] - 1);
            }
        });
        edge(18, "Throws `IllegalStateException` if it has 60", () -> {
            thrown(rows(A60), STATE, x -> x.putRank(0, 0, 0));
            lets(rows(A60, A59), (x, row) -> x.putRank(row, 0, 0), 1, 2);
        });
        edge(19, "The SIGN that WRITES a VALUE comes behind a ROW.", () -> {
            told(rows("ab"), 3, x -> x.putDigit(0, 0, 2), "ab0");
            told(rows("ab"), 3, x -> x.putDigit(0, 9, 36), "ab9");
            told(rows("ab"), 3, x -> x.putDigit(0, 10, 36), "aba");
            told(rows("ab"), 3, x -> x.putDigit(0, 35, 36), "abz");
        });
        edge(19, "Returns how many it has then.", () -> {
            told(rows(), 1, x -> x.putDigit(3, 1, 2), "", "", "", "1");
            told(rows(D59), 60, x -> x.putDigit(0, 35, 36), D59 + "z");
        });
        edge(19, "Throws `IndexOutOfBoundsException` if there is no such ROW",
                () -> rowEdges(rows(), (x, row) -> x.putDigit(row, 0, 2)));
        edge(19, "Throws `IllegalArgumentException` if radix is not 2 to 36, or value below 0 or not below it", () -> {
            throwsFor(rows("a"), ARGUMENT, NO_RADICES, (x, radix) -> x.putDigit(0, 0, radix));
            lets(rows("a"), (x, radix) -> x.putDigit(0, 0, radix), 2, 36);
            for (int radix = 2; radix <= 36; radix++) {
                int by = radix;
                throwsFor(rows("a"), ARGUMENT, beyond(0, by - 1), (x, value) -> x.putDigit(0, value, by));
                lets(rows("a"), (x, value) -> x.putDigit(0, value, by), 0, by - 1);
            }
        });
        edge(19, "Throws `IllegalStateException` if it has 60", () -> {
            thrown(rows(A60), STATE, x -> x.putDigit(0, 0, 2));
            lets(rows(A60, A59), (x, row) -> x.putDigit(row, 0, 2), 1, 2);
        });
    }

    private static void changing() {
        edge(20, "A SIGN becomes another one.", () -> {
            told(rows("abc"), 97, x -> x.change(0, 0, 0), "\0bc");
            told(rows("abc"), 99, x -> x.change(0, 2, 127), "ab\u007f");
            told(rows("abc"), 98, x -> x.change(0, 1, 'b'), "abc");
            told(rows(D59 + "a"), 97, x -> x.change(0, 59, 'b'), D59 + "b");
            told(rows("a" + D59), 97, x -> x.change(0, 0, 'b'), "b" + D59);
        });
        edge(20, "Returns which it was.", () -> {
            told(rows("\0\u007f"), 0, x -> x.change(0, 0, 'x'), "x\u007f");
            told(rows("\0\u007f"), 127, x -> x.change(0, 1, 'x'), "\0x");
        });
        edge(20, "Throws `IndexOutOfBoundsException` if there is no such ROW, or no such PLACE in it", () -> {
            rowEdges(rows("a", "a", "a", "a"), (x, row) -> x.change(row, 0, 'b'));
            placeEdges((x, place) -> x.change(0, place, 'b'));
        });
        edge(20, "Throws `IllegalArgumentException` if sign is not 0 to 127", () -> {
            throwsFor(rows("a"), ARGUMENT, NO_SIGNS, (x, sign) -> x.change(0, 0, sign));
            lets(rows("a"), (x, sign) -> x.change(0, 0, sign), 0, 127);
        });
        edge(21, "A SIGN comes ahead of a PLACE.", () -> {
            told(rows("abc"), 4, x -> x.insert(0, 0, 0), "\0abc");
            told(rows("abc"), 4, x -> x.insert(0, 2, 127), "ab\u007fc");
            told(rows(D59), 60, x -> x.insert(0, 0, 'a'), "a" + D59);
            told(rows(D59), 60, x -> x.insert(0, 58, 'a'), D59.substring(0, 58) + "a" + D59.substring(58));
        });
        edge(21, "the PLACE (or how many it has: behind all)", () -> {
            told(rows(), 1, x -> x.insert(3, 0, 'x'), "", "", "", "x");
            told(rows("abc"), 4, x -> x.insert(0, 3, 'x'), "abcx");
            told(rows(D59), 60, x -> x.insert(0, 59, 'x'), D59 + "x");
        });
        edge(21, "Returns how many it has then.", () -> {
            told(rows(), 1, x -> x.insert(0, 0, 'a'), "a");
            told(rows(D59), 60, x -> x.insert(0, 30, 'a'), D59.substring(0, 30) + "a" + D59.substring(30));
        });
        edge(21, "Throws `IndexOutOfBoundsException` if there is no such ROW, or no such PLACE in it", () -> {
            rowEdges(rows(), (x, row) -> x.insert(row, 0, 'b'));
            throwsFor(rows(), INDEX, beyond(0, 0), (x, place) -> x.insert(0, place, 'b'));
            throwsFor(rows("abc", A60), INDEX, beyond(0, 3), (x, place) -> x.insert(0, place, 'b'));
            throwsFor(rows("abc", A60), INDEX, beyond(0, 60), (x, place) -> x.insert(1, place, 'b'));
            lets(rows("abc"), (x, place) -> x.insert(0, place, 'b'), 0, 1, 2, 3);
        });
        edge(21, "Throws `IllegalArgumentException` if sign is not 0 to 127", () -> {
            throwsFor(rows("a"), ARGUMENT, NO_SIGNS, (x, sign) -> x.insert(0, 1, sign));
            lets(rows("a"), (x, sign) -> x.insert(0, 1, sign), 0, 127);
        });
        edge(21, "Throws `IllegalStateException` if it has 60", () -> {
            throwsFor(rows(A60), STATE, new int[] {0, 30, 59, 60}, (x, place) -> x.insert(0, place, 'a'));
            lets(rows(A60, A59), (x, row) -> x.insert(row, 0, 'a'), 1, 2);
        });
    }

    /** Places of an empty row, of one with three signs, of a full one, and behind where signs have been. */
    private static void placeEdges(CallOfOne call) {
        throwsFor(rows("", "abc"), INDEX, new int[] {0, -1, 1, 59, 60, LEAST, GREATEST}, call);
        throwsFor(rows("abc", A60), INDEX, beyond(0, 2), call);
        throwsFor(rows(A60), INDEX, beyond(0, 59), call);
        lets(rows("abc"), call, 0, 1, 2);
        lets(rows(A60), call, 0, 59);
        Signproduct dropped = made("abc");
        dropped.drop(0, 1);
        is(outcome(dropped, x -> call.on(x, 2)), INDEX);
        is(dropped.house(0), 4);
    }

    private static void leaving() {
        edge(22, "A SIGN goes.", () -> {
            told(rows("abc"), 97, x -> x.remove(0, 0), "bc");
            told(rows("abc"), 98, x -> x.remove(0, 1), "ac");
            told(rows("abc"), 99, x -> x.remove(0, 2), "ab");
            told(rows("", "", "", "a"), 97, x -> x.remove(3, 0), "");
            told(rows("b" + D59), 98, x -> x.remove(0, 0), D59);
            told(rows(D59 + "b"), 98, x -> x.remove(0, 59), D59);
        });
        edge(22, "Returns which it was.", () -> {
            told(rows("\0\u007f"), 0, x -> x.remove(0, 0), "\u007f");
            told(rows("\0\u007f"), 127, x -> x.remove(0, 1), "\0");
        });
        edge(22, "Throws `IndexOutOfBoundsException` if there is no such ROW, or no such PLACE in it", () -> {
            rowEdges(rows("a", "a", "a", "a"), (x, row) -> x.remove(row, 0));
            placeEdges((x, place) -> x.remove(0, place));
        });
        edge(23, "The last ones go.", () -> {
            told(rows("abc"), 3, x -> x.drop(0, 0), "abc");
            told(rows("abc"), 2, x -> x.drop(0, 1), "ab");
            told(rows("b" + D59), 1, x -> x.drop(0, 59), "b");
        });
        edge(23, "how many (all, if it has not so many)", () -> {
            told(rows("abc"), 0, x -> x.drop(0, 3), "");
            told(rows("abc"), 0, x -> x.drop(0, 4), "");
            told(rows("abc"), 0, x -> x.drop(0, 60), "");
            told(rows(A59), 0, x -> x.drop(0, 60), "");
            told(rows(), 0, x -> x.drop(0, 1), "");
            told(rows(), 0, x -> x.drop(0, 60), "");
        });
        edge(23, "Returns how many are left.", () -> {
            told(rows(D60), 60, x -> x.drop(0, 0), D60);
            told(rows(D60), 59, x -> x.drop(0, 1), D59);
            told(rows(A60), 0, x -> x.drop(0, 60), "");
            told(rows(), 0, x -> x.drop(0, 0), "");
        });
        edge(23, "Throws `IndexOutOfBoundsException` if there is no such ROW", () -> rowEdges(rows(), (x, row) -> x.drop(row, 1)));
        edge(23, "Throws `IllegalArgumentException` if many is not 0 to 60", () -> {
            throwsFor(rows("abc"), ARGUMENT, NOT_MANY, (x, many) -> x.drop(0, many));
            throwsFor(rows(), ARGUMENT, NOT_MANY, (x, many) -> x.drop(0, many));
            lets(rows("abc"), (x, many) -> x.drop(0, many), 0, 60);
        });
    }

    private static void copying() {
        edge(24, "A ROW becomes like another one.", () -> {
            told(rows("abc", "xy"), 2, x -> x.copy(0, 1), "xy", "xy");
            told(rows("abc"), 0, x -> x.copy(0, 1), "");
            told(rows(D60, "", "", "b"), 60, x -> x.copy(3, 0), D60, "", "", D60);
            Signproduct apart = made("abc", "xy");
            apart.copy(0, 1);
            apart.put(1, 'z');
            apart.change(0, 0, 'w');
            is(rowsOf(apart), "wy|xyz|||");
        });
        edge(24, "another ROW, or the same", () -> {
            told(rows("abc"), 3, x -> x.copy(0, 0), "abc");
            told(rows(), 0, x -> x.copy(3, 3), "");
            told(rows(D60), 60, x -> x.copy(0, 0), D60);
        });
        edge(24, "Returns how many it has then.", () -> {
            told(rows("", D60), 60, x -> x.copy(0, 1), D60, D60);
            told(rows("", A60), 0, x -> x.copy(1, 0), "");
        });
        edge(24, "Throws `IndexOutOfBoundsException` if there is no such ROW (both)", () -> bothEdges((x, row) -> x.copy(row, 1),
                (x, row) -> x.copy(1, row)));
        edge(25, "Two ROWS change what they have.", () -> {
            told(rows("abc", "", "", "xy"), 2, x -> x.swap(0, 3), "xy", "", "", "abc");
            told(rows("", D60), 60, x -> x.swap(0, 1), D60, "");
            told(rows(A60, D60), 60, x -> x.swap(0, 1), D60, A60);
            Signproduct apart = made("abc", "xy");
            apart.swap(0, 1);
            apart.put(1, 'z');
            apart.change(0, 0, 'w');
            is(rowsOf(apart), "wy|abcz|||");
        });
        edge(25, "another ROW, or the same", () -> {
            told(rows("abc"), 3, x -> x.swap(0, 0), "abc");
            told(rows(), 0, x -> x.swap(3, 3), "");
            told(rows(D60), 60, x -> x.swap(0, 0), D60);
        });
        edge(25, "Returns how many the first one has then.", () -> {
            told(rows("a", A60), 60, x -> x.swap(0, 1), A60, "a");
            told(rows("a", A60), 1, x -> x.swap(1, 0), A60, "a");
            told(rows("a"), 0, x -> x.swap(0, 1), "", "a");
        });
        edge(25, "Throws `IndexOutOfBoundsException` if there is no such ROW (both)", () -> bothEdges((x, row) -> x.swap(row, 1),
                (x, row) -> x.swap(1, row)));
        joining();
    }

    private static void bothEdges(CallOfOne first, CallOfOne second) {
        rowEdges(rows("ab", "12", "", " "), first);
        rowEdges(rows("ab", "12", "", " "), second);
    }

    private static void joining() {
        edge(26, "All SIGNS of another ROW come behind a ROW.", () -> {
            told(rows("ab", "", "", "xyz"), 5, x -> x.join(0, 3), "abxyz", "", "", "xyz");
            told(rows("", D60), 60, x -> x.join(0, 1), D60, D60);
            told(rows("", D60), 60, x -> x.join(1, 0), "", D60);
            told(rows(), 0, x -> x.join(0, 1), "");
        });
        edge(26, "another ROW, or the same", () -> {
            told(rows("ab"), 4, x -> x.join(0, 0), "abab");
            told(rows(), 0, x -> x.join(3, 3), "");
            told(rows(D60.substring(0, 30)), 60, x -> x.join(0, 0), D60.substring(0, 30).repeat(2));
        });
        edge(26, "Returns how many it has then.", () -> {
            told(rows(D59, "b"), 60, x -> x.join(0, 1), D59 + "b", "b");
            told(rows(D59, "b"), 60, x -> x.join(1, 0), D59, "b" + D59);
        });
        edge(26, "Throws `IndexOutOfBoundsException` if there is no such ROW (both)", () -> bothEdges((x, row) -> x.join(row, 1),
                (x, row) -> x.join(1, row)));
        edge(26, "Throws `IllegalStateException` if these would be more than 60", () -> {
            thrown(rows(A60, "b"), STATE, x -> x.join(0, 1));
            thrown(rows(A60, "b"), STATE, x -> x.join(1, 0));
            thrown(rows(A59, "bc"), STATE, x -> x.join(0, 1));
            thrown(rows("ab".repeat(15) + "c"), STATE, x -> x.join(0, 0));
            thrown(rows(A60), STATE, x -> x.join(0, 0));
            thrown(rows(A60, A60), STATE, x -> x.join(0, 1));
        });
    }

    private static void turningRound() {
        edge(27, "A ROW is turned round, the last one first.", () -> {
            told(rows(), 0, x -> x.reverse(3), "");
            told(rows("a"), 1, x -> x.reverse(0), "a");
            told(rows("ab"), 2, x -> x.reverse(0), "ba");
            told(rows("abc"), 3, x -> x.reverse(0), "cba");
            told(rows("abcd"), 4, x -> x.reverse(0), "dcba");
            told(rows(D60), 60, x -> x.reverse(0), new StringBuilder(D60).reverse().toString());
            told(rows(D59), 59, x -> x.reverse(0), new StringBuilder(D59).reverse().toString());
        });
        edge(27, "Returns how many it has.", () -> {
            told(rows(), 0, x -> x.reverse(0), "");
            told(rows(A60), 60, x -> x.reverse(0), A60);
        });
        edge(27, "Throws `IndexOutOfBoundsException` if there is no such ROW", () -> rowEdges(rows("ab"), (x, row) -> x.reverse(row)));
        edge(28, "All SPACES at its beginning and at its end go.", () -> {
            told(rows("\t\n\u000b\f\ra b\u001c\u001d\u001e\u001f "), 10, x -> x.strip(0), "a b");
            told(rows("\b \u000e"), 0, x -> x.strip(0), "\b \u000e");
            told(rows("\u001b ! \u001b"), 0, x -> x.strip(0), "\u001b ! \u001b");
            told(rows("!" + " ".repeat(59)), 59, x -> x.strip(0), "!");
            told(rows(" ".repeat(59) + "!"), 59, x -> x.strip(0), "!");
            told(rows("a" + " ".repeat(58) + "b"), 0, x -> x.strip(0), "a" + " ".repeat(58) + "b");
        });
        edge(28, "Returns how many.", () -> {
            told(rows(), 0, x -> x.strip(3), "");
            told(rows(" "), 1, x -> x.strip(0), "");
            told(rows("\t".repeat(60)), 60, x -> x.strip(0), "");
            told(rows(" a"), 1, x -> x.strip(0), "a");
            told(rows("a "), 1, x -> x.strip(0), "a");
            told(rows(A60), 0, x -> x.strip(0), A60);
        });
        edge(28, "Throws `IndexOutOfBoundsException` if there is no such ROW", () -> rowEdges(rows(" a "), (x, row) -> x.strip(row)));
    }

    // ---- promises 29 to 32

    private static void cases() {
        String some = "@AZ[`az{\0\u007f09 ";
        edge(29, "All SMALL ones become the CAPITALS that belong to them.",
                () -> told(rows("", "", "", some), 2, x -> x.capitals(3), "", "", "", "@AZ[`AZ{\0\u007f09 "));
        edge(29, "Returns how many.", () -> {
            told(rows(), 0, x -> x.capitals(0), "");
            told(rows("A".repeat(60)), 0, x -> x.capitals(0), "A".repeat(60));
            told(rows(A60), 60, x -> x.capitals(0), "A".repeat(60));
        });
        edge(29, "Throws `IndexOutOfBoundsException` if there is no such ROW", () -> rowEdges(rows("aZ"), (x, row) -> x.capitals(row)));
        edge(30, "All CAPITALS become the SMALL ones that belong to them.",
                () -> told(rows("", "", "", some), 2, x -> x.smalls(3), "", "", "", "@az[`az{\0\u007f09 "));
        edge(30, "Returns how many.", () -> {
            told(rows(), 0, x -> x.smalls(0), "");
            told(rows(A60), 0, x -> x.smalls(0), A60);
            told(rows("A".repeat(60)), 60, x -> x.smalls(0), A60);
        });
        edge(30, "Throws `IndexOutOfBoundsException` if there is no such ROW", () -> rowEdges(rows("aZ"), (x, row) -> x.smalls(row)));
        edge(31, "All SIGNS are TURNED.",
                () -> told(rows("", "", "", some), 4, x -> x.turn(3), "", "", "", "@az[`AZ{\0\u007f09 "));
        edge(31, "Returns how many are other ones by that.", () -> {
            told(rows(), 0, x -> x.turn(0), "");
            told(rows("0 ".repeat(30)), 0, x -> x.turn(0), "0 ".repeat(30));
            told(rows("aZ".repeat(30)), 60, x -> x.turn(0), "Az".repeat(30));
        });
        edge(31, "Throws `IndexOutOfBoundsException` if there is no such ROW", () -> rowEdges(rows("aZ"), (x, row) -> x.turn(row)));
        edge(32, "A SIGN is TURNED.", () -> {
            told(rows("aaa"), 65, x -> x.turnAt(0, 0), "Aaa");
            told(rows("aaa"), 65, x -> x.turnAt(0, 2), "aaA");
            told(rows(A60), 65, x -> x.turnAt(0, 59), A59 + "A");
        });
        edge(32, "Returns which it is then.", () -> {
            for (int[] sign : EDGES_OF_KINDS) {
                int due = sign[1] == 1 ? sign[0] + 32 : sign[1] == 2 ? sign[0] - 32 : sign[0];
                told(rows("" + (char) sign[0]), due, x -> x.turnAt(0, 0), "" + (char) due);
            }
        });
        edge(32, "Throws `IndexOutOfBoundsException` if there is no such ROW, or no such PLACE in it", () -> {
            rowEdges(rows("a", "a", "a", "a"), (x, row) -> x.turnAt(row, 0));
            placeEdges((x, place) -> x.turnAt(0, place));
        });
    }

    // ---- promises 33 to 38

    private static void reading() {
        edge(33, "Returns its NUMBER; REFUSED if it has none, or one above 2147483647.", () -> {
            refused(rows(), x -> x.number(0, 10));
            refused(rows("1 "), x -> x.number(0, 36));
            refused(rows(" 1"), x -> x.number(0, 36));
            refused(rows("-1"), x -> x.number(0, 36));
            refused(rows("0".repeat(59) + "."), x -> x.number(0, 36));
            for (int radix = 2; radix <= 36; radix++) {
                int by = radix;
                BigInteger greatest = BigInteger.valueOf(GREATEST);
                String last = greatest.toString(by);
                asked(rows(last), GREATEST, x -> x.number(0, by));
                asked(rows("", "", "", last.toUpperCase()), GREATEST, x -> x.number(3, by));
                asked(rows("0".repeat(60 - last.length()) + last), GREATEST, x -> x.number(0, by));
                refused(rows(greatest.add(BigInteger.ONE).toString(by)), x -> x.number(0, by));
                refused(rows(last + "0"), x -> x.number(0, by));
                // Those that are wrapped around to something else: 2 ^ 32, 2 ^ 64, each and one more.
                refused(rows(BigInteger.TWO.pow(32).toString(by)), x -> x.number(0, by));
                refused(rows(BigInteger.TWO.pow(32).add(BigInteger.ONE).toString(by)), x -> x.number(0, by));
                if (BigInteger.TWO.pow(64).toString(by).length() <= 60) {
                    refused(rows(BigInteger.TWO.pow(64).toString(by)), x -> x.number(0, by));
                    refused(rows(BigInteger.TWO.pow(64).add(BigInteger.ONE).toString(by)), x -> x.number(0, by));
                }
                refused(rows("1" + "0".repeat(59)), x -> x.number(0, by));
                refused(rows(FIGURES.substring(by - 1, by).repeat(60)), x -> x.number(0, by));
                asked(rows("0".repeat(60)), 0, x -> x.number(0, by));
            }
        });
        edge(33, "Throws `IndexOutOfBoundsException` if there is no such ROW",
                () -> rowEdges(rows("1", "1", "1", "1"), (x, row) -> x.number(row, 10)));
        edge(33, "Throws `IllegalArgumentException` if radix is not 2 to 36", () -> {
            throwsFor(rows("1"), ARGUMENT, NO_RADICES, (x, radix) -> x.number(0, radix));
            throwsFor(rows(), ARGUMENT, NO_RADICES, (x, radix) -> x.number(0, radix));
            lets(rows("1"), (x, radix) -> x.number(0, radix), 2, 36);
        });
        edge(34, "a PLACE (or how many it has)", () -> {
            asked(rows("123"), 1, x -> x.numberOf(0, 0, 1, 10));
            asked(rows("123"), 3, x -> x.numberOf(0, 2, 1, 10));
            refused(rows("123"), x -> x.numberOf(0, 3, 0, 10));
            refused(rows("123"), x -> x.numberOf(0, 3, 1, 10));
            refused(rows(), x -> x.numberOf(0, 0, 0, 10));
            refused(rows("1".repeat(60)), x -> x.numberOf(0, 60, 0, 10));
            asked(rows("1".repeat(60)), 1, x -> x.numberOf(0, 59, 1, 10));
        });
        edge(34, "Returns the NUMBER of these; REFUSED likewise (so of 0 SIGNS), also if there are not so many.", () -> {
            asked(rows("9123."), 123, x -> x.numberOf(0, 1, 3, 10));
            refused(rows("9123."), x -> x.numberOf(0, 1, 4, 10));
            refused(rows("9123."), x -> x.numberOf(0, 1, 3, 3));
            refused(rows("9123"), x -> x.numberOf(0, 1, 0, 10));
            refused(rows("9123"), x -> x.numberOf(0, 1, 4, 10));
            refused(rows("9123"), x -> x.numberOf(0, 0, 60, 10));
            asked(rows("12147483647"), GREATEST, x -> x.numberOf(0, 1, 10, 10));
            refused(rows("12147483648"), x -> x.numberOf(0, 1, 10, 10));
            asked(rows("0".repeat(60)), 0, x -> x.numberOf(0, 0, 60, 2));
            refused(rows("1".repeat(60)), x -> x.numberOf(0, 0, 60, 2));
            refused(rows("0".repeat(60)), x -> x.numberOf(0, 1, 60, 2));
            Signproduct dropped = made("1234");
            dropped.drop(0, 2);
            is(dropped.numberOf(0, 1, 2, 10), REFUSED);
            is(dropped.numberOf(0, 1, 1, 10), 2);
        });
        edge(34, "Throws `IndexOutOfBoundsException` if there is no such ROW, or no such PLACE in it", () -> {
            rowEdges(rows("1", "1", "1", "1"), (x, row) -> x.numberOf(row, 0, 1, 10));
            throwsFor(rows("123"), INDEX, beyond(0, 3), (x, place) -> x.numberOf(0, place, 0, 10));
            throwsFor(rows("123"), INDEX, beyond(0, 3), (x, place) -> x.numberOf(0, place, 1, 10));
            throwsFor(rows("1".repeat(60)), INDEX, beyond(0, 60), (x, place) -> x.numberOf(0, place, 1, 10));
            throwsFor(rows(), INDEX, beyond(0, 0), (x, place) -> x.numberOf(0, place, 0, 10));
        });
        edge(34, "Throws `IllegalArgumentException` if many is not 0 to 60, or radix not 2 to 36", () -> {
            throwsFor(rows("123"), ARGUMENT, NOT_MANY, (x, many) -> x.numberOf(0, 0, many, 10));
            throwsFor(rows("123"), ARGUMENT, NOT_MANY, (x, many) -> x.numberOf(0, 3, many, 10));
            throwsFor(rows("1"), ARGUMENT, NO_RADICES, (x, radix) -> x.numberOf(0, 0, 1, radix));
            throwsFor(rows("1"), ARGUMENT, NO_RADICES, (x, radix) -> x.numberOf(0, 1, 0, radix));
            lets(rows("1"), (x, radix) -> x.numberOf(0, 0, 1, radix), 2, 36);
            lets(rows("0".repeat(60)), (x, many) -> x.numberOf(0, 0, many, 10), 1, 60);
        });
    }

    private static void writing() {
        edge(35, "A ROW becomes a number, WRITTEN.", () -> {
            told(rows(A60), 1, x -> x.write(0, 0, 2), "0");
            told(rows(A60), 1, x -> x.write(0, 0, 36), "0");
            told(rows(), 1, x -> x.write(3, 1, 2), "", "", "", "1");
            told(rows("ab"), 31, x -> x.write(0, GREATEST, 2), "1".repeat(31));
            told(rows("ab"), 31, x -> x.write(0, GREATEST - 1, 2), "1".repeat(30) + "0");
            told(rows("ab"), 6, x -> x.write(0, GREATEST, 36), "zik0zj");
        });
        edge(35, "Returns how many SIGNS it has then.", () -> {
            for (int radix = 2; radix <= 36; radix++) {
                int by = radix;
                int digits = 1;
                for (long power = by; power <= GREATEST; power *= by) {
                    int number = (int) power;
                    String least = "1" + "0".repeat(digits);
                    told(rows(), digits, x -> x.write(0, number - 1, by), FIGURES.substring(by - 1, by).repeat(digits));
                    digits++;
                    told(rows(), digits, x -> x.write(0, number, by), least);
                }
            }
        });
        edge(35, "Throws `IndexOutOfBoundsException` if there is no such ROW", () -> rowEdges(rows(), (x, row) -> x.write(row, 0, 2)));
        edge(35, "Throws `IllegalArgumentException` if number is below 0, or radix not 2 to 36", () -> {
            throwsFor(rows("ab"), ARGUMENT, new int[] {-1, -9, LEAST}, (x, number) -> x.write(0, number, 10));
            throwsFor(rows("ab"), ARGUMENT, NO_RADICES, (x, radix) -> x.write(0, 0, radix));
            lets(rows("ab"), (x, number) -> x.write(0, number, 10), 0, GREATEST);
            lets(rows("ab"), (x, radix) -> x.write(0, 0, radix), 2, 36);
        });
        converting();
    }

    private static void converting() {
        edge(36, "The NUMBER of a ROW in one RADIX is WRITTEN in another one.", () -> {
            told(rows("ZIK0ZJ"), 31, x -> x.convert(0, 36, 2), "1".repeat(31));
            told(rows("1".repeat(31)), 6, x -> x.convert(0, 2, 36), "zik0zj");
            told(rows("", "", "", "0".repeat(60)), 1, x -> x.convert(3, 2, 36), "", "", "", "0");
            told(rows("0".repeat(50) + "2147483647"), 8, x -> x.convert(0, 10, 16), "7fffffff");
        });
        edge(36, "the other one, or the same", () -> {
            told(rows("007"), 1, x -> x.convert(0, 10, 10), "7");
            told(rows("Zz"), 2, x -> x.convert(0, 36, 36), "zz");
            told(rows("0"), 1, x -> x.convert(0, 2, 2), "0");
        });
        edge(36, "Returns how many SIGNS it has then; REFUSED as number().", () -> {
            refused(rows(), x -> x.convert(0, 10, 2));
            refused(rows("2"), x -> x.convert(0, 2, 36));
            refused(rows("1."), x -> x.convert(0, 36, 36));
            refused(rows("zik0zk"), x -> x.convert(0, 36, 10));
            refused(rows("1" + "0".repeat(31)), x -> x.convert(0, 2, 2));
            refused(rows("4294967297"), x -> x.convert(0, 10, 10));
            refused(rows("1".repeat(60)), x -> x.convert(0, 10, 36));
        });
        edge(36, "Throws `IndexOutOfBoundsException` if there is no such ROW",
                () -> rowEdges(rows("1", "1", "1", "1"), (x, row) -> x.convert(row, 2, 36)));
        edge(36, "Throws `IllegalArgumentException` if radix or other is not 2 to 36", () -> {
            throwsFor(rows("1"), ARGUMENT, NO_RADICES, (x, radix) -> x.convert(0, radix, 10));
            throwsFor(rows("1"), ARGUMENT, NO_RADICES, (x, other) -> x.convert(0, 10, other));
            throwsFor(rows(), ARGUMENT, NO_RADICES, (x, radix) -> x.convert(0, radix, 10));
            throwsFor(rows(), ARGUMENT, NO_RADICES, (x, other) -> x.convert(0, 10, other));
            lets(rows("1"), (x, radix) -> x.convert(0, radix, 10), 2, 36);
            lets(rows("1"), (x, other) -> x.convert(0, 10, other), 2, 36);
        });
    }

    private static void leastAndSum() {
        edge(37, "Returns the least RADIX in which it has a NUMBER (also a great one); REFUSED if there is none.", () -> {
            asked(rows("0"), 2, x -> x.leastRadix(0));
            asked(rows("01"), 2, x -> x.leastRadix(0));
            for (int value = 2; value < 36; value++) {
                String sign = FIGURES.substring(value, value + 1);
                asked(rows("0" + sign + "1"), value + 1, x -> x.leastRadix(0));
                asked(rows("", "", "", sign.toUpperCase()), value + 1, x -> x.leastRadix(3));
            }
            asked(rows("1".repeat(60)), 2, x -> x.leastRadix(0));
            asked(rows("1".repeat(59) + "z"), 36, x -> x.leastRadix(0));
            asked(rows("Z".repeat(60)), 36, x -> x.leastRadix(0));
            refused(rows(), x -> x.leastRadix(0));
            refused(rows(" "), x -> x.leastRadix(0));
            refused(rows(".1"), x -> x.leastRadix(0));
            refused(rows("z".repeat(59) + "{"), x -> x.leastRadix(0));
        });
        edge(37, "Throws `IndexOutOfBoundsException` if there is no such ROW",
                () -> rowEdges(rows("1", "1", "1", "1"), (x, row) -> x.leastRadix(row)));
        edge(38, "Returns the sum of the VALUES of its SIGNS (of those that have one).", () -> {
            asked(rows(), 0, x -> x.sumOf(0));
            asked(rows("0"), 0, x -> x.sumOf(0));
            asked(rows(" .\0\u007f"), 0, x -> x.sumOf(0));
            asked(rows(" 9.aZ/"), 54, x -> x.sumOf(0));
            asked(rows("", "", "", "zZ".repeat(30)), 2100, x -> x.sumOf(3));
        });
        edge(38, "Throws `IndexOutOfBoundsException` if there is no such ROW", () -> rowEdges(rows("1"), (x, row) -> x.sumOf(row)));
    }

    // ---- promises 39 to 43

    private static void countingPieces() {
        edge(39, "Returns how many PIECES it has.", () -> {
            asked(rows(), 0, x -> x.pieces(0));
            asked(rows("", "", "", "a"), 1, x -> x.pieces(3));
            asked(rows("1a"), 2, x -> x.pieces(0));
            asked(rows("a1"), 1, x -> x.pieces(0));
            asked(rows(A60), 1, x -> x.pieces(0));
            asked(rows("9".repeat(60)), 1, x -> x.pieces(0));
            asked(rows("\t ".repeat(30)), 1, x -> x.pieces(0));
            asked(rows("!".repeat(60)), 60, x -> x.pieces(0));
            asked(rows("1a ".repeat(20)), 60, x -> x.pieces(0));
        });
        edge(39, "Throws `IndexOutOfBoundsException` if there is no such ROW", () -> rowEdges(rows("a b"), (x, row) -> x.pieces(row)));
        edge(40, "0 its SORT, 1 the PLACE of its first SIGN, 2 how many SIGNS it has", () -> {
            int[][] due = {{1, 0, 2}, {0, 2, 3}, {2, 5, 1}, {3, 6, 1}, {3, 7, 1}};
            for (int piece = 0; piece < due.length; piece++) {
                for (int what = 0; what <= 2; what++) {
                    int of = piece;
                    int asks = what;
                    asked(rows("12ab3 .."), due[of][asks], x -> x.ofPiece(0, of, asks));
                }
            }
        });
        edge(40, "Returns that.", () -> {
            int[] ofAll = {0, 0, 60};
            int[] ofLast = {3, 59, 1};
            for (int what = 0; what <= 2; what++) {
                int asks = what;
                asked(rows(A60), ofAll[asks], x -> x.ofPiece(0, 0, asks));
                asked(rows("", "", "", "!".repeat(60)), ofLast[asks], x -> x.ofPiece(3, 59, asks));
            }
        });
        edge(40, "Throws `IndexOutOfBoundsException` if there is no such ROW, or no such PIECE of it", () -> {
            rowEdges(rows("a", "a", "a", "a"), (x, row) -> x.ofPiece(row, 0, 0));
            pieceEdges((x, piece) -> x.ofPiece(0, piece, 2));
        });
        edge(40, "Throws `IllegalArgumentException` if what is not 0 to 2", () -> {
            throwsFor(rows("a"), ARGUMENT, beyond(0, 2), (x, what) -> x.ofPiece(0, 0, what));
            lets(rows("a"), (x, what) -> x.ofPiece(0, 0, what), 0, 2);
        });
    }

    /** Pieces of an empty row, of one with three, of one with sixty; the row behind it has more. */
    private static void pieceEdges(CallOfOne call) {
        throwsFor(rows("", "a b c"), INDEX, new int[] {0, 1, -1, 60, LEAST, GREATEST}, call);
        throwsFor(rows("a b", "a b c"), INDEX, beyond(0, 2), call);
        throwsFor(rows("!".repeat(60)), INDEX, beyond(0, 59), call);
        lets(rows("a b"), call, 0, 1, 2);
        lets(rows("!".repeat(60)), call, 0, 59);
        Signproduct dropped = made("a b", "a b c");
        dropped.drop(0, 1);
        dropped.pieces(1);
        is(outcome(dropped, x -> call.on(x, 2)), INDEX);
        is(dropped.house(0), 9);
    }

    private static void tellingPieces() {
        edge(41, "Returns PIECE by PIECE the first sign of the name of its SORT (w, n, g, m) and how many SIGNS it has, one"
                + " behind the other; \"\" without.", () -> {
            asked(rows(), "", x -> x.sorts(0));
            asked(rows("\0"), "m1", x -> x.sorts(0));
            asked(rows("a1 1\u007f"), "w2g1n1m1", x -> x.sorts(0));
            asked(rows("a".repeat(9) + " ".repeat(10) + "1".repeat(11)), "w9g10n11", x -> x.sorts(0));
            asked(rows("", "", "", A60), "w60", x -> x.sorts(3));
            asked(rows(A59 + " "), "w59g1", x -> x.sorts(0));
            asked(rows("1a ".repeat(20)), "n1w1g1".repeat(20), x -> x.sorts(0));
            asked(rows("!".repeat(60)), "m1".repeat(60), x -> x.sorts(0));
        });
        edge(41, "Throws `IndexOutOfBoundsException` if there is no such ROW", () -> rowEdges(rows("a b"), (x, row) -> x.sorts(row)));
        edge(42, "A ROW becomes a PIECE of another one (or of itself).", () -> {
            told(rows("12ab3 .", "old"), 2, x -> x.take(0, 0, 1), "12ab3 .", "12");
            told(rows("12ab3 .", "old"), 1, x -> x.take(0, 3, 1), "12ab3 .", ".");
            told(rows("12ab3 ."), 2, x -> x.take(0, 0, 0), "12");
            told(rows("12ab3 ."), 3, x -> x.take(0, 1, 0), "ab3");
            told(rows("12ab3 ."), 1, x -> x.take(0, 3, 0), ".");
            told(rows("", "", "", "ab"), 2, x -> x.take(3, 0, 3), "", "", "", "ab");
        });
        edge(42, "Returns how many SIGNS that has then.", () -> {
            told(rows(A60), 60, x -> x.take(0, 0, 1), A60, A60);
            told(rows("!".repeat(60), A60), 1, x -> x.take(0, 59, 1), "!".repeat(60), "!");
            told(rows("1" + A59), 59, x -> x.take(0, 1, 0), A59);
        });
        edge(42, "Throws `IndexOutOfBoundsException` if there is no such ROW (both), or no such PIECE of the first one", () -> {
            rowEdges(rows("a", "a", "a", "a"), (x, row) -> x.take(row, 0, 1));
            rowEdges(rows("a", "a", "a", "a"), (x, row) -> x.take(1, 0, row));
            pieceEdges((x, piece) -> x.take(0, piece, 1));
            throwsFor(rows("a b c", ""), INDEX, new int[] {0, 1, 2}, (x, piece) -> x.take(1, piece, 0));
        });
        edge(43, "Returns how many of its PIECES are of that.", () -> {
            for (int sort = 0; sort < 4; sort++) {
                int of = sort;
                asked(rows(), 0, x -> x.ofSort(0, of));
                asked(rows("", "", "", "1a !".repeat(15)), 15, x -> x.ofSort(3, of));
                asked(rows(A60), of == 0 ? 1 : 0, x -> x.ofSort(0, of));
                asked(rows("9".repeat(60)), of == 1 ? 1 : 0, x -> x.ofSort(0, of));
                asked(rows(" ".repeat(60)), of == 2 ? 1 : 0, x -> x.ofSort(0, of));
                asked(rows("!".repeat(60)), of == 3 ? 60 : 0, x -> x.ofSort(0, of));
            }
        });
        edge(43, "Throws `IndexOutOfBoundsException` if there is no such ROW", () -> rowEdges(rows("a"), (x, row) -> x.ofSort(row, 0)));
        edge(43, "Throws `IllegalArgumentException` if sort is not 0 to 3", () -> {
            throwsFor(rows("a"), ARGUMENT, beyond(0, 3), (x, sort) -> x.ofSort(0, sort));
            throwsFor(rows(), ARGUMENT, beyond(0, 3), (x, sort) -> x.ofSort(0, sort));
            lets(rows(), (x, sort) -> x.ofSort(0, sort), 0, 3);
        });
    }

    // ---- promises 44 and 45

    private static void coding() {
        edge(44, "A ROW becomes the CODE of another one (or of itself).", () -> {
            told(rows("\0@\u007f", "old"), 6, x -> x.code(0, 1, 16), "\0@\u007f", "00407f");
            told(rows("\0@\u007f", "old"), 6, x -> x.code(0, 1, 12), "\0@\u007f", "0054a7");
            told(rows("\0@\u007f", "old"), 6, x -> x.code(0, 1, 36), "\0@\u007f", "001s3j");
            told(rows("\0@\u007f"), 6, x -> x.code(0, 0, 16), "00407f");
            told(rows("", A60), 0, x -> x.code(0, 1, 16), "", "");
            told(rows(), 0, x -> x.code(3, 3, 16), "");
        });
        edge(44, "Returns how many SIGNS that has then; REFUSED if these would be more than 60.", () -> {
            told(rows("", "", "", "a"), 2, x -> x.code(3, 3, 16), "", "", "", "61");
            told(rows("ab".repeat(15)), 60, x -> x.code(0, 1, 16), "ab".repeat(15), "6162".repeat(15));
            told(rows("ab".repeat(15)), 60, x -> x.code(0, 0, 16), "6162".repeat(15));
            refused(rows("c" + "ab".repeat(15), "old"), x -> x.code(0, 1, 16));
            refused(rows("c" + "ab".repeat(15)), x -> x.code(0, 0, 16));
            refused(rows(A60, "old"), x -> x.code(0, 1, 12));
            refused(rows(A60), x -> x.code(0, 0, 36));
        });
        edge(44, "Throws `IndexOutOfBoundsException` if there is no such ROW (both)", () -> bothEdges((x, row) -> x.code(row, 1, 16),
                (x, row) -> x.code(1, row, 16)));
        edge(44, "Throws `IllegalArgumentException` if radix is not 12 to 36", () -> {
            throwsFor(rows("a"), ARGUMENT, NO_CODE_RADICES, (x, radix) -> x.code(0, 1, radix));
            throwsFor(rows("a"), ARGUMENT, new int[] {0, 2, 10}, (x, radix) -> x.code(0, 1, radix));
            throwsFor(rows(A60), ARGUMENT, NO_CODE_RADICES, (x, radix) -> x.code(0, 1, radix));
            throwsFor(rows(), ARGUMENT, NO_CODE_RADICES, (x, radix) -> x.code(0, 1, radix));
            lets(rows("a"), (x, radix) -> x.code(0, 1, radix), 12, 36);
        });
    }

    private static void decoding() {
        edge(45, "A ROW becomes what the CODE in another one (or in itself) was made of.", () -> {
            told(rows("00407F", "old"), 3, x -> x.decode(0, 1, 16), "00407F", "\0@\u007f");
            told(rows("0054A7", "old"), 3, x -> x.decode(0, 1, 12), "0054A7", "\0@\u007f");
            told(rows("001s3j", "old"), 3, x -> x.decode(0, 1, 36), "001s3j", "\0@\u007f");
            told(rows("00407f"), 3, x -> x.decode(0, 0, 16), "\0@\u007f");
            told(rows("", A60), 0, x -> x.decode(0, 1, 16), "", "");
            told(rows(), 0, x -> x.decode(3, 3, 16), "");
        });
        edge(45, "Returns how many SIGNS that has then; REFUSED if the first one is no CODE.", () -> {
            told(rows("", "", "", "61"), 1, x -> x.decode(3, 3, 16), "", "", "", "a");
            told(rows("6162".repeat(15)), 30, x -> x.decode(0, 0, 16), "ab".repeat(15));
            refused(rows("6", "41"), x -> x.decode(0, 1, 16));
            refused(rows("616", "41"), x -> x.decode(0, 1, 16));
            refused(rows("0".repeat(59), "41"), x -> x.decode(0, 1, 16));
            refused(rows("80", "41"), x -> x.decode(0, 1, 16));
            refused(rows("8000"), x -> x.decode(0, 0, 16));
            refused(rows("00".repeat(29) + "80"), x -> x.decode(0, 0, 16));
            refused(rows("0g", "41"), x -> x.decode(0, 1, 16));
            refused(rows("g0", "41"), x -> x.decode(0, 1, 16));
            refused(rows("0 ", "41"), x -> x.decode(0, 1, 36));
            refused(rows(" 0", "41"), x -> x.decode(0, 1, 36));
            refused(rows("-1", "41"), x -> x.decode(0, 1, 36));
            refused(rows("ff", "41"), x -> x.decode(0, 1, 16));
            refused(rows("zz", "41"), x -> x.decode(0, 1, 36));
            refused(rows("", "61", "6"), x -> x.decode(2, 1, 16));
        });
        edge(45, "Throws `IndexOutOfBoundsException` if there is no such ROW (both)", () -> {
            rowEdges(rows("61", "61", "61", "61"), (x, row) -> x.decode(row, 1, 16));
            rowEdges(rows("61", "61", "61", "61"), (x, row) -> x.decode(1, row, 16));
            rowEdges(rows(), (x, row) -> x.decode(1, row, 16));
        });
        edge(45, "Throws `IllegalArgumentException` if radix is not 12 to 36", () -> {
            throwsFor(rows("61"), ARGUMENT, NO_CODE_RADICES, (x, radix) -> x.decode(0, 1, radix));
            throwsFor(rows("00"), ARGUMENT, new int[] {0, 2, 10}, (x, radix) -> x.decode(0, 1, radix));
            throwsFor(rows("6"), ARGUMENT, NO_CODE_RADICES, (x, radix) -> x.decode(0, 1, radix));
            throwsFor(rows(), ARGUMENT, NO_CODE_RADICES, (x, radix) -> x.decode(0, 1, radix));
            lets(rows("31"), (x, radix) -> x.decode(0, 1, radix), 12, 36);
        });
    }

    // ---- promises 46 to 52

    private static void asking() {
        edge(46, "Returns how many SIGNS it has.", () -> {
            asked(rows(), 0, x -> x.size(0));
            asked(rows("", "", "", "a"), 1, x -> x.size(3));
            asked(rows(A60), 60, x -> x.size(0));
        });
        edge(46, "Throws `IndexOutOfBoundsException` if there is no such ROW", () -> rowEdges(rows("a"), (x, row) -> x.size(row)));
        edge(47, "Returns the SIGN there.", () -> {
            asked(rows("\0b\u007f"), 0, x -> x.sign(0, 0));
            asked(rows("\0b\u007f"), 127, x -> x.sign(0, 2));
            asked(rows("", "", "", A59 + "b"), 98, x -> x.sign(3, 59));
        });
        edge(47, "Throws `IndexOutOfBoundsException` if there is no such ROW, or no such PLACE in it", () -> {
            rowEdges(rows("a", "a", "a", "a"), (x, row) -> x.sign(row, 0));
            placeEdges((x, place) -> x.sign(0, place));
        });
        edge(48, "Returns its SIGNS, those from 32 to 126 as they are, all others as \"?\".", () -> {
            asked(rows(), "", x -> x.text(0));
            asked(rows("", "", "", "\0\u001f ~\u007f?"), "?? ~??", x -> x.text(3));
            asked(rows(A60), A60, x -> x.text(0));
            for (int sign = 0; sign < 128; sign++) {
                String one = String.valueOf((char) sign);
                asked(rows(one), sign < 32 || sign > 126 ? "?" : one, x -> x.text(0));
            }
        });
        edge(48, "Throws `IndexOutOfBoundsException` if there is no such ROW", () -> rowEdges(rows("a"), (x, row) -> x.text(row)));
        edge(49, "Returns how many of its SIGNS are of that.", () -> {
            for (int kind = 0; kind < 5; kind++) {
                int of = kind;
                asked(rows(), 0, x -> x.ofKind(0, of));
                asked(rows("", "", "", "0Aa !".repeat(12)), 12, x -> x.ofKind(3, of));
                asked(rows(A60), of == 2 ? 60 : 0, x -> x.ofKind(0, of));
            }
        });
        edge(49, "Throws `IndexOutOfBoundsException` if there is no such ROW", () -> rowEdges(rows("a"), (x, row) -> x.ofKind(row, 0)));
        edge(49, "Throws `IllegalArgumentException` if kind is not 0 to 4", () -> {
            throwsFor(rows("a"), ARGUMENT, NO_KINDS, (x, kind) -> x.ofKind(0, kind));
            throwsFor(rows(), ARGUMENT, NO_KINDS, (x, kind) -> x.ofKind(0, kind));
            lets(rows(), (x, kind) -> x.ofKind(0, kind), 0, 4);
        });
    }

    private static void comparing() {
        edge(50, "another ROW, or the same", () -> {
            asked(rows("ab"), 0, x -> x.compare(0, 0));
            asked(rows(), 0, x -> x.compare(3, 3));
        });
        edge(50, "Returns -1 if it is ahead of the other one in ORDER, 1 if that is ahead, 0 if they are ALIKE.", () -> {
            ordered("", "\0");
            ordered("", A60);
            ordered("a", "aa");
            ordered("\0", "\u007f");
            ordered(A59, A60);
            ordered(A59 + "\0", A60);
            ordered("`" + "z".repeat(59), "a");
            asked(rows(), 0, x -> x.compare(0, 3));
            asked(rows("", A60, "", A60), 0, x -> x.compare(1, 3));
        });
        edge(50, "Throws `IndexOutOfBoundsException` if there is no such ROW (both)",
                () -> bothEdges((x, row) -> x.compare(row, 1), (x, row) -> x.compare(1, row)));
        edge(51, "another ROW, or the same", () -> {
            asked(rows("ab"), true, x -> x.areAlike(0, 0));
            asked(rows(), true, x -> x.areAlike(3, 3));
        });
        edge(51, "Returns whether they are ALIKE.", () -> {
            asked(rows(), true, x -> x.areAlike(0, 3));
            asked(rows(A60, "", "", A60), true, x -> x.areAlike(0, 3));
            asked(rows("", "a"), false, x -> x.areAlike(0, 1));
            asked(rows(A60, A59), false, x -> x.areAlike(0, 1));
            asked(rows(A60, A59 + "A"), false, x -> x.areAlike(0, 1));
            asked(rows("\0", "\u007f"), false, x -> x.areAlike(0, 1));
        });
        edge(51, "Throws `IndexOutOfBoundsException` if there is no such ROW (both)",
                () -> bothEdges((x, row) -> x.areAlike(row, 1), (x, row) -> x.areAlike(1, row)));
        edge(52, "another ROW, or the same", () -> {
            asked(rows("aB"), true, x -> x.areAlikeButCases(0, 0));
            asked(rows(), true, x -> x.areAlikeButCases(3, 3));
        });
        edge(52, "Returns whether they would be ALIKE, if all SMALL ones were CAPITALS.", () -> {
            asked(rows(), true, x -> x.areAlikeButCases(0, 3));
            asked(rows("aZ".repeat(30), "", "", "Az".repeat(30)), true, x -> x.areAlikeButCases(0, 3));
            asked(rows("", "a"), false, x -> x.areAlikeButCases(0, 1));
            asked(rows(A60, A59.toUpperCase()), false, x -> x.areAlikeButCases(0, 1));
            asked(rows(A60, A59 + "B"), false, x -> x.areAlikeButCases(0, 1));
            // 32 apart, but no letters that belong together.
            asked(rows("@", "`"), false, x -> x.areAlikeButCases(0, 1));
            asked(rows("[", "{"), false, x -> x.areAlikeButCases(0, 1));
            asked(rows("\0", " "), false, x -> x.areAlikeButCases(0, 1));
            asked(rows("9", "Y"), false, x -> x.areAlikeButCases(0, 1));
        });
        edge(52, "Throws `IndexOutOfBoundsException` if there is no such ROW (both)",
                () -> bothEdges((x, row) -> x.areAlikeButCases(row, 1), (x, row) -> x.areAlikeButCases(1, row)));
    }

    // ---- promises 53 to 56

    private static void house() {
        edge(53, "0 how often a ROW was told to become something (each call of put() to strip(), capitals() to turnAt(),"
                + " write(), convert(), take(), code() and decode() that throws nothing and is not REFUSED, once, also if"
                + " nothing is other by it)", () -> {
            is(made().house(0), 0);
            counted(1, tellings());
            counted(1, tellingsByWhichNothingIsOther());
            counted(0, asks());
            Signproduct all = made("1a ", "zz", "", "1a ");
            for (Call call : tellingsByWhichNothingIsOther()) {
                call.on(all);
            }
            is(all.house(0), 8 + tellingsByWhichNothingIsOther().size());
            is(rowsOf(all), rowsOf(made("1a ", "zz", "", "1a ")));
        });
        edge(53, "1 SIGNS of all ROWS", () -> {
            asked(rows(), 0, x -> x.house(1));
            asked(rows("", "", "", "a"), 1, x -> x.house(1));
            asked(rows("a", "bc", "def", "ghij"), 10, x -> x.house(1));
            asked(rows(A60, A60, A60, A60), 240, x -> x.house(1));
        });
        edge(53, "2 how often one knocked", () -> {
            Signproduct x = made("a");
            is(x.house(2), 0);
            x.knock();
            is(x.house(2), 1);
            x.knock();
            x.house(2);
            is(x.house(2), 2);
        });
        edge(53, "Returns that.", () -> {
            Signproduct x = made("ab");
            x.knock();
            x.drop(0, 1);
            is(x.house(0) + " " + x.house(1) + " " + x.house(2), "3 1 1");
        });
        edge(53, "Throws `IllegalArgumentException` if what is not 0 to 2", () -> {
            throwsFor(rows("a"), ARGUMENT, beyond(0, 2), (x, what) -> x.house(what));
            lets(rows("a"), (x, what) -> x.house(what), 0, 2);
        });
        edge(54, "Knocks.", () -> {
            Signproduct x = made("a");
            x.knock();
            is(x.house(2), 1);
            is(x.house(0), 1);
            is(rowsOf(x), rowsOf(made("a")));
        });
        edge(54, "Returns how often one knocked, with this.", () -> {
            Signproduct x = new Signproduct();
            for (int knock = 1; knock <= 512; knock++) {
                is(x.knock(), knock);
            }
            is(new Signproduct().knock(), 1);
        });
    }

    private static void counted(int due, List<Call> calls) {
        for (Call call : calls) {
            Signproduct x = made("1a ", "zz", "", "1a ");
            call.on(x);
            is(x.house(0), 8 + due);
            is(x.house(2), 0);
        }
    }

    private static List<Call> tellings() {
        return List.of(x -> x.put(0, 'b'), x -> x.putRank(0, 1, 1), x -> x.putDigit(0, 1, 2), x -> x.change(0, 0, 'b'),
                x -> x.insert(0, 0, 'b'), x -> x.remove(0, 0), x -> x.drop(0, 1), x -> x.copy(0, 1), x -> x.swap(0, 1),
                x -> x.join(0, 1), x -> x.reverse(0), x -> x.strip(0), x -> x.capitals(0), x -> x.smalls(1),
                x -> x.turn(0), x -> x.turnAt(0, 1), x -> x.write(0, 7, 10), x -> x.convert(1, 36, 2),
                x -> x.take(0, 0, 1), x -> x.code(0, 1, 16), x -> x.decode(2, 0, 16), x -> x.swap(0, 3));
    }

    /** On the rows "1a ", "zz", "" and "1a ". */
    private static List<Call> tellingsByWhichNothingIsOther() {
        return List.of(x -> x.change(0, 0, '1'), x -> x.drop(0, 0), x -> x.drop(2, 60), x -> x.copy(0, 0),
                x -> x.copy(0, 3), x -> x.swap(0, 0), x -> x.swap(0, 3), x -> x.join(0, 2), x -> x.join(2, 2),
                x -> x.reverse(1), x -> x.reverse(2), x -> x.strip(1), x -> x.strip(2), x -> x.capitals(2),
                x -> x.smalls(0), x -> x.smalls(2), x -> x.turn(2), x -> x.turnAt(0, 0), x -> x.write(1, 1295, 36),
                x -> x.convert(1, 36, 36), x -> x.take(1, 0, 1), x -> x.code(2, 2, 16), x -> x.decode(2, 2, 16));
    }

    private static List<Call> asks() {
        return List.of(x -> x.kind(0), x -> x.rankOf(0), x -> x.signOf(0, 0), x -> x.count(0), x -> x.isDigit(0),
                x -> x.isLetter(0), x -> x.isLetterOrDigit(0), x -> x.isCapital(0), x -> x.isSpace(0), x -> x.capital(0),
                x -> x.small(0), x -> x.turned(0), x -> x.value(0), x -> x.digit(0, 2), x -> x.digitSign(0, 2),
                x -> x.number(1, 36), x -> x.numberOf(0, 0, 1, 10), x -> x.leastRadix(1), x -> x.sumOf(0),
                x -> x.pieces(0), x -> x.ofPiece(0, 0, 0), x -> x.sorts(0), x -> x.ofSort(0, 0), x -> x.size(0),
                x -> x.sign(0, 0), x -> x.text(0), x -> x.ofKind(0, 0), x -> x.compare(0, 1), x -> x.areAlike(0, 3),
                x -> x.areAlikeButCases(0, 1), x -> x.house(0), x -> x.house(1), x -> x.house(2),
                x -> x.isSound(), x -> x.digest());
    }

    private static void soundness() {
        edge(55, "Returns whether all of this is so: of each SIGN: it is of one KIND alone, TURNED twice it is itself, by one"
                + " TURN its VALUE stays, and what WRITES its VALUE, if it has one, has that VALUE", () -> {
            asked(rows(), true, x -> x.isSound());
            for (int sign = 0; sign < 128; sign++) {
                Signproduct x = made("" + (char) sign);
                int kinds = 0;
                for (int kind = 0; kind < 5; kind++) {
                    kinds += x.ofKind(0, kind);
                }
                is(kinds, 1);
                is(x.turned(x.turned(sign)), sign);
                is(x.value(x.turned(sign)), x.value(sign));
                is(x.value(sign) == NONE || x.value(x.digitSign(x.value(sign), 36)) == x.value(sign), true);
                is(x.isSound(), true);
            }
        });
        edge(55, "of each ROW: its PIECES, one behind the other, are the ROW", () -> {
            asked(rows(A60, "1a ".repeat(20), "!".repeat(60), " \t1a.".repeat(12)), true, x -> x.isSound());
            asked(rows("", "", "", "1a ".repeat(20)), true, x -> x.isSound());
        });
        edge(55, "TURNED twice it is itself", () ->
                asked(rows("aZ".repeat(30), "Az".repeat(30), "@[`{".repeat(15), "0\0".repeat(30)), true, x -> x.isSound()));
        edge(55, "CODED in the RADIX 16 (if it has at most 30 SIGNS), and decoded, it is itself", () -> {
            asked(rows("\0\u007f".repeat(15), "a".repeat(30), "b".repeat(31), A60), true, x -> x.isSound());
            asked(rows("", "", "", "\0\u007f".repeat(15)), true, x -> x.isSound());
            asked(rows("", "", "", "\0\u007f".repeat(15) + "\0"), true, x -> x.isSound());
        });
        edge(55, "and its NUMBER in the RADIX 36, if it has one that is not above 2147483647, WRITTEN in each RADIX, is that"
                + " NUMBER there.", () -> {
            asked(rows("zik0zj", "ZIK0ZJ", "0".repeat(60), "z"), true, x -> x.isSound());
            asked(rows("zik0zk", "1" + "0".repeat(59), "z".repeat(60), "1."), true, x -> x.isSound());
            asked(rows("", "", "", "zik0zj"), true, x -> x.isSound());
        });
    }

    private static void checksum() {
        edge(56, "Computes a checksum. A number d starts with 7838; then d becomes d * 31 + v, which wraps around as a 64-bit"
                + " integer, for each v in this order: house() of 0 to 2;", () -> {
            boolean[] signs = new boolean[2];
            for (int knocks = 0; knocks < 12; knocks++) {
                Signproduct x = made("b");
                for (int knock = 0; knock < knocks; knock++) {
                    x.knock();
                }
                x.drop(1, 0);
                BigInteger due = checksumOf(2, knocks, "b", "", "", "");
                // Far above 64 bits, so that it must have wrapped around.
                is(due.bitLength() > 2000, true);
                is(x.digest(), due.longValue());
                signs[due.longValue() < 0 ? 0 : 1] = true;
            }
            is(signs[0] && signs[1], true);
        });
        edge(56, "ROW by ROW size(), its SIGNS, ofKind() of 0 to 4, leastRadix(), sumOf(), number() by the RADICES 2, 10, 16"
                + " and 36, pieces(), the codes of the signs of sorts(),", () -> {
            digested("", "", "", "");
            digested("a", "", "", "");
            digested("", "", "", "a");
            digested("\0", "\u007f", " ", "9");
            digested("1".repeat(31), "2147483647", "7fffffff", "zik0zj");
            digested("1".repeat(32), "2147483648", "80000000", "zik0zk");
            digested("0".repeat(60), "1", "2", "10");
            digested("1" + "0".repeat(59), "z".repeat(60), "Z".repeat(60), "9".repeat(60));
            digested(A60, "!".repeat(60), " ".repeat(60), "1a ".repeat(20));
            digested("a".repeat(9), "a".repeat(10), "1".repeat(9) + ".", "\t".repeat(10) + ".");
        });
        edge(56, "compare() with the ROW behind it (of the ROW 3 with the ROW 0);", () -> {
            for (String first : new String[] {"a", "b", "ba"}) {
                for (String last : new String[] {"a", "b", "ba"}) {
                    digested(first, "b", "b", last);
                    digested("b", first, last, "b");
                }
            }
        });
        edge(56, "for SIGN after SIGN (0 to 127) kind(), rankOf(), value(), turned();", () -> {
            // Backwards from d, value by value, to where it started.
            long d = unwound(made().digest(), 1);
            for (int sign = 127; sign >= 0; sign--) {
                Signproduct x = new Signproduct();
                d = unwound(unwound(d, x.turned(sign)), x.value(sign));
                d = unwound(unwound(d, x.rankOf(sign)), x.kind(sign));
            }
            long[] emptyRow = {0, 0, 0, 0, 0, 0, REFUSED, 0, REFUSED, REFUSED, REFUSED, REFUSED, 0, 0};
            for (int i = 4 * emptyRow.length - 1; i >= 0; i--) {
                d = unwound(d, emptyRow[i % emptyRow.length]);
            }
            is(unwound(unwound(unwound(d, 0), 0), 0), 7838L);
        });
        edge(56, "1 if isSound(), otherwise 0.", () -> {
            Signproduct x = made("zik0zj");
            is(x.isSound(), true);
            is(x.digest(), checksumOf(6, 0, "zik0zj", "", "", "").longValue());
        });
        edge(56, "Returns d.", () -> {
            Signproduct x = made("zik0zj", "a");
            long due = x.digest();
            is(x.digest(), due);
            x.put(3, 'a');
            x.drop(3, 1);
            is(x.digest(), checksumOf(9, 0, "zik0zj", "a", "", "").longValue());
            is(made("zik0zj", "a").digest(), due);
        });
    }

    /** What d was, before it became d * 31 + v. */
    private static long unwound(long d, long v) {
        BigInteger inverse = BigInteger.valueOf(31).modInverse(BigInteger.TWO.pow(64));
        return (d - v) * inverse.longValue();
    }

    private static void digested(String... rows) {
        long due = checksumOf(String.join("", rows).length(), 0, rows).longValue();
        Signproduct x = made(rows);
        is(x.digest(), due);
        is(rowsOf(x), rowsOf(made(rows)));
    }

    /** The checksum without bounds, from the texts of the rows alone. */
    private static BigInteger checksumOf(int told, int knocks, String... rows) {
        List<Integer> all = new ArrayList<>(List.of(told, String.join("", rows).length(), knocks));
        for (int row = 0; row < 4; row++) {
            addRow(all, rows[row]);
            all.add(Integer.signum(rows[row].compareTo(rows[(row + 1) % 4])));
        }
        int[] smaller = new int[5];
        for (int sign = 0; sign < 128; sign++) {
            int kind = kindDue(sign);
            all.addAll(List.of(kind, smaller[kind]++, Character.getNumericValue(sign)));
            all.add(kind == 1 ? sign + 32 : kind == 2 ? sign - 32 : sign);
        }
        all.add(1);
        BigInteger d = BigInteger.valueOf(7838);
        for (int v : all) {
            d = d.multiply(BigInteger.valueOf(31)).add(BigInteger.valueOf(v));
        }
        return d;
    }

    private static void addRow(List<Integer> all, String row) {
        all.add(row.length());
        int[] kinds = new int[5];
        int greatest = 1;
        int sum = 0;
        for (char sign : row.toCharArray()) {
            all.add((int) sign);
            kinds[kindDue(sign)]++;
            int value = Character.getNumericValue(sign);
            greatest = Math.max(greatest, value < 0 ? 99 : value);
            sum += Math.max(value, 0);
        }
        Arrays.stream(kinds).forEach(all::add);
        all.add(row.isEmpty() || greatest == 99 ? REFUSED : greatest + 1);
        all.add(sum);
        for (int radix : new int[] {2, 10, 16, 36}) {
            boolean has = !row.isEmpty() && greatest < radix;
            BigInteger number = has ? new BigInteger(row, radix) : BigInteger.ONE.negate();
            all.add(has && number.bitLength() <= 31 ? number.intValue() : REFUSED);
        }
        List<Integer> codes = new ArrayList<>();
        Matcher piece = Pattern.compile("[A-Za-z][A-Za-z0-9]*|[0-9]+|[\\x09-\\x0d\\x1c-\\x20]+|(?s:.)").matcher(row);
        int pieces = 0;
        while (piece.find()) {
            String told = "nwwgm".charAt(kindDue(row.charAt(piece.start()))) + "" + piece.group().length();
            told.chars().forEach(codes::add);
            pieces++;
        }
        all.add(pieces);
        all.addAll(codes);
    }

    private static int kindDue(int sign) {
        return Character.isDigit(sign) ? 0 : Character.isUpperCase(sign) ? 1 : Character.isLowerCase(sign) ? 2
                : Character.isWhitespace(sign) ? 3 : 4;
    }

    // ---- whether all sentences have a test

    private static void allSentences(String document) {
        promise = 0;
        sentence = "all sentences";
        String[] parts = document.split("(?m)^## Promise (?=\\d+:)");
        is(parts.length, 57);
        String ahead = parts[0];
        standsIn(0, ahead);
        String described = ahead.substring(ahead.indexOf("## Description"));
        for (String line : described.split("\n")) {
            boolean tells = line.startsWith("#") || line.matches("\\d\\. \\w+") || line.startsWith("The constructor and the methods");
            if (!tells) {
                isTested(0, line);
            }
        }
        for (int i = 1; i < parts.length; i++) {
            String text = parts[i].split("(?m)^## ")[0];
            int number = Integer.parseInt(text.substring(0, text.indexOf(':')));
            standsIn(number, text);
            for (String line : text.split("\n")) {
                boolean plain = line.equals(text.split("\n")[0]) || line.startsWith("`") || line.startsWith("----")
                        || line.matches("- `\\w+`: [^(,]*");
                if (!plain) {
                    isTested(number, line.replaceFirst("^- `\\w+`: ", ""));
                }
            }
        }
    }

    private static void standsIn(int number, String text) {
        for (String named : tested.getOrDefault(number, Set.of())) {
            if (!text.contains(named)) {
                fail("the document does not say of promise " + number + ": " + named);
            }
        }
    }

    private static void isTested(int number, String line) {
        List<String> named = new ArrayList<>(tested.getOrDefault(number, Set.of()));
        named.sort((a, b) -> b.length() - a.length());
        String left = line;
        for (String one : named) {
            left = left.replace(one, "");
        }
        if (left.matches(".*[A-Za-z0-9].*")) {
            fail("no test of promise " + number + " for: " + left);
        }
    }
}
