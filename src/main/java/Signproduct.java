/** Four rows of signs with the codes 0 to 127, told apart by kinds, values, pieces and codes. */
public final class Signproduct {
    private static final int NONE = -1;
    private static final int REFUSED = -9;

    private static final long GREATEST_NUMBER = 2147483647L;

    private static final int SIGNS = 128;
    private static final int ROWS = 4;
    private static final int ROOM = 60;

    private static final int DIGITS = 0;
    private static final int CAPITALS = 1;
    private static final int SMALLS = 2;
    private static final int SPACES = 3;
    private static final int OTHERS = 4;
    private static final int KINDS = 5;

    private static final int WORD = 0;
    private static final int NUMBER = 1;
    private static final int GAP = 2;
    private static final int MARK = 3;
    private static final int SORTS = 4;

    private static final int LEAST_RADIX = 2;
    private static final int LEAST_CODE_RADIX = 12;
    private static final int GREATEST_RADIX = 36;
    private static final int SOUND_CODE_RADIX = 16;

    private final Ranks ranks;
    private final Row[] rows;
    private final Pieces parts;
    // Work space of isSound(), made once: what a run makes is counted.
    private final Row spare;
    private final Row spareCode;
    private int tellings;
    private int knocks;

    public Signproduct() {
        ranks = new Ranks();
        rows = new Row[ROWS];
        for (int row = 0; row < ROWS; row++) {
            rows[row] = new Row();
        }
        parts = new Pieces();
        spare = new Row();
        spareCode = new Row();
        tellings = 0;
        knocks = 0;
    }

    // ---- one sign

    public int kind(int sign) throws IllegalArgumentException {
        needSign(sign);
        return Signs.kindOf(sign);
    }

    public int rankOf(int sign) throws IllegalArgumentException {
        needSign(sign);
        return ranks.rankAt(sign);
    }

    public int signOf(int kind, int rank) throws IllegalArgumentException {
        needKind(kind);
        if (rank < 0 || rank >= SIGNS) {
            throw new IllegalArgumentException("rank is not 0 to 127");
        }
        return ranks.signWith(kind, rank);
    }

    public int count(int kind) throws IllegalArgumentException {
        needKind(kind);
        return ranks.manyOf(kind);
    }

    public boolean isDigit(int sign) throws IllegalArgumentException {
        needSign(sign);
        return Signs.isDigitSign(sign);
    }

    public boolean isLetter(int sign) throws IllegalArgumentException {
        needSign(sign);
        return Signs.isLetterSign(sign);
    }

    public boolean isLetterOrDigit(int sign) throws IllegalArgumentException {
        needSign(sign);
        return Signs.isLetterSign(sign) || Signs.isDigitSign(sign);
    }

    public boolean isCapital(int sign) throws IllegalArgumentException {
        needSign(sign);
        return Signs.isCapitalSign(sign);
    }

    public boolean isSpace(int sign) throws IllegalArgumentException {
        needSign(sign);
        return Signs.isSpaceSign(sign);
    }

    public int capital(int sign) throws IllegalArgumentException {
        needSign(sign);
        return Signs.capitalOf(sign);
    }

    public int small(int sign) throws IllegalArgumentException {
        needSign(sign);
        return Signs.smallOf(sign);
    }

    public int turned(int sign) throws IllegalArgumentException {
        needSign(sign);
        return Signs.turnedOf(sign);
    }

    public int value(int sign) throws IllegalArgumentException {
        needSign(sign);
        return Signs.valueOf(sign);
    }

    public int digit(int sign, int radix) throws IllegalArgumentException {
        needSign(sign);
        needAsked(radix);
        int value = Signs.valueOf(sign);
        return isRadix(radix) && value < radix ? value : NONE;
    }

    public int digitSign(int value, int radix) throws IllegalArgumentException {
        needAsked(value);
        needAsked(radix);
        return isRadix(radix) && value >= 0 && value < radix ? Signs.writing(value) : 0;
    }

    // ---- rows

    public int put(int row, int sign)
            throws IndexOutOfBoundsException, IllegalArgumentException, IllegalStateException {
        Row it = rowAt(row);
        needSign(sign);
        needRoom(it, 1);
        it.add(sign);
        return became(it.many);
    }

    public int putRank(int row, int kind, int rank)
            throws IndexOutOfBoundsException, IllegalArgumentException, IllegalStateException {
        Row it = rowAt(row);
        needKind(kind);
        if (rank < 0 || rank >= ranks.manyOf(kind)) {
            throw new IllegalArgumentException("no such rank of this kind");
        }
        needRoom(it, 1);
        it.add(ranks.signWith(kind, rank));
        return became(it.many);
    }

    public int putDigit(int row, int value, int radix)
            throws IndexOutOfBoundsException, IllegalArgumentException, IllegalStateException {
        Row it = rowAt(row);
        needRadix(radix);
        if (value < 0 || value >= radix) {
            throw new IllegalArgumentException("value is not 0 or more and below radix");
        }
        needRoom(it, 1);
        it.add(Signs.writing(value));
        return became(it.many);
    }

    public int change(int row, int place, int sign)
            throws IndexOutOfBoundsException, IllegalArgumentException {
        Row it = rowAt(row);
        needPlace(it, place);
        needSign(sign);
        int was = it.at(place);
        it.set(place, sign);
        return became(was);
    }

    public int insert(int row, int place, int sign)
            throws IndexOutOfBoundsException, IllegalArgumentException, IllegalStateException {
        Row it = rowAt(row);
        needPlaceOrEnd(it, place);
        needSign(sign);
        needRoom(it, 1);
        it.addAhead(place, sign);
        return became(it.many);
    }

    public int remove(int row, int place) throws IndexOutOfBoundsException {
        Row it = rowAt(row);
        needPlace(it, place);
        int was = it.at(place);
        it.takeOut(place);
        return became(was);
    }

    public int drop(int row, int many) throws IndexOutOfBoundsException, IllegalArgumentException {
        Row it = rowAt(row);
        needMany(many);
        it.many = Math.max(it.many - many, 0);
        return became(it.many);
    }

    public int copy(int row, int other) throws IndexOutOfBoundsException {
        Row it = rowAt(row);
        it.become(rowAt(other));
        return became(it.many);
    }

    public int swap(int row, int other) throws IndexOutOfBoundsException {
        Row one = rowAt(row);
        Row two = rowAt(other);
        rows[row] = two;
        rows[other] = one;
        return became(two.many);
    }

    public int join(int row, int other) throws IndexOutOfBoundsException, IllegalStateException {
        Row it = rowAt(row);
        Row more = rowAt(other);
        needRoom(it, more.many);
        it.addPart(more, 0, more.many);
        return became(it.many);
    }

    public int reverse(int row) throws IndexOutOfBoundsException {
        Row it = rowAt(row);
        it.turnRound();
        return became(it.many);
    }

    public int strip(int row) throws IndexOutOfBoundsException {
        return became(rowAt(row).loseOuterSpaces());
    }

    // ---- cases

    public int capitals(int row) throws IndexOutOfBoundsException {
        return became(rowAt(row).becomeCapitals());
    }

    public int smalls(int row) throws IndexOutOfBoundsException {
        return became(rowAt(row).becomeSmalls());
    }

    public int turn(int row) throws IndexOutOfBoundsException {
        return became(rowAt(row).becomeTurned());
    }

    public int turnAt(int row, int place) throws IndexOutOfBoundsException {
        Row it = rowAt(row);
        needPlace(it, place);
        it.set(place, Signs.turnedOf(it.at(place)));
        return became(it.at(place));
    }

    // ---- numbers

    public int number(int row, int radix)
            throws IndexOutOfBoundsException, IllegalArgumentException {
        Row it = rowAt(row);
        needRadix(radix);
        return it.numberIn(0, it.many, radix);
    }

    public int numberOf(int row, int place, int many, int radix)
            throws IndexOutOfBoundsException, IllegalArgumentException {
        Row it = rowAt(row);
        needPlaceOrEnd(it, place);
        needMany(many);
        needRadix(radix);
        return place + many > it.many ? REFUSED : it.numberIn(place, many, radix);
    }

    public int write(int row, int number, int radix)
            throws IndexOutOfBoundsException, IllegalArgumentException {
        Row it = rowAt(row);
        if (number < 0) {
            throw new IllegalArgumentException("number is below 0");
        }
        needRadix(radix);
        it.becomeNumber(number, radix);
        return became(it.many);
    }

    public int convert(int row, int radix, int other)
            throws IndexOutOfBoundsException, IllegalArgumentException {
        Row it = rowAt(row);
        needRadix(radix);
        needRadix(other);
        int number = it.numberIn(0, it.many, radix);
        if (number == REFUSED) {
            return REFUSED;
        }
        it.becomeNumber(number, other);
        return became(it.many);
    }

    public int leastRadix(int row) throws IndexOutOfBoundsException {
        return rowAt(row).leastRadixOfAll();
    }

    public int sumOf(int row) throws IndexOutOfBoundsException {
        return rowAt(row).sumOfValues();
    }

    // ---- pieces

    public int pieces(int row) throws IndexOutOfBoundsException {
        parts.part(rowAt(row));
        return parts.many;
    }

    public int ofPiece(int row, int piece, int what)
            throws IndexOutOfBoundsException, IllegalArgumentException {
        parts.part(rowAt(row));
        needPiece(piece);
        if (what < 0 || what > 2) {
            throw new IllegalArgumentException("what is not 0 to 2");
        }
        if (what == 0) {
            return parts.sortAt(piece);
        }
        return what == 1 ? parts.firstAt(piece) : parts.manyAt(piece);
    }

    public String sorts(int row) throws IndexOutOfBoundsException {
        parts.part(rowAt(row));
        parts.tell();
        StringBuilder text = new StringBuilder();
        for (int i = 0; i < parts.toldMany; i++) {
            text.append((char) parts.toldAt(i));
        }
        return text.toString();
    }

    public int take(int row, int piece, int into) throws IndexOutOfBoundsException {
        Row from = rowAt(row);
        Row it = rowAt(into);
        parts.part(from);
        needPiece(piece);
        it.becomePart(from, parts.firstAt(piece), parts.manyAt(piece));
        return became(it.many);
    }

    public int ofSort(int row, int sort)
            throws IndexOutOfBoundsException, IllegalArgumentException {
        Row it = rowAt(row);
        if (sort < 0 || sort >= SORTS) {
            throw new IllegalArgumentException("sort is not 0 to 3");
        }
        parts.part(it);
        return parts.manyOfSort(sort);
    }

    // ---- codes

    public int code(int row, int into, int radix)
            throws IndexOutOfBoundsException, IllegalArgumentException {
        Row from = rowAt(row);
        Row it = rowAt(into);
        needCodeRadix(radix);
        if (2 * from.many > ROOM) {
            return REFUSED;
        }
        it.becomeCode(from, radix);
        return became(it.many);
    }

    public int decode(int row, int into, int radix)
            throws IndexOutOfBoundsException, IllegalArgumentException {
        Row from = rowAt(row);
        Row it = rowAt(into);
        needCodeRadix(radix);
        if (!from.isCodeIn(radix)) {
            return REFUSED;
        }
        it.becomeDecoded(from, radix);
        return became(it.many);
    }

    // ---- what is asked

    public int size(int row) throws IndexOutOfBoundsException {
        return rowAt(row).many;
    }

    public int sign(int row, int place) throws IndexOutOfBoundsException {
        Row it = rowAt(row);
        needPlace(it, place);
        return it.at(place);
    }

    public String text(int row) throws IndexOutOfBoundsException {
        Row it = rowAt(row);
        StringBuilder text = new StringBuilder();
        for (int place = 0; place < it.many; place++) {
            int sign = it.at(place);
            text.append(sign >= ' ' && sign <= '~' ? (char) sign : '?');
        }
        return text.toString();
    }

    public int ofKind(int row, int kind)
            throws IndexOutOfBoundsException, IllegalArgumentException {
        Row it = rowAt(row);
        needKind(kind);
        return it.manyOfKind(kind);
    }

    public int compare(int row, int other) throws IndexOutOfBoundsException {
        return rowAt(row).orderTo(rowAt(other));
    }

    public boolean areAlike(int row, int other) throws IndexOutOfBoundsException {
        return rowAt(row).isLike(rowAt(other));
    }

    public boolean areAlikeButCases(int row, int other) throws IndexOutOfBoundsException {
        return rowAt(row).isLikeButCases(rowAt(other));
    }

    // ---- the whole

    public int house(int what) throws IllegalArgumentException {
        if (what < 0 || what > 2) {
            throw new IllegalArgumentException("what is not 0 to 2");
        }
        if (what == 0) {
            return tellings;
        }
        return what == 1 ? signsOfAllRows() : knocks;
    }

    public int knock() {
        knocks++;
        return knocks;
    }

    public boolean isSound() {
        for (int sign = 0; sign < SIGNS; sign++) {
            if (!Signs.isSoundSign(sign)) {
                return false;
            }
        }
        for (int row = 0; row < ROWS; row++) {
            Row it = rowAt(row);
            if (!isSoundInPieces(it) || !isSoundTurned(it)
                    || !isSoundCoded(it) || !isSoundWritten(it)) {
                return false;
            }
        }
        return true;
    }

    public long digest() {
        long d = 7838;
        d = mixed(d, tellings);
        d = mixed(d, signsOfAllRows());
        d = mixed(d, knocks);
        for (int row = 0; row < ROWS; row++) {
            d = mixedWithRow(d, rowAt(row));
            d = mixed(d, rowAt(row).orderTo(rowAt((row + 1) % ROWS)));
        }
        for (int sign = 0; sign < SIGNS; sign++) {
            d = mixed(d, Signs.kindOf(sign));
            d = mixed(d, ranks.rankAt(sign));
            d = mixed(d, Signs.valueOf(sign));
            d = mixed(d, Signs.turnedOf(sign));
        }
        return mixed(d, isSound() ? 1 : 0);
    }

    // ---- what the calls share

    private int became(int answer) {
        tellings++;
        return answer;
    }

    private int signsOfAllRows() {
        int all = 0;
        for (int row = 0; row < ROWS; row++) {
            all += rowAt(row).many;
        }
        return all;
    }

    private static long mixed(long d, int v) {
        return d * 31 + v;
    }

    private long mixedWithRow(long start, Row it) {
        long d = mixed(start, it.many);
        for (int place = 0; place < it.many; place++) {
            d = mixed(d, it.at(place));
        }
        for (int kind = 0; kind < KINDS; kind++) {
            d = mixed(d, it.manyOfKind(kind));
        }
        d = mixed(d, it.leastRadixOfAll());
        d = mixed(d, it.sumOfValues());
        d = mixed(d, it.numberIn(0, it.many, 2));
        d = mixed(d, it.numberIn(0, it.many, 10));
        d = mixed(d, it.numberIn(0, it.many, 16));
        d = mixed(d, it.numberIn(0, it.many, 36));
        parts.part(it);
        parts.tell();
        d = mixed(d, parts.many);
        for (int i = 0; i < parts.toldMany; i++) {
            d = mixed(d, parts.toldAt(i));
        }
        return d;
    }

    private boolean isSoundInPieces(Row it) {
        parts.part(it);
        spare.many = 0;
        for (int piece = 0; piece < parts.many; piece++) {
            spare.addPart(it, parts.firstAt(piece), parts.manyAt(piece));
        }
        return spare.isLike(it);
    }

    private boolean isSoundTurned(Row it) {
        spare.become(it);
        spare.becomeTurned();
        spare.becomeTurned();
        return spare.isLike(it);
    }

    private boolean isSoundCoded(Row it) {
        if (2 * it.many > ROOM) {
            return true;
        }
        spareCode.becomeCode(it, SOUND_CODE_RADIX);
        if (!spareCode.isCodeIn(SOUND_CODE_RADIX)) {
            return false;
        }
        spare.becomeDecoded(spareCode, SOUND_CODE_RADIX);
        return spare.isLike(it);
    }

    private boolean isSoundWritten(Row it) {
        int number = it.numberIn(0, it.many, GREATEST_RADIX);
        if (number == REFUSED) {
            return true;
        }
        for (int radix = LEAST_RADIX; radix <= GREATEST_RADIX; radix++) {
            spare.becomeNumber(number, radix);
            if (spare.numberIn(0, spare.many, radix) != number) {
                return false;
            }
        }
        return true;
    }

    // ---- what the calls ask of their arguments

    private Row rowAt(int row) {
        if (row < 0 || row >= rows.length) {
            throw new IndexOutOfBoundsException("no such row");
        }
        return rows[row];
    }

    private static void needPlace(Row it, int place) {
        if (place < 0 || place >= it.many) {
            throw new IndexOutOfBoundsException("no such place in the row");
        }
    }

    private static void needPlaceOrEnd(Row it, int place) {
        if (place < 0 || place > it.many) {
            throw new IndexOutOfBoundsException("no such place in the row");
        }
    }

    private void needPiece(int piece) {
        if (piece < 0 || piece >= parts.many) {
            throw new IndexOutOfBoundsException("no such piece of the row");
        }
    }

    private static void needSign(int sign) {
        if (sign < 0 || sign >= SIGNS) {
            throw new IllegalArgumentException("sign is not 0 to 127");
        }
    }

    private static void needKind(int kind) {
        if (kind < 0 || kind >= KINDS) {
            throw new IllegalArgumentException("kind is not 0 to 4");
        }
    }

    private static void needMany(int many) {
        if (many < 0 || many > ROOM) {
            throw new IllegalArgumentException("many is not 0 to 60");
        }
    }

    private static void needAsked(int number) {
        if (number < -3 || number > 99) {
            throw new IllegalArgumentException("a number is not -3 to 99");
        }
    }

    private static boolean isRadix(int radix) {
        return radix >= LEAST_RADIX && radix <= GREATEST_RADIX;
    }

    private static void needRadix(int radix) {
        if (!isRadix(radix)) {
            throw new IllegalArgumentException("radix is not 2 to 36");
        }
    }

    private static void needCodeRadix(int radix) {
        if (radix < LEAST_CODE_RADIX || radix > GREATEST_RADIX) {
            throw new IllegalArgumentException("radix is not 12 to 36");
        }
    }

    private static void needRoom(Row it, int more) {
        if (it.many + more > ROOM) {
            throw new IllegalStateException("the row would have more than 60 signs");
        }
    }

    /** What each sign is by itself. */
    private static final class Signs {
        static boolean isDigitSign(int sign) {
            return sign >= '0' && sign <= '9';
        }

        static boolean isCapitalSign(int sign) {
            return sign >= 'A' && sign <= 'Z';
        }

        static boolean isSmallSign(int sign) {
            return sign >= 'a' && sign <= 'z';
        }

        static boolean isSpaceSign(int sign) {
            return sign >= 9 && sign <= 13 || sign >= 28 && sign <= 32;
        }

        static boolean isLetterSign(int sign) {
            return isCapitalSign(sign) || isSmallSign(sign);
        }

        static boolean isOf(int sign, int kind) {
            switch (kind) {
                case DIGITS:
                    return isDigitSign(sign);
                case CAPITALS:
                    return isCapitalSign(sign);
                case SMALLS:
                    return isSmallSign(sign);
                case SPACES:
                    return isSpaceSign(sign);
                default:
                    return !isDigitSign(sign) && !isLetterSign(sign) && !isSpaceSign(sign);
            }
        }

        static int kindOf(int sign) {
            if (isDigitSign(sign)) {
                return DIGITS;
            }
            if (isCapitalSign(sign)) {
                return CAPITALS;
            }
            if (isSmallSign(sign)) {
                return SMALLS;
            }
            return isSpaceSign(sign) ? SPACES : OTHERS;
        }

        static int capitalOf(int sign) {
            return isSmallSign(sign) ? sign - 32 : sign;
        }

        static int smallOf(int sign) {
            return isCapitalSign(sign) ? sign + 32 : sign;
        }

        static int turnedOf(int sign) {
            return isCapitalSign(sign) ? smallOf(sign) : capitalOf(sign);
        }

        static int valueOf(int sign) {
            if (isDigitSign(sign)) {
                return sign - '0';
            }
            if (isCapitalSign(sign)) {
                return 10 + sign - 'A';
            }
            return isSmallSign(sign) ? 10 + sign - 'a' : NONE;
        }

        static int writing(int value) {
            return value < 10 ? '0' + value : 'a' + value - 10;
        }

        static boolean isSoundSign(int sign) {
            int kinds = 0;
            for (int kind = 0; kind < KINDS; kind++) {
                kinds += isOf(sign, kind) ? 1 : 0;
            }
            int turned = turnedOf(sign);
            int value = valueOf(sign);
            return kinds == 1
                    && turnedOf(turned) == sign
                    && valueOf(turned) == value
                    && (value == NONE || valueOf(writing(value)) == value);
        }
    }

    /** The ranks of all signs, counted once. */
    private static final class Ranks {
        private final int[] ranks;
        private final int[] counts;

        Ranks() {
            ranks = new int[SIGNS];
            counts = new int[KINDS];
            for (int sign = 0; sign < SIGNS; sign++) {
                int kind = Signs.kindOf(sign);
                if (kind >= 0 && kind < KINDS) {
                    ranks[sign] = counts[kind];
                    counts[kind]++;
                }
            }
        }

        int rankAt(int sign) {
            return sign >= 0 && sign < ranks.length ? ranks[sign] : NONE;
        }

        int manyOf(int kind) {
            return kind >= 0 && kind < counts.length ? counts[kind] : 0;
        }

        int signWith(int kind, int rank) {
            for (int sign = 0; sign < SIGNS; sign++) {
                if (rankAt(sign) == rank && Signs.isOf(sign, kind)) {
                    return sign;
                }
            }
            return REFUSED;
        }
    }

    /** A row: its first signs count, as many as it has. */
    private static final class Row {
        private final int[] signs;
        private int many;

        Row() {
            signs = new int[ROOM];
            many = 0;
        }

        int at(int place) {
            return place >= 0 && place < signs.length ? signs[place] : NONE;
        }

        void set(int place, int sign) {
            if (place >= 0 && place < signs.length) {
                signs[place] = sign;
            }
        }

        void add(int sign) {
            if (many < ROOM) {
                set(many, sign);
                many++;
            }
        }

        void addAhead(int place, int sign) {
            add(sign);
            for (int i = many - 1; i > place; i--) {
                set(i, at(i - 1));
            }
            set(place, sign);
        }

        void takeOut(int place) {
            for (int i = place + 1; i < many; i++) {
                set(i - 1, at(i));
            }
            many--;
        }

        void addPart(Row other, int first, int more) {
            for (int i = 0; i < more; i++) {
                add(other.at(first + i));
            }
        }

        // From the front on: so the other one may be this one.
        void becomePart(Row other, int first, int left) {
            for (int i = 0; i < left; i++) {
                set(i, other.at(first + i));
            }
            many = left;
        }

        void become(Row other) {
            becomePart(other, 0, other.many);
        }

        void turnRound() {
            for (int i = 0; i < many / 2; i++) {
                int early = at(i);
                set(i, at(many - 1 - i));
                set(many - 1 - i, early);
            }
        }

        int loseOuterSpaces() {
            int first = 0;
            while (first < many && Signs.isSpaceSign(at(first))) {
                first++;
            }
            int end = many;
            while (end > first && Signs.isSpaceSign(at(end - 1))) {
                end--;
            }
            int gone = many - (end - first);
            becomePart(this, first, end - first);
            return gone;
        }

        // 1 if the sign there is another one by that, so that the callers can count.
        private int recase(int place, int sign) {
            int other = at(place) != sign ? 1 : 0;
            set(place, sign);
            return other;
        }

        int becomeCapitals() {
            int others = 0;
            for (int place = 0; place < many; place++) {
                others += recase(place, Signs.capitalOf(at(place)));
            }
            return others;
        }

        int becomeSmalls() {
            int others = 0;
            for (int place = 0; place < many; place++) {
                others += recase(place, Signs.smallOf(at(place)));
            }
            return others;
        }

        int becomeTurned() {
            int others = 0;
            for (int place = 0; place < many; place++) {
                others += recase(place, Signs.turnedOf(at(place)));
            }
            return others;
        }

        int numberIn(int first, int signsRead, int radix) {
            if (signsRead < 1) {
                return REFUSED;
            }
            long number = 0;
            for (int i = 0; i < signsRead; i++) {
                int value = Signs.valueOf(at(first + i));
                if (value == NONE || value >= radix) {
                    return REFUSED;
                }
                number = number * radix + value;
                // It never gets smaller again, and must not wrap around.
                if (number > GREATEST_NUMBER) {
                    return REFUSED;
                }
            }
            return (int) number;
        }

        void becomeNumber(int number, int radix) {
            many = digitsOf(number, radix);
            int left = number;
            for (int place = many - 1; place >= 0; place--) {
                set(place, Signs.writing(left % radix));
                left /= radix;
            }
        }

        private static int digitsOf(int number, int radix) {
            int digits = 1;
            long least = radix;
            while (digits < ROOM && least <= number) {
                digits++;
                least *= radix;
            }
            return digits;
        }

        int leastRadixOfAll() {
            int least = LEAST_RADIX;
            for (int place = 0; place < many; place++) {
                int value = Signs.valueOf(at(place));
                if (value == NONE) {
                    return REFUSED;
                }
                least = Math.max(least, value + 1);
            }
            return many == 0 ? REFUSED : least;
        }

        int sumOfValues() {
            int sum = 0;
            for (int place = 0; place < many; place++) {
                int value = Signs.valueOf(at(place));
                sum += value == NONE ? 0 : value;
            }
            return sum;
        }

        // From the end on: so the other one may be this one.
        void becomeCode(Row other, int radix) {
            int coded = other.many;
            for (int place = coded - 1; place >= 0; place--) {
                int sign = other.at(place);
                set(2 * place, Signs.writing(sign / radix));
                set(2 * place + 1, Signs.writing(sign % radix));
            }
            many = 2 * coded;
        }

        boolean isCodeIn(int radix) {
            if (many % 2 != 0) {
                return false;
            }
            for (int place = 0; place < many / 2; place++) {
                int sign = numberIn(2 * place, 2, radix);
                if (sign == REFUSED || sign >= SIGNS) {
                    return false;
                }
            }
            return true;
        }

        // From the front on: so the other one may be this one.
        void becomeDecoded(Row other, int radix) {
            int decoded = other.many / 2;
            for (int place = 0; place < decoded; place++) {
                set(place, other.numberIn(2 * place, 2, radix));
            }
            many = decoded;
        }

        int manyOfKind(int kind) {
            int found = 0;
            for (int place = 0; place < many; place++) {
                found += Signs.isOf(at(place), kind) ? 1 : 0;
            }
            return found;
        }

        int orderTo(Row other) {
            int both = Math.min(many, other.many);
            for (int place = 0; place < both; place++) {
                if (at(place) != other.at(place)) {
                    return at(place) < other.at(place) ? -1 : 1;
                }
            }
            return Integer.compare(many, other.many);
        }

        boolean isLike(Row other) {
            return orderTo(other) == 0;
        }

        boolean isLikeButCases(Row other) {
            if (many != other.many) {
                return false;
            }
            for (int place = 0; place < many; place++) {
                if (Signs.capitalOf(at(place)) != Signs.capitalOf(other.at(place))) {
                    return false;
                }
            }
            return true;
        }
    }

    /** The pieces of the row that was parted last. */
    private static final class Pieces {
        private final int[] sorts;
        private final int[] firsts;
        private final int[] lengths;
        // The signs of sorts(): at most two for each sign of a row.
        private final int[] told;
        private int many;
        private int toldMany;

        Pieces() {
            sorts = new int[ROOM];
            firsts = new int[ROOM];
            lengths = new int[ROOM];
            told = new int[2 * ROOM];
            many = 0;
            toldMany = 0;
        }

        void part(Row row) {
            many = 0;
            for (int place = 0; place < row.many; place++) {
                int sign = row.at(place);
                if (many > 0 && goesOn(sortAt(many - 1), sign)) {
                    lengthen(many - 1);
                } else {
                    begin(sortFrom(sign), place);
                }
            }
        }

        private static boolean goesOn(int sort, int sign) {
            switch (sort) {
                case WORD:
                    return Signs.isLetterSign(sign) || Signs.isDigitSign(sign);
                case NUMBER:
                    return Signs.isDigitSign(sign);
                case GAP:
                    return Signs.isSpaceSign(sign);
                default:
                    return false;
            }
        }

        private static int sortFrom(int sign) {
            switch (Signs.kindOf(sign)) {
                case DIGITS:
                    return NUMBER;
                case CAPITALS:
                case SMALLS:
                    return WORD;
                case SPACES:
                    return GAP;
                default:
                    return MARK;
            }
        }

        private void begin(int sort, int place) {
            if (many < ROOM) {
                sorts[many] = sort;
                firsts[many] = place;
                lengths[many] = 1;
                many++;
            }
        }

        private void lengthen(int piece) {
            if (piece >= 0 && piece < lengths.length) {
                lengths[piece]++;
            }
        }

        int sortAt(int piece) {
            return piece >= 0 && piece < sorts.length ? sorts[piece] : NONE;
        }

        int firstAt(int piece) {
            return piece >= 0 && piece < firsts.length ? firsts[piece] : NONE;
        }

        int manyAt(int piece) {
            return piece >= 0 && piece < lengths.length ? lengths[piece] : 0;
        }

        int manyOfSort(int sort) {
            int found = 0;
            for (int piece = 0; piece < many; piece++) {
                found += sortAt(piece) == sort ? 1 : 0;
            }
            return found;
        }

        // Told into a row of codes, not a text: digest() needs only these, and may come often.
        void tell() {
            toldMany = 0;
            for (int piece = 0; piece < many; piece++) {
                int length = manyAt(piece);
                say(letterOf(sortAt(piece)));
                if (length >= 10) {
                    say('0' + length / 10);
                }
                say('0' + length % 10);
            }
        }

        private static char letterOf(int sort) {
            switch (sort) {
                case WORD:
                    return 'w';
                case NUMBER:
                    return 'n';
                case GAP:
                    return 'g';
                default:
                    return 'm';
            }
        }

        private void say(int code) {
            if (toldMany >= 0 && toldMany < told.length) {
                told[toldMany] = code;
                toldMany++;
            }
        }

        int toldAt(int i) {
            return i >= 0 && i < told.length ? told[i] : NONE;
        }
    }
}
