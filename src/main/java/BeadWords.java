/** Pictures of beads, told in words to whoever strings them, and told back. */
public final class BeadWords {
    public static final int BAD = -1, STATE = -2, FULL = -3, NONE = -4;

    private static final int MOST_ROWS = 12, MOST_WIDTH = 16, MOST_BEADS = MOST_ROWS * MOST_WIDTH;
    private static final int MOST_BYTES = 300, MOST_WORDS = 40, MOST_CELLS = 32;
    private static final int COLOURS = 6, IMAGES = 2, SHEETS = 4;
    private static final int AS = 0, TURNED = 1, MIRROR = 2, TIMES = 3, PLAIN = 4, FORMS = 5;
    private static final int WRONG = 0, LEFT_OUT = 1, DOUBLED = 2, KINDS = 3;
    private static final int BYTES = 0, SHORTS = 1, LANES = 3;
    private static final int NO_FAULT = 0, NULL = 1, CAST = 2, INDEX = 3, SIZE = 4;
    private static final int FIRST_FAULT = -10;

    private final Picture picture = new Picture();
    private final Strand strand = new Strand();
    private final Tape tape = new Tape();
    private final Reader reader = new Reader();
    private final Teller teller = new Teller();
    private final Slip slip = new Slip();
    private final Chance chance = new Chance();
    private final Image[] images = new Image[IMAGES];
    private final Sheet[] sheets = new Sheet[SHEETS];
    private int textFault = NO_FAULT;
    private int runFault = NO_FAULT;

    public BeadWords() {
        for (int k = 0; k < IMAGES; k++) {
            images[k] = new Image();
        }
        for (int k = 0; k < SHEETS; k++) {
            sheets[k] = new Sheet();
        }
    }

    // ---- the text

    public int feed(int c) {
        if (c < 0 || c > 127) {
            return BAD;
        }
        return tape.take(c) ? tape.length : FULL;
    }

    public int end(int n) {
        int had = tape.length;
        if (n < 0 || n > had) {
            return BAD;
        }
        tape.length = n;
        return had;
    }

    public int text() {
        textFault = reader.readAll(tape);
        tape.length = 0;
        if (textFault != NO_FAULT) {
            return FIRST_FAULT - reader.start;
        }
        picture.become(reader.draft);
        strand.length = 0;
        for (int k = 0; k < IMAGES; k++) {
            images[k].there = false;
        }
        return picture.rows;
    }

    public int fault() {
        return textFault;
    }

    // ---- the picture

    public int rule(int what) {
        switch (what) {
            case 0:
                return picture.rows;
            case 1:
                return picture.width;
            case 2:
                return picture.mode;
            case 3:
                return picture.size();
            case 4:
                return wordsInAll();
            case 5:
                return picture.linesUnlike();
            case 6:
                return picture.runsInAll();
            case 7:
                return coloursInAll();
            case 8:
                return strand.length;
            case 9:
                return slip.length;
            default:
                return BAD;
        }
    }

    public int bead(int r, int c) {
        return picture.hasBead(r, c) ? picture.colourAt(r, c) : BAD;
    }

    public int many(int r, int colour) {
        if (!isColour(colour)) {
            return BAD;
        }
        if (r == NONE) {
            return picture.manyInAll(colour);
        }
        return picture.hasRow(r) ? picture.manyIn(r, colour) : BAD;
    }

    public int row(int r, int what) {
        if (!picture.hasRow(r)) {
            return BAD;
        }
        switch (what) {
            case 0:
                teller.tellBest(picture, r);
                return teller.told[0];
            case 1:
                return teller.tellBest(picture, r);
            case 2:
                return picture.runsOf(r);
            case 3:
                return picture.firstLike(r);
            case 4:
                return picture.manyLike(r);
            case 5:
                return picture.partOf(r);
            default:
                return BAD;
        }
    }

    public int words(int r, int form) {
        if (!picture.hasRow(r) || form < 0 || form >= FORMS) {
            return BAD;
        }
        return teller.tellBy(picture, r, form);
    }

    public int word(int r, int i) {
        if (!picture.hasRow(r) || i < 0) {
            return BAD;
        }
        teller.tellBest(picture, r);
        return i < teller.length ? teller.told[i] : NONE;
    }

    // ---- the slip

    public int tell(int v) {
        if (v < 0 || v > 99) {
            return BAD;
        }
        return slip.take(v) ? slip.length : FULL;
    }

    public int tear() {
        int had = slip.length;
        slip.length = 0;
        return had;
    }

    public int spoken() {
        return slip.speak(picture);
    }

    public int said(int i) {
        if (i < 0) {
            return BAD;
        }
        return i < slip.speak(picture) ? slip.line[i] : NONE;
    }

    public int add() {
        int beads = slip.speak(picture);
        if (beads == NONE) {
            return STATE;
        }
        if (picture.rows >= MOST_ROWS) {
            return FULL;
        }
        picture.takeLine(slip.line, beads);
        slip.length = 0;
        return picture.rows;
    }

    // ---- the thread

    public int string(int colour) {
        if (!isColour(colour)) {
            return BAD;
        }
        if (strand.length >= picture.size()) {
            return FULL;
        }
        strand.take(colour);
        return strand.length;
    }

    public int off(int n) {
        if (n < 0 || n > strand.length) {
            return BAD;
        }
        strand.length -= n;
        return strand.length;
    }

    public int plan(int i) {
        return i < 0 ? BAD : picture.planAt(i);
    }

    public int mistake(int what) {
        if (what < 0 || what > 6) {
            return BAD;
        }
        int at = strand.firstWrong(picture);
        if (at == NONE) {
            return NONE;
        }
        switch (what) {
            case 0:
                return at;
            case 1:
                return picture.rowOfPlan(at);
            case 2:
                return picture.placeOfPlan(at);
            case 3:
                return picture.planAt(at);
            case 4:
                return strand.kindOf(picture, at);
            case 5:
                return strand.asTold(picture, at, strand.kindOf(picture, at));
            default:
                return strand.length - at;
        }
    }

    // ---- by hand (nothing is strung then)

    public int paint(int r, int c, int colour) {
        if (!picture.hasBead(r, c) || !isColour(colour)) {
            return BAD;
        }
        int was = picture.colourAt(r, c);
        picture.put(r, c, colour);
        strand.length = 0;
        return was;
    }

    public int dye(int from, int to) {
        if (!isColour(from) || !isColour(to)) {
            return BAD;
        }
        int dyed = picture.manyInAll(from);
        picture.dyeAll(from, to);
        strand.length = 0;
        return dyed;
    }

    public int change(int r, int what) {
        if (!picture.hasRow(r) || what < 0 || what > 3) {
            return BAD;
        }
        if (what == 3 && picture.rows >= MOST_ROWS) {
            return FULL;
        }
        switch (what) {
            case 0:
                picture.turn(r);
                break;
            case 1:
                picture.moveOn(r);
                break;
            case 2:
                picture.drop(r);
                break;
            default:
                picture.repeat(r);
                break;
        }
        strand.length = 0;
        return picture.rows;
    }

    public int swap(int r, int s) {
        if (!picture.hasRow(r) || !picture.hasRow(s)) {
            return BAD;
        }
        boolean alike = picture.sameBeads(r, s);
        picture.exchange(r, s);
        strand.length = 0;
        return alike ? 1 : 0;
    }

    public int mode(int v) {
        if (v < 0 || v > 1) {
            return BAD;
        }
        int was = picture.mode;
        picture.mode = v;
        strand.length = 0;
        return was;
    }

    public int draw(int seed, int n, int w, int k) {
        if (n < 1 || n > MOST_ROWS || w < 1 || w > MOST_WIDTH || k < 1 || k > COLOURS) {
            return BAD;
        }
        chance.seed = seed;
        picture.rows = n;
        picture.width = w;
        for (int r = 0; r < n; r++) {
            drawRow(r, k);
        }
        strand.length = 0;
        return picture.size();
    }

    // ---- images, sheets

    public int keep(int k) {
        if (k < 0 || k >= IMAGES) {
            return BAD;
        }
        Image image = images[k];
        int was = image.there ? 1 : 0;
        image.there = true;
        image.picture.become(picture);
        image.strand.become(strand);
        return was;
    }

    public int back(int k) {
        if (k < 0 || k >= IMAGES) {
            return BAD;
        }
        Image image = images[k];
        if (!image.there) {
            return STATE;
        }
        picture.become(image.picture);
        strand.become(image.strand);
        return picture.rows;
    }

    public int sheet(int k, int lane, int n) {
        if (!isSheet(k) || !isLane(lane) || n > MOST_CELLS) {
            return BAD;
        }
        if (n < 0) {
            return FIRST_FAULT - SIZE;
        }
        sheets[k].renew(lane, n);
        return 1;
    }

    public int lay(int k, int i, int v) {
        if (!isSheet(k)) {
            return BAD;
        }
        Sheet to = sheets[k];
        int found = to.faultAt(to.lane, i);
        if (found != NO_FAULT) {
            return FIRST_FAULT - found;
        }
        to.put(i, v);
        return 1;
    }

    public int run(int k, int lane, int f, int n) {
        if (!isSheet(k) || !isLane(lane) || n < 0 || n > MOST_CELLS) {
            return BAD;
        }
        runFault = NO_FAULT;
        Sheet from = sheets[k];
        for (int i = 0; i < n; i++) {
            runFault = from.faultAt(lane, f + i);
            if (runFault != NO_FAULT || string(from.cells[f + i]) < 0) {
                return i;
            }
        }
        return n;
    }

    public int torn() {
        return runFault;
    }

    public int count(int what) {
        switch (what) {
            case 0:
                return imagesThere();
            case 1:
                return tape.length;
            case 2:
                return sheets[0].lane == NONE ? NONE : sheets[0].length;
            default:
                return BAD;
        }
    }

    // ---- what the calls share

    private static boolean isColour(int v) {
        return v >= 0 && v < COLOURS;
    }

    private static boolean isSheet(int k) {
        return k >= 0 && k < SHEETS;
    }

    private static boolean isLane(int lane) {
        return lane >= 0 && lane < LANES;
    }

    private int wordsInAll() {
        int sum = 0;
        for (int r = 0; r < picture.rows; r++) {
            sum += teller.tellBest(picture, r);
        }
        return sum;
    }

    private int coloursInAll() {
        int sum = 0;
        for (int colour = 0; colour < COLOURS; colour++) {
            if (picture.manyInAll(colour) > 0) {
                sum++;
            }
        }
        return sum;
    }

    private int imagesThere() {
        int sum = 0;
        for (int k = 0; k < IMAGES; k++) {
            if (images[k].there) {
                sum++;
            }
        }
        return sum;
    }

    private void drawRow(int r, int k) {
        int way = chance.below(4);
        if (way == 0 && r > 0) {
            picture.copyRow(chance.below(r), r);
            return;
        }
        int part = way == 1 ? chance.below(picture.width) + 1 : picture.width;
        for (int c = 0; c < picture.width; c++) {
            picture.put(r, c, c < part ? chance.below(k) : picture.colourAt(r, c - part));
        }
    }

    /** Rows of beads, from the left; a line is a row as it is read by the mode. */
    private static final class Picture {
        final int[] beads = new int[MOST_BEADS];
        int rows = 0;
        int width = 0;
        int mode = 0;

        void become(Picture other) {
            System.arraycopy(other.beads, 0, beads, 0, MOST_BEADS);
            rows = other.rows;
            width = other.width;
            mode = other.mode;
        }

        void clear() {
            rows = 0;
            width = 0;
            mode = 0;
        }

        int size() {
            return rows * width;
        }

        boolean hasRow(int r) {
            return r >= 0 && r < rows;
        }

        boolean hasBead(int r, int c) {
            return hasRow(r) && c >= 0 && c < width;
        }

        int colourAt(int r, int c) {
            return beads[r * MOST_WIDTH + c];
        }

        void put(int r, int c, int colour) {
            beads[r * MOST_WIDTH + c] = colour;
        }

        /** Where from the left the bead is that is read as the i-th; and the other way about. */
        int placeOf(int r, int i) {
            return mode == 1 && r % 2 == 1 ? width - 1 - i : i;
        }

        /** The i-th bead as the row is read. */
        int readAt(int r, int i) {
            return beads[r * MOST_WIDTH + placeOf(r, i)];
        }

        int manyIn(int r, int colour) {
            int sum = 0;
            for (int c = 0; c < width; c++) {
                if (colourAt(r, c) == colour) {
                    sum++;
                }
            }
            return sum;
        }

        int manyInAll(int colour) {
            int sum = 0;
            for (int r = 0; r < rows; r++) {
                sum += manyIn(r, colour);
            }
            return sum;
        }

        boolean sameBeads(int r, int s) {
            for (int c = 0; c < width; c++) {
                if (colourAt(r, c) != colourAt(s, c)) {
                    return false;
                }
            }
            return true;
        }

        /** Whether the line of r is that of s, which is read from its end if turned. */
        boolean sameLine(int r, int s, boolean turned) {
            for (int i = 0; i < width; i++) {
                if (readAt(r, i) != readAt(s, turned ? width - 1 - i : i)) {
                    return false;
                }
            }
            return true;
        }

        int likeAhead(int r, boolean turned) {
            for (int k = 0; k < r; k++) {
                if (sameLine(r, k, turned)) {
                    return k;
                }
            }
            return NONE;
        }

        int firstLike(int r) {
            int ahead = likeAhead(r, false);
            return ahead == NONE ? r : ahead;
        }

        int manyLike(int r) {
            int sum = 0;
            for (int s = 0; s < rows; s++) {
                if (sameLine(r, s, false)) {
                    sum++;
                }
            }
            return sum;
        }

        int linesUnlike() {
            int sum = 0;
            for (int r = 0; r < rows; r++) {
                if (likeAhead(r, false) == NONE) {
                    sum++;
                }
            }
            return sum;
        }

        int runsOf(int r) {
            int sum = 0;
            for (int i = 0; i < width; i++) {
                if (i == 0 || readAt(r, i) != readAt(r, i - 1)) {
                    sum++;
                }
            }
            return sum;
        }

        int runsInAll() {
            int sum = 0;
            for (int r = 0; r < rows; r++) {
                sum += runsOf(r);
            }
            return sum;
        }

        int partOf(int r) {
            for (int part = 1; part < width; part++) {
                if (width % part == 0 && comesAgain(r, part)) {
                    return part;
                }
            }
            return width;
        }

        private boolean comesAgain(int r, int part) {
            for (int i = part; i < width; i++) {
                if (readAt(r, i) != readAt(r, i - part)) {
                    return false;
                }
            }
            return true;
        }

        int rowOfPlan(int i) {
            return width == 0 ? NONE : i / width;
        }

        int placeOfPlan(int i) {
            return width == 0 ? NONE : i % width;
        }

        int planAt(int i) {
            return i < 0 || i >= size() ? NONE : readAt(rowOfPlan(i), placeOfPlan(i));
        }

        /** A row more of so many beads, which are to be put. */
        void takeRow(int beadsOfIt) {
            width = beadsOfIt;
            rows++;
        }

        void takeLine(int[] line, int beadsOfIt) {
            takeRow(beadsOfIt);
            for (int i = 0; i < width; i++) {
                put(rows - 1, placeOf(rows - 1, i), line[i]);
            }
        }

        void copyRow(int from, int to) {
            System.arraycopy(beads, from * MOST_WIDTH, beads, to * MOST_WIDTH, MOST_WIDTH);
        }

        void dyeAll(int from, int to) {
            for (int r = 0; r < rows; r++) {
                for (int c = 0; c < width; c++) {
                    if (colourAt(r, c) == from) {
                        put(r, c, to);
                    }
                }
            }
        }

        void turn(int r) {
            for (int c = 0; c < width / 2; c++) {
                int left = colourAt(r, c);
                put(r, c, colourAt(r, width - 1 - c));
                put(r, width - 1 - c, left);
            }
        }

        void moveOn(int r) {
            int last = colourAt(r, width - 1);
            for (int c = width - 1; c > 0; c--) {
                put(r, c, colourAt(r, c - 1));
            }
            put(r, 0, last);
        }

        void drop(int r) {
            for (int s = r; s + 1 < rows; s++) {
                copyRow(s + 1, s);
            }
            rows--;
            if (rows == 0) {
                width = 0;
            }
        }

        void repeat(int r) {
            for (int s = rows; s > r; s--) {
                copyRow(s - 1, s);
            }
            rows++;
        }

        void exchange(int r, int s) {
            for (int c = 0; c < width; c++) {
                int first = colourAt(r, c);
                put(r, c, colourAt(s, c));
                put(s, c, first);
            }
        }
    }

    /** The thread: beads strung, and the mistake that is in them. */
    private static final class Strand {
        final int[] beads = new int[MOST_BEADS];
        int length = 0;

        void become(Strand other) {
            System.arraycopy(other.beads, 0, beads, 0, MOST_BEADS);
            length = other.length;
        }

        void take(int colour) {
            if (length < MOST_BEADS) {
                beads[length] = colour;
                length++;
            }
        }

        int firstWrong(Picture picture) {
            for (int i = 0; i < length; i++) {
                if (beads[i] != picture.planAt(i)) {
                    return i;
                }
            }
            return NONE;
        }

        int asTold(Picture picture, int at, int kind) {
            int shift = kind == LEFT_OUT ? 1 : kind == DOUBLED ? -1 : 0;
            int sum = 0;
            for (int j = kind == LEFT_OUT ? at : at + 1; j < length; j++) {
                if (beads[j] == picture.planAt(j + shift)) {
                    sum++;
                }
            }
            return sum;
        }

        int kindOf(Picture picture, int at) {
            int best = WRONG;
            for (int kind = LEFT_OUT; kind < KINDS; kind++) {
                if (asTold(picture, at, kind) > asTold(picture, at, best)) {
                    best = kind;
                }
            }
            return best;
        }
    }

    /** Bytes that wait to be read as a text. */
    private static final class Tape {
        final int[] bytes = new int[MOST_BYTES];
        int length = 0;

        boolean take(int c) {
            if (length >= MOST_BYTES) {
                return false;
            }
            bytes[length] = c;
            length++;
            return true;
        }

        boolean isLetter(int i) {
            return i < length && bytes[i] >= 'a' && bytes[i] <= 'z';
        }
    }

    /** Reads a tape token by token into a draft, up to the first fault. */
    private static final class Reader {
        private static final int NO_TOKEN = 1, CAN_NOT_STAND = 2, BAD_BEADS = 3, TOO_MANY = 4;
        private static final int OTHER = 0, NAME = 1, SIGN = 2, END = 3;

        // A text that fails must leave the picture as it was, so it is read aside.
        final Picture draft = new Picture();
        int start = 0;
        private int next = 0;
        private int token = END;
        private boolean froTold = false;

        /** The fault, whose place is start then; or none. */
        int readAll(Tape tape) {
            draft.clear();
            froTold = false;
            next = 0;
            int found = NO_FAULT;
            for (int lines = 0; lines <= MOST_BYTES && found == NO_FAULT; lines++) {
                readToken(tape);
                if (token == END) {
                    return NO_FAULT;
                }
                found = readLine(tape);
            }
            return found;
        }

        private void readToken(Tape tape) {
            while (next < tape.length && tape.bytes[next] == ' ') {
                next++;
            }
            start = next;
            if (next >= tape.length) {
                token = END;
            } else if (tape.isLetter(next)) {
                token = NAME;
                while (tape.isLetter(next)) {
                    next++;
                }
            } else {
                token = tape.bytes[next] == ';' ? SIGN : OTHER;
                next++;
            }
        }

        private int readLine(Tape tape) {
            if (token != NAME) {
                return unfit();
            }
            if (isName(tape, "row")) {
                return readRow(tape);
            }
            if (isName(tape, "fro")) {
                return readFro(tape);
            }
            return CAN_NOT_STAND;
        }

        private int readRow(Tape tape) {
            if (draft.rows >= MOST_ROWS) {
                return TOO_MANY;
            }
            readToken(tape);
            if (token != NAME) {
                return unfit();
            }
            if (!isBeads(tape)) {
                return BAD_BEADS;
            }
            draft.takeRow(next - start);
            for (int c = 0; c < draft.width; c++) {
                draft.put(draft.rows - 1, c, tape.bytes[start + c] - 'a');
            }
            return readSign(tape);
        }

        private int readFro(Tape tape) {
            if (froTold) {
                return TOO_MANY;
            }
            froTold = true;
            draft.mode = 1;
            return readSign(tape);
        }

        private int readSign(Tape tape) {
            readToken(tape);
            return token == SIGN ? NO_FAULT : unfit();
        }

        private int unfit() {
            return token == OTHER ? NO_TOKEN : CAN_NOT_STAND;
        }

        private boolean isName(Tape tape, String name) {
            if (next - start != name.length()) {
                return false;
            }
            for (int i = 0; i < name.length(); i++) {
                if (tape.bytes[start + i] != name.charAt(i)) {
                    return false;
                }
            }
            return true;
        }

        private boolean isBeads(Tape tape) {
            int many = next - start;
            if (many > MOST_WIDTH || draft.rows > 0 && many != draft.width) {
                return false;
            }
            for (int i = start; i < next; i++) {
                if (!isColour(tape.bytes[i] - 'a')) {
                    return false;
                }
            }
            return true;
        }
    }

    /** Tells a row of a picture in words. */
    private static final class Teller {
        final int[] told = new int[MOST_WORDS];
        int length = 0;

        /** How many words by the row's own form, which are told then, the form first. */
        int tellBest(Picture picture, int r) {
            int best = PLAIN;
            int fewest = tellBy(picture, r, PLAIN);
            for (int form = PLAIN - 1; form >= AS; form--) {
                int many = tellBy(picture, r, form);
                if (many != NONE && many <= fewest) {
                    best = form;
                    fewest = many;
                }
            }
            return tellBy(picture, r, best);
        }

        /** How many words, which are told then; NONE if the row can not be told so. */
        int tellBy(Picture picture, int r, int form) {
            length = 0;
            put(form);
            switch (form) {
                case AS:
                    return tellLike(picture.likeAhead(r, false));
                case TURNED:
                    return tellLike(picture.likeAhead(r, true));
                case MIRROR:
                    return tellMirror(picture, r);
                case TIMES:
                    return tellTimes(picture, r, picture.partOf(r));
                default:
                    return tellRuns(picture, r, picture.width);
            }
        }

        private void put(int v) {
            if (length < MOST_WORDS) {
                told[length] = v;
                length++;
            }
        }

        private int tellLike(int k) {
            if (k == NONE) {
                return NONE;
            }
            put(k);
            return length;
        }

        private int tellMirror(Picture picture, int r) {
            if (picture.width < 2 || !picture.sameLine(r, r, true)) {
                return NONE;
            }
            return tellRuns(picture, r, (picture.width + 1) / 2);
        }

        private int tellTimes(Picture picture, int r, int part) {
            if (part < 1 || part >= picture.width) {
                return NONE;
            }
            put(picture.width / part);
            return tellRuns(picture, r, part);
        }

        /** Runs of the first beads of the line, cut off behind these. */
        private int tellRuns(Picture picture, int r, int beads) {
            int alike = 0;
            for (int i = 0; i < beads; i++) {
                int colour = picture.readAt(r, i);
                alike++;
                if (i + 1 == beads || picture.readAt(r, i + 1) != colour) {
                    put(alike);
                    put(colour);
                    alike = 0;
                }
            }
            return length;
        }
    }

    /** Words that are told, and the line that is spoken by them. */
    private static final class Slip {
        final int[] line = new int[MOST_WIDTH];
        int length = 0;
        private final int[] told = new int[MOST_WORDS];

        boolean take(int v) {
            if (length >= MOST_WORDS) {
                return false;
            }
            told[length] = v;
            length++;
            return true;
        }

        /** How many beads, which are in the line then; NONE if no row is told. */
        int speak(Picture picture) {
            if (length < 2) {
                return NONE;
            }
            switch (told[0]) {
                case AS:
                    return speakLike(picture, false);
                case TURNED:
                    return speakLike(picture, true);
                case MIRROR:
                    return speakMirror(picture);
                case TIMES:
                    return speakTimes(picture);
                case PLAIN:
                    return fitting(picture, speakRuns(1));
                default:
                    return NONE;
            }
        }

        private int speakLike(Picture picture, boolean turned) {
            int k = told[1];
            if (length != 2 || !picture.hasRow(k)) {
                return NONE;
            }
            for (int i = 0; i < picture.width; i++) {
                line[i] = picture.readAt(k, turned ? picture.width - 1 - i : i);
            }
            return picture.width;
        }

        private int speakMirror(Picture picture) {
            int half = (picture.width + 1) / 2;
            if (picture.width < 2 || speakRuns(1) != half) {
                return NONE;
            }
            for (int i = half; i < picture.width; i++) {
                line[i] = line[picture.width - 1 - i];
            }
            return picture.width;
        }

        private int speakTimes(Picture picture) {
            int times = told[1];
            int part = speakRuns(2);
            if (times < 2 || times > 16 || part == NONE) {
                return NONE;
            }
            int beads = fitting(picture, times * part);
            for (int i = part; i < beads; i++) {
                line[i] = line[i - part];
            }
            return beads;
        }

        /** How many beads the words from one on tell as runs; NONE, also if no row has so many. */
        private int speakRuns(int from) {
            if (from >= length || (length - from) % 2 != 0) {
                return NONE;
            }
            int beads = 0;
            for (int i = from; i + 1 < length; i += 2) {
                int more = told[i];
                if (more < 1 || beads + more > MOST_WIDTH || !isColour(told[i + 1])) {
                    return NONE;
                }
                for (int j = 0; j < more; j++) {
                    line[beads + j] = told[i + 1];
                }
                beads += more;
            }
            return beads;
        }

        private static int fitting(Picture picture, int beads) {
            boolean fits = picture.rows == 0 ? beads >= 1 && beads <= MOST_WIDTH : beads == picture.width;
            return fits ? beads : NONE;
        }
    }

    /** Numbers got from a seed. */
    private static final class Chance {
        int seed = 0;

        int below(int bound) {
            seed = seed * 1103515245 + 12345;
            int got = seed >>> 16 & 32767;
            return bound < 1 ? 0 : got % bound;
        }
    }

    /** A picture and a thread as they were. */
    private static final class Image {
        final Picture picture = new Picture();
        final Strand strand = new Strand();
        boolean there = false;
    }

    /** A row of cells of one lane; of lane NONE it is nothing. */
    private static final class Sheet {
        final int[] cells = new int[MOST_CELLS];
        int length = 0;
        int lane = NONE;

        void renew(int newLane, int n) {
            lane = newLane;
            length = n;
            for (int i = 0; i < MOST_CELLS; i++) {
                cells[i] = 0;
            }
        }

        /** What a machine would find that takes cell i of a row of the lane asked for. */
        int faultAt(int asked, int i) {
            if (lane == NONE) {
                return NULL;
            }
            if (lane != asked) {
                return CAST;
            }
            return i < 0 || i >= length ? INDEX : NO_FAULT;
        }

        void put(int i, int v) {
            cells[i] = lane == BYTES ? (byte) v : lane == SHORTS ? (short) v : v;
        }
    }
}
