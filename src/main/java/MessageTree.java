import java.util.Arrays;

/** Messages of lines, read whole into a tree of entities and written again in one plain form. */
public final class MessageTree {
    public static final int NONE = -1;

    private static final int TAPE_LIMIT = 8000;
    private static final int FEED_SIZE = 20;
    private static final int LINE_LIMIT = 998;
    private static final int ENTITY_LIMIT = 40;
    private static final int NESTING_LIMIT = 6;
    private static final int FIELD_LIMIT = 200;
    private static final int ENTITY_FIELD_LIMIT = 20;
    private static final int FIELD_NAME_LIMIT = 40;
    private static final int WORD_LIMIT = 60;
    private static final int VALUE_LIMIT = 100;
    private static final int BOUNDARY_LIMIT = 70;
    private static final int PARAMETER_LIMIT = 6;
    private static final int ADDRESS_LIMIT = 10;
    private static final int COMMENT_LIMIT = 10;
    private static final int ENCODED_WORD_LIMIT = 75;
    private static final int FOLD_WIDTH = 78;
    private static final int CODED_WIDTH = 76;

    // Texts stand in the pool twice at most (as they came and as they are meant), all else once.
    private static final int POOL_LIMIT = 2 * TAPE_LIMIT + 400;
    // The dearest tape, a body of bytes in base64 with many short parts, stays under 16000.
    private static final int WRITTEN_LIMIT = 20000;

    private static final int TAB = 9;
    private static final int LF = 10;
    private static final int CR = 13;
    private static final int BLANK = 32;
    private static final int UNKNOWN_POINT = 65533;

    private static final int CONTENT_TYPE = 1;
    private static final int CONTENT_CODE = 2;
    private static final int SUBJECT = 3;
    private static final int DATE = 4;
    private static final int FROM = 5;
    private static final int TO = 6;

    private static final int SEVEN_BIT = 0;
    private static final int EIGHT_BIT = 1;
    private static final int BINARY = 2;
    private static final int BASE64 = 3;
    private static final int QUOTED_PRINTABLE = 4;

    private static final String ATOM_BYTES =
            "abcdefghijklmnopqrstuvwxyzABCDEFGHIJKLMNOPQRSTUVWXYZ0123456789!#$%&'*+-/=?^_`{|}~";
    private static final String TOKEN_BYTES =
            "abcdefghijklmnopqrstuvwxyzABCDEFGHIJKLMNOPQRSTUVWXYZ0123456789!#$%&'*+-.^_`{|}~";
    private static final String BOUNDARY_BYTES =
            "abcdefghijklmnopqrstuvwxyzABCDEFGHIJKLMNOPQRSTUVWXYZ0123456789 '()+_,-./:=?";
    private static final String BASE64_SIGNS =
            "ABCDEFGHIJKLMNOPQRSTUVWXYZabcdefghijklmnopqrstuvwxyz0123456789+/";
    private static final String HEX_SIGNS = "0123456789ABCDEF";
    private static final String WEEKDAYS = "montuewedthufrisatsun";
    private static final String MONTHS = "janfebmaraprmayjunjulaugsepoctnovdec";
    private static final int[] MONTH_DAYS = {31, 28, 31, 30, 31, 30, 31, 31, 30, 31, 30, 31};

    private final Tape tape;
    private final Reader reader;
    private final Writer writer;
    private Tree latest;
    private Tree spare;

    public MessageTree() {
        tape = new Tape();
        reader = new Reader(tape);
        writer = new Writer();
        latest = new Tree();
        spare = new Tree();
    }

    public int feed(int a, int b, int c, int d, int e) throws IllegalStateException {
        if (tape.bytes.size + FEED_SIZE > TAPE_LIMIT) {
            throw new IllegalStateException("the tape would have more than 8000 bytes");
        }
        tape.addNumber(a);
        tape.addNumber(b);
        tape.addNumber(c);
        tape.addNumber(d);
        tape.addNumber(e);
        return tape.bytes.size;
    }

    public void end(int n) throws IllegalArgumentException {
        if (n < 0 || n > tape.bytes.size) {
            throw new IllegalArgumentException("the tape has no such place");
        }
        tape.bytes.size = n;
    }

    public int read() {
        try {
            reader.readMessage(spare);
        } catch (IllegalStateException fault) {
            tape.bytes.size = 0;
            return -1 - tape.fault;
        }
        tape.bytes.size = 0;
        Tree older = latest;
        latest = spare;
        spare = older;
        return latest.entities;
    }

    public int entity(int i, int what) throws IndexOutOfBoundsException {
        requireEntity(i);
        switch (what) {
            case 0:
                return latest.parents[i];
            case 1:
                return latest.partCount(i);
            case 2:
                return latest.fieldCounts[i];
            case 3:
                return latest.sizeOf(Tree.octetSlot(i));
            case 4:
                return latest.codes[i];
            case 5:
                return latest.parameterCounts[i];
            case 6:
                return latest.multiparts[i] ? 1 : 0;
            default:
                throw new IndexOutOfBoundsException("nothing is told under this number");
        }
    }

    public int part(int i, int k) throws IndexOutOfBoundsException {
        requireEntity(i);
        return latest.partNumber(i, k);
    }

    public int octet(int i, int k) throws IndexOutOfBoundsException {
        requireEntity(i);
        requireWithin(k, latest.sizeOf(Tree.octetSlot(i)));
        return latest.itemOf(Tree.octetSlot(i), k);
    }

    public int kind(int i, int f) throws IndexOutOfBoundsException {
        requireField(i, f);
        return latest.kindOf(i, f);
    }

    public int letter(int i, int f, int which, int k) throws IndexOutOfBoundsException {
        requireField(i, f);
        requireWithin(which, 2);
        return itemOrSize(Tree.fieldSlot(latest.firstFields[i] + f, which), k);
    }

    public int type(int i, int which, int k) throws IndexOutOfBoundsException {
        requireEntity(i);
        requireWithin(which, 2);
        return itemOrSize(Tree.typeSlot(i, which), k);
    }

    public int parameter(int i, int n, int which, int k) throws IndexOutOfBoundsException {
        requireEntity(i);
        requireWithin(n, latest.parameterCounts[i]);
        requireWithin(which, 2);
        return itemOrSize(Tree.parameterSlot(i, n, which), k);
    }

    public int subject(int k) throws IndexOutOfBoundsException {
        return itemOrSize(Tree.SUBJECT_SLOT, k);
    }

    public long date(int what) throws IndexOutOfBoundsException {
        requireWithin(what, 2);
        return what == 0 ? latest.seconds : latest.zone;
    }

    public int addresses(int kind) throws IllegalArgumentException {
        requireAddressKind(kind);
        return latest.addressCount(kind);
    }

    public int address(int kind, int n, int which, int k)
            throws IllegalArgumentException, IndexOutOfBoundsException {
        requireAddressKind(kind);
        requireWithin(n, latest.addressCount(kind));
        requireWithin(which, 3);
        return itemOrSize(Tree.addressSlot(kind, n, which), k);
    }

    public int write() throws IllegalStateException {
        if (latest.entities == 0) {
            throw new IllegalStateException("there is no message");
        }
        writer.writeTree(latest);
        return writer.written.size;
    }

    public int out(int k) throws IndexOutOfBoundsException {
        requireWithin(k, writer.written.size);
        return writer.written.at(k);
    }

    public int again() throws IllegalStateException {
        if (writer.written.size > TAPE_LIMIT) {
            throw new IllegalStateException("more than 8000 bytes were written");
        }
        tape.bytes.take(writer.written);
        return tape.bytes.size;
    }

    private void requireEntity(int i) {
        requireWithin(i, latest.entities);
    }

    private void requireField(int i, int f) {
        requireEntity(i);
        requireWithin(f, latest.fieldCounts[i]);
    }

    private void requireAddressKind(int kind) {
        if (kind != FROM && kind != TO) {
            throw new IllegalArgumentException("addresses are of kind 5 or 6");
        }
    }

    private void requireWithin(int k, int size) {
        if (k < 0 || k >= size) {
            throw new IndexOutOfBoundsException("there is none such");
        }
    }

    private int itemOrSize(int slot, int k) {
        int size = latest.sizeOf(slot);
        if (k == NONE) {
            return size;
        }
        requireWithin(k, size);
        return latest.itemOf(slot, k);
    }

    private static boolean isBlank(int c) {
        return c == BLANK || c == TAB;
    }

    private static boolean isDigit(int c) {
        return c >= '0' && c <= '9';
    }

    private static boolean isLetter(int c) {
        return c >= 'a' && c <= 'z' || c >= 'A' && c <= 'Z';
    }

    private static boolean isOneOf(String set, int c) {
        return c >= 0 && set.indexOf((char) c) >= 0;
    }

    private static int small(int c) {
        return c >= 'A' && c <= 'Z' ? c + ('a' - 'A') : c;
    }

    /** Numbers in a row that is made once and used again. */
    private static final class Row {
        final int[] items;
        int size;

        Row(int limit) {
            items = new int[Math.max(limit, 0)];
        }

        void add(int item) {
            if (size >= 0 && size < items.length) {
                items[size] = item;
                size++;
            }
        }

        int at(int k) {
            return k >= 0 && k < size && k < items.length ? items[k] : NONE;
        }

        void take(Row other) {
            int count = Math.min(other.size, items.length);
            System.arraycopy(other.items, 0, items, 0, count);
            size = count;
        }

        /** Behind the blanks that begin at a place, or behind what is none. */
        int behindRun(int from, int to, boolean ofBlanks) {
            int at = from;
            while (at < to && isBlank(at(at)) == ofBlanks) {
                at++;
            }
            return at;
        }

        /** Whether the items from a place on are this word, which has small letters. */
        boolean spells(int from, int count, String word) {
            if (count != word.length()) {
                return false;
            }
            for (int k = 0; k < count; k++) {
                if (small(at(from + k)) != word.charAt(k)) {
                    return false;
                }
            }
            return true;
        }
    }

    /** The tape, and a walk over the text of one field of it. */
    private static final class Tape {
        final Row bytes = new Row(TAPE_LIMIT);
        int fault;
        int place;
        int textEnd;
        int now;

        void addNumber(int number) {
            for (int shift = 24; shift >= 0; shift -= 8) {
                bytes.add(number >>> shift & 255);
            }
        }

        void fail(int where) {
            fault = where;
            throw new IllegalStateException("the tape has a fault");
        }

        /** The walk begins behind a field's colon and ends at the line end that ends the field. */
        void openText(int colon, int lineEnd) {
            place = Math.max(colon, 0);
            textEnd = Math.min(lineEnd, bytes.size);
            step();
        }

        void step() {
            int[] items = bytes.items;
            if (place < textEnd) {
                place++;
            }
            // A line end within the text is no part of it; a blank always follows.
            if (place < textEnd && items[place] == CR) {
                place += 2;
            }
            now = place < textEnd ? items[place] : NONE;
        }

        void expect(int c) {
            if (now != c) {
                fail(place);
            }
            step();
        }

        void expectEnd() {
            if (now != NONE) {
                fail(place);
            }
        }

        void skipSpace() {
            int depth = 0;
            for (int seen = 0; seen <= TAPE_LIMIT; seen++) {
                if (depth == 0 && now != '(' && !isBlank(now)) {
                    return;
                }
                if (now == NONE || now == '(' && depth == COMMENT_LIMIT) {
                    fail(place);
                }
                if (now == '(') {
                    depth++;
                } else if (now == ')') {
                    depth--;
                } else if (now == '\\') {
                    stepOverBackslash();
                }
                step();
            }
        }

        private void stepOverBackslash() {
            step();
            if (now == NONE) {
                fail(place);
            }
        }

        /** Reads a TOKEN or an ATOM, by the set of its bytes. */
        void word(String set, Row into) {
            int count = 0;
            while (count < WORD_LIMIT && isOneOf(set, now)) {
                into.add(now);
                step();
                count++;
            }
            if (count == 0 || isOneOf(set, now)) {
                fail(place);
            }
        }

        /** Reads atoms with one dot between: whether there were dots. */
        boolean dotted(Row into) {
            word(ATOM_BYTES, into);
            int dots = 0;
            while (dots < TAPE_LIMIT && now == '.') {
                into.add(now);
                step();
                word(ATOM_BYTES, into);
                dots++;
            }
            return dots > 0;
        }

        /** Reads what stands in quotes, as it is meant; the walk is at the first quote. */
        void quoted(Row into, int limit) {
            step();
            for (int count = 0; count <= limit && now != '"'; count++) {
                if (count == limit || now == NONE) {
                    fail(place);
                }
                if (now == '\\') {
                    stepOverBackslash();
                }
                into.add(now);
                step();
            }
            step();
        }

        int digits(int count) {
            int number = 0;
            for (int k = 0; k < count; k++) {
                if (!isDigit(now)) {
                    fail(place);
                }
                number = number * 10 + (now - '0');
                step();
            }
            return number;
        }
    }

    /** What was read of a message. Every text of it lies in one pool, under the number of its slot. */
    private static final class Tree {
        static final int TYPE_SLOTS = 2 * FIELD_LIMIT;
        static final int PARAMETER_SLOTS = TYPE_SLOTS + 2 * ENTITY_LIMIT;
        static final int ADDRESS_SLOTS = PARAMETER_SLOTS + 2 * ENTITY_LIMIT * PARAMETER_LIMIT;
        static final int OCTET_SLOTS = ADDRESS_SLOTS + 2 * 3 * ADDRESS_LIMIT;
        static final int SUBJECT_SLOT = OCTET_SLOTS + ENTITY_LIMIT;
        static final int SLOT_LIMIT = SUBJECT_SLOT + 1;

        final Row pool = new Row(POOL_LIMIT);
        final int[] starts = new int[SLOT_LIMIT];
        final int[] sizes = new int[SLOT_LIMIT];
        final int[] parents = new int[ENTITY_LIMIT];
        final int[] firstFields = new int[ENTITY_LIMIT];
        final int[] fieldCounts = new int[ENTITY_LIMIT];
        final int[] parameterCounts = new int[ENTITY_LIMIT];
        final int[] codes = new int[ENTITY_LIMIT];
        final boolean[] multiparts = new boolean[ENTITY_LIMIT];
        final int[] kinds = new int[FIELD_LIMIT];
        final int[] addressCounts = new int[2];
        int entities;
        int fields;
        long seconds;
        int zone;

        static int fieldSlot(int field, int which) {
            return 2 * field + which;
        }

        static int typeSlot(int i, int which) {
            return TYPE_SLOTS + 2 * i + which;
        }

        static int parameterSlot(int i, int n, int which) {
            return PARAMETER_SLOTS + 2 * (PARAMETER_LIMIT * i + n) + which;
        }

        static int addressSlot(int kind, int n, int which) {
            return ADDRESS_SLOTS + 3 * (ADDRESS_LIMIT * (kind - FROM) + n) + which;
        }

        static int octetSlot(int i) {
            return OCTET_SLOTS + i;
        }

        void clear() {
            pool.size = 0;
            Arrays.fill(sizes, 0);
            Arrays.fill(addressCounts, 0);
            entities = 0;
            fields = 0;
            seconds = 0;
            zone = 0;
        }

        void addEntity(int parent) {
            int i = entities;
            if (i < 0 || i >= ENTITY_LIMIT) {
                return;
            }
            parents[i] = parent;
            firstFields[i] = fields;
            fieldCounts[i] = 0;
            parameterCounts[i] = 0;
            codes[i] = SEVEN_BIT;
            multiparts[i] = false;
            entities++;
        }

        boolean hasEntity(int i) {
            return i >= 0 && i < entities && i < ENTITY_LIMIT;
        }

        void addField(int i, int kind) {
            if (hasEntity(i) && fields >= 0 && fields < FIELD_LIMIT) {
                kinds[fields] = kind;
                fields++;
                fieldCounts[i]++;
            }
        }

        int kindOf(int i, int f) {
            int field = hasEntity(i) ? firstFields[i] + f : NONE;
            return field >= 0 && field < fields && field < FIELD_LIMIT ? kinds[field] : 0;
        }

        boolean hasKind(int i, int kind) {
            int count = hasEntity(i) ? fieldCounts[i] : 0;
            for (int f = 0; f < count; f++) {
                if (kindOf(i, f) == kind) {
                    return true;
                }
            }
            return false;
        }

        /** A slot gets all that stands in the pool from a place on. */
        void setSlot(int slot, int from) {
            if (slot >= 0 && slot < SLOT_LIMIT) {
                starts[slot] = from;
                sizes[slot] = pool.size - from;
            }
        }

        void setSmallSlot(int slot, int from) {
            for (int k = Math.max(from, 0); k < pool.size && k < POOL_LIMIT; k++) {
                pool.items[k] = small(pool.items[k]);
            }
            setSlot(slot, from);
        }

        void setWord(int slot, String word) {
            int from = pool.size;
            for (int k = 0; k < word.length(); k++) {
                pool.add(word.charAt(k));
            }
            setSlot(slot, from);
        }

        int startOf(int slot) {
            return slot >= 0 && slot < SLOT_LIMIT ? starts[slot] : 0;
        }

        int sizeOf(int slot) {
            return slot >= 0 && slot < SLOT_LIMIT ? sizes[slot] : 0;
        }

        int itemOf(int slot, int k) {
            return pool.at(startOf(slot) + k);
        }

        boolean slotSpells(int slot, String word) {
            return pool.spells(startOf(slot), sizeOf(slot), word);
        }

        boolean sameSlots(int one, int other) {
            int size = sizeOf(one);
            if (size != sizeOf(other)) {
                return false;
            }
            for (int k = 0; k < size; k++) {
                if (itemOf(one, k) != itemOf(other, k)) {
                    return false;
                }
            }
            return true;
        }

        /** Where the text of a slot begins and ends in the pool, without blanks at its ends. */
        int trimmedStart(int slot) {
            int from = startOf(slot);
            return pool.behindRun(from, from + sizeOf(slot), true);
        }

        int trimmedEnd(int slot) {
            int from = startOf(slot);
            int to = from + sizeOf(slot);
            while (to > from && isBlank(pool.at(to - 1))) {
                to--;
            }
            return to;
        }

        int addressCount(int kind) {
            return kind == FROM ? addressCounts[0] : kind == TO ? addressCounts[1] : 0;
        }

        void setAddressCount(int kind, int count) {
            if (kind == FROM) {
                addressCounts[0] = count;
            } else if (kind == TO) {
                addressCounts[1] = count;
            }
        }

        int parentOf(int i) {
            return hasEntity(i) ? parents[i] : NONE;
        }

        int partCount(int i) {
            int count = 0;
            for (int k = 0; k < entities; k++) {
                if (parentOf(k) == i) {
                    count++;
                }
            }
            return count;
        }

        int partNumber(int i, int k) {
            int seen = 0;
            for (int number = 0; number < entities; number++) {
                if (parentOf(number) == i) {
                    if (seen == k) {
                        return number;
                    }
                    seen++;
                }
            }
            return NONE;
        }

        /** The slot of an entity's boundary; NONE without one. */
        int boundarySlot(int i) {
            int count = hasEntity(i) ? parameterCounts[i] : 0;
            for (int n = 0; n < count; n++) {
                if (slotSpells(parameterSlot(i, n, 0), "boundary")) {
                    return parameterSlot(i, n, 1);
                }
            }
            return NONE;
        }
    }

    /** Reads a message: entity by entity, each with its fields, their texts, and its body. */
    private static final class Reader {
        final Tape tape;
        final int[] colons = new int[ENTITY_FIELD_LIMIT];
        final int[] lineEnds = new int[ENTITY_FIELD_LIMIT];
        final TypeText types;
        final DateText dates;
        final AddressText addressTexts;
        final SubjectText subjects;
        final Codes codes;
        final Parts parts;

        Reader(Tape tape) {
            this.tape = tape;
            types = new TypeText(tape);
            dates = new DateText(tape);
            addressTexts = new AddressText(tape);
            codes = new Codes(tape);
            subjects = new SubjectText(codes);
            parts = new Parts(tape);
        }

        void readMessage(Tree tree) {
            checkLines();
            tree.clear();
            parts.openOutermost();
            for (int i = 0; i < ENTITY_LIMIT; i++) {
                tree.addEntity(parts.parent);
                int body = readFields(tree, i, parts.from, parts.to);
                readTexts(tree, i);
                if (tree.multiparts[i]) {
                    parts.openMultipart(tree, i, body);
                } else {
                    codes.readLeaf(tree, i, body, parts.to);
                }
                if (!parts.goToNext(tree)) {
                    return;
                }
            }
        }

        private void checkLines() {
            int size = tape.bytes.size;
            int inLine = 0;
            for (int at = 0; at < size; at++) {
                int c = tape.bytes.at(at);
                inLine++;
                if (c == CR && tape.bytes.at(at + 1) == LF) {
                    at++;
                    inLine = 0;
                } else if (c == CR || c == LF || inLine > LINE_LIMIT) {
                    tape.fail(at);
                }
            }
        }

        /** Reads the fields of entity i between two places: where its body begins. */
        private int readFields(Tree tree, int i, int from, int to) {
            int at = from;
            for (int f = 0; f <= ENTITY_FIELD_LIMIT; f++) {
                if (at >= to) {
                    tape.fail(to);
                }
                if (tape.bytes.at(at) == CR) {
                    break;
                }
                if (f == ENTITY_FIELD_LIMIT || tree.fields >= FIELD_LIMIT) {
                    tape.fail(at);
                }
                int colon = nameEnd(at, to);
                addName(tree, i, at, colon);
                int lineEnd = readText(tree, colon + 1, to);
                colons[f] = colon;
                lineEnds[f] = lineEnd;
                at = lineEnd + 2;
            }
            return at + 2;
        }

        private int nameEnd(int from, int to) {
            int at = from;
            while (at < to && at - from < FIELD_NAME_LIMIT && isNameByte(tape.bytes.at(at))) {
                at++;
            }
            if (at >= to || at == from || tape.bytes.at(at) != ':') {
                tape.fail(at);
            }
            return at;
        }

        private static boolean isNameByte(int c) {
            return c > BLANK && c < 127 && c != ':';
        }

        private void addName(Tree tree, int i, int from, int to) {
            int kind = kindOfName(from, to - from, i == 0);
            if (kind > 0 && tree.hasKind(i, kind)) {
                tape.fail(from);
            }
            int start = tree.pool.size;
            for (int at = from; at < to; at++) {
                tree.pool.add(tape.bytes.at(at));
            }
            tree.setSlot(Tree.fieldSlot(tree.fields, 0), start);
            tree.addField(i, kind);
        }

        private int kindOfName(int from, int size, boolean inMessage) {
            Row bytes = tape.bytes;
            if (bytes.spells(from, size, "content-type")) {
                return CONTENT_TYPE;
            }
            if (bytes.spells(from, size, "content-transfer-encoding")) {
                return CONTENT_CODE;
            }
            if (!inMessage) {
                return 0;
            }
            if (bytes.spells(from, size, "subject")) {
                return SUBJECT;
            }
            if (bytes.spells(from, size, "date")) {
                return DATE;
            }
            if (bytes.spells(from, size, "from")) {
                return FROM;
            }
            return bytes.spells(from, size, "to") ? TO : 0;
        }

        /** Reads the text of the field that was added latest: the place of the line end that ends it. */
        private int readText(Tree tree, int from, int to) {
            int start = tree.pool.size;
            int at = from;
            while (at < to) {
                int c = tape.bytes.at(at);
                if (c == CR) {
                    if (at + 2 >= to || !isBlank(tape.bytes.at(at + 2))) {
                        break;
                    }
                    at++;
                } else if (c >= BLANK && c < 127 || c == TAB) {
                    tree.pool.add(c);
                } else {
                    tape.fail(at);
                }
                at++;
            }
            if (at >= to) {
                tape.fail(to);
            }
            tree.setSlot(Tree.fieldSlot(tree.fields - 1, 1), start);
            return at;
        }

        private void readTexts(Tree tree, int i) {
            types.begin(tree, i);
            for (int f = 0; f < ENTITY_FIELD_LIMIT && f < tree.fieldCounts[i]; f++) {
                int kind = tree.kindOf(i, f);
                tape.openText(colons[f], lineEnds[f]);
                switch (kind) {
                    case CONTENT_TYPE:
                        types.readType(tree, i, parts.open);
                        break;
                    case CONTENT_CODE:
                        types.readCode(tree, i);
                        break;
                    case SUBJECT:
                        subjects.readSubject(tree, Tree.fieldSlot(tree.firstFields[i] + f, 1));
                        break;
                    case DATE:
                        dates.readDate(tree);
                        break;
                    case FROM:
                    case TO:
                        addressTexts.readAddresses(tree, kind);
                        break;
                    default:
                        break;
                }
            }
            types.finish(tree, i);
        }
    }

    /** Reads the texts that tell the type of an entity and the code of its body. */
    private static final class TypeText {
        final Tape tape;
        int codePlace;

        TypeText(Tape tape) {
            this.tape = tape;
        }

        void begin(Tree tree, int i) {
            codePlace = 0;
            if (!tree.hasKind(i, CONTENT_TYPE)) {
                tree.setWord(Tree.typeSlot(i, 0), "text");
                tree.setWord(Tree.typeSlot(i, 1), "plain");
            }
        }

        void readType(Tree tree, int i, int nesting) {
            tape.skipSpace();
            int first = tape.place;
            readSmallToken(tree, Tree.typeSlot(i, 0));
            tape.skipSpace();
            tape.expect('/');
            tape.skipSpace();
            readSmallToken(tree, Tree.typeSlot(i, 1));
            tape.skipSpace();
            int count = 0;
            while (count < PARAMETER_LIMIT && tape.now == ';') {
                tape.step();
                readParameter(tree, i, count);
                tape.skipSpace();
                count++;
            }
            tape.expectEnd();
            if (!tree.hasEntity(i)) {
                return;
            }
            tree.parameterCounts[i] = count;
            tree.multiparts[i] = tree.slotSpells(Tree.typeSlot(i, 0), "multipart");
            boolean right = nesting < NESTING_LIMIT && isRightBoundary(tree, tree.boundarySlot(i));
            if (tree.multiparts[i] && !right) {
                tape.fail(first);
            }
        }

        private void readSmallToken(Tree tree, int slot) {
            int start = tree.pool.size;
            tape.word(TOKEN_BYTES, tree.pool);
            tree.setSmallSlot(slot, start);
        }

        private void readParameter(Tree tree, int i, int n) {
            tape.skipSpace();
            int first = tape.place;
            readSmallToken(tree, Tree.parameterSlot(i, n, 0));
            for (int other = 0; other < n; other++) {
                if (tree.sameSlots(Tree.parameterSlot(i, other, 0), Tree.parameterSlot(i, n, 0))) {
                    tape.fail(first);
                }
            }
            tape.skipSpace();
            tape.expect('=');
            tape.skipSpace();
            int start = tree.pool.size;
            if (tape.now == '"') {
                tape.quoted(tree.pool, VALUE_LIMIT);
            } else {
                tape.word(TOKEN_BYTES, tree.pool);
            }
            tree.setSlot(Tree.parameterSlot(i, n, 1), start);
        }

        private static boolean isRightBoundary(Tree tree, int slot) {
            int size = tree.sizeOf(slot);
            if (size < 1 || size > BOUNDARY_LIMIT || tree.itemOf(slot, size - 1) == BLANK) {
                return false;
            }
            for (int k = 0; k < size; k++) {
                if (!isOneOf(BOUNDARY_BYTES, tree.itemOf(slot, k))) {
                    return false;
                }
            }
            return true;
        }

        void readCode(Tree tree, int i) {
            tape.skipSpace();
            codePlace = tape.place;
            int start = tree.pool.size;
            tape.word(TOKEN_BYTES, tree.pool);
            int code = codeOf(tree.pool, start, tree.pool.size - start);
            if (code == NONE) {
                tape.fail(codePlace);
            }
            tape.skipSpace();
            tape.expectEnd();
            if (tree.hasEntity(i)) {
                tree.codes[i] = code;
            }
        }

        private static int codeOf(Row row, int from, int size) {
            if (row.spells(from, size, "7bit")) {
                return SEVEN_BIT;
            }
            if (row.spells(from, size, "8bit")) {
                return EIGHT_BIT;
            }
            if (row.spells(from, size, "binary")) {
                return BINARY;
            }
            if (row.spells(from, size, "base64")) {
                return BASE64;
            }
            return row.spells(from, size, "quoted-printable") ? QUOTED_PRINTABLE : NONE;
        }

        /** Both texts may stand in either order, so a multipart's code is judged behind them. */
        void finish(Tree tree, int i) {
            if (tree.hasEntity(i) && tree.multiparts[i] && tree.codes[i] > BINARY) {
                tape.fail(codePlace);
            }
        }
    }

    /** Reads the text of a date. */
    private static final class DateText {
        static final int FIRST_YEAR = 1600;
        static final int DAYS_BEFORE_1970 = 719162;

        final Tape tape;

        DateText(Tape tape) {
            this.tape = tape;
        }

        void readDate(Tree tree) {
            tape.skipSpace();
            int weekdayPlace = tape.place;
            int weekday = readWeekday();
            long days = readDays();
            tape.skipSpace();
            int seconds = readTime();
            tape.skipSpace();
            int zone = readZone();
            tape.skipSpace();
            tape.expectEnd();
            // The first day of 1970 was a Thursday.
            if (weekday != NONE && weekday != Math.floorMod(days + 3, 7L)) {
                tape.fail(weekdayPlace);
            }
            tree.seconds = days * 86400 + seconds - zone * 60;
            tree.zone = zone;
        }

        private int readWeekday() {
            if (!isLetter(tape.now)) {
                return NONE;
            }
            int weekday = readWord(WEEKDAYS);
            tape.skipSpace();
            tape.expect(',');
            tape.skipSpace();
            return weekday;
        }

        /** Reads day, month and year: the days from the beginning of 1970. */
        private long readDays() {
            int dayPlace = tape.place;
            int day = tape.digits(1);
            if (isDigit(tape.now)) {
                day = day * 10 + tape.digits(1);
            }
            tape.skipSpace();
            int month = readWord(MONTHS);
            tape.skipSpace();
            int yearPlace = tape.place;
            int year = tape.digits(4);
            if (year < FIRST_YEAR) {
                tape.fail(yearPlace);
            }
            if (day < 1 || day > daysOfMonth(month, year)) {
                tape.fail(dayPlace);
            }
            long days = daysBeforeYear(year) + day - 1;
            for (int earlier = 0; earlier < month; earlier++) {
                days += daysOfMonth(earlier, year);
            }
            return days;
        }

        private static int daysOfMonth(int month, int year) {
            if (month < 0 || month >= MONTH_DAYS.length) {
                return 0;
            }
            boolean leap = year % 4 == 0 && (year % 100 != 0 || year % 400 == 0);
            return month == 1 && leap ? 29 : MONTH_DAYS[month];
        }

        private static long daysBeforeYear(int year) {
            int before = year - 1;
            return 365L * before + before / 4 - before / 100 + before / 400 - DAYS_BEFORE_1970;
        }

        /** Reads all letters that follow one another: their number among words of three letters. */
        private int readWord(String words) {
            int first = tape.place;
            int size = 0;
            while (size < TAPE_LIMIT && isLetter(tape.now)) {
                tape.step();
                size++;
            }
            int a = small(tape.bytes.at(first));
            int b = small(tape.bytes.at(first + 1));
            int c = small(tape.bytes.at(first + 2));
            for (int k = 0; size == 3 && k + 2 < words.length(); k += 3) {
                if (words.charAt(k) == a && words.charAt(k + 1) == b && words.charAt(k + 2) == c) {
                    return k / 3;
                }
            }
            tape.fail(first);
            return NONE;
        }

        private int readTime() {
            int seconds = readTwoDigits(23) * 3600;
            tape.skipSpace();
            tape.expect(':');
            tape.skipSpace();
            seconds += readTwoDigits(59) * 60;
            tape.skipSpace();
            if (tape.now == ':') {
                tape.step();
                tape.skipSpace();
                seconds += readTwoDigits(59);
            }
            return seconds;
        }

        private int readTwoDigits(int most) {
            int first = tape.place;
            int number = tape.digits(2);
            if (number > most) {
                tape.fail(first);
            }
            return number;
        }

        /** Reads the zone: its minutes. */
        private int readZone() {
            boolean west = tape.now == '-';
            if (!west && tape.now != '+') {
                tape.fail(tape.place);
            }
            tape.step();
            // The hours are judged before what stands behind them, be it no digit or the end.
            int hours = readTwoDigits(23);
            int minutes = readTwoDigits(59);
            return west ? -(hours * 60 + minutes) : hours * 60 + minutes;
        }
    }

    /** Reads the text of a field of addresses. */
    private static final class AddressText {
        final Tape tape;

        AddressText(Tape tape) {
            this.tape = tape;
        }

        void readAddresses(Tree tree, int kind) {
            for (int n = 0; n <= ADDRESS_LIMIT; n++) {
                tape.skipSpace();
                if (n == ADDRESS_LIMIT) {
                    tape.fail(tape.place);
                }
                boolean angle = readBeginning(tree, kind, n);
                if (angle) {
                    tape.step();
                    readLocal(tree, kind, n);
                }
                tape.expect('@');
                readDomain(tree, kind, n);
                if (angle) {
                    tape.expect('>');
                    tape.skipSpace();
                }
                tree.setAddressCount(kind, n + 1);
                if (tape.now == NONE) {
                    return;
                }
                tape.expect(',');
            }
        }

        /** Reads the words before a <, or the local part that begins an address: whether the walk is at a <. */
        private boolean readBeginning(Tree tree, int kind, int n) {
            Row pool = tree.pool;
            int start = pool.size;
            if (tape.now == '<') {
                return true;
            }
            boolean dots = false;
            if (tape.now == '"') {
                tape.quoted(pool, TAPE_LIMIT);
            } else {
                dots = tape.dotted(pool);
            }
            tape.skipSpace();
            if (dots || tape.now == '@') {
                tree.setSlot(Tree.addressSlot(kind, n, 1), start);
                return false;
            }
            for (int words = 1; words < TAPE_LIMIT && tape.now != '<'; words++) {
                pool.add(BLANK);
                if (tape.now == '"') {
                    tape.quoted(pool, TAPE_LIMIT);
                } else {
                    tape.word(ATOM_BYTES, pool);
                }
                tape.skipSpace();
            }
            tree.setSlot(Tree.addressSlot(kind, n, 0), start);
            return true;
        }

        private void readLocal(Tree tree, int kind, int n) {
            tape.skipSpace();
            int start = tree.pool.size;
            if (tape.now == '"') {
                tape.quoted(tree.pool, TAPE_LIMIT);
            } else {
                tape.dotted(tree.pool);
            }
            tree.setSlot(Tree.addressSlot(kind, n, 1), start);
            tape.skipSpace();
        }

        private void readDomain(Tree tree, int kind, int n) {
            tape.skipSpace();
            int start = tree.pool.size;
            tape.dotted(tree.pool);
            tree.setSmallSlot(Tree.addressSlot(kind, n, 2), start);
            tape.skipSpace();
        }
    }

    /** Reads a subject: words as they stand, and encoded words as what they mean. */
    private static final class SubjectText {
        static final int US_ASCII = 0;
        static final int ISO_8859_1 = 1;
        static final int UTF_8 = 2;

        final Codes codes;
        final Row meant = new Row(ENCODED_WORD_LIMIT);

        SubjectText(Codes codes) {
            this.codes = codes;
        }

        void readSubject(Tree tree, int slot) {
            Row pool = tree.pool;
            int at = tree.trimmedStart(slot);
            int to = tree.trimmedEnd(slot);
            int start = pool.size;
            boolean wasEncoded = false;
            while (at < to) {
                int word = pool.behindRun(at, to, true);
                int behind = pool.behindRun(word, to, false);
                int charset = charsetOf(pool, word, behind);
                boolean encoded = charset != NONE;
                if (!encoded || !wasEncoded) {
                    copy(pool, at, word);
                }
                if (encoded) {
                    addMeant(pool, charset);
                } else {
                    copy(pool, word, behind);
                }
                wasEncoded = encoded;
                at = Math.max(behind, at + 1);
            }
            tree.setSlot(Tree.SUBJECT_SLOT, start);
        }

        private static void copy(Row row, int from, int to) {
            for (int at = from; at < to; at++) {
                row.add(row.at(at));
            }
        }

        /** Of an encoded word its charset, and its bytes are meant; NONE when it is no such word. */
        private int charsetOf(Row row, int from, int to) {
            if (to - from > ENCODED_WORD_LIMIT || row.at(from) != '=' || row.at(from + 1) != '?') {
                return NONE;
            }
            int mark = markFrom(row, from + 2, to);
            int charset = charsetNamed(row, from + 2, mark - from - 2);
            int signs = mark + 3;
            int signsEnd = markFrom(row, signs, to);
            if (row.at(mark + 2) != '?' || signsEnd <= signs || signsEnd + 2 != to || row.at(to - 1) != '=') {
                return NONE;
            }
            int code = small(row.at(mark + 1));
            boolean right = code == 'b' && isMeantByB(row, signs, signsEnd)
                    || code == 'q' && isMeantByQ(row, signs, signsEnd);
            return right ? charset : NONE;
        }

        /** The place of the next question mark; the end without one. */
        private static int markFrom(Row row, int from, int to) {
            int at = from;
            while (at < to && row.at(at) != '?') {
                at++;
            }
            return at;
        }

        private static int charsetNamed(Row row, int from, int size) {
            if (row.spells(from, size, "us-ascii")) {
                return US_ASCII;
            }
            if (row.spells(from, size, "iso-8859-1")) {
                return ISO_8859_1;
            }
            return row.spells(from, size, "utf-8") ? UTF_8 : NONE;
        }

        private boolean isMeantByB(Row row, int from, int to) {
            meant.size = 0;
            codes.startCoded();
            for (int at = from; at < to; at++) {
                if (codes.takeSign(row.at(at), meant) != Codes.STANDS) {
                    return false;
                }
            }
            return codes.held == 0;
        }

        private boolean isMeantByQ(Row row, int from, int to) {
            meant.size = 0;
            for (int at = from; at < to; at++) {
                int c = row.at(at);
                if (c == '=') {
                    int value = at + 2 < to ? Codes.hexByte(row.at(at + 1), row.at(at + 2)) : NONE;
                    if (value == NONE) {
                        return false;
                    }
                    meant.add(value);
                    at += 2;
                } else {
                    meant.add(c == '_' ? BLANK : c);
                }
            }
            return true;
        }

        private void addMeant(Row pool, int charset) {
            int at = 0;
            while (at < meant.size) {
                int c = meant.at(at);
                int size = charset == UTF_8 ? sizeOfUtf8(at) : 1;
                if (size == 0 || charset == US_ASCII && c > 127) {
                    pool.add(UNKNOWN_POINT);
                } else {
                    pool.add(size == 1 ? c : pointOfUtf8(at, size));
                }
                at += Math.max(size, 1);
            }
        }

        /** How many bytes the right row that begins here has; 0 when none begins here. */
        private int sizeOfUtf8(int at) {
            int lead = meant.at(at);
            if (lead < 128) {
                return 1;
            }
            int size = lead < 194 ? 0 : lead < 224 ? 2 : lead < 240 ? 3 : lead < 245 ? 4 : 0;
            for (int k = 1; k < size; k++) {
                if ((meant.at(at + k) & ~63) != 128) {
                    return 0;
                }
            }
            int point = pointOfUtf8(at, size);
            boolean tooLong = size == 3 && point < 2048 || size == 4 && point < 65536;
            boolean noPoint = point >= 55296 && point <= 57343 || point > 1114111;
            return tooLong || noPoint ? 0 : size;
        }

        private int pointOfUtf8(int at, int size) {
            int point = meant.at(at) & (127 >> size);
            for (int k = 1; k < size; k++) {
                point = point << 6 | meant.at(at + k) & 63;
            }
            return point;
        }
    }

    /** Decodes the bodies of leaves; takes the signs of base64 for encoded words too. */
    private static final class Codes {
        static final int STANDS = 0;
        static final int CANNOT_STAND = 1;
        static final int LAST_CANNOT_STAND = 2;

        final Tape tape;
        int bits;
        int held;
        int pads;

        Codes(Tape tape) {
            this.tape = tape;
        }

        void readLeaf(Tree tree, int i, int from, int to) {
            int start = tree.pool.size;
            int code = tree.hasEntity(i) ? tree.codes[i] : BINARY;
            if (code == BASE64) {
                readCoded(tree.pool, from, to);
            } else if (code == QUOTED_PRINTABLE) {
                readQuotedPrintable(tree.pool, from, to);
            } else {
                readPlain(tree.pool, code, from, to);
            }
            tree.setSlot(Tree.octetSlot(i), start);
        }

        private void readPlain(Row into, int code, int from, int to) {
            for (int at = from; at < to; at++) {
                int c = tape.bytes.at(at);
                if (c == 0 && code != BINARY || c > 127 && code == SEVEN_BIT) {
                    tape.fail(at);
                }
                into.add(c);
            }
        }

        private void readCoded(Row into, int from, int to) {
            startCoded();
            int last = from;
            for (int at = from; at < to; at++) {
                int c = tape.bytes.at(at);
                if (c == CR || c == LF) {
                    continue;
                }
                int answer = takeSign(c, into);
                if (answer != STANDS) {
                    tape.fail(answer == LAST_CANNOT_STAND ? last : at);
                }
                if (c != '=') {
                    last = at;
                }
            }
            if (held != 0) {
                tape.fail(to);
            }
        }

        void startCoded() {
            bits = 0;
            held = 0;
            pads = 0;
        }

        /** Takes one sign; four become bytes. Tells whether it, or the last sign before =, cannot stand. */
        int takeSign(int sign, Row into) {
            boolean pad = sign == '=';
            int value = BASE64_SIGNS.indexOf((char) sign);
            if (pad ? held < 2 : value < 0 || pads > 0) {
                return CANNOT_STAND;
            }
            int leftOver = held == 2 ? bits & 15 : bits & 3;
            if (pad && pads == 0 && leftOver != 0) {
                return LAST_CANNOT_STAND;
            }
            bits = bits << 6 | (pad ? 0 : value);
            pads += pad ? 1 : 0;
            held++;
            if (held == 4) {
                for (int k = 0; k < 3 - pads; k++) {
                    into.add(bits >> (16 - 8 * k) & 255);
                }
                bits = 0;
                held = 0;
            }
            return STANDS;
        }

        private void readQuotedPrintable(Row into, int from, int to) {
            int at = from;
            while (at < to) {
                int c = tape.bytes.at(at);
                boolean last = at + 1 >= to || tape.bytes.at(at + 1) == CR;
                if (c == '=' && last) {
                    at += 3;
                } else if (c == '=') {
                    into.add(readHexByte(at, to));
                    at += 3;
                } else {
                    boolean stands = c > BLANK && c < 127 || isBlank(c) && !last || c == CR || c == LF;
                    if (!stands) {
                        tape.fail(at);
                    }
                    into.add(c);
                    at++;
                }
            }
        }

        private int readHexByte(int at, int to) {
            int value = at + 2 < to ? hexByte(tape.bytes.at(at + 1), tape.bytes.at(at + 2)) : NONE;
            if (value == NONE) {
                tape.fail(at);
            }
            return value;
        }

        static int hexByte(int high, int low) {
            boolean right = isOneOf(HEX_SIGNS, high) && isOneOf(HEX_SIGNS, low);
            return right ? HEX_SIGNS.indexOf((char) high) * 16 + HEX_SIGNS.indexOf((char) low) : NONE;
        }
    }

    /** The multiparts that are open, the outermost first, and the entity that is come to. */
    private static final class Parts {
        final Tape tape;
        final int[] numbers = new int[NESTING_LIMIT];
        final int[] ends = new int[NESTING_LIMIT];
        final int[] delimiters = new int[NESTING_LIMIT];
        final int[] nextLines = new int[NESTING_LIMIT];
        final boolean[] closings = new boolean[NESTING_LIMIT];
        int open;
        int parent;
        int from;
        int to;

        Parts(Tape tape) {
            this.tape = tape;
        }

        void openOutermost() {
            open = 0;
            parent = NONE;
            from = 0;
            to = tape.bytes.size;
        }

        /** Entity i, which was come to latest, is a multipart: its first delimiter is found. */
        void openMultipart(Tree tree, int i, int body) {
            int level = open;
            if (level < 0 || level >= NESTING_LIMIT) {
                return;
            }
            numbers[level] = i;
            ends[level] = to;
            open++;
            findDelimiter(tree, level, body);
            if (closings[level]) {
                tape.fail(delimiters[level]);
            }
        }

        /** Comes to the next part of the innermost multipart that has one; false when there is none. */
        boolean goToNext(Tree tree) {
            while (open > 0 && open <= NESTING_LIMIT && closings[open - 1]) {
                open--;
            }
            int level = open - 1;
            if (level < 0 || level >= NESTING_LIMIT) {
                return false;
            }
            if (tree.entities >= ENTITY_LIMIT) {
                tape.fail(delimiters[level]);
            }
            parent = numbers[level];
            from = nextLines[level];
            findDelimiter(tree, level, from);
            // The line end before a delimiter belongs to it, unless it ends the delimiter before.
            to = Math.max(from, delimiters[level] - 2);
            return true;
        }

        private void findDelimiter(Tree tree, int level, int body) {
            int slot = tree.boundarySlot(numbers[level]);
            int end = ends[level];
            int line = body;
            while (line < end) {
                int lineEnd = line;
                while (lineEnd < end && tape.bytes.at(lineEnd) != CR) {
                    lineEnd++;
                }
                int behind = behindBoundary(tree, slot, line, lineEnd);
                boolean closing = behind != NONE && startsWithDashes(behind, lineEnd);
                if (behind != NONE && hasJustBlanks(closing ? behind + 2 : behind, lineEnd)) {
                    delimiters[level] = line;
                    nextLines[level] = Math.min(lineEnd + 2, end);
                    closings[level] = closing;
                    return;
                }
                line = lineEnd + 2;
            }
            tape.fail(end);
        }

        /** The place behind -- and the boundary with which a line begins; NONE when it does not. */
        private int behindBoundary(Tree tree, int slot, int line, int lineEnd) {
            int size = tree.sizeOf(slot);
            if (line + 2 + size > lineEnd || !startsWithDashes(line, lineEnd)) {
                return NONE;
            }
            for (int k = 0; k < size; k++) {
                if (tape.bytes.at(line + 2 + k) != tree.itemOf(slot, k)) {
                    return NONE;
                }
            }
            return line + 2 + size;
        }

        private boolean startsWithDashes(int at, int lineEnd) {
            return at + 2 <= lineEnd && tape.bytes.at(at) == '-' && tape.bytes.at(at + 1) == '-';
        }

        private boolean hasJustBlanks(int at, int lineEnd) {
            for (int k = at; k < lineEnd; k++) {
                if (!isBlank(tape.bytes.at(k))) {
                    return false;
                }
            }
            return true;
        }
    }

    /** Writes a tree in the plain form. */
    private static final class Writer {
        final Row written = new Row(WRITTEN_LIMIT);

        void writeTree(Tree tree) {
            written.size = 0;
            // Entities are numbered as they begin, so they are written in the order of their numbers.
            for (int i = 0; i < tree.entities && i < ENTITY_LIMIT; i++) {
                if (i > 0) {
                    putDelimiter(tree.parents[i]);
                    putLineEnd();
                }
                putFields(tree, i);
                putType(tree, i);
                if (tree.multiparts[i]) {
                    putLineEnd();
                } else {
                    putText("content-transfer-encoding: base64\r\n\r\n");
                    putCoded(tree, Tree.octetSlot(i));
                    closeParts(tree, i);
                }
            }
        }

        /** Behind a leaf: every multipart whose last part has ended is closed. */
        private void closeParts(Tree tree, int leaf) {
            int goesOn = tree.parentOf(leaf + 1);
            int ended = leaf;
            // A parent's number is below its parts', so the climb ends.
            for (int step = 0; step < ENTITY_LIMIT && ended > 0; step++) {
                putLineEnd();
                ended = tree.parentOf(ended);
                if (ended == goesOn) {
                    return;
                }
                putDelimiter(ended);
                putText("--");
            }
        }

        private void putDelimiter(int multipart) {
            putText("--");
            putBoundary(multipart);
        }

        private void putBoundary(int multipart) {
            putText("part");
            if (multipart >= 10) {
                written.add('0' + multipart / 10);
            }
            written.add('0' + multipart % 10);
        }

        private void putFields(Tree tree, int i) {
            for (int f = 0; f < tree.fieldCounts[i]; f++) {
                int kind = tree.kindOf(i, f);
                if (kind != CONTENT_TYPE && kind != CONTENT_CODE) {
                    int field = tree.firstFields[i] + f;
                    putSlot(tree, Tree.fieldSlot(field, 0));
                    putText(": ");
                    int used = tree.sizeOf(Tree.fieldSlot(field, 0)) + 2;
                    putFolded(tree, Tree.fieldSlot(field, 1), used);
                    putLineEnd();
                }
            }
        }

        private void putFolded(Tree tree, int slot, int used) {
            int first = tree.trimmedStart(slot);
            int to = tree.trimmedEnd(slot);
            int width = used;
            int at = first;
            while (at < to) {
                int behind = tree.pool.behindRun(tree.pool.behindRun(at, to, true), to, false);
                if (at > first && width + behind - at > FOLD_WIDTH) {
                    putLineEnd();
                    width = 0;
                }
                for (int k = at; k < behind; k++) {
                    written.add(tree.pool.at(k));
                }
                width += behind - at;
                at = Math.max(behind, at + 1);
            }
        }

        private void putType(Tree tree, int i) {
            putText("content-type: ");
            putSlot(tree, Tree.typeSlot(i, 0));
            putText("/");
            putSlot(tree, Tree.typeSlot(i, 1));
            int boundary = tree.multiparts[i] ? tree.boundarySlot(i) : NONE;
            for (int n = 0; n < tree.parameterCounts[i]; n++) {
                putText(";\r\n ");
                putSlot(tree, Tree.parameterSlot(i, n, 0));
                putText("=\"");
                if (Tree.parameterSlot(i, n, 1) == boundary) {
                    putBoundary(i);
                } else {
                    putEscaped(tree, Tree.parameterSlot(i, n, 1));
                }
                putText("\"");
            }
            putLineEnd();
        }

        private void putEscaped(Tree tree, int slot) {
            for (int k = 0; k < tree.sizeOf(slot); k++) {
                int c = tree.itemOf(slot, k);
                if (c == '"' || c == '\\') {
                    written.add('\\');
                }
                written.add(c);
            }
        }

        private void putCoded(Tree tree, int slot) {
            int size = tree.sizeOf(slot);
            int width = 0;
            for (int k = 0; k < size; k += 3) {
                if (width == CODED_WIDTH) {
                    putLineEnd();
                    width = 0;
                }
                putFour(tree, slot, k, size - k);
                width += 4;
            }
        }

        private void putFour(Tree tree, int slot, int k, int left) {
            int bits = tree.itemOf(slot, k) << 16;
            if (left > 1) {
                bits |= tree.itemOf(slot, k + 1) << 8;
            }
            if (left > 2) {
                bits |= tree.itemOf(slot, k + 2);
            }
            putSign(bits >> 18);
            putSign(bits >> 12);
            if (left > 1) {
                putSign(bits >> 6);
            } else {
                written.add('=');
            }
            if (left > 2) {
                putSign(bits);
            } else {
                written.add('=');
            }
        }

        private void putSign(int bits) {
            written.add(BASE64_SIGNS.charAt(bits & 63));
        }

        private void putSlot(Tree tree, int slot) {
            for (int k = 0; k < tree.sizeOf(slot); k++) {
                written.add(tree.itemOf(slot, k));
            }
        }

        private void putText(String text) {
            for (int k = 0; k < text.length(); k++) {
                written.add(text.charAt(k));
            }
        }

        private void putLineEnd() {
            written.add(CR);
            written.add(LF);
        }
    }
}
