/**
 * A line of lamps: frames of levels, packets by which lamps are found, asked and set,
 * answers that fall together, and a search by halves that finds all lamps.
 */
public final class LampLine {
    public static final int NONE = -1;

    private static final int OTHER_ANSWER = -2;

    private static final int MOST_LAMPS = 24;
    private static final int MOST_TAPE = 520;
    private static final int MOST_FRAME = 513;
    private static final int MOST_STEPS = 1000;
    private static final int MOST_SPOILED = 300;
    private static final int SLOTS = 512;
    private static final int WIDEST = 64;
    private static final int MOST_MODES = 8;
    private static final int FED_NUMBERS = 5;

    private static final int LAST_MAKER = 32767;
    private static final long ALL_RESTS = 4294967295L;
    private static final int ALL_MAKERS = 65535;
    private static final long TO_ALL = 281474976710655L;
    private static final long LAST_ID = 281474976710654L;
    private static final long SEARCHER = ((long) 32766 << 32) | 1L;

    private static final int LEVELS_START = 0;
    private static final int QUESTION_KIND = 1;

    private static final int SEARCH = 16;
    private static final int GET = 32;
    private static final int SET = 48;

    private static final int SEARCH_BRANCH = 1;
    private static final int SEARCH_HUSH = 2;
    private static final int SEARCH_WAKE = 3;

    private static final int DONE = 0;
    private static final int LATER = 1;
    private static final int REFUSED = 2;

    private static final int ABSENT = 0;
    private static final int FOUND = 1;
    private static final int DOUBT = 2;

    private final Row tape;
    private final Row frame;
    private final Row voice;
    private final Row heardAnswer;
    private final Packet question;
    private final Packet heard;
    private final Packet reply;
    private final Spoils spoils;
    private final Search hunt;
    private final Lamp[] lamps;
    private int lampCount;
    private int frameCount;
    private int questionCount;

    public LampLine() {
        tape = new Row(MOST_TAPE);
        frame = new Row(MOST_FRAME);
        voice = new Row(Packet.LONGEST);
        heardAnswer = new Row(Packet.LONGEST);
        question = new Packet();
        heard = new Packet();
        reply = new Packet();
        spoils = new Spoils();
        hunt = new Search();
        lamps = new Lamp[MOST_LAMPS];
    }

    public int lamp(int maker, long rest, int width, int modes, int address)
            throws IllegalArgumentException, IllegalStateException {
        if (maker < 1 || maker > LAST_MAKER || rest < 0 || rest >= ALL_RESTS) {
            throw new IllegalArgumentException("no ID of a lamp");
        }
        if (width < 1 || width > WIDEST || modes < 1 || modes > MOST_MODES) {
            throw new IllegalArgumentException("width or modes");
        }
        if (!fits(address, width)) {
            throw new IllegalArgumentException("address");
        }
        long id = joinedId(maker, rest);
        if (isThere(id)) {
            throw new IllegalArgumentException("the ID is there");
        }
        if (lampCount >= MOST_LAMPS) {
            throw new IllegalStateException("no room for a lamp more");
        }
        lamps[lampCount] = new Lamp(id, width, modes, address);
        lampCount++;
        return lampCount - 1;
    }

    public int feed(int a, int b, int c, int d, int e) throws IllegalStateException {
        if (tape.size() + FED_NUMBERS * 4 > MOST_TAPE) {
            throw new IllegalStateException("the tape is full");
        }
        tape.putNumber(a, 4);
        tape.putNumber(b, 4);
        tape.putNumber(c, 4);
        tape.putNumber(d, 4);
        tape.putNumber(e, 4);
        return tape.size();
    }

    public void end(int n) throws IllegalArgumentException {
        if (n < 0 || n > tape.size()) {
            throw new IllegalArgumentException("the tape has not so many bytes");
        }
        tape.cut(n);
    }

    public int send() {
        frame.copyFrom(tape);
        tape.cut(0);
        runFrame();
        return heardAnswer.size();
    }

    public int answer(int k) throws IndexOutOfBoundsException {
        if (k < 0 || k >= heardAnswer.size()) {
            throw new IndexOutOfBoundsException("the answer has no such byte");
        }
        return heardAnswer.at(k);
    }

    public int ask(int maker, long rest, int part, int kind, int matter) throws IllegalArgumentException {
        if (maker < 0 || maker > ALL_MAKERS || rest < 0 || rest > ALL_RESTS) {
            throw new IllegalArgumentException("no ID");
        }
        if (part < 0 || part > 65535 || kind < 0 || kind > 255 || matter < 0 || matter > 65535) {
            throw new IllegalArgumentException("part, kind or matter");
        }
        long id = joinedId(maker, rest);
        beginQuestion(id, kind, matter);
        question.part = part;
        question.data.copyFrom(tape);
        tape.cut(0);
        question.writeTo(frame);
        runFrame();
        if (heardAnswer.size() == 0) {
            return NONE;
        }
        return isReplyFrom(id) ? heard.kind : OTHER_ANSWER;
    }

    public void spoil(int k, int mask) throws IllegalArgumentException {
        if (k < 0 || k > MOST_SPOILED) {
            throw new IllegalArgumentException("no byte of an answer");
        }
        spoils.add(k, mask);
    }

    public int frames() {
        return frameCount;
    }

    public int about(int lamp, int what) throws IndexOutOfBoundsException {
        Lamp it = lampAt(lamp);
        if (what < 0 || what > 10) {
            throw new IndexOutOfBoundsException("nothing of that kind is told");
        }
        return it.fact(what, frameCount);
    }

    public long rest(int lamp) throws IndexOutOfBoundsException {
        return restOf(lampAt(lamp).id);
    }

    public int level(int lamp, int k) throws IndexOutOfBoundsException {
        Lamp it = lampAt(lamp);
        if (k < 0 || k >= it.footprint()) {
            throw new IndexOutOfBoundsException("the lamp has no such slot");
        }
        return it.levelAt(k);
    }

    public int label(int lamp, int k) throws IndexOutOfBoundsException {
        Lamp it = lampAt(lamp);
        if (k < 0 || k >= it.text.size()) {
            throw new IndexOutOfBoundsException("the label has no such byte");
        }
        return it.text.at(k);
    }

    public int silence(int lamp, boolean on) throws IndexOutOfBoundsException {
        Lamp it = lampAt(lamp);
        int before = flag(it.silent);
        it.silent = on;
        return before;
    }

    public int search() {
        hunt.begin();
        writeSearch(TO_ALL, SEARCH_WAKE);
        runFrame();
        return hunt.depth;
    }

    public int step(int n) throws IllegalStateException, IllegalArgumentException {
        if (!hunt.begun) {
            throw new IllegalStateException("no search");
        }
        if (n < 1 || n > MOST_STEPS) {
            throw new IllegalArgumentException("not so many steps at once");
        }
        for (int k = 0; k < n && hunt.depth > 0; k++) {
            takeStep();
        }
        return hunt.depth;
    }

    public int found() {
        return hunt.foundCount;
    }

    public long id(int i) throws IndexOutOfBoundsException {
        if (i < 0 || i >= hunt.foundCount) {
            throw new IndexOutOfBoundsException("not so many are found");
        }
        return hunt.foundIds[i];
    }

    public long branch(int what) throws IndexOutOfBoundsException {
        if (what < 0 || what > 2) {
            throw new IndexOutOfBoundsException("nothing of that kind is told");
        }
        if (what == 2) {
            return hunt.steps;
        }
        if (hunt.depth == 0) {
            throw new IndexOutOfBoundsException("no branch");
        }
        return what == 0 ? hunt.latestLow() : hunt.latestHigh();
    }

    private static long joinedId(int maker, long rest) {
        return ((long) maker << 32) | rest;
    }

    private static int makerOf(long id) {
        return (int) (id >>> 32);
    }

    private static long restOf(long id) {
        return id & ALL_RESTS;
    }

    private static int flag(boolean on) {
        return on ? 1 : 0;
    }

    private static boolean fits(int address, int footprint) {
        return address >= 1 && address <= SLOTS && address + footprint - 1 <= SLOTS;
    }

    private boolean isThere(long id) {
        for (int k = 0; k < lampCount; k++) {
            if (lamps[k].id == id) {
                return true;
            }
        }
        return false;
    }

    private Lamp lampAt(int number) {
        if (number < 0 || number >= lampCount) {
            throw new IndexOutOfBoundsException("no such lamp");
        }
        return lamps[number];
    }

    private void runFrame() {
        frameCount++;
        heardAnswer.cut(0);
        boolean levels = frame.size() > 0 && frame.at(0) == LEVELS_START;
        boolean packet = heard.readFrom(frame);
        for (int k = 0; k < lampCount; k++) {
            Lamp lamp = lamps[k];
            lamp.ripen(frameCount);
            if (levels) {
                lamp.shine(frame, frameCount);
            }
            if (packet && lamp.isMeantBy(heard.to) && lamp.speaksTo(heard, reply, voice, frameCount)) {
                heardAnswer.join(voice);
            }
        }
        if (heardAnswer.size() > 0) {
            spoils.applyTo(heardAnswer);
        }
    }

    private void beginQuestion(long to, int group, int matter) {
        questionCount = (questionCount + 1) & 255;
        question.to = to;
        question.from = SEARCHER;
        question.count = questionCount;
        question.kind = QUESTION_KIND;
        question.messages = 0;
        question.part = 0;
        question.group = group;
        question.matter = matter;
        question.data.cut(0);
    }

    private void writeSearch(long to, int matter) {
        beginQuestion(to, SEARCH, matter);
        question.writeTo(frame);
    }

    private void writeBranchSearch(long low, long high) {
        beginQuestion(TO_ALL, SEARCH, SEARCH_BRANCH);
        question.data.putNumber(low, 6);
        question.data.putNumber(high, 6);
        question.writeTo(frame);
    }

    private boolean isReplyFrom(long id) {
        return heard.readFrom(heardAnswer) && heard.from == id && heard.to == SEARCHER
                && heard.count == questionCount;
    }

    private void takeStep() {
        long low = hunt.latestLow();
        long high = hunt.latestHigh();
        hunt.takeLatest();
        if (low == high) {
            if (restOf(low) != ALL_RESTS && tryId(low) == DOUBT) {
                hunt.pile(low, high);
            }
            return;
        }
        writeBranchSearch(low, high);
        runFrame();
        if (heardAnswer.size() == 0) {
            return;
        }
        long id = Echo.read(heardAnswer);
        boolean worthTrying = id >= low && id <= high && restOf(id) != ALL_RESTS && !hunt.hasFound(id);
        if (worthTrying && tryId(id) != ABSENT) {
            hunt.pile(low, high);
            return;
        }
        long middle = (low + high) >>> 1;
        hunt.pile(middle + 1, high);
        hunt.pile(low, middle);
    }

    private int tryId(long id) {
        writeSearch(id, SEARCH_HUSH);
        runFrame();
        if (heardAnswer.size() == 0) {
            return ABSENT;
        }
        if (isReplyFrom(id) && heard.group == SEARCH + 1 && heard.matter == SEARCH_HUSH && heard.kind == DONE) {
            hunt.keepFound(id);
            return FOUND;
        }
        // The lamp may be silent although its reply was not understood: it must be heard again.
        writeSearch(id, SEARCH_WAKE);
        runFrame();
        return DOUBT;
    }

    /** Bytes in a row that is made once; what finds no room in it is dropped. */
    private static final class Row {
        private final int[] cells;
        private int size;

        Row(int room) {
            cells = new int[room < 0 ? 0 : room];
        }

        int size() {
            return size;
        }

        int at(int k) {
            return k >= 0 && k < size ? cells[k] : 0;
        }

        long number(int from, int bytes) {
            long number = 0;
            for (int k = from; k < from + bytes; k++) {
                number = (number << 8) | at(k);
            }
            return number;
        }

        int sum(int from, int behind) {
            int sum = 0;
            for (int k = from; k >= 0 && k < behind && k < size; k++) {
                sum += cells[k];
            }
            return sum & 65535;
        }

        void cut(int n) {
            if (n >= 0 && n < size) {
                size = n;
            }
        }

        void put(int value) {
            if (size < cells.length) {
                cells[size] = value & 255;
                size++;
            }
        }

        void putNumber(long number, int bytes) {
            for (int k = bytes - 1; k >= 0 && size < cells.length; k--) {
                cells[size] = (int) (number >>> (8 * k)) & 255;
                size++;
            }
        }

        void copyFrom(Row other) {
            size = 0;
            for (int k = 0; k < other.size && k < cells.length; k++) {
                cells[k] = other.cells[k];
                size++;
            }
        }

        void join(Row other) {
            for (int k = 0; k < other.size && k < cells.length; k++) {
                if (k < size) {
                    cells[k] |= other.cells[k];
                } else {
                    cells[k] = other.cells[k];
                    size++;
                }
            }
        }

        void flip(int k, int mask) {
            if (k >= 0 && k < size) {
                cells[k] ^= mask & 255;
            }
        }
    }

    /** What a packet says, apart from its bytes on the line. */
    private static final class Packet {
        private static final int START = 204;
        private static final int SECOND = 1;
        private static final int HEAD = 24;
        private static final int MOST_DATA = 231;
        private static final int LONGEST = HEAD + MOST_DATA + 2;

        private long to;
        private long from;
        private int count;
        private int kind;
        private int messages;
        private int part;
        private int group;
        private int matter;
        private final Row data = new Row(MOST_DATA);

        boolean isCall() {
            return restOf(to) == ALL_RESTS;
        }

        boolean readFrom(Row bytes) {
            int length = bytes.at(2);
            if (length < HEAD || bytes.size() != length + 2) {
                return false;
            }
            if (bytes.at(0) != START || bytes.at(1) != SECOND || bytes.at(HEAD - 1) != length - HEAD) {
                return false;
            }
            if (bytes.sum(0, length) != bytes.number(length, 2)) {
                return false;
            }
            to = bytes.number(3, 6);
            from = bytes.number(9, 6);
            count = bytes.at(15);
            kind = bytes.at(16);
            messages = bytes.at(17);
            part = (int) bytes.number(18, 2);
            group = bytes.at(20);
            matter = (int) bytes.number(21, 2);
            data.cut(0);
            for (int k = HEAD; k < length; k++) {
                data.put(bytes.at(k));
            }
            return true;
        }

        void writeTo(Row bytes) {
            int length = HEAD + data.size();
            bytes.cut(0);
            bytes.put(START);
            bytes.put(SECOND);
            bytes.put(length);
            bytes.putNumber(to, 6);
            bytes.putNumber(from, 6);
            bytes.put(count);
            bytes.put(kind);
            bytes.put(messages);
            bytes.putNumber(part, 2);
            bytes.put(group);
            bytes.putNumber(matter, 2);
            bytes.put(data.size());
            for (int k = 0; k < data.size(); k++) {
                bytes.put(data.at(k));
            }
            bytes.putNumber(bytes.sum(0, length), 2);
        }

        void beginReply(Packet asked, long sender) {
            to = asked.from;
            from = sender;
            count = asked.count;
            kind = DONE;
            part = asked.part;
            group = asked.group + 1;
            matter = asked.matter;
            data.cut(0);
        }

        void refuse(int reason) {
            kind = REFUSED;
            data.putNumber(reason, 2);
        }
    }

    /** The 24 bytes that tell an ID so that it is seen when several fall together. */
    private static final class Echo {
        private static final int SIZE = 24;
        private static final int HEAD = 8;
        private static final int SUM_AT = 20;
        private static final int LEAD = 254;
        private static final int EVEN = 170;
        private static final int ODD = 85;

        static void write(long id, Row bytes) {
            bytes.cut(0);
            for (int k = 0; k < HEAD - 1; k++) {
                bytes.put(LEAD);
            }
            bytes.put(EVEN);
            for (int shift = 40; shift >= 0; shift -= 8) {
                int b = (int) (id >>> shift) & 255;
                bytes.put(b | EVEN);
                bytes.put(b | ODD);
            }
            int sum = bytes.sum(HEAD, SUM_AT);
            bytes.put((sum >>> 8) | EVEN);
            bytes.put((sum >>> 8) | ODD);
            bytes.put(sum | EVEN);
            bytes.put(sum | ODD);
        }

        /** The ID that is told, or NONE when the bytes are not right. */
        static long read(Row bytes) {
            if (bytes.size() != SIZE) {
                return NONE;
            }
            for (int k = 0; k < HEAD; k++) {
                if (bytes.at(k) != (k < HEAD - 1 ? LEAD : EVEN)) {
                    return NONE;
                }
            }
            long told = 0;
            for (int k = HEAD; k < SIZE; k += 2) {
                int even = bytes.at(k);
                int odd = bytes.at(k + 1);
                if ((even & EVEN) != EVEN || (odd & ODD) != ODD) {
                    return NONE;
                }
                told = (told << 8) | (even & odd);
            }
            return (told & 65535) == bytes.sum(HEAD, SUM_AT) ? told >>> 16 : NONE;
        }
    }

    /** What the next answer is to be spoiled with. */
    private static final class Spoils {
        private static final int MOST = 16;

        private final int[] places = new int[MOST];
        private final int[] masks = new int[MOST];
        private int size;

        void add(int place, int mask) {
            if (size >= MOST) {
                dropFirst();
            }
            places[size] = place;
            masks[size] = mask;
            size++;
        }

        private void dropFirst() {
            for (int k = 1; k < MOST; k++) {
                places[k - 1] = places[k];
                masks[k - 1] = masks[k];
            }
            size = MOST - 1;
        }

        void applyTo(Row bytes) {
            for (int k = 0; k < size; k++) {
                bytes.flip(places[k], masks[k]);
            }
            size = 0;
        }
    }

    /** The pile of branches, and the IDs that were found. */
    private static final class Search {
        // All IDs are halved 48 times at most, and each halving leaves one branch more.
        private static final int MOST_BRANCHES = 64;

        private final long[] lows = new long[MOST_BRANCHES];
        private final long[] highs = new long[MOST_BRANCHES];
        private final long[] foundIds = new long[MOST_LAMPS];
        private boolean begun;
        private int depth;
        private int foundCount;
        private int steps;

        void begin() {
            begun = true;
            depth = 0;
            foundCount = 0;
            steps = 0;
            pile(0, LAST_ID);
        }

        long latestLow() {
            return depth > 0 ? lows[depth - 1] : NONE;
        }

        long latestHigh() {
            return depth > 0 ? highs[depth - 1] : NONE;
        }

        void takeLatest() {
            if (depth > 0) {
                depth--;
                steps++;
            }
        }

        void pile(long low, long high) {
            if (depth < MOST_BRANCHES) {
                lows[depth] = low;
                highs[depth] = high;
                depth++;
            }
        }

        boolean hasFound(long id) {
            for (int k = 0; k < foundCount; k++) {
                if (foundIds[k] == id) {
                    return true;
                }
            }
            return false;
        }

        void keepFound(long id) {
            if (!hasFound(id) && foundCount < MOST_LAMPS) {
                foundIds[foundCount] = id;
                foundCount++;
            }
        }
    }

    /** A lamp, and what it does with what it hears. */
    private static final class Lamp {
        private static final int MATTER_LIST = 80;
        private static final int MATTER_PLATE = 96;
        private static final int MATTER_NAME = 128;
        private static final int MATTER_LABEL = 130;
        private static final int MATTER_MODE = 224;
        private static final int MATTER_ADDRESS = 240;
        private static final int MATTER_SHOWS = 4096;
        private static final int MATTER_WAITING = 32;
        private static final int[] MATTERS = {80, 96, 128, 130, 224, 240, 4096, 32};

        private static final int NO_MATTER = 0;
        private static final int BAD_SIZE = 1;
        private static final int NOT_TO_SET = 5;
        private static final int BAD_VALUE = 6;
        private static final int TOO_MANY_WAIT = 7;
        private static final int NO_PART = 9;

        private static final int ALL_PARTS = 65535;
        private static final int LONGEST_LABEL = 32;
        private static final int LATER_FRAMES = 3;
        private static final int MOST_WAIT = 4;
        private static final int DARK_FRAMES = 20;

        private final long id;
        private final int width;
        private final int modes;
        private final int[] levels = new int[SLOTS];
        private final Row text = new Row(LONGEST_LABEL);
        // What a frame sets for later stands at its number modulo LATER_FRAMES until that place comes round.
        private final Row[] laterTexts = new Row[LATER_FRAMES];
        private final boolean[] isLater = new boolean[LATER_FRAMES];
        private int onTheWay;
        // What waits is always a SET of the label that was done, so that a number tells all of it.
        private int waiting;
        private int mode = 1;
        private int address;
        private boolean silent;
        private boolean shows;
        private int orders;
        private int litAt;

        Lamp(long id, int width, int modes, int address) {
            this.id = id;
            this.width = width;
            this.modes = modes;
            this.address = address;
            for (int k = 0; k < LATER_FRAMES; k++) {
                laterTexts[k] = new Row(LONGEST_LABEL);
            }
        }

        int footprint() {
            return width * mode;
        }

        int levelAt(int k) {
            return k >= 0 && k < SLOTS ? levels[k] : 0;
        }

        private boolean isDark(int now) {
            return litAt == 0 || now - litAt >= DARK_FRAMES;
        }

        int fact(int what, int now) {
            switch (what) {
                case 0: return makerOf(id);
                case 1: return footprint();
                case 2: return mode;
                case 3: return modes;
                case 4: return address;
                case 5: return flag(silent);
                case 6: return flag(shows);
                case 7: return flag(isDark(now));
                case 8: return waiting;
                case 9: return text.size();
                case 10: return orders;
                default: return NONE;
            }
        }

        void ripen(int now) {
            int place = now % LATER_FRAMES;
            if (place >= 0 && isLater[place]) {
                isLater[place] = false;
                text.copyFrom(laterTexts[place]);
                onTheWay--;
                waiting++;
            }
        }

        void shine(Row frame, int now) {
            if (address < frame.size()) {
                litAt = now;
            }
            int slots = Math.min(footprint(), frame.size() - address);
            for (int k = 0; k < slots && k < SLOTS; k++) {
                levels[k] = frame.at(address + k);
            }
        }

        boolean isMeantBy(long to) {
            if (restOf(to) != ALL_RESTS) {
                return to == id;
            }
            return makerOf(to) == ALL_MAKERS || makerOf(to) == makerOf(id);
        }

        /** Does what a packet to this lamp asks: whether the lamp's voice is on the line then. */
        boolean speaksTo(Packet asked, Packet reply, Row voice, int now) {
            if (asked.group == SEARCH) {
                return speaksToSearch(asked, reply, voice);
            }
            if (asked.group == SET || (asked.group == GET && !asked.isCall())) {
                return speaksToOrder(asked, reply, voice, now);
            }
            return false;
        }

        private boolean speaksToSearch(Packet asked, Packet reply, Row voice) {
            int size = asked.data.size();
            if (asked.matter == SEARCH_BRANCH && size == 12) {
                if (silent || id < asked.data.number(0, 6) || id > asked.data.number(6, 6)) {
                    return false;
                }
                Echo.write(id, voice);
                return true;
            }
            if ((asked.matter != SEARCH_HUSH && asked.matter != SEARCH_WAKE) || size != 0) {
                return false;
            }
            silent = asked.matter == SEARCH_HUSH;
            if (asked.isCall()) {
                return false;
            }
            reply.beginReply(asked, id);
            reply.data.putNumber(0, 2);
            reply.messages = waiting;
            reply.writeTo(voice);
            return true;
        }

        private boolean speaksToOrder(Packet asked, Packet reply, Row voice, int now) {
            boolean call = asked.isCall();
            boolean set = asked.group == SET;
            if (!call) {
                orders = (orders + 1) & 65535;
            }
            reply.beginReply(asked, id);
            int reason = formRefusal(asked.part, asked.matter, set, asked.data.size());
            if (reason == NONE && set) {
                reason = valueRefusal(asked, call);
            }
            if (reason != NONE) {
                reply.refuse(reason);
            } else if (set) {
                obey(asked, reply, call, now);
            } else {
                tell(asked.matter, reply);
            }
            if (call) {
                return false;
            }
            reply.messages = waiting;
            reply.writeTo(voice);
            return true;
        }

        private static int formRefusal(int part, int matter, boolean set, int size) {
            if (part != 0 && !(set && part == ALL_PARTS)) {
                return NO_PART;
            }
            if (!isKnown(matter)) {
                return NO_MATTER;
            }
            if (!set) {
                return size == (matter == MATTER_WAITING ? 1 : 0) ? NONE : BAD_SIZE;
            }
            switch (matter) {
                case MATTER_LABEL: return size <= LONGEST_LABEL ? NONE : BAD_SIZE;
                case MATTER_MODE: return size == 1 ? NONE : BAD_SIZE;
                case MATTER_ADDRESS: return size == 2 ? NONE : BAD_SIZE;
                case MATTER_SHOWS: return size == 1 ? NONE : BAD_SIZE;
                default: return NOT_TO_SET;
            }
        }

        private static boolean isKnown(int matter) {
            for (int k = 0; k < MATTERS.length; k++) {
                if (MATTERS[k] == matter) {
                    return true;
                }
            }
            return false;
        }

        private int valueRefusal(Packet asked, boolean call) {
            Row data = asked.data;
            boolean mayBe = true;
            switch (asked.matter) {
                case MATTER_LABEL:
                    for (int k = 0; k < data.size(); k++) {
                        mayBe = mayBe && data.at(k) >= 32 && data.at(k) <= 126;
                    }
                    if (mayBe && !call && waiting + onTheWay >= MOST_WAIT) {
                        return TOO_MANY_WAIT;
                    }
                    break;
                case MATTER_MODE:
                    int newMode = data.at(0);
                    mayBe = newMode >= 1 && newMode <= modes && fits(address, width * newMode);
                    break;
                case MATTER_ADDRESS:
                    mayBe = fits((data.at(0) << 8) | data.at(1), width * mode);
                    break;
                case MATTER_SHOWS:
                    mayBe = data.at(0) <= 1;
                    break;
                default:
                    break;
            }
            return mayBe ? NONE : BAD_VALUE;
        }

        private void obey(Packet asked, Packet reply, boolean call, int now) {
            Row data = asked.data;
            switch (asked.matter) {
                case MATTER_LABEL:
                    int place = now % LATER_FRAMES;
                    if (call) {
                        text.copyFrom(data);
                    } else if (place >= 0) {
                        laterTexts[place].copyFrom(data);
                        isLater[place] = true;
                        onTheWay++;
                        reply.kind = LATER;
                        reply.data.putNumber(LATER_FRAMES, 2);
                    }
                    break;
                case MATTER_MODE:
                    mode = data.at(0);
                    break;
                case MATTER_ADDRESS:
                    address = (data.at(0) << 8) | data.at(1);
                    break;
                case MATTER_SHOWS:
                    shows = data.at(0) == 1;
                    break;
                default:
                    break;
            }
        }

        private void tell(int matter, Packet reply) {
            Row data = reply.data;
            switch (matter) {
                case MATTER_LIST:
                    for (int k = 0; k < MATTERS.length; k++) {
                        data.putNumber(MATTERS[k], 2);
                    }
                    break;
                case MATTER_PLATE:
                    data.putNumber(id, 6);
                    data.putNumber(footprint(), 2);
                    data.put(mode);
                    data.put(modes);
                    data.putNumber(address, 2);
                    data.putNumber(0, 2);
                    data.putNumber(orders, 2);
                    break;
                case MATTER_NAME:
                    data.put('L');
                    data.put('A');
                    data.put('M');
                    data.put('P');
                    for (int shift = 28; shift >= 0; shift -= 4) {
                        int digit = (int) (id >>> shift) & 15;
                        data.put(digit < 10 ? '0' + digit : 'A' + digit - 10);
                    }
                    break;
                case MATTER_LABEL:
                    data.copyFrom(text);
                    break;
                case MATTER_MODE:
                    data.put(mode);
                    data.put(modes);
                    break;
                case MATTER_ADDRESS:
                    data.putNumber(address, 2);
                    break;
                case MATTER_SHOWS:
                    data.put(flag(shows));
                    break;
                case MATTER_WAITING:
                    if (waiting > 0) {
                        waiting--;
                        reply.matter = MATTER_LABEL;
                        reply.group = SET + 1;
                    }
                    break;
                default:
                    break;
            }
        }
    }
}
