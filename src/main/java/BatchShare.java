import java.util.Arrays;

/** Shares the work of a batch of queries over two small tables, by parts of queries that are kept. */
public final class BatchShare {
    public static final int NONE = -1;

    private static final int ABSENT = -2;
    private static final int TAPE_ROOM = 400;
    private static final int FEED_BYTES = 20;
    private static final int CLAUSE_ROOM = 40;
    private static final int QUERY_ROOM = 8;
    private static final int TEST_ROOM = 12;
    private static final int SHOWN_ROOM = 5;
    private static final int KEPT_ROOM = 6;
    private static final int ACT_ROOM = 20;
    private static final int IMAGE_ROOM = 4;
    private static final int R_ROOM = 12;
    private static final int S_ROOM = 8;
    private static final int COLS = 5;
    private static final int R_COLS = 3;
    private static final int MOST_MEMORY = 99;
    private static final int MOST_NUMBER = 9;
    private static final int MOST_DIGITS = 5;
    /** More ROWS than any PART can have. */
    private static final int UNBOUNDED = 1000000;

    private static final int OF_R = 0;
    private static final int OF_S = 1;
    private static final int OF_JOIN = 2;
    private static final int KINDS = 3;

    /** Kind, two COLS joined, least and greatest of each COL: the order in which form, candidate and kept tell them. */
    private static final int SHAPE = 13;
    private static final int SHOWN_SIZE = 13;
    private static final int SHOWN = 14;
    private static final int FORM = 19;

    /** Eight PARTS of each kind at most, and a WIDE one of any two of a kind. */
    private static final int PLAIN_CHOICES = KINDS * QUERY_ROOM;
    private static final int CHOICE_ROOM = PLAIN_CHOICES + KINDS * QUERY_ROOM * (QUERY_ROOM - 1) / 2;

    private static final int WRONG_SIGN = 0;
    private static final int WRONG_NUMBER = 1;
    private static final int WRONG_COL = 2;
    private static final int TOO_MANY = 4;

    private static final int LESS = 1;
    private static final int EQUAL = 2;
    private static final int MORE = 4;

    private final int[] tape = new int[TAPE_ROOM];
    private int tapeLength;
    private final Reader reader = new Reader(tape);
    private final Query[] queries = new Query[QUERY_ROOM];
    private int queryCount;
    private final World world = new World();
    private final World[] images = new World[IMAGE_ROOM];
    private final State draft = new State();
    private final Pricer pricer = new Pricer(queries);
    private final Choices choices = new Choices();
    private final Chooser chooser = new Chooser(pricer, choices);
    private final Shelf bare = new Shelf(0);

    public BatchShare() {
        for (int i = 0; i < queries.length; i++) {
            queries[i] = new Query();
        }
    }

    public int feed(int a, int b, int c, int d, int e) {
        if (tapeLength + FEED_BYTES > TAPE_ROOM) {
            return NONE;
        }
        addBytes(a);
        addBytes(b);
        addBytes(c);
        addBytes(d);
        addBytes(e);
        return tapeLength;
    }

    public int end(int n) {
        if (n < 0 || n > tapeLength) {
            return NONE;
        }
        tapeLength = n;
        return n;
    }

    public int base() {
        int fault = reader.readBase(tapeLength, draft);
        tapeLength = 0;
        if (fault != 0) {
            return ABSENT - fault;
        }
        world.beginWith(draft);
        return draft.tables[OF_R].size + draft.tables[OF_S].size;
    }

    public int query() {
        if (queryCount >= QUERY_ROOM) {
            return NONE;
        }
        int fault = reader.readQuery(tapeLength, queries[queryCount]);
        tapeLength = 0;
        if (fault != 0) {
            return ABSENT - fault;
        }
        queryCount++;
        return queryCount - 1;
    }

    public int cell(int table, int row, int col) {
        return hasCell(table, row, col) ? world.now.tables[table].at(row, col) : NONE;
    }

    public int form(int query, int what) {
        if (!hasQuery(query) || what < 0 || what > FORM + 1) {
            return ABSENT;
        }
        if (what < FORM) {
            return queries[query].told[what];
        }
        boolean holds = what == FORM ? queries[query].isVoid : world.now.isStruck(query);
        return holds ? 1 : 0;
    }

    public int digest(int query) {
        return hasQuery(query) ? queries[query].digestOfForm() : NONE;
    }

    public int alike(int query) {
        if (!hasQuery(query)) {
            return NONE;
        }
        for (int i = 0; i < query; i++) {
            if (queries[i].isLike(queries[query])) {
                return i;
            }
        }
        return query;
    }

    public int answer(int query, int row, int col) {
        if (!hasQuery(query) || row < NONE) {
            return ABSENT;
        }
        Query asked = queries[query];
        if (row == NONE) {
            return asked.isVoid ? 0 : asked.whole().rowsIn(world.now);
        }
        if (asked.isVoid || col < 0 || col >= asked.told[SHOWN_SIZE]) {
            return ABSENT;
        }
        int found = asked.whole().locate(world.now, row);
        if (found == NONE) {
            return ABSENT;
        }
        int shown = asked.told[SHOWN + col];
        return shown < R_COLS
            ? world.now.tables[OF_R].at(found / S_ROOM, shown)
            : world.now.tables[OF_S].at(found % S_ROOM, shown);
    }

    public int alone(int query) {
        if (!hasQuery(query)) {
            return NONE;
        }
        pricer.look(world.now, queryCount);
        return pricer.costBy(query, bare);
    }

    public int candidates() {
        choices.collect(queries, queryCount, world.now);
        return choices.size;
    }

    public int candidate(int candidate, int what) {
        choices.collect(queries, queryCount, world.now);
        if (!choices.has(candidate) || what < 0 || what > SHAPE + 1) {
            return ABSENT;
        }
        Part part = choices.parts[candidate];
        if (what < SHAPE) {
            return part.told[what];
        }
        return what == SHAPE ? part.rowsIn(world.now) : part.makeIn(world.now);
    }

    public int gain(int candidate) {
        lookAtChoices();
        return choices.has(candidate) ? 10000 + chooser.gainBesides(candidate, world.now.shelf) : NONE;
    }

    public int greedy(int what) {
        if (what < 0 || what > KEPT_ROOM + 1) {
            return ABSENT;
        }
        lookAtChoices();
        chooser.takeGreedily(world.now.memory);
        if (what == 0) {
            return chooser.takenSize;
        }
        return what == 1 ? chooser.total : chooser.taken[what - 2];
    }

    public int best(int what) {
        if (what < 0 || what > 2) {
            return ABSENT;
        }
        lookAtChoices();
        chooser.takeBest(world.now.memory);
        return what == 0 ? chooser.total : chooser.taken[what - 1];
    }

    public int put(int table, int a, int b, int c) {
        State now = world.now;
        if (!now.hasBase || !isTable(table) || !isNumber(a) || !isNumber(b)) {
            return NONE;
        }
        if (table == OF_R && !isNumber(c) || now.tables[table].isFull()) {
            return NONE;
        }
        world.remember();
        now.tables[table].append(a, b, c);
        now.shelf.spoil(table, now.tables[table], now.tables[table].size - 1);
        return now.tables[table].size;
    }

    public int remove(int table, int row) {
        if (!hasRow(table, row)) {
            return NONE;
        }
        world.remember();
        State now = world.now;
        now.shelf.spoil(table, now.tables[table], row);
        now.tables[table].drop(row);
        return now.tables[table].size;
    }

    public int change(int table, int row, int col, int number) {
        if (!hasCell(table, row, col) || !isNumber(number)) {
            return NONE;
        }
        int was = world.now.tables[table].at(row, col);
        if (was == number) {
            return NONE;
        }
        world.remember();
        world.now.replace(table, row, col, number);
        return was;
    }

    public int strike(int query) {
        if (!world.now.hasBase || !hasQuery(query)) {
            return NONE;
        }
        world.remember();
        world.now.struck ^= 1 << query;
        return Integer.bitCount(world.now.struck);
    }

    public int keep(int candidate) {
        State now = world.now;
        if (!now.hasBase) {
            return NONE;
        }
        choices.collect(queries, queryCount, now);
        if (!choices.has(candidate)) {
            return NONE;
        }
        Part part = choices.parts[candidate];
        int rows = part.rowsIn(now);
        if (rows > now.memory || now.shelf.has(part)) {
            return NONE;
        }
        world.remember();
        int forgotten = now.makeRoom(rows);
        now.shelf.add(part, rows, now.time);
        now.spent += part.makeIn(now);
        return forgotten;
    }

    public int forget(int kept) {
        if (!hasKept(kept)) {
            return NONE;
        }
        world.remember();
        world.now.shelf.drop(kept);
        return world.now.shelf.size;
    }

    public int refresh(int kept) {
        if (!hasKept(kept) || !world.now.shelf.items[kept].stale) {
            return NONE;
        }
        world.remember();
        return world.now.makeAnew(kept) ? world.now.shelf.items[kept].rows : ABSENT;
    }

    public int run() {
        State now = world.now;
        if (!now.hasBase) {
            return NONE;
        }
        world.remember();
        now.time++;
        pricer.look(now, queryCount);
        int spent = pricer.batchUsing(now.shelf, now.time);
        now.spent += spent;
        return spent;
    }

    public int undo() {
        return world.goBack();
    }

    public int kept(int kept, int what) {
        if (!hasKept(kept) || what < 0 || what > SHAPE + 2) {
            return ABSENT;
        }
        Kept asked = world.now.shelf.items[kept];
        if (what < SHAPE) {
            return asked.part.told[what];
        }
        if (what == SHAPE) {
            return asked.rows;
        }
        if (what == SHAPE + 1) {
            return asked.used;
        }
        return asked.stale ? 1 : 0;
    }

    public int batch() {
        pricer.look(world.now, queryCount);
        return pricer.batchBy(world.now.shelf);
    }

    public int costs(int query) {
        if (!hasQuery(query) || world.now.isStruck(query)) {
            return NONE;
        }
        pricer.look(world.now, queryCount);
        return pricer.costBy(query, world.now.shelf);
    }

    public int serves(int query, int kind) {
        if (!hasQuery(query) || world.now.isStruck(query) || kind < 0 || kind >= KINDS) {
            return NONE;
        }
        pricer.look(world.now, queryCount);
        pricer.costBy(query, world.now.shelf);
        return pricer.serving[kind];
    }

    public int marks(int table, int row) {
        return hasRow(table, row) ? marksOf(table, row) : NONE;
    }

    public int shared() {
        int scanned = 0;
        for (int table = OF_R; table <= OF_S; table++) {
            scanned += queriesWith(table) == 0 ? 0 : world.now.tables[table].size;
        }
        for (int colR = 0; colR < R_COLS; colR++) {
            for (int colS = R_COLS; colS < COLS; colS++) {
                int joining = queriesJoining(colR, colS);
                scanned += markedRows(OF_R, joining) * markedRows(OF_S, joining);
            }
        }
        return scanned;
    }

    public int residue(int query, int kept) {
        if (!hasQuery(query) || world.now.isStruck(query) || !hasKept(kept)) {
            return NONE;
        }
        Kept by = world.now.shelf.items[kept];
        int kind = by.part.kind();
        if (by.stale || !queries[query].hasPart(kind)) {
            return ABSENT;
        }
        Part part = queries[query].parts[kind];
        return by.part.holds(part) ? by.rows - part.rowsIn(world.now) : ABSENT;
    }

    public int drift(int m, int n, int p, int what) {
        if (m < 1 || m > 5 || n < 1 || n > 30 || p < 0 || p > 100) {
            return NONE;
        }
        if (what < 0 || what > 1 || !world.now.hasBase) {
            return NONE;
        }
        int before = world.x;
        int costs = 0;
        int stale = 0;
        for (int time = 0; time < m; time++) {
            draft.copy(world.now);
            for (int step = 0; step < n; step++) {
                driftOnce(p);
                pricer.look(draft, queryCount);
                costs += pricer.batchBy(draft.shelf);
            }
            stale += draft.shelf.staleOnes();
        }
        world.x = before;
        return what == 0 ? costs : stale;
    }

    public int seed(int x) {
        if (x < 0) {
            return NONE;
        }
        int was = world.x;
        world.x = x;
        return was;
    }

    public int count(int what) {
        State now = world.now;
        switch (what) {
            case 0:
                return now.memory;
            case 1:
                return now.tables[OF_R].size;
            case 2:
                return now.tables[OF_S].size;
            case 3:
                return queryCount;
            case 4:
                return now.struck;
            case 5:
                return now.shelf.size;
            case 6:
                return now.shelf.rowsOfAll();
            case 7:
                return now.spent;
            case 8:
                return now.time;
            case 9:
                return world.pastSize;
            case 10:
                return world.x;
            case 11:
                return tapeLength;
            default:
                return NONE;
        }
    }

    public int image(int k) {
        if (k < 0 || k >= IMAGE_ROOM) {
            return NONE;
        }
        if (images[k] == null) {
            images[k] = new World();
        }
        images[k].copy(world);
        return world.now.time;
    }

    public int back(int k) {
        if (k < 0 || k >= IMAGE_ROOM || images[k] == null) {
            return NONE;
        }
        world.copy(images[k]);
        return world.now.time;
    }

    private void addBytes(int number) {
        for (int shift = 24; shift >= 0; shift -= 8) {
            if (tapeLength < tape.length) {
                tape[tapeLength] = number >>> shift & 255;
                tapeLength++;
            }
        }
    }

    private boolean hasQuery(int query) {
        return query >= 0 && query < queryCount;
    }

    private boolean hasKept(int kept) {
        return kept >= 0 && kept < world.now.shelf.size;
    }

    private boolean hasRow(int table, int row) {
        return isTable(table) && world.now.tables[table].hasRow(row);
    }

    private boolean hasCell(int table, int row, int col) {
        return hasRow(table, row) && world.now.tables[table].hasCol(col);
    }

    private static boolean isTable(int table) {
        return table == OF_R || table == OF_S;
    }

    private static boolean isNumber(int number) {
        return number >= 0 && number <= MOST_NUMBER;
    }

    private boolean isLive(int query) {
        return !queries[query].isVoid && !world.now.isStruck(query);
    }

    private void lookAtChoices() {
        choices.collect(queries, queryCount, world.now);
        choices.measure(world.now);
        pricer.look(world.now, queryCount);
    }

    private int queriesWith(int kind) {
        int bits = 0;
        for (int q = 0; q < queryCount; q++) {
            if (isLive(q) && queries[q].hasPart(kind)) {
                bits |= 1 << q;
            }
        }
        return bits;
    }

    private int queriesJoining(int colR, int colS) {
        int bits = 0;
        for (int q = 0; q < queryCount; q++) {
            if (isLive(q) && queries[q].joins(colR, colS)) {
                bits |= 1 << q;
            }
        }
        return bits;
    }

    private int marksOf(int table, int row) {
        int bits = 0;
        for (int q = 0; q < queryCount; q++) {
            if (isLive(q) && queries[q].hasPart(table) && queries[q].parts[table].takes(world.now.tables[table], row)) {
                bits |= 1 << q;
            }
        }
        return bits;
    }

    private int markedRows(int table, int queryBits) {
        int marked = 0;
        for (int row = 0; row < world.now.tables[table].size; row++) {
            if ((marksOf(table, row) & queryBits) != 0) {
                marked++;
            }
        }
        return marked;
    }

    private void driftOnce(int p) {
        int size = draft.tables[OF_R].size;
        if (world.draw() % 100 >= p || size == 0) {
            return;
        }
        int row = world.draw() % size;
        int col = world.draw() % R_COLS;
        int number = world.draw() % (MOST_NUMBER + 1);
        if (draft.tables[OF_R].at(row, col) != number) {
            draft.replace(OF_R, row, col, number);
        }
    }

    /** Rows of R or of S; COLS have the same numbers, 0 to 4, in all of the program. */
    private static final class Table {
        final int firstCol;
        final int width;
        final int[] cells;
        int size;

        Table(int firstCol, int width, int room) {
            this.firstCol = firstCol;
            this.width = width;
            cells = new int[room * width];
        }

        boolean isFull() {
            return (size + 1) * width > cells.length;
        }

        boolean hasRow(int row) {
            return row >= 0 && row < size;
        }

        boolean hasCol(int col) {
            return col >= firstCol && col < firstCol + width;
        }

        int at(int row, int col) {
            return hasRow(row) && hasCol(col) ? cells[row * width + col - firstCol] : NONE;
        }

        void write(int row, int col, int number) {
            if (hasRow(row) && hasCol(col)) {
                cells[row * width + col - firstCol] = number;
            }
        }

        void append(int a, int b, int c) {
            if (isFull()) {
                return;
            }
            size++;
            write(size - 1, firstCol, a);
            write(size - 1, firstCol + 1, b);
            write(size - 1, firstCol + 2, c);
        }

        void drop(int row) {
            if (hasRow(row)) {
                System.arraycopy(cells, (row + 1) * width, cells, row * width, (size - 1 - row) * width);
                size--;
            }
        }

        void copy(Table other) {
            System.arraycopy(other.cells, 0, cells, 0, Math.min(cells.length, other.cells.length));
            size = other.size;
        }
    }

    /** Rows that can be kept: of one table, or of both joined, within ranges. */
    private static final class Part {
        final int[] told = new int[SHAPE];

        int kind() {
            return told[0];
        }

        int least(int col) {
            return told[3 + 2 * col];
        }

        int greatest(int col) {
            return told[4 + 2 * col];
        }

        void limit(int col, int least, int greatest) {
            told[3 + 2 * col] = least;
            told[4 + 2 * col] = greatest;
        }

        void copy(Part other) {
            System.arraycopy(other.told, 0, told, 0, SHAPE);
        }

        boolean isLike(Part other) {
            for (int i = 0; i < SHAPE; i++) {
                if (told[i] != other.told[i]) {
                    return false;
                }
            }
            return true;
        }

        boolean isOfSort(Part other) {
            return told[0] == other.told[0] && told[1] == other.told[1] && told[2] == other.told[2];
        }

        boolean holds(Part other) {
            // Not by isOfSort: calls go eight deep at most, and this is the eighth.
            boolean holds = told[0] == other.told[0] && told[1] == other.told[1] && told[2] == other.told[2];
            for (int least = 3; least < SHAPE - 1 && holds; least += 2) {
                holds = told[least] <= other.told[least] && told[least + 1] >= other.told[least + 1];
            }
            return holds;
        }

        void widen(Part one, Part other) {
            copy(one);
            for (int col = 0; col < COLS; col++) {
                limit(col, Math.min(one.least(col), other.least(col)),
                    Math.max(one.greatest(col), other.greatest(col)));
            }
        }

        boolean isOver(int table) {
            return kind() == OF_JOIN || kind() == table;
        }

        boolean takes(Table table, int row) {
            boolean takes = table.hasRow(row);
            for (int i = 0; i < table.width && takes; i++) {
                int number = table.cells[row * table.width + i];
                int least = 3 + 2 * (table.firstCol + i);
                takes = number >= told[least] && number <= told[least + 1];
            }
            return takes;
        }

        boolean takesBoth(State state, int rowR, int rowS) {
            return state.tables[OF_R].at(rowR, told[1]) == state.tables[OF_S].at(rowS, told[2])
                && takes(state.tables[OF_S], rowS);
        }

        int rowsOf(Table table) {
            int rows = 0;
            for (int row = 0; row < table.size; row++) {
                if (takes(table, row)) {
                    rows++;
                }
            }
            return rows;
        }

        int rowsIn(State state) {
            if (kind() != OF_JOIN) {
                return rowsOf(state.tables[kind()]);
            }
            int rows = 0;
            for (int rowR = 0; rowR < state.tables[OF_R].size; rowR++) {
                if (!takes(state.tables[OF_R], rowR)) {
                    continue;
                }
                for (int rowS = 0; rowS < state.tables[OF_S].size; rowS++) {
                    if (takesBoth(state, rowR, rowS)) {
                        rows++;
                    }
                }
            }
            return rows;
        }

        int makeIn(State state) {
            Table r = state.tables[OF_R];
            Table s = state.tables[OF_S];
            if (kind() == OF_JOIN) {
                return r.size + s.size + rowsOf(r) * rowsOf(s);
            }
            return state.tables[kind()].size;
        }

        /** The n-th row, as its row of R times S_ROOM and its row of S (0 for the table it is not of); NONE if there is none. */
        int locate(State state, int n) {
            int sizeR = kind() == OF_S ? 1 : state.tables[OF_R].size;
            int sizeS = kind() == OF_R ? 1 : state.tables[OF_S].size;
            int left = n;
            for (int rowR = 0; rowR < sizeR; rowR++) {
                if (kind() != OF_S && !takes(state.tables[OF_R], rowR)) {
                    continue;
                }
                for (int rowS = 0; rowS < sizeS; rowS++) {
                    if (kind() == OF_S && !takes(state.tables[OF_S], rowS)) {
                        continue;
                    }
                    if (kind() == OF_JOIN && !takesBoth(state, rowR, rowS)) {
                        continue;
                    }
                    if (left == 0) {
                        return rowR * S_ROOM + rowS;
                    }
                    left--;
                }
            }
            return NONE;
        }
    }

    /** One QUERY in its FORM, and its PARTS, which never change once it is told. */
    private static final class Query {
        final int[] told = new int[FORM];
        final Part[] parts = new Part[KINDS];
        boolean isVoid;

        Query() {
            for (int kind = 0; kind < KINDS; kind++) {
                parts[kind] = new Part();
            }
        }

        int source() {
            return told[0];
        }

        int firstCol() {
            return source() == OF_S ? R_COLS : 0;
        }

        int lastCol() {
            return source() == OF_R ? R_COLS - 1 : COLS - 1;
        }

        boolean hasPart(int kind) {
            return !isVoid && (source() == OF_JOIN || source() == kind);
        }

        Part whole() {
            return parts[source()];
        }

        boolean joins(int colR, int colS) {
            return source() == OF_JOIN && told[1] == colR && told[2] == colS;
        }

        boolean isLike(Query other) {
            for (int i = 0; i < FORM; i++) {
                if (told[i] != other.told[i]) {
                    return false;
                }
            }
            return true;
        }

        int digestOfForm() {
            int digest = 7;
            for (int i = 0; i < SHOWN + told[SHOWN_SIZE]; i++) {
                int number = told[i] == NONE ? 9 : told[i];
                digest = (31 * digest + number) % 1000003;
            }
            return digest;
        }

        void begin(int source, int colR, int colS) {
            told[0] = source;
            told[1] = colR;
            told[2] = colS;
            isVoid = false;
            for (int col = 0; col < COLS; col++) {
                told[3 + 2 * col] = 0;
                told[4 + 2 * col] = MOST_NUMBER;
            }
            showNothing();
            for (int col = firstCol(); col <= lastCol(); col++) {
                show(col);
            }
        }

        void showNothing() {
            told[SHOWN_SIZE] = 0;
            for (int i = 0; i < SHOWN_ROOM; i++) {
                told[SHOWN + i] = NONE;
            }
        }

        boolean showsAllItCan() {
            return told[SHOWN_SIZE] >= SHOWN_ROOM;
        }

        void show(int col) {
            if (!showsAllItCan()) {
                told[SHOWN + told[SHOWN_SIZE]] = col;
                told[SHOWN_SIZE]++;
            }
        }

        void narrow(int col, int signs, int number) {
            int least = 3 + 2 * col;
            int greatest = 4 + 2 * col;
            if ((signs & LESS) == 0) {
                told[least] = Math.max(told[least], (signs & EQUAL) == 0 ? number + 1 : number);
            }
            if ((signs & MORE) == 0) {
                told[greatest] = Math.min(told[greatest], (signs & EQUAL) == 0 ? number - 1 : number);
            }
        }

        void finish() {
            for (int col = 0; col < COLS; col++) {
                isVoid = isVoid || told[3 + 2 * col] > told[4 + 2 * col];
            }
            for (int col = 0; col < COLS && isVoid; col++) {
                told[3 + 2 * col] = 1;
                told[4 + 2 * col] = 0;
            }
            for (int kind = 0; kind < KINDS; kind++) {
                shapePart(parts[kind], kind);
            }
        }

        private void shapePart(Part part, int kind) {
            part.told[0] = kind;
            part.told[1] = kind == OF_JOIN ? told[1] : NONE;
            part.told[2] = kind == OF_JOIN ? told[2] : NONE;
            for (int col = 0; col < COLS; col++) {
                if (kind == OF_JOIN || kind == (col < R_COLS ? OF_R : OF_S)) {
                    part.limit(col, told[3 + 2 * col], told[4 + 2 * col]);
                } else {
                    part.limit(col, 0, MOST_NUMBER);
                }
            }
        }
    }

    private static final class Kept {
        final Part part = new Part();
        int rows;
        int used;
        boolean stale;

        void copy(Kept other) {
            part.copy(other.part);
            rows = other.rows;
            used = other.used;
            stale = other.stale;
        }
    }

    /** PARTS that are KEPT; its objects are made once and used again, for all calls share one room. */
    private static final class Shelf {
        final Kept[] items;
        int size;

        Shelf(int room) {
            items = new Kept[room];
            for (int i = 0; i < room; i++) {
                items[i] = new Kept();
            }
        }

        void copy(Shelf other) {
            size = Math.min(other.size, items.length);
            for (int i = 0; i < size; i++) {
                items[i].copy(other.items[i]);
            }
        }

        void clear() {
            size = 0;
        }

        void add(Part part, int rows, int time) {
            if (size >= items.length) {
                return;
            }
            items[size].part.copy(part);
            items[size].rows = rows;
            items[size].used = time;
            items[size].stale = false;
            size++;
        }

        void drop(int dropped) {
            if (dropped < 0 || dropped >= size) {
                return;
            }
            Kept free = items[dropped];
            for (int i = dropped; i < size - 1; i++) {
                items[i] = items[i + 1];
            }
            items[size - 1] = free;
            size--;
        }

        boolean has(Part part) {
            for (int i = 0; i < size; i++) {
                if (items[i].part.isLike(part)) {
                    return true;
                }
            }
            return false;
        }

        int rowsOfAll() {
            int rows = 0;
            for (int i = 0; i < size; i++) {
                rows += items[i].rows;
            }
            return rows;
        }

        int staleOnes() {
            int stale = 0;
            for (int i = 0; i < size; i++) {
                stale += items[i].stale ? 1 : 0;
            }
            return stale;
        }

        int leastUsed() {
            int least = 0;
            for (int i = 1; i < size; i++) {
                if (items[i].used < items[least].used) {
                    least = i;
                }
            }
            return least;
        }

        void spoil(int table, Table rows, int row) {
            for (int i = 0; i < size; i++) {
                Kept item = items[i];
                if (item.part.isOver(table) && item.part.takes(rows, row)) {
                    item.stale = true;
                }
            }
        }

        /** The first of those with fewest rows that hold the part and have fewer than this bound; ABSENT if none does. */
        int leastHolding(Part part, int bound) {
            int found = ABSENT;
            int fewest = bound;
            for (int i = 0; i < size; i++) {
                Kept item = items[i];
                if (!item.stale && item.rows < fewest && item.part.holds(part)) {
                    fewest = item.rows;
                    found = i;
                }
            }
            return found;
        }
    }

    /** All that an ACT changes, and so all that undoing it brings back. */
    private static final class State {
        final Table[] tables = new Table[2];
        final Shelf shelf = new Shelf(KEPT_ROOM);
        boolean hasBase;
        int memory;
        int struck;
        int spent;
        int time;

        State() {
            tables[OF_R] = new Table(0, R_COLS, R_ROOM);
            tables[OF_S] = new Table(R_COLS, COLS - R_COLS, S_ROOM);
        }

        void clear() {
            tables[OF_R].size = 0;
            tables[OF_S].size = 0;
            shelf.clear();
            hasBase = false;
            memory = 0;
            struck = 0;
            spent = 0;
            time = 0;
        }

        void copy(State other) {
            tables[OF_R].copy(other.tables[OF_R]);
            tables[OF_S].copy(other.tables[OF_S]);
            shelf.copy(other.shelf);
            hasBase = other.hasBase;
            memory = other.memory;
            struck = other.struck;
            spent = other.spent;
            time = other.time;
        }

        boolean isStruck(int query) {
            return (struck >> query & 1) != 0;
        }

        void replace(int table, int row, int col, int number) {
            shelf.spoil(table, tables[table], row);
            tables[table].write(row, col, number);
            shelf.spoil(table, tables[table], row);
        }

        int makeRoom(int rows) {
            int forgotten = 0;
            while (forgotten < KEPT_ROOM && lacksRoom(rows)) {
                shelf.drop(shelf.leastUsed());
                forgotten++;
            }
            return forgotten;
        }

        private boolean lacksRoom(int rows) {
            return shelf.size >= KEPT_ROOM || shelf.rowsOfAll() + rows > memory;
        }

        boolean makeAnew(int index) {
            Kept item = shelf.items[index];
            int rows = item.part.rowsIn(this);
            if (shelf.rowsOfAll() - item.rows + rows > memory) {
                shelf.drop(index);
                return false;
            }
            item.rows = rows;
            item.stale = false;
            spent += item.part.makeIn(this);
            return true;
        }
    }

    /** What an IMAGE holds: the state, the states that undoing goes back to, and x. */
    private static final class World {
        final State now = new State();
        /** A ring; its states are made when they are first needed. */
        final State[] past = new State[ACT_ROOM];
        int pastFirst;
        int pastSize;
        int x;

        void copy(World other) {
            now.copy(other.now);
            x = other.x;
            pastFirst = 0;
            pastSize = 0;
            for (int i = 0; i < other.pastSize; i++) {
                State state = other.past[(other.pastFirst + i) % ACT_ROOM];
                if (state != null) {
                    add(state);
                }
            }
        }

        void beginWith(State state) {
            now.copy(state);
            pastFirst = 0;
            pastSize = 0;
        }

        void remember() {
            add(now);
        }

        private void add(State state) {
            if (pastSize == ACT_ROOM) {
                pastFirst = (pastFirst + 1) % ACT_ROOM;
                pastSize--;
            }
            int slot = (pastFirst + pastSize) % ACT_ROOM;
            if (past[slot] == null) {
                past[slot] = new State();
            }
            past[slot].copy(state);
            pastSize++;
        }

        int goBack() {
            if (pastSize == 0) {
                return ABSENT;
            }
            pastSize--;
            State state = past[(pastFirst + pastSize) % ACT_ROOM];
            if (state != null) {
                now.copy(state);
            }
            return pastSize;
        }

        int draw() {
            x = (int) (x * 1103515245L + 12345L & 0x7fffffffL);
            return x / 65536;
        }
    }

    /** Reads BASES and QUERIES from the TAPE; the first fault stays. */
    private static final class Reader {
        private final int[] bytes;
        private int length;
        private int at;
        private int fault;
        private int tests;

        Reader(int[] bytes) {
            this.bytes = bytes;
        }

        int readBase(int textLength, State state) {
            open(textLength);
            state.clear();
            for (int clause = 0; clause <= CLAUSE_ROOM && fault == 0; clause++) {
                readClause(clause, state);
                if (fault != 0 || !takeByte(';')) {
                    break;
                }
            }
            close();
            state.hasBase = true;
            return fault;
        }

        private void readClause(int clause, State state) {
            int place = place();
            boolean mayStand = clause > 0 && clause < CLAUSE_ROOM;
            if (takeWord("base")) {
                if (clause > 0) {
                    fail(place, TOO_MANY);
                    return;
                }
                state.memory = takeNumber(MOST_MEMORY);
            } else if (takeWord("r")) {
                readRow(state.tables[OF_R], place, mayStand);
            } else if (takeWord("s")) {
                readRow(state.tables[OF_S], place, mayStand);
            } else {
                fail(place, WRONG_SIGN);
            }
        }

        private void readRow(Table table, int place, boolean mayStand) {
            if (!mayStand || table.isFull()) {
                fail(place, TOO_MANY);
                return;
            }
            int first = takeNumber(MOST_NUMBER);
            int second = takeNumber(MOST_NUMBER);
            int third = table.width > 2 ? takeNumber(MOST_NUMBER) : 0;
            table.append(first, second, third);
        }

        int readQuery(int textLength, Query query) {
            open(textLength);
            readSource(query);
            for (int step = 0; step < TAPE_ROOM && fault == 0; step++) {
                if (takeWord("if")) {
                    readTests(query);
                } else if (takeWord("show")) {
                    readShown(query);
                } else {
                    break;
                }
            }
            close();
            query.finish();
            return fault;
        }

        private void readSource(Query query) {
            if (takeWord("r")) {
                query.begin(OF_R, NONE, NONE);
            } else if (takeWord("s")) {
                query.begin(OF_S, NONE, NONE);
            } else if (takeWord("join")) {
                int colR = takeCol(0, R_COLS - 1);
                if (!takeByte('=')) {
                    fail(place(), WRONG_SIGN);
                }
                int colS = takeCol(R_COLS, COLS - 1);
                query.begin(OF_JOIN, colR, colS);
            } else {
                fail(place(), WRONG_SIGN);
            }
        }

        private void readTests(Query query) {
            for (int i = 0; i <= TEST_ROOM && fault == 0; i++) {
                readTest(query);
                if (fault != 0 || !takeWord("and")) {
                    return;
                }
            }
        }

        private void readTest(Query query) {
            int place = place();
            int col = takeCol(query.firstCol(), query.lastCol());
            if (tests >= TEST_ROOM) {
                fail(place, TOO_MANY);
            }
            tests++;
            int signs = takeSigns();
            int number = takeNumber(MOST_NUMBER);
            if (fault == 0) {
                query.narrow(col, signs, number);
            }
        }

        private void readShown(Query query) {
            query.showNothing();
            for (int i = 0; i <= SHOWN_ROOM && fault == 0; i++) {
                int place = place();
                int col = takeCol(query.firstCol(), query.lastCol());
                if (query.showsAllItCan()) {
                    fail(place, TOO_MANY);
                }
                query.show(col);
                if (fault != 0 || !takeByte(',')) {
                    return;
                }
            }
        }

        private void open(int textLength) {
            length = Math.min(textLength, bytes.length);
            at = 0;
            fault = 0;
            tests = 0;
        }

        private void close() {
            if (place() < length) {
                fail(at, WRONG_SIGN);
            }
        }

        private void fail(int place, int kind) {
            if (fault == 0) {
                fault = 1 + 8 * place + kind;
            }
        }

        /** Where the next sign stands, past blanks: there a fault of it is told. */
        private int place() {
            while (at < length && bytes[at] == ' ') {
                at++;
            }
            return at;
        }

        private boolean takeByte(char sign) {
            if (place() >= length || bytes[at] != sign) {
                return false;
            }
            at++;
            return true;
        }

        private int wordLength() {
            int behind = place();
            while (behind < length && bytes[behind] >= 'a' && bytes[behind] <= 'z') {
                behind++;
            }
            return behind - at;
        }

        private boolean takeWord(String word) {
            if (wordLength() != word.length()) {
                return false;
            }
            for (int i = 0; i < word.length(); i++) {
                if (bytes[at + i] != word.charAt(i)) {
                    return false;
                }
            }
            at += word.length();
            return true;
        }

        private int takeCol(int first, int last) {
            if (wordLength() != 1 || bytes[at] > 'e') {
                fail(at, WRONG_SIGN);
                return first;
            }
            int col = bytes[at] - 'a';
            if (col < first || col > last) {
                fail(at, WRONG_COL);
                return first;
            }
            at++;
            return col;
        }

        private int takeSigns() {
            if (takeByte('=')) {
                return EQUAL;
            }
            int signs = takeByte('<') ? LESS : takeByte('>') ? MORE : 0;
            if (signs == 0) {
                fail(at, WRONG_SIGN);
            } else if (at < length && bytes[at] == '=') {
                // The two signs are one: a blank between them is a fault.
                at++;
                signs |= EQUAL;
            }
            return signs;
        }

        private int takeNumber(int most) {
            int first = place();
            int number = 0;
            while (at < length && bytes[at] >= '0' && bytes[at] <= '9') {
                if (at - first < MOST_DIGITS) {
                    number = 10 * number + bytes[at] - '0';
                }
                at++;
            }
            if (at == first) {
                fail(first, WRONG_SIGN);
            } else if (at - first > MOST_DIGITS || number > most) {
                fail(first, WRONG_NUMBER);
            }
            return number;
        }
    }

    /** The CANDIDATES, collected anew for each call that asks. */
    private static final class Choices {
        final Part[] parts = new Part[CHOICE_ROOM];
        final int[] rows = new int[CHOICE_ROOM];
        final int[] makes = new int[CHOICE_ROOM];
        private final Part wide = new Part();
        int size;

        Choices() {
            for (int i = 0; i < CHOICE_ROOM; i++) {
                parts[i] = new Part();
            }
        }

        boolean has(int choice) {
            return choice >= 0 && choice < size;
        }

        void collect(Query[] queries, int queryCount, State state) {
            size = 0;
            for (int q = 0; q < queryCount && q < queries.length; q++) {
                for (int kind = 0; kind < KINDS; kind++) {
                    if (!state.isStruck(q) && queries[q].hasPart(kind)) {
                        addUnlike(queries[q].parts[kind]);
                    }
                }
            }
            addWideOnes(size);
        }

        private void addWideOnes(int plain) {
            for (int i = 0; i < plain; i++) {
                for (int j = i + 1; j < plain; j++) {
                    if (parts[i].isOfSort(parts[j])) {
                        wide.widen(parts[i], parts[j]);
                        addUnlike(wide);
                    }
                }
            }
        }

        private void addUnlike(Part part) {
            for (int i = 0; i < size; i++) {
                if (parts[i].isLike(part)) {
                    return;
                }
            }
            if (size < CHOICE_ROOM) {
                parts[size].copy(part);
                size++;
            }
        }

        void measure(State state) {
            for (int i = 0; i < size; i++) {
                rows[i] = parts[i].rowsIn(state);
                makes[i] = parts[i].makeIn(state);
            }
        }
    }

    /** What QUERIES cost by what is kept; it must look at the rows before, and again when they change. */
    private static final class Pricer {
        private final Query[] queries;
        private final int[] makes = new int[2];
        private final int[] pairs = new int[QUERY_ROOM];
        /** Which ones serve the QUERY whose cost was asked for last, by kind. */
        final int[] serving = new int[KINDS];
        private int size;
        private int struck;

        Pricer(Query[] queries) {
            this.queries = queries;
        }

        void look(State state, int queryCount) {
            size = Math.min(queryCount, pairs.length);
            struck = state.struck;
            makes[OF_R] = state.tables[OF_R].size;
            makes[OF_S] = state.tables[OF_S].size;
            for (int q = 0; q < size; q++) {
                if (queries[q].hasPart(OF_JOIN)) {
                    pairs[q] = queries[q].parts[OF_R].rowsOf(state.tables[OF_R])
                        * queries[q].parts[OF_S].rowsOf(state.tables[OF_S]);
                }
            }
        }

        int batchBy(Shelf shelf) {
            int cost = 0;
            for (int q = 0; q < size; q++) {
                if ((struck >> q & 1) == 0) {
                    cost += costBy(q, shelf);
                }
            }
            return cost;
        }

        int batchUsing(Shelf shelf, int time) {
            int cost = 0;
            for (int q = 0; q < size; q++) {
                if ((struck >> q & 1) == 0) {
                    cost += costBy(q, shelf);
                    useServing(shelf, time);
                }
            }
            return cost;
        }

        private void useServing(Shelf shelf, int time) {
            for (int kind = 0; kind < KINDS; kind++) {
                if (serving[kind] >= 0 && serving[kind] < shelf.size) {
                    shelf.items[serving[kind]].used = time;
                }
            }
        }

        int costBy(int q, Shelf shelf) {
            Query query = queries[q];
            Arrays.fill(serving, ABSENT);
            int apart = query.hasPart(OF_JOIN) ? pairs[q] : 0;
            for (int table = OF_R; table <= OF_S; table++) {
                if (query.hasPart(table)) {
                    int server = shelf.leastHolding(query.parts[table], makes[table]);
                    serving[table] = server;
                    apart += server == ABSENT ? makes[table] : shelf.items[server].rows;
                }
            }
            int whole = query.hasPart(OF_JOIN) ? shelf.leastHolding(query.parts[OF_JOIN], UNBOUNDED) : ABSENT;
            if (whole == ABSENT || shelf.items[whole].rows > apart) {
                return apart;
            }
            Arrays.fill(serving, ABSENT);
            serving[OF_JOIN] = whole;
            return shelf.items[whole].rows;
        }
    }

    /** What CANDIDATES gain, and which are taken, greedily or best; choices must be measured and the pricer have looked. */
    private static final class Chooser {
        private final Pricer pricer;
        private final Choices choices;
        private final Shelf trial = new Shelf(KEPT_ROOM + 1);
        private final int[] single = new int[CHOICE_ROOM];
        final int[] taken = new int[KEPT_ROOM];
        int takenSize;
        int total;

        Chooser(Pricer pricer, Choices choices) {
            this.pricer = pricer;
            this.choices = choices;
        }

        int gainBesides(int choice, Shelf shelf) {
            trial.copy(shelf);
            int before = pricer.batchBy(trial);
            return before - batchBesides(choice) - choices.makes[choice];
        }

        private void addToTrial(int choice) {
            trial.add(choices.parts[choice], choices.rows[choice], 0);
        }

        private int batchBesides(int choice) {
            addToTrial(choice);
            int cost = pricer.batchBy(trial);
            trial.drop(trial.size - 1);
            return cost;
        }

        private void takeNothing() {
            trial.clear();
            Arrays.fill(taken, NONE);
            takenSize = 0;
            total = 0;
        }

        void takeGreedily(int memory) {
            takeNothing();
            int room = memory;
            for (int k = 0; k < taken.length; k++) {
                int before = pricer.batchBy(trial);
                int choice = greediest(before, room);
                if (choice == NONE) {
                    break;
                }
                total += before - batchBesides(choice) - choices.makes[choice];
                addToTrial(choice);
                room -= choices.rows[choice];
                taken[k] = choice;
                takenSize++;
            }
        }

        private int greediest(int before, int room) {
            int chosen = NONE;
            int most = 0;
            for (int c = 0; c < choices.size; c++) {
                if (choices.rows[c] > room) {
                    continue;
                }
                int gained = before - batchBesides(c) - choices.makes[c];
                boolean isLighter = chosen != NONE && gained == most && choices.rows[c] < choices.rows[chosen];
                if (gained > most || isLighter) {
                    most = gained;
                    chosen = c;
                }
            }
            return chosen;
        }

        void takeBest(int memory) {
            takeNothing();
            int before = pricer.batchBy(trial);
            for (int c = 0; c < choices.size; c++) {
                single[c] = before - batchBesides(c) - choices.makes[c];
                if (choices.rows[c] <= memory && single[c] > total) {
                    total = single[c];
                    taken[0] = c;
                }
            }
            for (int one = 0; one < choices.size; one++) {
                takeBestPair(one, before, memory);
            }
        }

        private void takeBestPair(int one, int before, int memory) {
            trial.clear();
            addToTrial(one);
            for (int other = one + 1; other < choices.size; other++) {
                // Two never gain more together than each for itself, so most pairs need no pricing.
                boolean isHopeless = single[one] + single[other] <= total;
                if (isHopeless || choices.rows[one] + choices.rows[other] > memory) {
                    continue;
                }
                int gained = before - batchBesides(other) - choices.makes[one] - choices.makes[other];
                if (gained > total) {
                    total = gained;
                    taken[0] = one;
                    taken[1] = other;
                }
            }
        }
    }
}
