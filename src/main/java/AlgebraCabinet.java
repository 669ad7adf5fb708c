import java.util.Arrays;

/** A cabinet of finite algebras; ../shared/DOC.md says what each call answers. */
public final class AlgebraCabinet {
    public static final int NONE = -1, EMPTY = -2, OUTSIDE = -3, UNFIT = -4, MANY = -5, CAST = -12, INDEX = -13;

    private static final int DRAWERS = 8;
    private static final int LISTS = 4;
    private static final int MOST_SIZE = 7;
    private static final int MOST_OPERATIONS = 4;
    private static final int MOST_ARITY = 2;
    private static final int MOST_CELLS = MOST_OPERATIONS * MOST_SIZE * MOST_SIZE;
    private static final int MOST_CHANGES = 16;
    private static final int MOST_TAPE = 400;
    /** A size, and for each operation two bytes ahead of its cells. */
    private static final int MOST_OUT = 1 + 2 * MOST_OPERATIONS + MOST_CELLS;
    private static final int MOST_LAWS = 6;
    private static final int MOST_TERMS = 80;
    private static final int MOST_WITHIN = 8;
    private static final int VARIABLES = 3;
    private static final int MOST_FUNCTIONS = 300;
    private static final int MOST_TABLES = 60000;
    /** Of seven elements there are 877 partitions and 5040 numberings. */
    private static final int MOST_PARTITIONS = 877;
    private static final int MOST_NUMBERINGS = 5040;
    private static final int FAULT_BASE = -100;
    /** What a test for refusals answers where there is none. */
    private static final int FINE = 0;

    private final Bytes tape = new Bytes(MOST_TAPE);
    private final Bytes told = new Bytes(MOST_OUT);
    private final Algebra[] drawers = new Algebra[DRAWERS];
    /** New algebras are made here first, as a drawer may be both the source and the target of a call. */
    private final Algebra draft = new Algebra();
    private final History history = new History();
    private final LawList[] lists = new LawList[LISTS];
    /** Texts are read into this one, so that a list stays as it was if its text has a fault. */
    private LawList spareList = new LawList();
    private final TextReader reader = new TextReader();
    private final LawTrial trial = new LawTrial();
    private final Congruences congruences = new Congruences();
    private final MapSearch maps = new MapSearch();
    private final LeastForm leastForm = new LeastForm();
    private final TermFunctions functions = new TermFunctions();
    private final ModelSearch modelSearch = new ModelSearch(leastForm, trial);
    /** Of a part or a quotient: the old element that stands for each new one, and the new number of each old one. */
    private final int[] oldOf = new int[MOST_SIZE];
    private final int[] newOf = new int[MOST_SIZE];

    public AlgebraCabinet() {
        for (int i = 0; i < DRAWERS; i++) {
            drawers[i] = new Algebra();
        }
        for (int i = 0; i < LISTS; i++) {
            lists[i] = new LawList();
        }
    }

    // ---- tape, OUT

    public int feed(int a, int b, int c, int d, int e) {
        if (!tape.hasRoom(20)) {
            return MANY;
        }
        tape.addNumber(a);
        tape.addNumber(b);
        tape.addNumber(c);
        tape.addNumber(d);
        tape.addNumber(e);
        return tape.length;
    }

    public int trim(int n) {
        if (n < 0 || n > tape.length) {
            return OUTSIDE;
        }
        tape.length = n;
        return n;
    }

    public int out(int i) {
        return told.byteAt(i);
    }

    // ---- tables

    public int make(int drawer, int size, int arities) {
        if (!isDrawer(drawer) || !isShape(size, arities)) {
            return OUTSIDE;
        }
        draft.shape(size, arities);
        putDraft(drawer);
        return draft.cellCount();
    }

    public int set(int drawer, int operation, int a, int b, int v) {
        int refusal = refuseOperation(drawer, operation);
        if (refusal != FINE) {
            return refusal;
        }
        Algebra algebra = drawers[drawer];
        if (!algebra.hasCell(operation, a, b) || !algebra.hasElement(v)) {
            return OUTSIDE;
        }
        history.keep(drawer, algebra);
        int spot = algebra.spot(operation, a, b);
        int before = algebra.cells[spot];
        algebra.cells[spot] = v;
        return before;
    }

    public int cell(int drawer, int operation, int arity, int a, int b) {
        int refusal = refuseOperation(drawer, operation);
        if (refusal != FINE) {
            return refusal;
        }
        if (arity < 0 || arity > MOST_ARITY) {
            return OUTSIDE;
        }
        Algebra algebra = drawers[drawer];
        if (algebra.arity[operation] != arity) {
            return CAST;
        }
        return algebra.hasCell(operation, a, b) ? algebra.value(operation, a, b) : INDEX;
    }

    public int stamp(int drawer, int operation, int row, int to, int many) {
        int refusal = refuseBinary(drawer, operation);
        if (refusal != FINE) {
            return refusal;
        }
        Algebra algebra = drawers[drawer];
        if (!algebra.hasElement(row) || !algebra.hasElement(to) || many < 0 || many > algebra.size) {
            return INDEX;
        }
        history.keep(drawer, algebra);
        for (int b = 0; b < many; b++) {
            algebra.cells[algebra.spot(operation, to, b)] = algebra.value(operation, row, b);
        }
        return many;
    }

    public int about(int drawer, int what) {
        int refusal = refuseDrawer(drawer);
        if (refusal != FINE) {
            return refusal;
        }
        Algebra algebra = drawers[drawer];
        switch (what) {
            case 0:
                return algebra.size;
            case 1:
                return algebra.arities;
            case 2:
                return algebra.cellCount();
            case 3:
                return algebra.otherThanZero();
            default:
                return OUTSIDE;
        }
    }

    public int drop(int drawer) {
        int refusal = refuseDrawer(drawer);
        if (refusal != FINE) {
            return refusal;
        }
        history.keep(drawer, drawers[drawer]);
        drawers[drawer].empty();
        return 1;
    }

    public int tell(int drawer) {
        int refusal = refuseDrawer(drawer);
        if (refusal != FINE) {
            return refusal;
        }
        drawers[drawer].write(told);
        return told.length;
    }

    public int read(int drawer) {
        if (!isDrawer(drawer)) {
            reader.passOver(tape);
            return OUTSIDE;
        }
        reader.readAlgebra(tape, draft);
        if (reader.faultKind != 0) {
            return FAULT_BASE - reader.faultPlace;
        }
        putDraft(drawer);
        return draft.size;
    }

    public int undo() {
        return history.takeBack(drawers);
    }

    // ---- operations

    public int traits(int drawer, int operation) {
        int refusal = refuseBinary(drawer, operation);
        return refusal != FINE ? refusal : drawers[drawer].traitSum(operation);
    }

    public int powers(int drawer, int operation, int a) {
        int refusal = refuseOperation(drawer, operation);
        if (refusal != FINE) {
            return refusal;
        }
        Algebra algebra = drawers[drawer];
        if (!algebra.hasElement(a)) {
            return OUTSIDE;
        }
        return algebra.arity[operation] != 2 ? CAST : algebra.powerPath(operation, a);
    }

    public int centre(int drawer, int operation) {
        int refusal = refuseBinary(drawer, operation);
        return refusal != FINE ? refusal : drawers[drawer].centreBits(operation);
    }

    // ---- laws

    public int laws(int list) {
        if (!isList(list)) {
            reader.passOver(tape);
            return OUTSIDE;
        }
        reader.readLaws(tape, spareList);
        if (reader.faultKind != 0) {
            return FAULT_BASE - reader.faultPlace;
        }
        LawList before = lists[list];
        lists[list] = spareList;
        spareList = before;
        return lists[list].lawCount;
    }

    public int fault() {
        return reader.faultKind;
    }

    public int holds(int drawer, int list) {
        int refusal = refuseTrial(drawer, list);
        return refusal != FINE ? refusal : trial.firstBroken(drawers[drawer], lists[list]);
    }

    public int fails(int drawer, int list, int k) {
        int refusal = refuseLaw(drawer, list, k);
        if (refusal != FINE) {
            return refusal;
        }
        trial.tryLaw(drawers[drawer], lists[list], k, false);
        return trial.broken;
    }

    public int witness(int drawer, int list, int k) {
        int refusal = refuseLaw(drawer, list, k);
        if (refusal != FINE) {
            return refusal;
        }
        trial.tryLaw(drawers[drawer], lists[list], k, true);
        return trial.firstBreaker;
    }

    // ---- parts

    public int span(int drawer, int bits) {
        int refusal = refuseDrawer(drawer);
        if (refusal != FINE) {
            return refusal;
        }
        Algebra algebra = drawers[drawer];
        return bits < 0 || bits > algebra.allBits() ? OUTSIDE : algebra.closure(bits);
    }

    public int part(int drawer, int k) {
        int refusal = refuseDrawer(drawer);
        if (refusal != FINE) {
            return refusal;
        }
        Algebra algebra = drawers[drawer];
        if (k == NONE) {
            return algebra.partCount();
        }
        int bits = algebra.partBits(k);
        return bits == NONE ? OUTSIDE : bits;
    }

    public int sub(int drawer, int k, int to) {
        int refusal = refuseSource(drawer, to);
        if (refusal != FINE) {
            return refusal;
        }
        int bits = drawers[drawer].partBits(k);
        if (bits == NONE) {
            return OUTSIDE;
        }
        int members = numberMembers(bits, drawers[drawer].size);
        draft.becomeImage(drawers[drawer], members, oldOf, newOf);
        putDraft(to);
        return draft.size;
    }

    // ---- congruences

    public int link(int drawer, int a, int b) {
        int refusal = refuseDrawer(drawer);
        if (refusal != FINE) {
            return refusal;
        }
        Algebra algebra = drawers[drawer];
        if (!algebra.hasElement(a) || !algebra.hasElement(b)) {
            return OUTSIDE;
        }
        congruences.gather(algebra);
        return congruences.joining(a, b);
    }

    public int congruence(int drawer, int k) {
        int refusal = refuseDrawer(drawer);
        if (refusal != FINE) {
            return refusal;
        }
        congruences.gather(drawers[drawer]);
        if (k == NONE) {
            return congruences.found;
        }
        return congruences.has(k) ? congruences.codes[k] : OUTSIDE;
    }

    public int bound(int drawer, int k, int l, boolean up) {
        int refusal = refuseDrawer(drawer);
        if (refusal != FINE) {
            return refusal;
        }
        congruences.gather(drawers[drawer]);
        if (!congruences.has(k) || !congruences.has(l)) {
            return OUTSIDE;
        }
        return up ? congruences.above(k, l) : congruences.below(k, l);
    }

    public int quotient(int drawer, int k, int to) {
        int refusal = refuseSource(drawer, to);
        if (refusal != FINE) {
            return refusal;
        }
        congruences.gather(drawers[drawer]);
        if (!congruences.has(k)) {
            return OUTSIDE;
        }
        congruences.choose(k);
        int classes = numberClasses(congruences.line, drawers[drawer].size);
        draft.becomeImage(drawers[drawer], classes, oldOf, newOf);
        putDraft(to);
        return draft.size;
    }

    // ---- maps

    public int map(int drawer, int other, int what, int k) {
        int refusal = refusePair(drawer, other);
        if (refusal != FINE) {
            return refusal;
        }
        if (what < 0 || what > 3 || k < NONE) {
            return OUTSIDE;
        }
        boolean met = maps.seek(drawers[drawer], drawers[other], what, k);
        if (k == NONE) {
            return maps.found;
        }
        return met ? maps.code : OUTSIDE;
    }

    public int alike(int drawer, int other) {
        int refusal = refusePair(drawer, other);
        if (refusal != FINE) {
            return refusal;
        }
        Algebra first = drawers[drawer];
        Algebra second = drawers[other];
        if (first.size != second.size) {
            return 0;
        }
        if (first.hasLineOf(second)) {
            return 2;
        }
        return maps.seek(first, second, 3, 0) ? 1 : 0;
    }

    public int least(int drawer, int to) {
        int refusal = refuseSource(drawer, to);
        if (refusal != FINE) {
            return refusal;
        }
        Algebra algebra = drawers[drawer];
        leastForm.seek(algebra, false);
        draft.becomeImage(algebra, algebra.size, leastForm.bestBack, leastForm.bestForth);
        putDraft(to);
        return leastForm.selfMaps;
    }

    public int product(int drawer, int other, int to) {
        if (!isDrawer(to)) {
            return OUTSIDE;
        }
        int refusal = refusePair(drawer, other);
        if (refusal != FINE) {
            return refusal;
        }
        Algebra first = drawers[drawer];
        Algebra second = drawers[other];
        if (first.size * second.size > MOST_SIZE) {
            return UNFIT;
        }
        draft.becomeProduct(first, second);
        putDraft(to);
        return draft.size;
    }

    // ---- functions, models

    public int function(int drawer, int k) {
        int refusal = refuseDrawer(drawer);
        if (refusal != FINE) {
            return refusal;
        }
        functions.gather(drawers[drawer]);
        if (functions.tooMany) {
            return MANY;
        }
        if (k == NONE) {
            return functions.found;
        }
        return k < 0 || k >= functions.found ? OUTSIDE : functions.codes[k];
    }

    public int models(int size, int arities, int list, boolean forms) {
        int refusal = refuseModels(size, arities, list);
        if (refusal != FINE) {
            return refusal;
        }
        draft.shape(size, arities);
        modelSearch.seek(draft, lists[list], NONE);
        return forms ? modelSearch.forms : modelSearch.all;
    }

    public int model(int size, int arities, int list, int k, int to) {
        if (!isDrawer(to)) {
            return OUTSIDE;
        }
        int refusal = refuseModels(size, arities, list);
        if (refusal != FINE) {
            return refusal;
        }
        if (k < 0) {
            return OUTSIDE;
        }
        draft.shape(size, arities);
        if (!modelSearch.seek(draft, lists[list], k)) {
            return OUTSIDE;
        }
        putDraft(to);
        return leastForm.selfMaps;
    }

    public int count(int what) {
        switch (what) {
            case 0:
                return tape.length;
            case 1:
                return told.length;
            case 2:
                return history.kept;
            case 3:
                return fullDrawers();
            case 4:
                return fullLists();
            default:
                return OUTSIDE;
        }
    }

    private int fullDrawers() {
        int full = 0;
        for (int i = 0; i < DRAWERS; i++) {
            if (drawers[i].isHeld()) {
                full++;
            }
        }
        return full;
    }

    private int fullLists() {
        int full = 0;
        for (int i = 0; i < LISTS; i++) {
            if (lists[i].isHeld()) {
                full++;
            }
        }
        return full;
    }

    private void putDraft(int drawer) {
        history.keep(drawer, drawers[drawer]);
        drawers[drawer].copyFrom(draft);
    }

    private int numberMembers(int bits, int size) {
        int members = 0;
        for (int e = 0; e < size; e++) {
            newOf[e] = members;
            if (hasBit(bits, e)) {
                oldOf[members] = e;
                members++;
            }
        }
        return members;
    }

    private int numberClasses(int[] line, int size) {
        int classes = 0;
        for (int e = 0; e < size; e++) {
            if (line[e] == e) {
                oldOf[classes] = e;
                newOf[e] = classes;
                classes++;
            } else {
                newOf[e] = newOf[line[e]];
            }
        }
        return classes;
    }

    private static boolean hasBit(int bits, int e) {
        return (bits >> e & 1) != 0;
    }

    private static int encode(int[] line, int size) {
        int code = 0;
        for (int e = 0; e < size; e++) {
            code = code * MOST_SIZE + line[e];
        }
        return code;
    }

    // ---- refusals, each test with its own ones in the document's order

    private static boolean isDrawer(int drawer) {
        return drawer >= 0 && drawer < DRAWERS;
    }

    private static boolean isList(int list) {
        return list >= 0 && list < LISTS;
    }

    private static boolean isShape(int size, int arities) {
        if (size < 1 || size > MOST_SIZE || arities < 0) {
            return false;
        }
        int rest = arities;
        for (int i = 0; i < MOST_OPERATIONS && rest > 0; i++) {
            int digit = rest % 10;
            if (digit < 1 || digit > MOST_ARITY + 1) {
                return false;
            }
            rest /= 10;
        }
        return rest == 0;
    }

    private int refuseDrawer(int drawer) {
        if (!isDrawer(drawer)) {
            return OUTSIDE;
        }
        return drawers[drawer].isHeld() ? FINE : EMPTY;
    }

    private int refuseSource(int drawer, int to) {
        return isDrawer(to) ? refuseDrawer(drawer) : OUTSIDE;
    }

    private int refuseOperation(int drawer, int operation) {
        int refusal = refuseDrawer(drawer);
        if (refusal != FINE) {
            return refusal;
        }
        return operation < 0 || operation >= drawers[drawer].operations ? OUTSIDE : FINE;
    }

    private int refuseBinary(int drawer, int operation) {
        int refusal = refuseOperation(drawer, operation);
        if (refusal != FINE) {
            return refusal;
        }
        return drawers[drawer].arity[operation] == 2 ? FINE : CAST;
    }

    private int refusePair(int drawer, int other) {
        if (!isDrawer(drawer) || !isDrawer(other)) {
            return OUTSIDE;
        }
        if (!drawers[drawer].isHeld() || !drawers[other].isHeld()) {
            return EMPTY;
        }
        return drawers[drawer].arities == drawers[other].arities ? FINE : UNFIT;
    }

    private int refuseTrial(int drawer, int list) {
        if (!isDrawer(drawer) || !isList(list)) {
            return OUTSIDE;
        }
        if (!drawers[drawer].isHeld() || !lists[list].isHeld()) {
            return EMPTY;
        }
        return lists[list].fits(drawers[drawer]) ? FINE : UNFIT;
    }

    private int refuseLaw(int drawer, int list, int k) {
        int refusal = refuseTrial(drawer, list);
        if (refusal != FINE) {
            return refusal;
        }
        return k < 0 || k >= lists[list].lawCount ? OUTSIDE : FINE;
    }

    private int refuseModels(int size, int arities, int list) {
        if (!isList(list)) {
            return OUTSIDE;
        }
        if (!lists[list].isHeld()) {
            return EMPTY;
        }
        if (!isShape(size, arities)) {
            return OUTSIDE;
        }
        draft.shape(size, arities);
        if (!lists[list].fits(draft)) {
            return UNFIT;
        }
        return draft.hasManyTables() ? MANY : FINE;
    }

    /** A row of bytes with a fixed room: the tape, or OUT. */
    private static final class Bytes {
        private final int[] row;
        int length;

        Bytes(int most) {
            row = new int[Math.max(most, 0)];
        }

        boolean hasRoom(int more) {
            return length + more <= row.length;
        }

        void addByte(int value) {
            if (hasRoom(1)) {
                row[length] = value & 255;
                length++;
            }
        }

        void addNumber(int number) {
            for (int shift = 24; shift >= 0; shift -= 8) {
                addByte(number >>> shift);
            }
        }

        int byteAt(int i) {
            return i < 0 || i >= length ? NONE : row[i];
        }
    }

    /** What a drawer has; of size 0 it is nothing. */
    private static final class Algebra {
        int size;
        int operations;
        /** The arities told as a number, kept as it tells at once whether two signatures are one. */
        int arities;
        final int[] arity = new int[MOST_OPERATIONS];
        /** Where the cells of an operation begin; behind the last one: how many cells there are. */
        private final int[] start = new int[MOST_OPERATIONS + 1];
        final int[] cells = new int[MOST_CELLS];

        boolean isHeld() {
            return size > 0;
        }

        void empty() {
            begin(0);
        }

        void begin(int newSize) {
            size = newSize;
            operations = 0;
            arities = 0;
        }

        void addOperation(int newArity) {
            if (operations >= MOST_OPERATIONS) {
                return;
            }
            int digit = newArity + 1;
            for (int i = 0; i < operations; i++) {
                digit *= 10;
            }
            arities += digit;
            arity[operations] = newArity;
            operations++;
            int last = operations - 1;
            start[operations] = start[last] + rows(last) * columns(last);
            Arrays.fill(cells, start[last], start[operations], 0);
        }

        void shape(int newSize, int newArities) {
            begin(newSize);
            int rest = newArities;
            for (int i = 0; i < MOST_OPERATIONS && rest > 0; i++) {
                addOperation(rest % 10 - 1);
                rest /= 10;
            }
        }

        void copyFrom(Algebra other) {
            size = other.size;
            operations = other.operations;
            arities = other.arities;
            System.arraycopy(other.arity, 0, arity, 0, operations);
            System.arraycopy(other.start, 0, start, 0, operations + 1);
            System.arraycopy(other.cells, 0, cells, 0, cellCount());
        }

        int cellCount() {
            return start[operations];
        }

        /** One row and one column stand for the arguments that an operation has not. */
        int rows(int operation) {
            return arity[operation] == 0 ? 1 : size;
        }

        int columns(int operation) {
            return arity[operation] == 2 ? size : 1;
        }

        int spot(int operation, int a, int b) {
            switch (arity[operation]) {
                case 0:
                    return start[operation];
                case 1:
                    return start[operation] + a;
                default:
                    return start[operation] + a * size + b;
            }
        }

        int value(int operation, int a, int b) {
            return cells[spot(operation, a, b)];
        }

        boolean hasElement(int a) {
            return a >= 0 && a < size;
        }

        boolean hasCell(int operation, int a, int b) {
            return (arity[operation] < 1 || hasElement(a)) && (arity[operation] < 2 || hasElement(b));
        }

        int otherThanZero() {
            int others = 0;
            for (int spot = 0; spot < cellCount(); spot++) {
                if (cells[spot] != 0) {
                    others++;
                }
            }
            return others;
        }

        boolean hasLineOf(Algebra other) {
            if (cellCount() != other.cellCount()) {
                return false;
            }
            for (int spot = 0; spot < cellCount(); spot++) {
                if (cells[spot] != other.cells[spot]) {
                    return false;
                }
            }
            return true;
        }

        boolean hasManyTables() {
            int tables = 1;
            for (int i = 0; i < cellCount(); i++) {
                tables *= size;
                if (tables > MOST_TABLES) {
                    return true;
                }
            }
            return false;
        }

        void write(Bytes target) {
            target.length = 0;
            target.addByte('0' + size);
            for (int operation = 0; operation < operations; operation++) {
                target.addByte(';');
                target.addByte(arity[operation] == 0 ? 'c' : arity[operation] == 1 ? 'u' : 'b');
                for (int spot = start[operation]; spot < start[operation + 1]; spot++) {
                    target.addByte('0' + cells[spot]);
                }
            }
        }

        int traitSum(int operation) {
            int sum = 0;
            sum += isAssociative(operation) ? 1 : 0;
            sum += centreBits(operation) == allBits() ? 2 : 0;
            sum += hasNeutral(operation) ? 4 : 0;
            sum += isLatin(operation) ? 8 : 0;
            sum += isIdempotent(operation) ? 16 : 0;
            sum += isSelfDistributive(operation) ? 32 : 0;
            return sum;
        }

        private boolean isAssociative(int o) {
            for (int a = 0; a < size; a++) {
                for (int b = 0; b < size; b++) {
                    int ab = value(o, a, b);
                    for (int c = 0; c < size; c++) {
                        if (value(o, ab, c) != value(o, a, value(o, b, c))) {
                            return false;
                        }
                    }
                }
            }
            return true;
        }

        private boolean isSelfDistributive(int o) {
            for (int a = 0; a < size; a++) {
                for (int b = 0; b < size; b++) {
                    int ab = value(o, a, b);
                    for (int c = 0; c < size; c++) {
                        if (value(o, a, value(o, b, c)) != value(o, ab, value(o, a, c))) {
                            return false;
                        }
                    }
                }
            }
            return true;
        }

        private boolean hasNeutral(int operation) {
            for (int e = 0; e < size; e++) {
                boolean neutral = true;
                for (int a = 0; a < size && neutral; a++) {
                    neutral = value(operation, e, a) == a && value(operation, a, e) == a;
                }
                if (neutral) {
                    return true;
                }
            }
            return false;
        }

        private boolean isLatin(int operation) {
            for (int a = 0; a < size; a++) {
                int inRow = 0;
                int inColumn = 0;
                for (int b = 0; b < size; b++) {
                    inRow |= 1 << value(operation, a, b);
                    inColumn |= 1 << value(operation, b, a);
                }
                if (inRow != allBits() || inColumn != allBits()) {
                    return false;
                }
            }
            return true;
        }

        private boolean isIdempotent(int operation) {
            for (int a = 0; a < size; a++) {
                if (value(operation, a, a) != a) {
                    return false;
                }
            }
            return true;
        }

        int powerPath(int operation, int a) {
            int seen = 0;
            int power = a;
            int steps = 0;
            for (int i = 0; i < size && !hasBit(seen, power); i++) {
                seen |= 1 << power;
                power = value(operation, power, a);
                steps++;
            }
            int ahead = 0;
            int walker = a;
            for (int i = 0; i < steps && walker != power; i++) {
                walker = value(operation, walker, a);
                ahead++;
            }
            return 10 * ahead + steps - ahead;
        }

        int centreBits(int operation) {
            int bits = 0;
            for (int a = 0; a < size; a++) {
                boolean central = true;
                for (int b = 0; b < size && central; b++) {
                    central = value(operation, a, b) == value(operation, b, a);
                }
                if (central) {
                    bits |= 1 << a;
                }
            }
            return bits;
        }

        int allBits() {
            return (1 << size) - 1;
        }

        /** The elements of bits with the values of operations of them, but not yet the values of those. */
        private int grown(int bits) {
            int wider = bits;
            for (int operation = 0; operation < operations; operation++) {
                int rowBits = arity[operation] == 0 ? 1 : bits;
                int columnBits = arity[operation] == 2 ? bits : 1;
                for (int a = 0; a < size; a++) {
                    if (hasBit(rowBits, a)) {
                        wider |= rowValues(operation, a, columnBits);
                    }
                }
            }
            return wider;
        }

        private int rowValues(int operation, int a, int columnBits) {
            int bits = 0;
            for (int b = 0; b < size; b++) {
                if (hasBit(columnBits, b)) {
                    bits |= 1 << value(operation, a, b);
                }
            }
            return bits;
        }

        int closure(int bits) {
            int closed = bits;
            for (int i = 0; i <= size; i++) {
                closed = grown(closed);
            }
            return closed;
        }

        int partCount() {
            int parts = 0;
            for (int bits = 1; bits <= allBits(); bits++) {
                if (grown(bits) == bits) {
                    parts++;
                }
            }
            return parts;
        }

        int partBits(int k) {
            int parts = 0;
            for (int bits = 1; bits <= allBits() && parts <= k; bits++) {
                if (grown(bits) == bits) {
                    if (parts == k) {
                        return bits;
                    }
                    parts++;
                }
            }
            return NONE;
        }

        /** olds: the old elements that stand for the new ones; news: the new number of each old value. */
        void becomeImage(Algebra source, int newSize, int[] olds, int[] news) {
            shape(newSize, source.arities);
            for (int operation = 0; operation < operations; operation++) {
                for (int a = 0; a < rows(operation); a++) {
                    for (int b = 0; b < columns(operation); b++) {
                        cells[spot(operation, a, b)] = news[source.value(operation, olds[a], olds[b])];
                    }
                }
            }
        }

        void becomeProduct(Algebra first, Algebra second) {
            int inner = second.size;
            if (inner < 1) {
                return;
            }
            shape(first.size * inner, first.arities);
            for (int operation = 0; operation < operations; operation++) {
                for (int a = 0; a < rows(operation); a++) {
                    for (int b = 0; b < columns(operation); b++) {
                        int outerValue = first.value(operation, a / inner, b / inner);
                        int innerValue = second.value(operation, a % inner, b % inner);
                        cells[spot(operation, a, b)] = outerValue * inner + innerValue;
                    }
                }
            }
        }
    }

    /** The latest changes: which drawer, and what it had before. */
    private static final class History {
        private final Algebra[] before = new Algebra[MOST_CHANGES];
        private final int[] drawerOf = new int[MOST_CHANGES];
        private int oldest;
        int kept;

        History() {
            for (int i = 0; i < MOST_CHANGES; i++) {
                before[i] = new Algebra();
            }
        }

        void keep(int drawer, Algebra content) {
            int slot = (oldest + kept) % MOST_CHANGES;
            before[slot].copyFrom(content);
            drawerOf[slot] = drawer;
            if (kept < MOST_CHANGES) {
                kept++;
            } else {
                oldest = (oldest + 1) % MOST_CHANGES;
            }
        }

        int takeBack(Algebra[] drawers) {
            if (kept == 0) {
                return NONE;
            }
            kept--;
            int slot = (oldest + kept) % MOST_CHANGES;
            int drawer = drawerOf[slot];
            drawers[drawer].copyFrom(before[slot]);
            return drawer;
        }
    }

    /** The laws of a list; its terms stand in the order of their first signs, so a term's first argument follows it. */
    private static final class LawList {
        int lawCount;
        int sameCount;
        int termCount;
        /** The first same of each law, and behind the last one: how many there are. */
        final int[] lawStart = new int[MOST_LAWS + 1];
        /** The variables that stand in each law, as bits. */
        final int[] variables = new int[MOST_LAWS];
        /** The first term of each same, which is its left one, and behind the last one: how many there are. */
        final int[] sameStart = new int[MOST_TERMS / 2 + 1];
        final int[] sameRight = new int[MOST_TERMS / 2];
        /** 0, 1, 2 for variables, and VARIABLES more than the operation for letters. */
        final int[] sign = new int[MOST_TERMS];
        final int[] arguments = new int[MOST_TERMS];
        final int[] second = new int[MOST_TERMS];

        boolean isHeld() {
            return lawCount > 0;
        }

        void clear() {
            lawCount = 0;
            sameCount = 0;
            termCount = 0;
            Arrays.fill(variables, 0);
        }

        int addTerm(int newSign) {
            int term = termCount;
            sign[term] = newSign;
            arguments[term] = 0;
            if (newSign < VARIABLES) {
                variables[lawCount] |= 1 << newSign;
            }
            termCount++;
            return term;
        }

        void endSame(int right) {
            sameRight[sameCount] = right;
            sameCount++;
            sameStart[sameCount] = termCount;
        }

        void endLaw() {
            lawCount++;
            lawStart[lawCount] = sameCount;
        }

        boolean fits(Algebra algebra) {
            for (int term = 0; term < termCount; term++) {
                int operation = sign[term] - VARIABLES;
                if (operation >= algebra.operations) {
                    return false;
                }
                if (operation >= 0 && algebra.arity[operation] != arguments[term]) {
                    return false;
                }
            }
            return true;
        }
    }

    /** Reads texts from the tape, which it uses up, and keeps the first fault. */
    private static final class TextReader {
        private static final int WRONG_SIGN = 1, WRONG_ARGUMENTS = 2, TOO_DEEP = 3, TOO_LONG = 4;
        private static final int WRONG_DIGIT = 2, FIFTH_OPERATION = 3;

        int faultKind;
        int faultPlace;
        private Bytes text;
        private int at;
        private LawList list;
        private final int[] signs = new int[MOST_TAPE + 1];
        private final int[] signPlace = new int[MOST_TAPE + 1];
        private final int[] termPlace = new int[MOST_TERMS];
        private final int[] argumentsOf = new int[MOST_OPERATIONS];

        private void begin(Bytes tape) {
            text = tape;
            at = 0;
            faultKind = 0;
            faultPlace = 0;
        }

        /** Answers false, so that whatever reads can end with it. */
        private boolean failAt(int place, int kind) {
            faultKind = kind;
            faultPlace = place;
            return false;
        }

        /** A refused call uses up the tape but reads no text, so the fault stays that of the text read latest. */
        void passOver(Bytes tape) {
            tape.length = 0;
        }

        void readAlgebra(Bytes tape, Algebra into) {
            begin(tape);
            readTables(into);
            tape.length = 0;
        }

        private void readTables(Algebra into) {
            int size = text.byteAt(0) - '0';
            if (size < 1 || size > MOST_SIZE) {
                failAt(0, WRONG_SIGN);
                return;
            }
            into.begin(size);
            at = 1;
            boolean good = true;
            for (int i = 0; i <= MOST_OPERATIONS && good && at < text.length; i++) {
                good = readOperation(into);
            }
        }

        private boolean readOperation(Algebra into) {
            if (text.byteAt(at) != ';') {
                return failAt(at, WRONG_SIGN);
            }
            if (into.operations >= MOST_OPERATIONS) {
                return failAt(at, FIFTH_OPERATION);
            }
            at++;
            int arity = arityOf(text.byteAt(at));
            if (arity == NONE) {
                return failAt(at, WRONG_SIGN);
            }
            at++;
            int firstSpot = into.cellCount();
            into.addOperation(arity);
            boolean good = true;
            for (int spot = firstSpot; spot < into.cellCount() && good; spot++) {
                good = readCell(into, spot);
            }
            return good;
        }

        private static int arityOf(int sign) {
            switch (sign) {
                case 'c':
                    return 0;
                case 'u':
                    return 1;
                case 'b':
                    return 2;
                default:
                    return NONE;
            }
        }

        private boolean readCell(Algebra into, int spot) {
            int digit = text.byteAt(at) - '0';
            if (digit < 0 || digit > 9) {
                return failAt(at, WRONG_SIGN);
            }
            if (digit >= into.size) {
                return failAt(at, WRONG_DIGIT);
            }
            into.cells[spot] = digit;
            at++;
            return true;
        }

        void readLaws(Bytes tape, LawList into) {
            begin(tape);
            gatherSigns();
            list = into;
            list.clear();
            boolean good = true;
            boolean more = true;
            for (int i = 0; i <= MOST_LAWS && good && more; i++) {
                good = readLaw();
                more = good && takes(';');
            }
            if (good && signs[at] != NONE) {
                good = failHere(WRONG_SIGN);
            }
            if (good) {
                compareArguments();
            }
            tape.length = 0;
        }

        /** The bytes without blanks, and behind the last one NONE, whose place is the number of bytes. */
        private void gatherSigns() {
            int gathered = 0;
            for (int i = 0; i < text.length; i++) {
                int sign = text.byteAt(i);
                if (sign != ' ' && sign != '\n') {
                    signs[gathered] = sign;
                    signPlace[gathered] = i;
                    gathered++;
                }
            }
            signs[gathered] = NONE;
            signPlace[gathered] = text.length;
        }

        private boolean failHere(int kind) {
            return failAt(signPlace[at], kind);
        }

        private boolean takes(int sign) {
            if (signs[at] != sign) {
                return false;
            }
            at++;
            return true;
        }

        private boolean readLaw() {
            if (!readSame()) {
                return false;
            }
            if (signs[at] == '&' || signs[at] == '>') {
                for (int i = 0; i < MOST_TERMS && takes('&'); i++) {
                    if (!readSame()) {
                        return false;
                    }
                }
                if (!takes('>')) {
                    return failHere(WRONG_SIGN);
                }
                if (!readSame()) {
                    return false;
                }
            }
            list.endLaw();
            return true;
        }

        private boolean readSame() {
            if (!readTerm(0)) {
                return false;
            }
            if (!takes('=')) {
                return failHere(WRONG_SIGN);
            }
            int right = list.termCount;
            if (!readTerm(0)) {
                return false;
            }
            list.endSame(right);
            return true;
        }

        private boolean readTerm(int within) {
            int sign = termSign(signs[at]);
            if (sign == NONE) {
                return failHere(WRONG_SIGN);
            }
            if (within >= MOST_WITHIN) {
                return failHere(TOO_DEEP);
            }
            if (list.lawCount >= MOST_LAWS || list.termCount >= MOST_TERMS) {
                return failHere(TOO_LONG);
            }
            int term = list.addTerm(sign);
            termPlace[term] = signPlace[at];
            at++;
            return sign < VARIABLES || !takes('(') || readArguments(term, within + 1);
        }

        private boolean readArguments(int term, int within) {
            if (!readTerm(within)) {
                return false;
            }
            list.arguments[term] = 1;
            if (takes(',')) {
                list.second[term] = list.termCount;
                if (!readTerm(within)) {
                    return false;
                }
                list.arguments[term] = 2;
            }
            return takes(')') || failHere(WRONG_SIGN);
        }

        private static int termSign(int sign) {
            if (sign >= 'x' && sign <= 'z') {
                return sign - 'x';
            }
            return sign >= 'a' && sign <= 'd' ? sign - 'a' + VARIABLES : NONE;
        }

        private void compareArguments() {
            Arrays.fill(argumentsOf, NONE);
            for (int term = 0; term < list.termCount; term++) {
                int letter = list.sign[term] - VARIABLES;
                if (letter < 0) {
                    continue;
                }
                if (argumentsOf[letter] == NONE) {
                    argumentsOf[letter] = list.arguments[term];
                }
                if (argumentsOf[letter] != list.arguments[term]) {
                    failAt(termPlace[term], WRONG_ARGUMENTS);
                    return;
                }
            }
        }
    }

    /** Tries laws by assignments. */
    private static final class LawTrial {
        /** How many assignments do not keep the law that was tried, and the first of them. */
        int broken;
        int firstBreaker;
        /** The last cell that the latest assignment looked at: no later cell has a say in its answer. */
        int reach;
        private final int[] given = new int[VARIABLES];
        private final int[] values = new int[MOST_TERMS];

        int firstBroken(Algebra algebra, LawList list) {
            for (int law = 0; law < list.lawCount; law++) {
                tryLaw(algebra, list, law, true);
                if (broken > 0) {
                    return law;
                }
            }
            return NONE;
        }

        void tryLaw(Algebra algebra, LawList list, int law, boolean onlyFirst) {
            broken = 0;
            firstBreaker = NONE;
            int variables = list.variables[law];
            int xs = hasBit(variables, 0) ? algebra.size : 1;
            int ys = hasBit(variables, 1) ? algebra.size : 1;
            int zs = hasBit(variables, 2) ? algebra.size : 1;
            for (int x = 0; x < xs; x++) {
                for (int y = 0; y < ys; y++) {
                    for (int z = 0; z < zs; z++) {
                        given[0] = x;
                        given[1] = y;
                        given[2] = z;
                        if (keepsLaw(algebra, list, law)) {
                            continue;
                        }
                        broken++;
                        if (broken == 1) {
                            firstBreaker = 49 * x + 7 * y + z;
                        }
                        if (onlyFirst) {
                            return;
                        }
                    }
                }
            }
        }

        private boolean keepsLaw(Algebra algebra, LawList list, int law) {
            reach = NONE;
            int last = list.lawStart[law + 1] - 1;
            for (int same = list.lawStart[law]; same < last; same++) {
                if (!agrees(algebra, list, same)) {
                    return true;
                }
            }
            return agrees(algebra, list, last);
        }

        /** From the last term back, as the arguments of a term stand behind it. */
        private boolean agrees(Algebra algebra, LawList list, int same) {
            int left = list.sameStart[same];
            for (int term = list.sameStart[same + 1] - 1; term >= left; term--) {
                int sign = list.sign[term];
                if (sign < VARIABLES) {
                    values[term] = given[sign];
                } else {
                    int a = list.arguments[term] > 0 ? values[term + 1] : 0;
                    int b = list.arguments[term] > 1 ? values[list.second[term]] : 0;
                    int spot = algebra.spot(sign - VARIABLES, a, b);
                    reach = Math.max(reach, spot);
                    values[term] = algebra.cells[spot];
                }
            }
            return values[left] == values[list.sameRight[same]];
        }
    }

    /** The congruences of an algebra, their lines told as numbers, in order. */
    private static final class Congruences {
        final int[] codes = new int[MOST_PARTITIONS];
        int found;
        /** The partition that is looked at. */
        final int[] line = new int[MOST_SIZE];
        private final int[] otherLine = new int[MOST_SIZE];
        private Algebra algebra;

        void gather(Algebra source) {
            algebra = source;
            found = 0;
            Arrays.fill(line, 0);
            boolean more = true;
            for (int i = 0; i < MOST_PARTITIONS && more; i++) {
                if (clash() == NONE) {
                    codes[found] = encode(line, algebra.size);
                    found++;
                }
                more = nextPartition();
            }
        }

        /** The next line has a later class at the last place that can have one; the least one, 0, stands behind it. */
        private boolean nextPartition() {
            for (int e = algebra.size - 1; e > 0; e--) {
                if (line[e] != e) {
                    int leader = line[e] + 1;
                    while (leader < e && line[leader] != leader) {
                        leader++;
                    }
                    line[e] = leader;
                    return true;
                }
                line[e] = 0;
            }
            return false;
        }

        /** Two values, as 7 x + y, that must be of one class by an operation and are not; NONE: a congruence. */
        private int clash() {
            for (int e = 1; e < algebra.size; e++) {
                if (line[e] == e) {
                    continue;
                }
                for (int operation = 0; operation < algebra.operations; operation++) {
                    int pair = clashOf(operation, e, line[e]);
                    if (pair != NONE) {
                        return pair;
                    }
                }
            }
            return NONE;
        }

        /** One argument at a time is enough, as classes are chained. */
        private int clashOf(int operation, int e, int leader) {
            int others = algebra.columns(operation);
            for (int b = 0; b < others; b++) {
                int v = algebra.value(operation, e, b);
                int w = algebra.value(operation, leader, b);
                if (line[v] != line[w]) {
                    return MOST_SIZE * v + w;
                }
                if (algebra.arity[operation] == 2) {
                    v = algebra.value(operation, b, e);
                    w = algebra.value(operation, b, leader);
                    if (line[v] != line[w]) {
                        return MOST_SIZE * v + w;
                    }
                }
            }
            return NONE;
        }

        boolean has(int k) {
            return k >= 0 && k < found;
        }

        void choose(int k) {
            decode(codes[k], line);
        }

        private void decode(int code, int[] into) {
            int rest = code;
            for (int e = algebra.size - 1; e >= 0; e--) {
                into[e] = rest % MOST_SIZE;
                rest /= MOST_SIZE;
            }
        }

        private int number() {
            int code = encode(line, algebra.size);
            for (int k = 0; k < found; k++) {
                if (codes[k] == code) {
                    return k;
                }
            }
            return NONE;
        }

        private void join(int a, int b) {
            int leader = Math.min(line[a], line[b]);
            int joined = Math.max(line[a], line[b]);
            for (int e = 0; e < algebra.size; e++) {
                if (line[e] == joined) {
                    line[e] = leader;
                }
            }
        }

        int joining(int a, int b) {
            for (int e = 0; e < algebra.size; e++) {
                line[e] = e;
            }
            join(a, b);
            for (int i = 0; i < MOST_SIZE; i++) {
                int pair = clash();
                if (pair == NONE) {
                    break;
                }
                join(pair / MOST_SIZE, pair % MOST_SIZE);
            }
            return number();
        }

        /** What either joins, chained: by this all operations go, as they go by both. */
        int above(int k, int l) {
            choose(k);
            decode(codes[l], otherLine);
            for (int e = 0; e < algebra.size; e++) {
                join(e, otherLine[e]);
            }
            return number();
        }

        int below(int k, int l) {
            choose(k);
            decode(codes[l], otherLine);
            for (int e = algebra.size - 1; e >= 0; e--) {
                int leader = 0;
                while (leader < e && (line[leader] != line[e] || otherLine[leader] != otherLine[e])) {
                    leader++;
                }
                line[e] = leader;
            }
            return number();
        }
    }

    /** Seeks the maps of one algebra to another in the order of their lines. */
    private static final class MapSearch {
        int found;
        /** The line, told as a number, of the map that was wanted. */
        int code;
        private Algebra from;
        private Algebra to;
        private int wanted;
        private boolean noTwoAlike;
        private boolean eachThere;
        private boolean met;
        private final int[] line = new int[MOST_SIZE];
        /** The cells of from, by the greatest element among arguments and value: they can be tried when it has its own. */
        private final int[] operationOf = new int[MOST_CELLS];
        private final int[] firstOf = new int[MOST_CELLS];
        private final int[] secondOf = new int[MOST_CELLS];
        private final int[] valueOf = new int[MOST_CELLS];
        private final int[] until = new int[MOST_SIZE];
        private int sorted;

        /** Whether map k is there; k NONE: all are counted. */
        boolean seek(Algebra source, Algebra target, int what, int k) {
            from = source;
            to = target;
            wanted = k;
            noTwoAlike = (what & 1) != 0;
            eachThere = (what & 2) != 0;
            met = false;
            found = 0;
            sortCells();
            extend(0, 0);
            return met;
        }

        private void sortCells() {
            sorted = 0;
            for (int e = 0; e < from.size; e++) {
                for (int operation = 0; operation < from.operations; operation++) {
                    sortCellsOf(operation, e);
                }
                until[e] = sorted;
            }
        }

        private void sortCellsOf(int operation, int greatest) {
            for (int a = 0; a < from.rows(operation); a++) {
                for (int b = 0; b < from.columns(operation); b++) {
                    int v = from.value(operation, a, b);
                    if (Math.max(v, Math.max(a, b)) == greatest) {
                        operationOf[sorted] = operation;
                        firstOf[sorted] = a;
                        secondOf[sorted] = b;
                        valueOf[sorted] = v;
                        sorted++;
                    }
                }
            }
        }

        private void extend(int e, int used) {
            if (e >= from.size) {
                meet();
                return;
            }
            for (int v = 0; v < to.size && !met; v++) {
                give(e, v, used);
            }
        }

        /** Goes on with the next element, if the line can still become a map. */
        private void give(int e, int v, int used) {
            int nowUsed = used | 1 << v;
            int left = from.size - 1 - e;
            if (noTwoAlike && nowUsed == used || eachThere && to.size - Integer.bitCount(nowUsed) > left) {
                return;
            }
            line[e] = v;
            if (keepsCells(e)) {
                extend(e + 1, nowUsed);
            }
        }

        private boolean keepsCells(int e) {
            for (int i = e == 0 ? 0 : until[e - 1]; i < until[e]; i++) {
                int there = to.value(operationOf[i], line[firstOf[i]], line[secondOf[i]]);
                if (there != line[valueOf[i]]) {
                    return false;
                }
            }
            return true;
        }

        private void meet() {
            if (found == wanted) {
                code = encode(line, from.size);
                met = true;
            }
            found++;
        }
    }

    /** Tries all numberings of an algebra's elements for the one whose line is first. */
    private static final class LeastForm {
        /** New element i was bestBack[i]; the old one a becomes bestForth[a]. */
        final int[] bestBack = new int[MOST_SIZE];
        final int[] bestForth = new int[MOST_SIZE];
        /** How many numberings give the best line: as many as there are maps of what 3 to itself. */
        int selfMaps;
        /** The last cell that the latest comparison looked at: no later cell has a say in its answer. */
        int reach;
        private final int[] back = new int[MOST_SIZE];
        private final int[] forth = new int[MOST_SIZE];

        /** Whether the algebra is its own least form; with onlyAsk it stops at the first lesser line. */
        boolean seek(Algebra algebra, boolean onlyAsk) {
            for (int e = 0; e < MOST_SIZE; e++) {
                back[e] = e;
                forth[e] = e;
            }
            keepBest();
            selfMaps = 0;
            boolean own = true;
            boolean more = true;
            for (int i = 0; i < MOST_NUMBERINGS && more; i++) {
                int order = compareWithBest(algebra);
                if (order < 0) {
                    own = false;
                    if (onlyAsk) {
                        return false;
                    }
                    keepBest();
                    selfMaps = 1;
                } else if (order == 0) {
                    selfMaps++;
                }
                more = nextNumbering(algebra.size);
            }
            return own;
        }

        private void keepBest() {
            System.arraycopy(back, 0, bestBack, 0, MOST_SIZE);
            System.arraycopy(forth, 0, bestForth, 0, MOST_SIZE);
        }

        private int compareWithBest(Algebra algebra) {
            reach = NONE;
            for (int operation = 0; operation < algebra.operations; operation++) {
                for (int a = 0; a < algebra.rows(operation); a++) {
                    for (int b = 0; b < algebra.columns(operation); b++) {
                        int spot = algebra.spot(operation, back[a], back[b]);
                        int bestSpot = algebra.spot(operation, bestBack[a], bestBack[b]);
                        reach = Math.max(reach, Math.max(spot, bestSpot));
                        int order = forth[algebra.cells[spot]] - bestForth[algebra.cells[bestSpot]];
                        if (order != 0) {
                            return order;
                        }
                    }
                }
            }
            return 0;
        }

        private boolean nextNumbering(int size) {
            int pivot = size - 2;
            while (pivot >= 0 && back[pivot] > back[pivot + 1]) {
                pivot--;
            }
            if (pivot < 0) {
                return false;
            }
            int greater = size - 1;
            while (greater > pivot && back[greater] < back[pivot]) {
                greater--;
            }
            swap(pivot, greater);
            for (int i = pivot + 1, j = size - 1; i < j; i++, j--) {
                swap(i, j);
            }
            for (int e = pivot; e < size; e++) {
                forth[back[e]] = e;
            }
            return true;
        }

        private void swap(int i, int j) {
            int held = back[i];
            back[i] = back[j];
            back[j] = held;
        }
    }

    /** The functions that terms with x alone tell; their lines are told as numbers, in order. */
    private static final class TermFunctions {
        final int[] codes = new int[MOST_FUNCTIONS];
        int found;
        boolean tooMany;
        /** The lines in the order in which they were found, each MOST_SIZE long. */
        private final int[] lines = new int[MOST_FUNCTIONS * MOST_SIZE];
        private final int[] line = new int[MOST_SIZE];
        private Algebra algebra;

        void gather(Algebra source) {
            algebra = source;
            found = 0;
            tooMany = false;
            for (int e = 0; e < algebra.size; e++) {
                line[e] = e;
            }
            addLine();
            // found grows meanwhile, so it alone would be no bound
            for (int i = 0; i < MOST_FUNCTIONS && i < found && !tooMany; i++) {
                for (int operation = 0; operation < algebra.operations; operation++) {
                    combineUpTo(operation, i);
                }
            }
        }

        /** With all that were found ahead of it; later ones meet it when their own turn comes. */
        private void combineUpTo(int operation, int i) {
            if (algebra.arity[operation] < 2) {
                combine(operation, i, i);
                return;
            }
            for (int j = 0; j <= i && !tooMany; j++) {
                combine(operation, i, j);
                combine(operation, j, i);
            }
        }

        private void combine(int operation, int i, int j) {
            int first = i * MOST_SIZE;
            int second = j * MOST_SIZE;
            for (int e = 0; e < algebra.size; e++) {
                line[e] = algebra.value(operation, lines[first + e], lines[second + e]);
            }
            addLine();
        }

        private void addLine() {
            int code = encode(line, algebra.size);
            int place = placeOf(code);
            if (place < found && codes[place] == code) {
                return;
            }
            if (found >= MOST_FUNCTIONS) {
                tooMany = true;
                return;
            }
            System.arraycopy(codes, place, codes, place + 1, found - place);
            codes[place] = code;
            System.arraycopy(line, 0, lines, found * MOST_SIZE, algebra.size);
            found++;
        }

        /** How many codes are lesser. */
        private int placeOf(int code) {
            int low = 0;
            int high = found;
            for (int i = 0; i < MOST_FUNCTIONS && low < high; i++) {
                int middle = (low + high) / 2;
                if (codes[middle] < code) {
                    low = middle + 1;
                } else {
                    high = middle;
                }
            }
            return low;
        }
    }

    /** Goes through the tables of one shape in the order of their lines. */
    private static final class ModelSearch {
        private static final int[] NUMBERINGS = {1, 1, 2, 6, 24, 120, 720, 5040};

        int forms;
        int all;
        private final LeastForm leastForm;
        private final LawTrial trial;

        ModelSearch(LeastForm leastForm, LawTrial trial) {
            this.leastForm = leastForm;
            this.trial = trial;
        }

        /**
         * Whether form k is there, which the table then is; k NONE: all are counted. Each form stands for the
         * models alike with it: as many as there are numberings for each of its maps to itself.
         */
        boolean seek(Algebra table, LawList list, int k) {
            forms = 0;
            all = 0;
            boolean more = true;
            for (int i = 0; i < MOST_TABLES && more; i++) {
                boolean broken = trial.firstBroken(table, list) != NONE;
                if (broken || !leastForm.seek(table, true)) {
                    // whatever tables have the same cells as far as this was looked at are no forms either
                    more = advance(table, broken ? trial.reach : leastForm.reach);
                    continue;
                }
                if (forms == k) {
                    return true;
                }
                forms++;
                if (leastForm.selfMaps > 0) {
                    all += NUMBERINGS[table.size] / leastForm.selfMaps;
                }
                more = advance(table, table.cellCount() - 1);
            }
            return false;
        }

        /** The first table in order that differs from this one at a place or ahead of it. */
        private boolean advance(Algebra table, int place) {
            Arrays.fill(table.cells, place + 1, table.cellCount(), 0);
            for (int spot = place; spot >= 0; spot--) {
                if (table.cells[spot] + 1 < table.size) {
                    table.cells[spot]++;
                    return true;
                }
                table.cells[spot] = 0;
            }
            return false;
        }
    }
}
