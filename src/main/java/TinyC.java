import java.util.Arrays;

/**
 * A small C: its reader, a maker of code for a machine with a stack, that machine, and another one
 * that runs the text by itself, step by step.
 */
public final class TinyC {
    private static final int MOST_CELLS = 4096;
    private static final int MOST_OPEN = 40;
    private static final int MOST_PARAMETERS = 8;
    private static final int MOST_ITEMS = 1000;
    private static final int GREATEST = 2147483647;
    private static final int MOST_DIGITS = 10;
    private static final int MOST_LETTERS = 8;
    private static final int CELLS_EACH = 4;
    /** No item of the text's own machine brings more ITEMS at once than a call: its end and eight parts. */
    private static final int SPARE_ITEMS = 16;
    /** Forty open levels with ten ranks of signs each need fewer. */
    private static final int OPEN_SIGNS = 512;

    private static final int NO_CODE = -1;
    private static final int OTHER_BEGAN = -2;

    private static final int GOING = 0;
    private static final int HALTED = 1;
    private static final int ZERO = 2;
    private static final int PLACE = 3;
    private static final int ROOM = 4;
    private static final int INPUT = 5;
    private static final int OUTPUT = 6;

    private static final int NO_TOKEN = 1;
    private static final int CANNOT_STAND = 2;
    private static final int UNKNOWN = 3;
    private static final int TOLD_TWICE = 4;
    private static final int MISUSED = 5;
    private static final int PARTS = 6;
    private static final int NO_MAIN = 7;
    private static final int TOO_DEEP = 8;
    private static final int NO_TREE = 9;
    private static final int NO_CELLS = 10;
    private static final int TOO_GREAT = 11;

    /* Instructions; the signs of two parts have, as tokens, the numbers of theirs. */
    private static final int END_ALL = 0;
    private static final int CONSTANT = 1;
    private static final int LOAD_GLOBAL = 2;
    private static final int STORE_GLOBAL = 3;
    private static final int LOAD_LOCAL = 4;
    private static final int STORE_LOCAL = 5;
    private static final int LOAD_ITEM = 6;
    private static final int STORE_ITEM = 7;
    private static final int AND_ALSO = 8;
    private static final int OR_ELSE = 9;
    private static final int BIT_OR = 10;
    private static final int BIT_XOR = 11;
    private static final int BIT_AND = 12;
    private static final int EQUAL = 13;
    private static final int UNEQUAL = 14;
    private static final int LESS = 15;
    private static final int AT_MOST = 16;
    private static final int GREATER = 17;
    private static final int AT_LEAST = 18;
    private static final int LEFT = 19;
    private static final int RIGHT = 20;
    private static final int PLUS = 21;
    private static final int MINUS = 22;
    private static final int TIMES = 23;
    private static final int NEGATE = 24;
    private static final int NOT = 25;
    private static final int FLIP = 26;
    private static final int DIVIDE = 27;
    private static final int REST = 28;
    private static final int JUMP = 30;
    private static final int JUMP_IF_ZERO = 31;
    private static final int CALL = 32;
    private static final int LEAVE = 33;
    private static final int WRITE = 34;
    private static final int TAKE_INPUT = 35;
    private static final int DROP = 36;
    private static final int CLEAR = 37;

    /** How tightly the sign with an instruction's number binds two parts; 0: it doesn't. */
    private static final int[] RANKS = {
        0, 0, 0, 0, 0, 0, 0, 0, 2, 1, 3, 4, 5, 6, 6, 7, 7, 7, 7, 8, 8, 9, 9, 10, 0, 0, 0, 10, 10
    };

    /* Tokens that are no signs of an E. */
    private static final int STOPPED = -1;
    private static final int NAME = 40;
    private static final int NUMBER = 41;
    private static final int INT = 42;
    private static final int IF = 43;
    private static final int ELSE = 44;
    private static final int WHILE = 45;
    private static final int RETURN = 46;
    private static final int PRINT = 47;
    private static final int READ = 48;
    private static final int OPEN = 49;
    private static final int SHUT = 50;
    private static final int OPEN_BRACE = 51;
    private static final int SHUT_BRACE = 52;
    private static final int OPEN_INDEX = 53;
    private static final int SHUT_INDEX = 54;
    private static final int COMMA = 55;
    private static final int SEMICOLON = 56;
    private static final int ASSIGN = 57;
    private static final int TEXT_END = 58;

    /* Words are packed, a byte for each letter. */
    private static final long MAIN = 0x6d61696eL;
    private static final long[] KEYWORDS = {
        0x696e74L, 0x6966L, 0x656c7365L, 0x7768696c65L, 0x72657475726eL, 0x7072696e74L, 0x72656164L
    };

    private final Scan scan;
    private final Reader reader;
    private final Tape tape;
    private final Machine machine;
    private final Walker walker;
    private Program program;
    /** What compile() fills, so that a text that is wrong changes nothing. */
    private Program spare;

    public TinyC(int textCells, int astCells, int codeCells, int memCells, int ioCells) {
        int text = clip(textCells);
        int memory = clip(memCells);
        scan = new Scan(text);
        reader = new Reader(new Desk(scan, new Names(text), clip(astCells)));
        program = new Program(text, clip(codeCells));
        spare = new Program(text, clip(codeCells));
        tape = new Tape(clip(ioCells));
        machine = new Machine(memory, tape);
        walker = new Walker(memory, tape);
        machine.begin(program);
        walker.begin(program);
    }

    private static int clip(int cells) {
        return Math.max(0, Math.min(cells, MOST_CELLS));
    }

    public int feed(int c) {
        return scan.put(c) ? 0 : 1;
    }

    public int compile() {
        int wrong = reader.readAll(spare);
        if (wrong != 0) {
            return wrong;
        }
        Program made = spare;
        spare = program;
        program = made;
        beginAgain();
        return 0;
    }

    public int input(int w) {
        return tape.putInput(w) ? 0 : 1;
    }

    public int step() {
        return goOnMachine(1);
    }

    public int run(int fuel) {
        return goOnMachine(fuel);
    }

    public int interpret(int fuel) {
        if (!program.ready) {
            return NO_CODE;
        }
        if (machine.began) {
            return OTHER_BEGAN;
        }
        return walker.goOn(fuel);
    }

    public void reset() {
        beginAgain();
    }

    public int outSize() {
        return tape.outputSize;
    }

    public int out(int i) {
        return tape.outputAt(i);
    }

    public int codeSize() {
        return program.code.size;
    }

    public int codeAt(int i) {
        return program.code.at(i);
    }

    private int goOnMachine(int fuel) {
        if (!program.ready) {
            return NO_CODE;
        }
        if (walker.began) {
            return OTHER_BEGAN;
        }
        return machine.goOn(fuel);
    }

    private void beginAgain() {
        tape.rewind();
        machine.begin(program);
        walker.begin(program);
    }

    private static boolean dividesByZero(int sign, int y) {
        return (sign == DIVIDE || sign == REST) && y == 0;
    }

    private static int ofOne(int sign, int x) {
        if (sign == NEGATE) {
            return -x;
        }
        if (sign == NOT) {
            return x == 0 ? 1 : 0;
        }
        return ~x;
    }

    private static int ofTwo(int sign, int x, int y) {
        switch (sign) {
            case BIT_OR: return x | y;
            case BIT_XOR: return x ^ y;
            case BIT_AND: return x & y;
            case LEFT: return x << (y & 31);
            case RIGHT: return x >> (y & 31);
            case PLUS: return x + y;
            case MINUS: return x - y;
            case TIMES: return x * y;
            case DIVIDE: return y == 0 ? 0 : x / y;
            case REST: return y == 0 ? 0 : x % y;
            default: return compares(sign, x, y) ? 1 : 0;
        }
    }

    private static boolean compares(int sign, int x, int y) {
        switch (sign) {
            case EQUAL: return x == y;
            case UNEQUAL: return x != y;
            case LESS: return x < y;
            case AT_MOST: return x <= y;
            case GREATER: return x > y;
            case AT_LEAST: return x >= y;
            default: return false;
        }
    }

    /** The text, the token that has been come to, and the first thing that is wrong. */
    private static final class Scan {
        private final int[] text;
        private int size;
        private int end;
        private int kind;
        private int place;
        private long word;
        private long number;
        private int wrong;

        private Scan(int cells) {
            text = new int[cells];
        }

        private boolean put(int sign) {
            if (size >= text.length) {
                return false;
            }
            text[size] = sign;
            size++;
            return true;
        }

        private void begin() {
            wrong = 0;
            end = 0;
            come();
        }

        /** Only the first fault counts; from then on there are no tokens, so that all reading ends. */
        private void fail(int fault, int at) {
            if (wrong == 0) {
                wrong = fault + 16 * at;
            }
            kind = STOPPED;
        }

        private void failHere(int fault) {
            if (wrong == 0) {
                wrong = fault + 16 * place;
            }
            kind = STOPPED;
        }

        private void need(int due) {
            if (kind != due) {
                failHere(CANNOT_STAND);
            }
        }

        private void pass(int due) {
            need(due);
            come();
        }

        private void come() {
            if (wrong != 0) {
                return;
            }
            skipBlanks();
            place = end;
            if (end >= size) {
                kind = TEXT_END;
                return;
            }
            int first = text[end];
            int second = end + 1 < size ? text[end + 1] : 0;
            if (isDigit(first)) {
                kind = comeNumber();
            } else if (isLetter(first)) {
                kind = comeWord();
            } else {
                kind = kindOfPair(first, second);
                end += kind == STOPPED ? 1 : 2;
                kind = kind == STOPPED ? kindOfSign(first) : kind;
            }
            if (kind == STOPPED) {
                fail(NO_TOKEN, place);
            }
        }

        private void skipBlanks() {
            while (end < size && (text[end] == ' ' || text[end] == '\n')) {
                end++;
            }
        }

        private int comeNumber() {
            number = 0;
            while (end < size && text[end] >= '0' && text[end] <= '9') {
                if (end - place < MOST_DIGITS) {
                    number = number * 10 + (text[end] - '0');
                }
                end++;
            }
            return end - place > MOST_DIGITS ? STOPPED : NUMBER;
        }

        private int comeWord() {
            word = 0;
            for (; end < size; end++) {
                int sign = text[end];
                // a capital letter with this bit is a small one
                int small = sign | 32;
                boolean letter = small >= 'a' && small <= 'z' || sign == '_';
                if (!letter && (sign < '0' || sign > '9')) {
                    break;
                }
                word = word << 8 | sign;
            }
            if (end - place > MOST_LETTERS) {
                return STOPPED;
            }
            for (int i = 0; i < KEYWORDS.length; i++) {
                if (KEYWORDS[i] == word) {
                    return INT + i;
                }
            }
            return NAME;
        }

        private static int kindOfPair(int first, int second) {
            if (second == '=') {
                switch (first) {
                    case '=': return EQUAL;
                    case '!': return UNEQUAL;
                    case '<': return AT_MOST;
                    case '>': return AT_LEAST;
                    default: return STOPPED;
                }
            }
            if (first != second) {
                return STOPPED;
            }
            switch (first) {
                case '|': return OR_ELSE;
                case '&': return AND_ALSO;
                case '<': return LEFT;
                case '>': return RIGHT;
                default: return STOPPED;
            }
        }

        private static int kindOfSign(int sign) {
            switch (sign) {
                case '(': return OPEN;
                case ')': return SHUT;
                case '{': return OPEN_BRACE;
                case '}': return SHUT_BRACE;
                case '[': return OPEN_INDEX;
                case ']': return SHUT_INDEX;
                case ',': return COMMA;
                case ';': return SEMICOLON;
                case '=': return ASSIGN;
                case '|': return BIT_OR;
                case '^': return BIT_XOR;
                case '&': return BIT_AND;
                case '<': return LESS;
                case '>': return GREATER;
                case '+': return PLUS;
                case '-': return MINUS;
                case '*': return TIMES;
                case '/': return DIVIDE;
                case '%': return REST;
                case '!': return NOT;
                case '~': return FLIP;
                default: return STOPPED;
            }
        }

        private static boolean isDigit(int sign) {
            return sign >= '0' && sign <= '9';
        }

        private static boolean isLetter(int sign) {
            return sign >= 'a' && sign <= 'z' || sign >= 'A' && sign <= 'Z' || sign == '_';
        }
    }

    /** The NAMES that are known, the innermost ones last. */
    private static final class Names {
        private static final int VARIABLE = 0;
        private static final int ARRAY = 1;
        private static final int FUNCTION = 2;
        private static final int LOCAL = 3;

        private final long[] words;
        private final int[] sorts;
        /** A global's or a FUNCTION's address, a LOCAL's or a parameter's place. */
        private final int[] places;
        /** How many variables an array has, how many parameters a FUNCTION. */
        private final int[] counts;
        private final int[] nodes;
        private int size;

        private Names(int cells) {
            words = new long[cells];
            sorts = new int[cells];
            places = new int[cells];
            counts = new int[cells];
            nodes = new int[cells];
        }

        private int find(long word, int from) {
            for (int i = size - 1; i >= from && i >= 0; i--) {
                if (words[i] == word) {
                    return i;
                }
            }
            return -1;
        }

        private void add(long word, int sort, int place, int count) {
            if (size < words.length) {
                words[size] = word;
                sorts[size] = sort;
                places[size] = place;
                counts[size] = count;
                nodes[size] = -1;
                size++;
            }
        }

        private void cutTo(int fewer) {
            size = Math.max(0, Math.min(size, fewer));
        }

        private boolean isSort(int name, int sort) {
            return name >= 0 && name < size && sorts[name] == sort;
        }

        private boolean isValue(int name) {
            return name >= 0 && name < size && (sorts[name] == VARIABLE || sorts[name] == LOCAL);
        }

        private int placeOf(int name) {
            return name >= 0 && name < size ? places[name] : 0;
        }

        private int countOf(int name) {
            return name >= 0 && name < size ? counts[name] : 0;
        }

        private int nodeOf(int name) {
            return name >= 0 && name < size ? nodes[name] : -1;
        }

        private void setNode(int name, int node) {
            if (name >= 0 && name < size) {
                nodes[name] = node;
            }
        }

        private void setCount(int name, int count) {
            if (name >= 0 && name < size) {
                counts[name] = count;
            }
        }

        private void setPlace(int name, int place) {
            if (name >= 0 && name < size) {
                places[name] = place;
            }
        }
    }

    /** Cells of code; those beyond the last cell are counted, but not kept. */
    private static final class Code {
        private final int[] cells;
        private int size;

        private Code(int count) {
            cells = new int[count];
        }

        private void add(int instruction) {
            if (size < cells.length) {
                cells[size] = instruction;
            }
            size++;
        }

        private void addWith(int instruction, int first) {
            if (size < cells.length - 1) {
                cells[size] = instruction;
                cells[size + 1] = first;
            }
            size += 2;
        }

        private void addWithTwo(int instruction, int first, int second) {
            if (size < cells.length - 2) {
                cells[size] = instruction;
                cells[size + 1] = first;
                cells[size + 2] = second;
            }
            size += 3;
        }

        private void set(int i, int value) {
            if (i >= 0 && i < cells.length) {
                cells[i] = value;
            }
        }

        private int at(int i) {
            return i >= 0 && i < size && i < cells.length ? cells[i] : -1;
        }

        private boolean fits() {
            return size <= cells.length;
        }
    }

    /** The tree of a text; a node's number is -1 where there is none. */
    private static final class Tree {
        private static final int NOTHING = 0;
        /** a: the value. */
        private static final int VALUE = 1;
        /** a: the address. */
        private static final int GLOBAL = 2;
        /** a: its number in the FRAME. */
        private static final int LOCAL = 3;
        /** a: the address, b: E, c: how many there are. */
        private static final int ITEM = 4;
        private static final int READING = 5;
        /** a: the sign, b: the part. */
        private static final int ONE = 6;
        /** a: the sign, b, c: the parts. */
        private static final int TWO = 7;
        /** a: the FUNCTION's node, b: the last part, whose next is the one ahead of it. */
        private static final int CALLING = 8;
        /** b: the first of its LOCALS and S, whose next is the one behind it. */
        private static final int BLOCK = 9;
        /** b: E, c: S, d: the S behind else. */
        private static final int CHOICE = 10;
        /** b: E, c: S. */
        private static final int LOOP = 11;
        /** b: E. */
        private static final int RETURNING = 12;
        /** b: E. */
        private static final int PRINTING = 13;
        /** a: the address, b: E. */
        private static final int SET_GLOBAL = 14;
        /** a: its number in the FRAME, b: E (a LOCAL may have none). */
        private static final int SET_LOCAL = 15;
        /** a: the address, b: the E in [ ], c: how many there are, d: the E behind =. */
        private static final int SET_ITEM = 16;
        /** b: the call. */
        private static final int CALL_ALONE = 17;
        private static final int EMPTY = 18;
        /** a: how many parameters, b: as of BLOCK, c: how many LOCALS at a time. */
        private static final int FUNCTION = 19;

        private final int[] kinds;
        private final int[] as;
        private final int[] bs;
        private final int[] cs;
        private final int[] ds;
        private final int[] nexts;
        private int size;

        /** Every node has a sign of the text to itself, so there are no more nodes than signs. */
        private Tree(int cells) {
            kinds = new int[cells];
            as = new int[cells];
            bs = new int[cells];
            cs = new int[cells];
            ds = new int[cells];
            nexts = new int[cells];
        }

        private int add(int kind, int a, int b, int c) {
            if (size >= kinds.length) {
                return -1;
            }
            kinds[size] = kind;
            as[size] = a;
            bs[size] = b;
            cs[size] = c;
            ds[size] = -1;
            nexts[size] = -1;
            size++;
            return size - 1;
        }

        private boolean has(int node) {
            return node >= 0 && node < size;
        }

        private int kindOf(int node) {
            return node >= 0 && node < size ? kinds[node] : NOTHING;
        }

        private int aOf(int node) {
            return node >= 0 && node < size ? as[node] : 0;
        }

        private int bOf(int node) {
            return node >= 0 && node < size ? bs[node] : -1;
        }

        private int cOf(int node) {
            return node >= 0 && node < size ? cs[node] : -1;
        }

        private int dOf(int node) {
            return node >= 0 && node < size ? ds[node] : -1;
        }

        private int nextOf(int node) {
            return node >= 0 && node < size ? nexts[node] : -1;
        }

        private void setA(int node, int a) {
            if (node >= 0 && node < size) {
                as[node] = a;
            }
        }

        private void setParts(int node, int b, int c, int d) {
            if (node >= 0 && node < size) {
                bs[node] = b;
                cs[node] = c;
                ds[node] = d;
            }
        }

        private void setNext(int node, int next) {
            if (node >= 0 && node < size) {
                nexts[node] = next;
            }
        }
    }

    /** What compile() makes of a text. */
    private static final class Program {
        private final Tree tree;
        private final Code code;
        private int globals;
        private int main;
        private boolean ready;

        private Program(int textCells, int codeCells) {
            tree = new Tree(textCells);
            code = new Code(codeCells);
            main = -1;
        }

        private void clear() {
            tree.size = 0;
            code.size = 0;
            globals = 0;
            main = -1;
            ready = false;
        }
    }

    /** What both readers, that of S and that of E, have before them. */
    private static final class Desk {
        private final Scan scan;
        private final Names names;
        private final int treeCells;
        private int treeLeft;
        private int open;
        /** How many parameters the FUNCTION that is being read has. */
        private int parameters;

        private Desk(Scan scan, Names names, int treeCells) {
            this.scan = scan;
            this.names = names;
            this.treeCells = treeCells;
        }

        private void begin() {
            names.cutTo(0);
            treeLeft = treeCells;
            open = 0;
            parameters = 0;
        }

        private void takeCells(int at) {
            if (treeLeft < CELLS_EACH) {
                scan.fail(NO_TREE, at);
            } else {
                treeLeft -= CELLS_EACH;
            }
        }

        private void enter() {
            if (open >= MOST_OPEN) {
                scan.failHere(TOO_DEEP);
            } else {
                open++;
            }
        }

        private void leave() {
            open--;
        }

        /** A FRAME has the parameters first, then the LOCALS. */
        private int inFrame(int place) {
            return place < 0 ? place + 2 + parameters : place + parameters;
        }
    }

    /** Reads E, makes its code and its tree; signs wait on a pile until their last part is there. */
    private static final class Expressions {
        private final Desk desk;
        private final Scan scan;
        private final Names names;
        private final int[] signs;
        /** The first part's node of a sign of two parts. */
        private final int[] firsts;
        /** Of && and || the cell that gets an address later. */
        private final int[] holes;
        private int top;
        /** The place of a NAME that is no variable but stands like one; -1: there is none. */
        private int misused;
        private Tree tree;
        private Code code;

        private Expressions(Desk desk) {
            this.desk = desk;
            scan = desk.scan;
            names = desk.names;
            signs = new int[OPEN_SIGNS];
            firsts = new int[OPEN_SIGNS];
            holes = new int[OPEN_SIGNS];
        }

        private void begin(Program program) {
            tree = program.tree;
            code = program.code;
            top = 0;
            misused = -1;
        }

        /**
         * Reads an E up to the token that ends it, which stays; COMMA stands for a call's part, that
         * ends with a bracket, too.
         */
        private int expression(int closer) {
            int base = top;
            int node = -1;
            for (int i = 0; i <= scan.size; i++) {
                openOnes();
                node = operand();
                node = closeOnes(node, base);
                settle(closer);
                int rank = rankOf(scan.kind);
                node = joinAll(node, base, rank);
                if (rank == 0) {
                    break;
                }
                openTwo(node);
                scan.come();
            }
            top = base;
            return node;
        }

        private static int rankOf(int kind) {
            return kind >= 0 && kind < RANKS.length ? RANKS[kind] : 0;
        }

        private void push(int sign, int first, int hole) {
            if (top < signs.length) {
                signs[top] = sign;
                firsts[top] = first;
                holes[top] = hole;
                top++;
            }
        }

        private void openOnes() {
            for (int i = 0; i <= MOST_OPEN; i++) {
                int sign = scan.kind == MINUS ? NEGATE : scan.kind;
                if (sign < NEGATE || sign > FLIP) {
                    return;
                }
                desk.enter();
                desk.takeCells(scan.place);
                push(sign, -1, -1);
                scan.come();
            }
        }

        private int closeOnes(int operand, int base) {
            int node = operand;
            for (int i = top - 1; i >= base && i >= 0 && i < signs.length; i--) {
                if (signs[i] < NEGATE || signs[i] > FLIP) {
                    break;
                }
                code.add(signs[i]);
                node = tree.add(Tree.ONE, signs[i], node, -1);
                desk.leave();
                top = i;
            }
            return node;
        }

        private void settle(int closer) {
            boolean ends = scan.kind == closer || closer == COMMA && scan.kind == SHUT;
            if (!ends && rankOf(scan.kind) == 0) {
                scan.failHere(CANNOT_STAND);
            }
            if (misused >= 0) {
                scan.fail(MISUSED, misused);
                misused = -1;
            }
        }

        private void openTwo(int first) {
            int sign = scan.kind;
            int hole = -1;
            desk.takeCells(scan.place);
            if (sign == AND_ALSO) {
                code.addWith(JUMP_IF_ZERO, 0);
                hole = code.size - 1;
            } else if (sign == OR_ELSE) {
                code.addWith(JUMP_IF_ZERO, code.size + 6);
                code.addWith(CONSTANT, 1);
                code.addWith(JUMP, 0);
                hole = code.size - 1;
            }
            push(sign, first, hole);
        }

        /** Joins the signs of this E that bind at least as tightly as the one that follows. */
        private int joinAll(int last, int base, int rank) {
            int node = last;
            for (int i = top - 1; i >= base && i >= 0 && i < signs.length; i--) {
                int sign = signs[i];
                if (rankOf(sign) < rank) {
                    break;
                }
                if (sign == AND_ALSO || sign == OR_ELSE) {
                    endChoice(sign, holes[i]);
                } else {
                    code.add(sign);
                }
                node = tree.add(Tree.TWO, sign, firsts[i], node);
                top = i;
            }
            return node;
        }

        /** Behind the second part of && and ||: 31 F, 1 1, 30 X, F: 1 0, X: */
        private void endChoice(int sign, int hole) {
            int isZero = code.size + 6;
            int behind = code.size + 8;
            code.addWith(JUMP_IF_ZERO, isZero);
            code.addWith(CONSTANT, 1);
            code.addWith(JUMP, behind);
            code.addWith(CONSTANT, 0);
            code.set(hole, sign == AND_ALSO ? isZero : behind);
        }

        private int operand() {
            switch (scan.kind) {
                case NUMBER: return number();
                case NAME: return named();
                case READ: return reading();
                case OPEN: return bracketed();
                default:
                    scan.failHere(CANNOT_STAND);
                    return -1;
            }
        }

        private int number() {
            desk.takeCells(scan.place);
            if (scan.number > GREATEST) {
                scan.failHere(TOO_GREAT);
            }
            int value = (int) scan.number;
            code.addWith(CONSTANT, value);
            scan.come();
            return tree.add(Tree.VALUE, value, -1, -1);
        }

        private int reading() {
            desk.takeCells(scan.place);
            scan.come();
            scan.need(OPEN);
            desk.enter();
            scan.come();
            scan.need(SHUT);
            desk.leave();
            scan.come();
            code.add(TAKE_INPUT);
            return tree.add(Tree.READING, 0, -1, -1);
        }

        /** Reads ( E ). */
        private int bracketed() {
            scan.need(OPEN);
            desk.enter();
            scan.come();
            int node = expression(SHUT);
            desk.leave();
            scan.come();
            return node;
        }

        private int named() {
            int at = scan.place;
            int name = names.find(scan.word, 0);
            if (name < 0) {
                scan.fail(UNKNOWN, at);
            }
            desk.takeCells(at);
            scan.come();
            if (scan.kind == OPEN) {
                return call(name, at);
            }
            if (scan.kind == OPEN_INDEX) {
                int index = index(name, at);
                code.addWithTwo(LOAD_ITEM, names.placeOf(name), names.countOf(name));
                return tree.add(Tree.ITEM, names.placeOf(name), index, names.countOf(name));
            }
            if (!names.isValue(name)) {
                misused = at;
            }
            return variable(name);
        }

        private int variable(int name) {
            int place = names.placeOf(name);
            if (names.isSort(name, Names.LOCAL)) {
                code.addWith(LOAD_LOCAL, place);
                return tree.add(Tree.LOCAL, desk.inFrame(place), -1, -1);
            }
            code.addWith(LOAD_GLOBAL, place);
            return tree.add(Tree.GLOBAL, place, -1, -1);
        }

        /** Reads [ E ] behind an array's NAME. */
        private int index(int name, int at) {
            if (!names.isSort(name, Names.ARRAY)) {
                scan.fail(MISUSED, at);
            }
            desk.enter();
            scan.come();
            int node = expression(SHUT_INDEX);
            desk.leave();
            scan.come();
            return node;
        }

        /** Reads the brackets behind a FUNCTION's NAME. */
        private int call(int name, int at) {
            if (!names.isSort(name, Names.FUNCTION)) {
                scan.fail(MISUSED, at);
            }
            desk.enter();
            scan.come();
            int count = 0;
            int last = -1;
            if (scan.kind != SHUT) {
                for (int i = 0; i <= scan.size; i++) {
                    int part = expression(COMMA);
                    tree.setNext(part, last);
                    last = part;
                    count++;
                    if (scan.kind != COMMA) {
                        break;
                    }
                    scan.come();
                }
            }
            if (count != names.countOf(name)) {
                scan.fail(PARTS, at);
            }
            desk.leave();
            scan.come();
            code.addWithTwo(CALL, names.placeOf(name), count);
            return tree.add(Tree.CALLING, names.nodeOf(name), last, -1);
        }
    }

    /** Reads a text: GLOBALS, FUNCTIONS, S. */
    private static final class Reader {
        private final Desk desk;
        private final Scan scan;
        private final Names names;
        private final Expressions expressions;
        private Program program;
        private Tree tree;
        private Code code;
        /** The NAME of the FUNCTION that is being read. */
        private int function;
        private int locals;
        private int mostLocals;

        private Reader(Desk desk) {
            this.desk = desk;
            scan = desk.scan;
            names = desk.names;
            expressions = new Expressions(desk);
        }

        /** 0, or what is wrong. */
        private int readAll(Program empty) {
            program = empty;
            tree = empty.tree;
            code = empty.code;
            empty.clear();
            desk.begin();
            expressions.begin(empty);
            scan.begin();
            code.addWithTwo(CALL, 0, 0);
            code.add(END_ALL);
            for (int i = 0; i <= scan.size && scan.kind == INT; i++) {
                scan.come();
                int at = scan.place;
                long word = scan.word;
                toldName(0);
                if (scan.kind == OPEN) {
                    openFunction(word, at);
                    closeFunction(block());
                } else {
                    global(word);
                }
            }
            scan.need(TEXT_END);
            finish();
            return scan.wrong;
        }

        private void finish() {
            if (program.main < 0) {
                scan.fail(NO_MAIN, scan.size);
            }
            if (!code.fits()) {
                scan.fail(NO_CELLS, scan.size);
            }
            program.ready = scan.wrong == 0;
        }

        /** A NAME that is being told; none of those from this one on may have it. */
        private void toldName(int from) {
            if (scan.kind != NAME) {
                scan.failHere(CANNOT_STAND);
            } else if (names.find(scan.word, from) >= 0) {
                scan.failHere(TOLD_TWICE);
            }
            scan.come();
        }

        private void global(long word) {
            int sort = Names.VARIABLE;
            int count = 1;
            if (scan.kind == OPEN_INDEX) {
                sort = Names.ARRAY;
                scan.come();
                count = arraySize();
                scan.pass(NUMBER);
                scan.pass(SHUT_INDEX);
            }
            scan.pass(SEMICOLON);
            names.add(word, sort, program.globals, count);
            program.globals += count;
        }

        private int arraySize() {
            if (scan.kind != NUMBER) {
                return 0;
            }
            if (scan.number < 1 || scan.number > MOST_ITEMS) {
                scan.failHere(TOO_GREAT);
                return 0;
            }
            return (int) scan.number;
        }

        /** Reads a FUNCTION up to its BLOCK, whose bracket is entered. */
        private void openFunction(long word, int at) {
            desk.takeCells(at);
            int address = code.size;
            function = names.size;
            int node = tree.add(Tree.FUNCTION, 0, -1, 0);
            names.add(word, Names.FUNCTION, address, 0);
            names.setNode(function, node);
            int count = parameters(function + 1);
            names.setCount(function, count);
            tree.setA(node, count);
            if (word == MAIN && count == 0) {
                program.main = node;
                code.set(1, address);
            }
            locals = 0;
            mostLocals = 0;
            code.addWith(CLEAR, 0);
            scan.need(OPEN_BRACE);
            desk.enter();
        }

        private void closeFunction(int first) {
            code.addWith(CONSTANT, 0);
            code.addWith(LEAVE, desk.parameters);
            code.set(names.placeOf(function) + 1, mostLocals);
            tree.setParts(names.nodeOf(function), first, mostLocals, -1);
            names.cutTo(function + 1);
        }

        /** Reads a FUNCTION's brackets: how many parameters there are. */
        private int parameters(int from) {
            desk.enter();
            scan.come();
            int count = 0;
            if (scan.kind != SHUT) {
                for (int i = 0; i <= scan.size; i++) {
                    scan.pass(INT);
                    parameter(from, count);
                    count++;
                    if (scan.kind != COMMA) {
                        break;
                    }
                    scan.come();
                }
            }
            scan.pass(SHUT);
            desk.leave();
            desk.parameters = count;
            for (int j = 0; j < count; j++) {
                names.setPlace(from + j, j - 2 - count);
            }
            return count;
        }

        private void parameter(int from, int count) {
            long word = scan.word;
            if (scan.kind != NAME) {
                scan.failHere(CANNOT_STAND);
            } else if (names.find(word, from) >= 0) {
                scan.failHere(TOLD_TWICE);
            } else if (count >= MOST_PARAMETERS) {
                scan.failHere(PARTS);
            }
            names.add(word, Names.LOCAL, count, 0);
            scan.come();
        }

        /** Reads a BLOCK, whose bracket has been entered: its first LOCAL or S. */
        private int block() {
            int mark = names.size;
            int before = locals;
            int first = -1;
            int last = -1;
            boolean declares = true;
            scan.come();
            for (int i = 0; i <= scan.size && scan.kind != SHUT_BRACE && scan.kind != STOPPED; i++) {
                declares = declares && scan.kind == INT;
                int node = declares ? local(mark) : statement();
                tree.setNext(last, node);
                first = i == 0 ? node : first;
                last = node;
            }
            names.cutTo(mark);
            locals = before;
            desk.leave();
            scan.come();
            return first;
        }

        private int local(int mark) {
            scan.come();
            long word = scan.word;
            toldName(mark);
            int value = -1;
            if (scan.kind == ASSIGN) {
                scan.come();
                value = expressions.expression(SEMICOLON);
            } else {
                code.addWith(CONSTANT, 0);
            }
            int place = locals;
            code.addWith(STORE_LOCAL, place);
            names.add(word, Names.LOCAL, place, 0);
            locals++;
            mostLocals = Math.max(mostLocals, locals);
            scan.pass(SEMICOLON);
            return tree.add(Tree.SET_LOCAL, desk.inFrame(place), value, -1);
        }

        private int statement() {
            switch (scan.kind) {
                case OPEN_BRACE:
                    desk.enter();
                    desk.takeCells(scan.place);
                    return tree.add(Tree.BLOCK, 0, block(), -1);
                case IF: return choice();
                case WHILE: return loop();
                case RETURN: return returning();
                case PRINT: return printing();
                case SEMICOLON: return empty();
                case NAME:
                    int at = scan.place;
                    int name = startName();
                    switch (scan.kind) {
                        case ASSIGN: return assignment(name, at);
                        case OPEN_INDEX: return itemAssignment(name, at);
                        case OPEN: return callAlone(name, at);
                        default: return misplaced();
                    }
                default: return misplaced();
            }
        }

        private int empty() {
            desk.takeCells(scan.place);
            scan.come();
            return tree.add(Tree.EMPTY, 0, -1, -1);
        }

        private int misplaced() {
            scan.failHere(CANNOT_STAND);
            return -1;
        }

        private int choice() {
            desk.enter();
            desk.takeCells(scan.place);
            scan.come();
            int condition = expressions.bracketed();
            code.addWith(JUMP_IF_ZERO, 0);
            int hole = code.size - 1;
            int then = statement();
            int otherwise = -1;
            // the if is still open at its else, which is one level more within it
            if (scan.kind == ELSE) {
                desk.enter();
                scan.come();
                code.addWith(JUMP, 0);
                code.set(hole, code.size);
                hole = code.size - 1;
                otherwise = statement();
                desk.leave();
            }
            desk.leave();
            code.set(hole, code.size);
            int node = tree.add(Tree.CHOICE, 0, -1, -1);
            tree.setParts(node, condition, then, otherwise);
            return node;
        }

        private int loop() {
            desk.enter();
            desk.takeCells(scan.place);
            scan.come();
            int again = code.size;
            int condition = expressions.bracketed();
            code.addWith(JUMP_IF_ZERO, 0);
            int hole = code.size - 1;
            int body = statement();
            code.addWith(JUMP, again);
            code.set(hole, code.size);
            desk.leave();
            return tree.add(Tree.LOOP, 0, condition, body);
        }

        private int returning() {
            desk.takeCells(scan.place);
            scan.come();
            int value = expressions.expression(SEMICOLON);
            scan.come();
            code.addWith(LEAVE, desk.parameters);
            return tree.add(Tree.RETURNING, 0, value, -1);
        }

        private int printing() {
            desk.takeCells(scan.place);
            scan.come();
            int value = expressions.bracketed();
            scan.pass(SEMICOLON);
            code.add(WRITE);
            return tree.add(Tree.PRINTING, 0, value, -1);
        }

        /** The NAME with which an S begins. */
        private int startName() {
            int name = names.find(scan.word, 0);
            if (name < 0) {
                scan.failHere(UNKNOWN);
            }
            desk.takeCells(scan.place);
            scan.come();
            return name;
        }

        private int callAlone(int name, int at) {
            int call = expressions.call(name, at);
            scan.pass(SEMICOLON);
            code.add(DROP);
            return tree.add(Tree.CALL_ALONE, 0, call, -1);
        }

        private int assignment(int name, int at) {
            if (!names.isValue(name)) {
                scan.fail(MISUSED, at);
            }
            scan.come();
            int value = expressions.expression(SEMICOLON);
            scan.come();
            int place = names.placeOf(name);
            if (names.isSort(name, Names.LOCAL)) {
                code.addWith(STORE_LOCAL, place);
                return tree.add(Tree.SET_LOCAL, desk.inFrame(place), value, -1);
            }
            code.addWith(STORE_GLOBAL, place);
            return tree.add(Tree.SET_GLOBAL, place, value, -1);
        }

        private int itemAssignment(int name, int at) {
            int index = expressions.index(name, at);
            scan.pass(ASSIGN);
            int value = expressions.expression(SEMICOLON);
            scan.come();
            int address = names.placeOf(name);
            int count = names.countOf(name);
            code.addWithTwo(STORE_ITEM, address, count);
            int node = tree.add(Tree.SET_ITEM, address, -1, -1);
            tree.setParts(node, index, count, value);
            return node;
        }
    }

    /** Input and output, which both machines use. */
    private static final class Tape {
        private final int[] inputs;
        private final int[] outputs;
        private int inputSize;
        private int inputAt;
        private int outputSize;

        private Tape(int cells) {
            inputs = new int[cells];
            outputs = new int[cells];
        }

        private boolean putInput(int number) {
            if (inputSize >= inputs.length) {
                return false;
            }
            inputs[inputSize] = number;
            inputSize++;
            return true;
        }

        private boolean hasInput() {
            return inputAt < inputSize && inputAt < inputs.length;
        }

        private int nextInput() {
            if (inputAt >= inputSize || inputAt >= inputs.length) {
                return 0;
            }
            inputAt++;
            return inputs[inputAt - 1];
        }

        private boolean putOutput(int number) {
            if (outputSize >= outputs.length) {
                return false;
            }
            outputs[outputSize] = number;
            outputSize++;
            return true;
        }

        private int outputAt(int i) {
            return i >= 0 && i < outputSize && i < outputs.length ? outputs[i] : -1;
        }

        private void rewind() {
            inputAt = 0;
            outputSize = 0;
        }
    }

    /** The machine with a stack. */
    private static final class Machine {
        private final int[] memory;
        private final Tape tape;
        private Code code;
        private int pc;
        private int sp;
        private int fp;
        private int status;
        private boolean began;

        private Machine(int cells, Tape tape) {
            memory = new int[cells];
            this.tape = tape;
        }

        private void begin(Program program) {
            code = program.code;
            Arrays.fill(memory, 0);
            pc = 0;
            sp = program.globals;
            fp = 0;
            status = GOING;
            began = false;
        }

        private int goOn(int fuel) {
            for (int i = 0; i < fuel && status == GOING; i++) {
                if (!began && sp > memory.length) {
                    status = ROOM;
                } else {
                    execute();
                }
                began = true;
            }
            return status;
        }

        private void execute() {
            int instruction = code.at(pc);
            pc++;
            if (instruction >= NEGATE && instruction <= FLIP) {
                push(ofOne(instruction, pop()));
            } else if (instruction >= BIT_OR && instruction <= REST) {
                join(instruction);
            } else if (instruction >= JUMP) {
                control(instruction);
            } else {
                move(instruction);
            }
        }

        private void push(int value) {
            if (sp >= 0 && sp < memory.length) {
                memory[sp] = value;
                sp++;
            } else {
                status = ROOM;
            }
        }

        private int pop() {
            sp--;
            return load(sp);
        }

        private int load(int address) {
            return address >= 0 && address < memory.length ? memory[address] : 0;
        }

        private void store(int address, int value) {
            if (address >= 0 && address < memory.length) {
                memory[address] = value;
            }
        }

        /** What stands behind the instruction. */
        private int next() {
            pc++;
            return code.at(pc - 1);
        }

        private void join(int sign) {
            int y = pop();
            int x = pop();
            if (dividesByZero(sign, y)) {
                status = ZERO;
            } else {
                push(ofTwo(sign, x, y));
            }
        }

        private void move(int instruction) {
            switch (instruction) {
                case END_ALL: comeOut(HALTED); break;
                case CONSTANT: push(next()); break;
                case LOAD_GLOBAL: push(load(next())); break;
                case STORE_GLOBAL: store(next(), pop()); break;
                case LOAD_LOCAL: push(load(fp + next())); break;
                case STORE_LOCAL: store(fp + next(), pop()); break;
                case LOAD_ITEM: loadItem(next(), next()); break;
                case STORE_ITEM: storeItem(next(), next()); break;
                default: break;
            }
        }

        private void comeOut(int after) {
            status = tape.putOutput(pop()) ? after : OUTPUT;
        }

        private void loadItem(int address, int count) {
            int i = pop();
            if (i < 0 || i >= count) {
                status = PLACE;
            } else {
                push(load(address + i));
            }
        }

        private void storeItem(int address, int count) {
            int value = pop();
            int i = pop();
            if (i < 0 || i >= count) {
                status = PLACE;
            } else {
                store(address + i, value);
            }
        }

        private void control(int instruction) {
            switch (instruction) {
                case JUMP: pc = next(); break;
                case JUMP_IF_ZERO:
                    int target = next();
                    pc = pop() == 0 ? target : pc;
                    break;
                case CALL: call(next()); break;
                case LEAVE: leave(next()); break;
                case WRITE: comeOut(GOING); break;
                case TAKE_INPUT: takeInput(); break;
                case DROP: pop(); break;
                case CLEAR: clear(next()); break;
                default: break;
            }
        }

        private void call(int target) {
            pc++;
            if (sp > memory.length - 2) {
                status = ROOM;
                return;
            }
            push(pc);
            push(fp);
            fp = sp;
            pc = target;
        }

        private void leave(int parameters) {
            int value = pop();
            int frame = fp;
            sp = frame - 2 - parameters;
            pc = load(frame - 2);
            fp = load(frame - 1);
            push(value);
        }

        private void takeInput() {
            if (tape.hasInput()) {
                push(tape.nextInput());
            } else {
                status = INPUT;
            }
        }

        private void clear(int count) {
            if (sp > memory.length - count) {
                status = ROOM;
                return;
            }
            for (int i = 0; i < count; i++) {
                push(0);
            }
        }
    }

    /** Runs the text by itself, over its tree: VALUES, ITEMS and FRAMES. */
    private static final class Walker {
        /** The node is to be taken apart. */
        private static final int NODE = 0;
        /** The node's parts are there: it is to be done. */
        private static final int DONE = 1;
        /** Whether the value is 0: the last part of && and ||. */
        private static final int TRUTH = 2;
        /** The node is a FUNCTION whose parts are all there. */
        private static final int ENTRY = 3;
        /** The node is a FUNCTION, or a BLOCK, whose LOCALS and S come. */
        private static final int BODY = 4;
        /** The node is a LOCAL or S of a BLOCK, with all that is behind it. */
        private static final int ROW = 5;
        private static final int CALL_END = 6;
        private static final int LET_GO = 7;

        private final int cells;
        private final Tape tape;
        private final int[] values;
        private final int[] whats;
        private final int[] nodes;
        private final int[] globals;
        /** The cells of all FRAMES, one behind the other. */
        private final int[] frameCells;
        private final int[] frameStarts;
        private Tree tree;
        private int globalCount;
        private int valueCount;
        private int itemCount;
        private int frameCount;
        private int frameEnd;
        private int status;
        private boolean began;

        private Walker(int cells, Tape tape) {
            this.cells = cells;
            this.tape = tape;
            values = new int[cells + SPARE_ITEMS];
            whats = new int[cells + SPARE_ITEMS];
            nodes = new int[cells + SPARE_ITEMS];
            globals = new int[cells];
            frameCells = new int[cells];
            frameStarts = new int[cells + SPARE_ITEMS];
        }

        private void begin(Program program) {
            tree = program.tree;
            globalCount = program.globals;
            Arrays.fill(globals, 0);
            valueCount = 0;
            itemCount = 0;
            frameCount = 0;
            frameEnd = 0;
            status = GOING;
            began = false;
            pushItem(ENTRY, program.main);
        }

        private int goOn(int fuel) {
            for (int i = 0; i < fuel && status == GOING; i++) {
                began = true;
                takeItem();
                if (status == GOING) {
                    lookAround();
                }
            }
            return status;
        }

        /** Behind each STEP. */
        private void lookAround() {
            if (valueCount + itemCount + frameEnd > cells - globalCount) {
                status = ROOM;
            } else if (itemCount == 0) {
                status = tape.putOutput(popValue()) ? HALTED : OUTPUT;
            }
        }

        private void pushValue(int value) {
            if (valueCount >= 0 && valueCount < values.length) {
                values[valueCount] = value;
                valueCount++;
            }
        }

        private int popValue() {
            if (valueCount <= 0 || valueCount > values.length) {
                return 0;
            }
            valueCount--;
            return values[valueCount];
        }

        private void pushItem(int what, int node) {
            if (itemCount >= 0 && itemCount < whats.length && itemCount < nodes.length) {
                whats[itemCount] = what;
                nodes[itemCount] = node;
                itemCount++;
            }
        }

        private void takeItem() {
            if (itemCount <= 0 || itemCount > whats.length || itemCount > nodes.length) {
                return;
            }
            itemCount--;
            int node = nodes[itemCount];
            switch (whats[itemCount]) {
                case NODE: takeApart(node); break;
                case DONE: finish(node); break;
                case TRUTH: pushValue(popValue() != 0 ? 1 : 0); break;
                case ENTRY: enter(node); break;
                case BODY: openRow(node); break;
                case ROW: goAlong(node); break;
                case CALL_END: dropFrame(); pushValue(0); break;
                case LET_GO: popValue(); break;
                default: break;
            }
        }

        private void takeApart(int node) {
            switch (tree.kindOf(node)) {
                case Tree.VALUE: pushValue(tree.aOf(node)); break;
                case Tree.GLOBAL: pushValue(globalAt(tree.aOf(node))); break;
                case Tree.LOCAL: pushValue(localAt(tree.aOf(node))); break;
                case Tree.READING: takeInput(); break;
                case Tree.TWO: takeTwoApart(node); break;
                case Tree.CALLING: takeCallApart(node); break;
                case Tree.BLOCK: openRow(node); break;
                case Tree.SET_LOCAL: takeLocalApart(node); break;
                case Tree.SET_ITEM:
                    pushItem(DONE, node);
                    pushItem(NODE, tree.dOf(node));
                    pushItem(NODE, tree.bOf(node));
                    break;
                case Tree.CALL_ALONE:
                    pushItem(LET_GO, node);
                    pushItem(NODE, tree.bOf(node));
                    break;
                case Tree.EMPTY: break;
                default:
                    pushItem(DONE, node);
                    pushItem(NODE, tree.bOf(node));
                    break;
            }
        }

        private void takeInput() {
            if (tape.hasInput()) {
                pushValue(tape.nextInput());
            } else {
                status = INPUT;
            }
        }

        /** Of && and || the first part alone. */
        private void takeTwoApart(int node) {
            pushItem(DONE, node);
            if (tree.aOf(node) != AND_ALSO && tree.aOf(node) != OR_ELSE) {
                pushItem(NODE, tree.cOf(node));
            }
            pushItem(NODE, tree.bOf(node));
        }

        private void takeCallApart(int node) {
            pushItem(ENTRY, tree.aOf(node));
            int part = tree.bOf(node);
            for (int i = 0; i < MOST_PARAMETERS && tree.has(part); i++) {
                pushItem(NODE, part);
                part = tree.nextOf(part);
            }
        }

        private void takeLocalApart(int node) {
            if (tree.has(tree.bOf(node))) {
                pushItem(DONE, node);
                pushItem(NODE, tree.bOf(node));
            } else {
                setLocal(tree.aOf(node), 0);
            }
        }

        private void openRow(int node) {
            if (tree.has(tree.bOf(node))) {
                pushItem(ROW, tree.bOf(node));
            }
        }

        private void goAlong(int node) {
            if (tree.has(tree.nextOf(node))) {
                pushItem(ROW, tree.nextOf(node));
            }
            pushItem(NODE, node);
        }

        private void finish(int node) {
            switch (tree.kindOf(node)) {
                case Tree.ITEM: finishItem(node); break;
                case Tree.ONE: pushValue(ofOne(tree.aOf(node), popValue())); break;
                case Tree.TWO: finishTwo(node); break;
                case Tree.SET_GLOBAL: setGlobal(tree.aOf(node), popValue()); break;
                case Tree.SET_LOCAL: setLocal(tree.aOf(node), popValue()); break;
                case Tree.SET_ITEM: finishSetItem(node); break;
                case Tree.PRINTING: status = tape.putOutput(popValue()) ? GOING : OUTPUT; break;
                case Tree.RETURNING: finishReturn(); break;
                case Tree.CHOICE: finishChoice(node); break;
                case Tree.LOOP: finishLoop(node); break;
                default: break;
            }
        }

        private void finishItem(int node) {
            int i = popValue();
            if (i < 0 || i >= tree.cOf(node)) {
                status = PLACE;
            } else {
                pushValue(globalAt(tree.aOf(node) + i));
            }
        }

        private void finishSetItem(int node) {
            int value = popValue();
            int i = popValue();
            if (i < 0 || i >= tree.cOf(node)) {
                status = PLACE;
            } else {
                setGlobal(tree.aOf(node) + i, value);
            }
        }

        private void finishTwo(int node) {
            int sign = tree.aOf(node);
            int y = popValue();
            if (sign == AND_ALSO || sign == OR_ELSE) {
                finishFirst(node, y != 0);
            } else if (dividesByZero(sign, y)) {
                status = ZERO;
            } else {
                pushValue(ofTwo(sign, popValue(), y));
            }
        }

        /** The first part of && or || may say it all. */
        private void finishFirst(int node, boolean first) {
            boolean settles = tree.aOf(node) == OR_ELSE;
            if (first == settles) {
                pushValue(first ? 1 : 0);
            } else {
                pushItem(TRUTH, node);
                pushItem(NODE, tree.cOf(node));
            }
        }

        private void finishChoice(int node) {
            int chosen = popValue() != 0 ? tree.cOf(node) : tree.dOf(node);
            if (tree.has(chosen)) {
                pushItem(NODE, chosen);
            }
        }

        private void finishLoop(int node) {
            if (popValue() != 0) {
                pushItem(NODE, node);
                pushItem(NODE, tree.cOf(node));
            }
        }

        private void finishReturn() {
            for (int i = itemCount - 1; i >= 0 && i < whats.length; i--) {
                itemCount = i;
                if (whats[i] == CALL_END) {
                    break;
                }
            }
            dropFrame();
        }

        /** A FRAME that doesn't fit is not made: ROOM would be told behind this STEP anyway. */
        private void enter(int function) {
            int parameters = Math.max(0, tree.aOf(function));
            int size = parameters + Math.max(0, tree.cOf(function));
            if (size > frameCells.length - frameEnd || frameCount >= frameStarts.length) {
                status = ROOM;
                return;
            }
            for (int j = 0; j < size; j++) {
                setFrameCell(frameEnd + j, 0);
            }
            for (int j = parameters - 1; j >= 0; j--) {
                setFrameCell(frameEnd + j, popValue());
            }
            openFrame(size);
            pushItem(CALL_END, function);
            pushItem(BODY, function);
        }

        private void openFrame(int size) {
            if (frameCount >= 0 && frameCount < frameStarts.length) {
                frameStarts[frameCount] = frameEnd;
                frameCount++;
                frameEnd += size;
            }
        }

        private void dropFrame() {
            if (frameCount > 0 && frameCount <= frameStarts.length) {
                frameCount--;
                frameEnd = frameStarts[frameCount];
            }
        }

        private void setFrameCell(int i, int value) {
            if (i >= 0 && i < frameCells.length) {
                frameCells[i] = value;
            }
        }

        /** The number of a variable of the innermost FRAME among the cells of all. */
        private int cellOf(int number) {
            if (frameCount <= 0 || frameCount > frameStarts.length) {
                return -1;
            }
            return frameStarts[frameCount - 1] + number;
        }

        private int localAt(int number) {
            int i = cellOf(number);
            return i >= 0 && i < frameCells.length ? frameCells[i] : 0;
        }

        private void setLocal(int number, int value) {
            setFrameCell(cellOf(number), value);
        }

        private int globalAt(int address) {
            return address >= 0 && address < globals.length ? globals[address] : 0;
        }

        private void setGlobal(int address, int value) {
            if (address >= 0 && address < globals.length) {
                globals[address] = value;
            }
        }
    }
}
