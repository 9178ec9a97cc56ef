import java.util.ArrayDeque;
import java.util.ArrayList;
import java.util.Deque;
import java.util.HashMap;
import java.util.List;
import java.util.Map;

/**
 * The document once more, written another way, to compare TinyC with: it reads the whole text first
 * and gathers every fault with the token at which it is met, makes the code from the tree, and runs
 * the text with closures.
 */
final class Oracle {
    private static final List<String> KEYWORDS = List.of("int", "if", "else", "while", "return", "print", "read");
    private static final List<String> SIGNS = List.of(
        "(", ")", "{", "}", "[", "]", ",", ";", "=", "||", "&&", "|", "^", "&", "==", "!=", "<", "<=", ">",
        ">=", "<<", ">>", "+", "-", "*", "/", "%", "!", "~");
    private static final List<List<String>> LEVELS = List.of(
        List.of("||"), List.of("&&"), List.of("|"), List.of("^"), List.of("&"), List.of("==", "!="),
        List.of("<", "<=", ">", ">="), List.of("<<", ">>"), List.of("+", "-"), List.of("*", "/", "%"));
    private static final Map<String, Integer> NUMBERS = new HashMap<>();

    static {
        String[] two = {"|", "^", "&", "==", "!=", "<", "<=", ">", ">=", "<<", ">>", "+", "-", "*"};
        for (int i = 0; i < two.length; i++) {
            NUMBERS.put(two[i], 10 + i);
        }
        NUMBERS.put("/", 27);
        NUMBERS.put("%", 28);
    }

    record Token(String sort, String text, int place) { }

    record Fault(int met, int kind, int place) { }

    /** Ends the reading; the fault has been gathered. */
    static final class Stop extends RuntimeException {
        Stop() {
            super(null, null, false, false);
        }
    }

    /** Ends a STEP or a step. */
    static final class Trap extends RuntimeException {
        final int kind;

        Trap(int kind) {
            super(null, null, false, false);
            this.kind = kind;
        }
    }

    static final class Name {
        String sort;
        int place;
        int count;
        Node function;
    }

    static final class Node {
        final String sort;
        String sign;
        int value;
        Name name;
        int slot;
        List<Node> parts = new ArrayList<>();
        int parameters;
        int most;
        int address;

        Node(String sort, Node... parts) {
            this.sort = sort;
            this.parts.addAll(List.of(parts));
        }
    }

    private final int textCells;
    private final int astCells;
    private final int codeCells;
    private final int memCells;
    private final int ioCells;

    private final List<Integer> text = new ArrayList<>();
    private final List<Integer> inputs = new ArrayList<>();
    private final List<Integer> outputs = new ArrayList<>();
    private List<Integer> code = new ArrayList<>();
    private int inputAt;
    private int globalCount;
    private Node main;

    Oracle(int textCells, int astCells, int codeCells, int memCells, int ioCells) {
        this.textCells = Math.min(4096, Math.max(0, textCells));
        this.astCells = Math.min(4096, Math.max(0, astCells));
        this.codeCells = Math.min(4096, Math.max(0, codeCells));
        this.memCells = Math.min(4096, Math.max(0, memCells));
        this.ioCells = Math.min(4096, Math.max(0, ioCells));
    }

    int feed(int c) {
        if (text.size() >= textCells) {
            return 1;
        }
        text.add(c);
        return 0;
    }

    int input(int w) {
        if (inputs.size() >= ioCells) {
            return 1;
        }
        inputs.add(w);
        return 0;
    }

    int outSize() {
        return outputs.size();
    }

    int out(int i) {
        return i >= 0 && i < outputs.size() ? outputs.get(i) : -1;
    }

    int codeSize() {
        return code.size();
    }

    int codeAt(int i) {
        return i >= 0 && i < code.size() ? code.get(i) : -1;
    }

    // ---- reading ----

    private final List<Token> tokens = new ArrayList<>();
    private final List<Fault> faults = new ArrayList<>();
    private int now;
    private int cells;
    private int open;
    private int addresses;
    private int locals;
    private int mostLocals;
    private Node inside;
    private final List<Map<String, Name>> scopes = new ArrayList<>();

    private static boolean letter(int c) {
        return c == '_' || c >= 'a' && c <= 'z' || c >= 'A' && c <= 'Z';
    }

    private static boolean digit(int c) {
        return c >= '0' && c <= '9';
    }

    private int signAt(int i) {
        return i < text.size() ? text.get(i) : -1;
    }

    /** All tokens up to the first that is none. */
    private void cutTokens() {
        tokens.clear();
        int i = 0;
        while (true) {
            while (signAt(i) == 32 || signAt(i) == 10) {
                i++;
            }
            int start = i;
            if (i >= text.size()) {
                tokens.add(new Token("end", "", i));
                return;
            }
            StringBuilder b = new StringBuilder();
            if (letter(signAt(i))) {
                while (letter(signAt(i)) || digit(signAt(i))) {
                    b.append((char) signAt(i++));
                }
                String w = b.toString();
                tokens.add(new Token(w.length() > 8 ? "bad" : KEYWORDS.contains(w) ? w : "name", w, start));
            } else if (digit(signAt(i))) {
                while (digit(signAt(i))) {
                    b.append((char) signAt(i++));
                }
                tokens.add(new Token(b.length() > 10 ? "bad" : "number", b.toString(), start));
            } else {
                String best = null;
                for (String s : SIGNS) {
                    boolean same = true;
                    for (int j = 0; j < s.length(); j++) {
                        same &= signAt(i + j) == s.charAt(j);
                    }
                    if (same && (best == null || s.length() > best.length())) {
                        best = s;
                    }
                }
                tokens.add(new Token(best == null ? "bad" : best, best, start));
                i += best == null ? 0 : best.length();
            }
            if (tokens.get(tokens.size() - 1).sort().equals("bad")) {
                return;
            }
        }
    }

    private Token token() {
        return tokens.get(now);
    }

    private boolean is(String sort) {
        if (token().sort().equals("bad")) {
            fault(1, token().place());
            throw new Stop();
        }
        return token().sort().equals(sort);
    }

    private void fault(int kind, int place) {
        faults.add(new Fault(now, kind, place));
    }

    private Token must(String sort) {
        if (!is(sort)) {
            fault(2, token().place());
            throw new Stop();
        }
        return token();
    }

    private Token take(String sort) {
        Token t = must(sort);
        now++;
        return t;
    }

    private void fourCells(int place) {
        cells += 4;
        if (cells > astCells) {
            fault(9, place);
        }
    }

    private void opens() {
        open++;
        if (open > 40) {
            fault(8, token().place());
            // deeper reading could end Java's own stack, and nothing later is met earlier
            throw new Stop();
        }
    }

    private Name find(String word) {
        for (int i = scopes.size() - 1; i >= 0; i--) {
            if (scopes.get(i).containsKey(word)) {
                return scopes.get(i).get(word);
            }
        }
        return null;
    }

    int compile() {
        cutTokens();
        faults.clear();
        now = 0;
        cells = 0;
        open = 0;
        addresses = 0;
        scopes.clear();
        scopes.add(new HashMap<>());
        List<Node> functions = new ArrayList<>();
        Node start = null;
        List<Integer> made = null;
        try {
            while (!is("end")) {
                take("int");
                Token t = must("name");
                Name name = new Name();
                if (scopes.get(0).containsKey(t.text())) {
                    fault(4, t.place());
                }
                now++;
                if (is("(")) {
                    functions.add(function(t, name));
                    if (t.text().equals("main") && name.count == 0) {
                        start = name.function;
                    }
                } else {
                    global(t, name);
                }
            }
            if (start == null) {
                fault(7, text.size());
            }
            if (faults.isEmpty()) {
                made = makeCode(functions, start);
                if (made.size() > codeCells) {
                    fault(10, text.size());
                }
            }
        } catch (Stop stop) {
            // what is wrong has been gathered
        }
        if (!faults.isEmpty()) {
            Fault first = faults.get(0);
            for (Fault f : faults) {
                if (f.met < first.met || f.met == first.met && f.kind < first.kind) {
                    first = f;
                }
            }
            return first.kind + 16 * first.place;
        }
        code = made;
        main = start;
        globalCount = addresses;
        reset();
        return 0;
    }

    private void global(Token t, Name name) {
        name.sort = "variable";
        name.place = addresses;
        name.count = 1;
        scopes.get(0).put(t.text(), name);
        if (is("[")) {
            now++;
            Token n = must("number");
            long count = Long.parseLong(n.text());
            if (count == 0 || count > 1000) {
                fault(11, n.place());
            }
            name.sort = "array";
            name.count = (int) Math.min(count, 1000);
            now++;
            take("]");
        }
        take(";");
        addresses += name.count;
    }

    private Node function(Token t, Name name) {
        fourCells(t.place());
        name.sort = "function";
        Node f = new Node("function");
        f.name = name;
        name.function = f;
        scopes.get(0).put(t.text(), name);
        opens();
        now++;
        Map<String, Name> parameters = new HashMap<>();
        List<Name> inOrder = new ArrayList<>();
        if (!is(")")) {
            while (true) {
                take("int");
                Token p = must("name");
                if (parameters.containsKey(p.text())) {
                    fault(4, p.place());
                }
                if (inOrder.size() == 8) {
                    fault(6, p.place());
                }
                Name pn = new Name();
                pn.sort = "local";
                parameters.put(p.text(), pn);
                inOrder.add(pn);
                now++;
                if (!is(",")) {
                    break;
                }
                now++;
            }
        }
        take(")");
        open--;
        int n = inOrder.size();
        for (int j = 0; j < n; j++) {
            inOrder.get(j).place = -2 - n + j;
        }
        name.count = n;
        f.parameters = n;
        scopes.add(parameters);
        locals = 0;
        mostLocals = 0;
        inside = f;
        must("{");
        f.parts.add(block());
        f.most = mostLocals;
        scopes.remove(scopes.size() - 1);
        return f;
    }

    private Node block() {
        Node b = new Node("block");
        opens();
        now++;
        Map<String, Name> scope = new HashMap<>();
        scopes.add(scope);
        int before = locals;
        while (is("int")) {
            now++;
            Token t = must("name");
            if (scope.containsKey(t.text())) {
                fault(4, t.place());
            }
            now++;
            Node local = new Node("local");
            if (is("=")) {
                now++;
                local.parts.add(expression(0));
                endOf(local.parts.get(0), ";");
            } else {
                must(";");
            }
            Name name = new Name();
            name.sort = "local";
            name.place = locals++;
            mostLocals = Math.max(mostLocals, locals);
            local.name = name;
            local.slot = slot(name);
            scope.put(t.text(), name);
            b.parts.add(local);
            now++;
        }
        while (!is("}")) {
            b.parts.add(statement());
        }
        open--;
        now++;
        scopes.remove(scopes.size() - 1);
        locals = before;
        return b;
    }

    private int slot(Name name) {
        return name.place < 0 ? name.place + 2 + inside.parameters : inside.parameters + name.place;
    }

    /** The token at which an E ends must be one of these. */
    private void endOf(Node e, String... closers) {
        for (String c : closers) {
            if (is(c)) {
                return;
            }
        }
        fault(2, token().place());
        throw new Stop();
    }

    private Node inBrackets() {
        must("(");
        opens();
        now++;
        Node e = expression(0);
        endOf(e, ")");
        open--;
        now++;
        return e;
    }

    private Node statement() {
        int at = token().place();
        if (is("{")) {
            fourCells(at);
            return block();
        }
        if (is("if")) {
            fourCells(at);
            opens();
            now++;
            Node s = new Node("if", inBrackets());
            s.parts.add(statement());
            if (is("else")) {
                opens();
                now++;
                s.parts.add(statement());
                open--;
            }
            open--;
            return s;
        }
        if (is("while")) {
            fourCells(at);
            opens();
            now++;
            Node s = new Node("while", inBrackets());
            s.parts.add(statement());
            open--;
            return s;
        }
        if (is("return")) {
            fourCells(at);
            now++;
            Node s = new Node("return", expression(0));
            s.parameters = inside.parameters;
            endOf(s, ";");
            now++;
            return s;
        }
        if (is("print")) {
            fourCells(at);
            now++;
            Node s = new Node("print", inBrackets());
            take(";");
            return s;
        }
        if (is(";")) {
            fourCells(at);
            now++;
            return new Node("nothing");
        }
        must("name");
        return namedStatement(at);
    }

    private Node namedStatement(int at) {
        Name name = find(token().text());
        if (name == null) {
            fault(3, at);
            name = new Name();
            name.sort = "none";
        }
        fourCells(at);
        now++;
        if (is("=")) {
            if (!name.sort.equals("variable") && !name.sort.equals("local")) {
                fault(5, at);
            }
            now++;
            Node s = new Node("assign", expression(0));
            s.name = name;
            s.slot = slot(name);
            endOf(s, ";");
            now++;
            return s;
        }
        if (is("[")) {
            Node index = index(name, at);
            take("=");
            Node s = new Node("put", index, expression(0));
            s.name = name;
            endOf(s, ";");
            now++;
            return s;
        }
        must("(");
        Node s = new Node("drop", call(name, at));
        take(";");
        return s;
    }

    private Node index(Name name, int at) {
        if (!name.sort.equals("array")) {
            fault(5, at);
        }
        opens();
        now++;
        Node e = expression(0);
        endOf(e, "]");
        open--;
        now++;
        return e;
    }

    private Node call(Name name, int at) {
        if (!name.sort.equals("function")) {
            fault(5, at);
        }
        opens();
        now++;
        Node c = new Node("call");
        c.name = name;
        if (!is(")")) {
            while (true) {
                c.parts.add(expression(0));
                endOf(c, ",", ")");
                if (is(")")) {
                    break;
                }
                now++;
            }
        }
        if (name.count != c.parts.size()) {
            fault(6, at);
        }
        open--;
        now++;
        return c;
    }

    private Node expression(int level) {
        if (level == LEVELS.size()) {
            return one();
        }
        Node left = expression(level + 1);
        while (true) {
            is("");
            String sign = token().sort();
            if (!LEVELS.get(level).contains(sign)) {
                return left;
            }
            fourCells(token().place());
            now++;
            left = new Node(sign.equals("&&") || sign.equals("||") ? sign : "two", left, expression(level + 1));
            left.sign = sign;
        }
    }

    private Node one() {
        if (is("-") || is("!") || is("~")) {
            String sign = token().sort();
            fourCells(token().place());
            opens();
            now++;
            Node e = new Node("one", one());
            e.sign = sign;
            open--;
            return e;
        }
        int at = token().place();
        if (is("number")) {
            fourCells(at);
            Node e = new Node("number");
            long v = Long.parseLong(token().text());
            if (v > 2147483647L) {
                fault(11, at);
            }
            e.value = (int) v;
            now++;
            return e;
        }
        if (is("read")) {
            fourCells(at);
            now++;
            must("(");
            opens();
            now++;
            take(")");
            open--;
            return new Node("read");
        }
        if (is("(")) {
            return inBrackets();
        }
        must("name");
        Name name = find(token().text());
        if (name == null) {
            fault(3, at);
            name = new Name();
            name.sort = "none";
        }
        fourCells(at);
        now++;
        if (is("(")) {
            return call(name, at);
        }
        if (is("[")) {
            Node e = new Node("item", index(name, at));
            e.name = name;
            return e;
        }
        if (!name.sort.equals("variable") && !name.sort.equals("local")) {
            fault(5, at);
        }
        Node e = new Node("name");
        e.name = name;
        e.slot = slot(name);
        return e;
    }

    // ---- code ----

    private List<Integer> to;

    private void put(int... values) {
        for (int v : values) {
            to.add(v);
        }
    }

    private int hole(int instruction) {
        put(instruction, -77);
        return to.size() - 1;
    }

    private void fill(int... holes) {
        for (int h : holes) {
            to.set(h, to.size());
        }
    }

    private List<Integer> makeCode(List<Node> functions, Node start) {
        to = new ArrayList<>();
        put(32, 0, 0, 0);
        for (Node f : functions) {
            f.address = to.size();
            put(37, f.most);
            make(f.parts.get(0));
            put(1, 0, 33, f.parameters);
        }
        to.set(1, start.address);
        return to;
    }

    private void make(Node n) {
        List<Node> p = n.parts;
        switch (n.sort) {
            case "block" -> p.forEach(this::make);
            case "local" -> {
                if (p.isEmpty()) {
                    put(1, 0);
                } else {
                    make(p.get(0));
                }
                put(5, n.name.place);
            }
            case "if" -> {
                make(p.get(0));
                int a = hole(31);
                make(p.get(1));
                if (p.size() > 2) {
                    int b = hole(30);
                    fill(a);
                    make(p.get(2));
                    fill(b);
                } else {
                    fill(a);
                }
            }
            case "while" -> {
                int w = to.size();
                make(p.get(0));
                int x = hole(31);
                make(p.get(1));
                put(30, w);
                fill(x);
            }
            case "return" -> {
                make(p.get(0));
                put(33, n.parameters);
            }
            case "print" -> {
                make(p.get(0));
                put(34);
            }
            case "assign" -> {
                make(p.get(0));
                put(n.name.sort.equals("local") ? 5 : 3, n.name.place);
            }
            case "put" -> {
                make(p.get(0));
                make(p.get(1));
                put(7, n.name.place, n.name.count);
            }
            case "drop" -> {
                make(p.get(0));
                put(36);
            }
            case "nothing" -> { }
            default -> makeValue(n);
        }
    }

    private void makeValue(Node n) {
        List<Node> p = n.parts;
        switch (n.sort) {
            case "number" -> put(1, n.value);
            case "name" -> put(n.name.sort.equals("local") ? 4 : 2, n.name.place);
            case "item" -> {
                make(p.get(0));
                put(6, n.name.place, n.name.count);
            }
            case "call" -> {
                p.forEach(this::make);
                put(32, n.name.function.address, n.name.count);
            }
            case "read" -> put(35);
            case "one" -> {
                make(p.get(0));
                put(n.sign.equals("-") ? 24 : n.sign.equals("!") ? 25 : 26);
            }
            case "&&" -> {
                make(p.get(0));
                int f1 = hole(31);
                make(p.get(1));
                int f2 = hole(31);
                put(1, 1);
                int x = hole(30);
                fill(f1, f2);
                put(1, 0);
                fill(x);
            }
            case "||" -> {
                make(p.get(0));
                int no = hole(31);
                put(1, 1);
                int x1 = hole(30);
                fill(no);
                make(p.get(1));
                int f = hole(31);
                put(1, 1);
                int x2 = hole(30);
                fill(f);
                put(1, 0);
                fill(x1, x2);
            }
            default -> {
                make(p.get(0));
                make(p.get(1));
                put(NUMBERS.get(n.sign));
            }
        }
    }

    // ---- both machines ----

    private int[] memory = new int[0];
    private int pc;
    private int sp;
    private int fp;
    private int machineStatus;
    private int textStatus;
    private boolean machineBegan;
    private boolean textBegan;

    record Item(Runnable doing, boolean end) { }

    private final Deque<Item> items = new ArrayDeque<>();
    private final Deque<Integer> values = new ArrayDeque<>();
    private final Deque<int[]> frames = new ArrayDeque<>();
    private int[] globals = new int[0];

    void reset() {
        outputs.clear();
        inputAt = 0;
        memory = new int[memCells];
        pc = 0;
        sp = globalCount;
        fp = 0;
        machineStatus = 0;
        textStatus = 0;
        machineBegan = false;
        textBegan = false;
        items.clear();
        values.clear();
        frames.clear();
        globals = new int[globalCount];
        Node start = main;
        if (start != null) {
            items.push(new Item(() -> enter(start), false));
        }
    }

    private static int calculate(String sign, int x, int y) {
        return switch (sign) {
            case "|" -> x | y;
            case "^" -> x ^ y;
            case "&" -> x & y;
            case "==" -> x == y ? 1 : 0;
            case "!=" -> x != y ? 1 : 0;
            case "<" -> x < y ? 1 : 0;
            case "<=" -> x <= y ? 1 : 0;
            case ">" -> x > y ? 1 : 0;
            case ">=" -> x >= y ? 1 : 0;
            case "<<" -> (int) ((long) x << (y & 31));
            case ">>" -> (int) Math.floorDiv((long) x, 1L << (y & 31));
            case "+" -> (int) ((long) x + y);
            case "-" -> (int) ((long) x - y);
            case "*" -> (int) ((long) x * y);
            case "/", "%" -> {
                if (y == 0) {
                    throw new Trap(2);
                }
                yield sign.equals("/") ? (int) ((long) x / y) : (int) ((long) x % y);
            }
            default -> throw new IllegalStateException(sign);
        };
    }

    private void comeOut(int v) {
        if (outputs.size() >= ioCells) {
            throw new Trap(6);
        }
        outputs.add(v);
    }

    private int comeIn() {
        if (inputAt >= inputs.size()) {
            throw new Trap(5);
        }
        return inputs.get(inputAt++);
    }

    int step() {
        return run(1);
    }

    int run(int fuel) {
        if (main == null) {
            return -1;
        }
        if (textBegan) {
            return -2;
        }
        for (int i = 0; i < fuel && machineStatus == 0; i++) {
            try {
                if (globalCount > memCells) {
                    throw new Trap(4);
                }
                oneStep();
            } catch (Trap t) {
                machineStatus = t.kind;
            }
            machineBegan = true;
        }
        return machineStatus;
    }

    private void push(int v) {
        if (sp >= memCells) {
            throw new Trap(4);
        }
        memory[sp++] = v;
    }

    private int pop() {
        return memory[--sp];
    }

    private void oneStep() {
        int op = code.get(pc);
        int a = codeAt(pc + 1);
        int b = codeAt(pc + 2);
        int width = switch (op) {
            case 1, 2, 3, 4, 5, 30, 31, 33, 37 -> 2;
            case 6, 7, 32 -> 3;
            default -> 1;
        };
        pc += width;
        switch (op) {
            case 0 -> {
                comeOut(pop());
                throw new Trap(1);
            }
            case 1 -> push(a);
            case 2 -> push(memory[a]);
            case 3 -> memory[a] = pop();
            case 4 -> push(memory[fp + a]);
            case 5 -> memory[fp + a] = pop();
            case 6 -> {
                int i = pop();
                if (i < 0 || i >= b) {
                    throw new Trap(3);
                }
                push(memory[a + i]);
            }
            case 7 -> {
                int v = pop();
                int i = pop();
                if (i < 0 || i >= b) {
                    throw new Trap(3);
                }
                memory[a + i] = v;
            }
            case 24 -> push(-pop());
            case 25 -> push(pop() == 0 ? 1 : 0);
            case 26 -> push(-1 - pop());
            case 30 -> pc = a;
            case 31 -> {
                if (pop() == 0) {
                    pc = a;
                }
            }
            case 32 -> {
                if (sp + 2 > memCells) {
                    throw new Trap(4);
                }
                push(pc);
                push(fp);
                fp = sp;
                pc = a;
            }
            case 33 -> {
                int v = pop();
                sp = fp - 2 - a;
                pc = memory[fp - 2];
                fp = memory[fp - 1];
                push(v);
            }
            case 34 -> comeOut(pop());
            case 35 -> push(comeIn());
            case 36 -> pop();
            case 37 -> {
                if (sp + a > memCells) {
                    throw new Trap(4);
                }
                for (int i = 0; i < a; i++) {
                    push(0);
                }
            }
            default -> {
                int y = pop();
                int x = pop();
                for (Map.Entry<String, Integer> e : NUMBERS.entrySet()) {
                    if (e.getValue() == op) {
                        push(calculate(e.getKey(), x, y));
                    }
                }
            }
        }
    }

    int interpret(int fuel) {
        if (main == null) {
            return -1;
        }
        if (machineBegan) {
            return -2;
        }
        for (int i = 0; i < fuel && textStatus == 0; i++) {
            textBegan = true;
            try {
                items.pop().doing().run();
                long sum = (long) values.size() + items.size() + globalCount;
                for (int[] f : frames) {
                    sum += f.length;
                }
                if (sum > memCells) {
                    throw new Trap(4);
                }
                if (items.isEmpty()) {
                    comeOut(values.pop());
                    throw new Trap(1);
                }
            } catch (Trap t) {
                textStatus = t.kind;
            }
        }
        return textStatus;
    }

    private void item(Runnable r) {
        items.push(new Item(r, false));
    }

    private void node(Node n) {
        item(() -> take(n));
    }

    private void enter(Node f) {
        int[] frame = new int[f.parameters + f.most];
        for (int j = f.parameters - 1; j >= 0; j--) {
            frame[j] = values.pop();
        }
        frames.push(frame);
        items.push(new Item(() -> {
            values.push(0);
            frames.pop();
        }, true));
        node(f.parts.get(0));
    }

    private void along(List<Node> row, int i) {
        item(() -> {
            if (i + 1 < row.size()) {
                along(row, i + 1);
            }
            node(row.get(i));
        });
    }

    private int at(Name name, int i) {
        if (i < 0 || i >= name.count) {
            throw new Trap(3);
        }
        return name.place + i;
    }

    private void set(Node n, int v) {
        if (n.name.sort.equals("local")) {
            frames.peek()[n.slot] = v;
        } else {
            globals[n.name.place] = v;
        }
    }

    private void take(Node n) {
        List<Node> p = n.parts;
        switch (n.sort) {
            case "block" -> {
                if (!p.isEmpty()) {
                    along(p, 0);
                }
            }
            case "local" -> {
                if (p.isEmpty()) {
                    set(n, 0);
                } else {
                    item(() -> set(n, values.pop()));
                    node(p.get(0));
                }
            }
            case "if" -> {
                item(() -> {
                    if (values.pop() != 0) {
                        node(p.get(1));
                    } else if (p.size() > 2) {
                        node(p.get(2));
                    }
                });
                node(p.get(0));
            }
            case "while" -> {
                item(() -> {
                    if (values.pop() != 0) {
                        node(n);
                        node(p.get(1));
                    }
                });
                node(p.get(0));
            }
            case "return" -> {
                item(() -> {
                    while (!items.pop().end()) {
                        // down to the call's end
                    }
                    frames.pop();
                });
                node(p.get(0));
            }
            case "print" -> {
                item(() -> comeOut(values.pop()));
                node(p.get(0));
            }
            case "assign" -> {
                item(() -> set(n, values.pop()));
                node(p.get(0));
            }
            case "put" -> {
                item(() -> {
                    int v = values.pop();
                    globals[at(n.name, values.pop())] = v;
                });
                node(p.get(1));
                node(p.get(0));
            }
            case "drop" -> {
                item(values::pop);
                node(p.get(0));
            }
            case "nothing" -> { }
            default -> takeValue(n);
        }
    }

    private void takeValue(Node n) {
        List<Node> p = n.parts;
        switch (n.sort) {
            case "number" -> values.push(n.value);
            case "name" -> values.push(n.name.sort.equals("local") ? frames.peek()[n.slot] : globals[n.name.place]);
            case "read" -> values.push(comeIn());
            case "item" -> {
                item(() -> values.push(globals[at(n.name, values.pop())]));
                node(p.get(0));
            }
            case "one" -> {
                item(() -> {
                    int x = values.pop();
                    values.push(n.sign.equals("-") ? -x : n.sign.equals("!") ? (x == 0 ? 1 : 0) : ~x);
                });
                node(p.get(0));
            }
            case "&&", "||" -> {
                item(() -> {
                    boolean v = values.pop() != 0;
                    if (v == n.sort.equals("||")) {
                        values.push(v ? 1 : 0);
                    } else {
                        item(() -> values.push(values.pop() != 0 ? 1 : 0));
                        node(p.get(1));
                    }
                });
                node(p.get(0));
            }
            case "call" -> {
                item(() -> enter(n.name.function));
                for (int i = p.size() - 1; i >= 0; i--) {
                    node(p.get(i));
                }
            }
            default -> {
                item(() -> {
                    int y = values.pop();
                    int x = values.pop();
                    values.push(calculate(n.sign, x, y));
                });
                node(p.get(1));
                node(p.get(0));
            }
        }
    }
}
