import java.util.ArrayList;
import java.util.List;
import java.util.Random;

/** Writes texts by chance: mostly right ones, and ones that are spoiled afterwards. */
final class Writer {
    private static final String[] NAMES = {"a", "b", "c", "d", "x", "y", "f", "g", "main", "A_9", "longname", "i", "iff"};
    private static final String[] TWO = {
        "||", "&&", "|", "^", "&", "==", "!=", "<", "<=", ">", ">=", "<<", ">>", "+", "-", "*", "/", "%"};
    private static final String[] PIECES = {
        "int", "if", "else", "while", "return", "print", "read", "(", ")", "{", "}", "[", "]", ",", ";", "=", "||",
        "&&", "|", "^", "&", "==", "!=", "<", "<=", ">", ">=", "<<", ">>", "+", "-", "*", "/", "%", "!", "~", "a",
        "f", "main", "x", "0", "1", "7", "1000", "1001", "2147483647", "2147483648", "00000000001", "0000000001",
        "toolong_9", "#", "\t", "12ab", "a12", "zz", "int x;", "int a[2];", "x=1;", "f();", "else;", "{}", "()"};

    private static final class Known {
        final String name;
        final char sort;
        final int count;

        Known(String name, char sort, int count) {
            this.name = name;
            this.sort = sort;
            this.count = count;
        }
    }

    private final Random chance;
    private final StringBuilder b = new StringBuilder();
    private final List<Known> known = new ArrayList<>();

    Writer(Random chance) {
        this.chance = chance;
    }

    private int below(int n) {
        return chance.nextInt(n);
    }

    private void put(String s) {
        if (b.length() > 0 && s.length() > 0) {
            char l = b.charAt(b.length() - 1);
            char c = s.charAt(0);
            boolean glue = Character.isLetterOrDigit(l) && Character.isLetterOrDigit(c)
                || "|&=!<>".indexOf(l) >= 0 && "|&=<>".indexOf(c) >= 0 || l == '_' || c == '_';
            if (glue || below(12) == 0) {
                b.append(below(6) == 0 ? "\n" : " ");
            }
        }
        b.append(s);
    }

    private String name() {
        return NAMES[below(NAMES.length)];
    }

    private Known pick(String sorts) {
        for (int i = 0; i < 12 && !known.isEmpty(); i++) {
            Known k = known.get(below(known.size()));
            if (sorts.indexOf(k.sort) >= 0) {
                // an inner one may hide it
                for (int j = known.size() - 1; j >= 0; j--) {
                    if (known.get(j).name.equals(k.name)) {
                        k = known.get(j);
                        break;
                    }
                }
                if (sorts.indexOf(k.sort) >= 0) {
                    return k;
                }
            }
        }
        return null;
    }

    String text(int size) {
        b.setLength(0);
        known.clear();
        int parts = 1 + below(4);
        for (int i = 0; i < parts; i++) {
            int mark = b.length();
            if (below(2) == 0) {
                global();
            } else {
                function(name(), below(4), size / (parts + 1));
            }
            if (b.length() < mark) {
                break;
            }
        }
        boolean hasMain = false;
        for (Known k : known) {
            hasMain |= k.name.equals("main");
        }
        if (!hasMain || below(20) == 0) {
            function("main", below(40) == 0 ? 1 : 0, size / 2);
        }
        return b.toString();
    }

    private boolean taken(String name, int from) {
        for (int i = from; i < known.size(); i++) {
            if (known.get(i).name.equals(name)) {
                return true;
            }
        }
        return false;
    }

    private void global() {
        String n = name();
        if (taken(n, 0) && below(20) != 0) {
            return;
        }
        put("int");
        put(n);
        if (below(2) == 0) {
            int count = below(30) == 0 ? below(2000) : 1 + below(4);
            put("[");
            put("" + count);
            put("]");
            known.add(new Known(n, 'a', count));
        } else {
            known.add(new Known(n, 'v', 1));
        }
        put(";");
    }

    private void function(String n, int parameters, int size) {
        if (taken(n, 0) && below(20) != 0) {
            return;
        }
        put("int");
        put(n);
        put("(");
        int count = below(20) == 0 ? below(10) : parameters;
        known.add(new Known(n, 'f', count));
        int mark = known.size();
        for (int j = 0; j < count; j++) {
            if (j > 0) {
                put(",");
            }
            put("int");
            String p = name();
            for (int t = 0; t < 20 && taken(p, mark); t++) {
                p = name();
            }
            put(p);
            known.add(new Known(p, 'l', 1));
        }
        put(")");
        block(size, 3);
        while (known.size() > mark) {
            known.remove(known.size() - 1);
        }
    }

    private void block(int size, int depth) {
        int mark = known.size();
        int end = b.length() + size;
        put("{");
        int locals = below(3);
        for (int i = 0; i < locals; i++) {
            String n = name();
            if (taken(n, mark) && below(20) != 0) {
                continue;
            }
            put("int");
            put(n);
            if (below(2) == 0) {
                put("=");
                expression(3);
            }
            put(";");
            known.add(new Known(n, 'l', 1));
        }
        for (int i = 0; i < 8 && b.length() < end && below(8) != 0; i++) {
            statement(size / 2, depth - 1);
        }
        put("}");
        while (known.size() > mark) {
            known.remove(known.size() - 1);
        }
    }

    private void statement(int size, int depth) {
        int which = below(depth > 0 ? 11 : 8);
        switch (which) {
            case 0, 1 -> {
                put("print");
                put("(");
                expression(4);
                put(")");
                put(";");
            }
            case 2, 3 -> assign("vl", "va");
            case 4 -> assign("a", "l");
            case 5 -> {
                Known k = pick(below(30) == 0 ? "fva" : "f");
                if (k == null) {
                    put(";");
                    return;
                }
                call(k, 3);
                put(";");
            }
            case 6 -> {
                if (below(3) == 0) {
                    put("return");
                    expression(3);
                }
                put(";");
            }
            case 7 -> put(";");
            case 8 -> {
                put("if");
                put("(");
                expression(3);
                put(")");
                statement(size, depth - 1);
                if (below(2) == 0) {
                    put("else");
                    statement(size, depth - 1);
                }
            }
            case 9 -> {
                put("while");
                put("(");
                expression(3);
                put(")");
                statement(size, depth - 1);
            }
            default -> block(size, depth);
        }
    }

    private void assign(String sorts, String rare) {
        Known k = pick(below(30) == 0 ? rare : sorts);
        if (k == null) {
            put(";");
            return;
        }
        put(k.name);
        if (k.sort == 'a' && below(40) != 0) {
            put("[");
            expression(2);
            put("]");
        }
        put("=");
        expression(4);
        put(";");
    }

    private void call(Known k, int depth) {
        put(k.name);
        put("(");
        int count = below(40) == 0 ? below(4) : k.count;
        for (int i = 0; i < count; i++) {
            if (i > 0) {
                put(",");
            }
            expression(depth - 1);
        }
        put(")");
    }

    private void expression(int depth) {
        if (depth <= 0 || below(4) == 0) {
            leaf(depth);
            return;
        }
        switch (below(8)) {
            case 0, 1, 2, 3 -> {
                expression(depth - 1);
                put(TWO[below(TWO.length)]);
                expression(depth - 1);
            }
            case 4 -> {
                put(new String[] {"-", "!", "~"}[below(3)]);
                expression(depth - 1);
            }
            case 5 -> {
                put("(");
                expression(depth - 1);
                put(")");
            }
            case 6 -> {
                Known k = pick("f");
                if (k == null) {
                    leaf(depth);
                } else {
                    call(k, depth);
                }
            }
            default -> leaf(depth);
        }
    }

    private void leaf(int depth) {
        int which = below(10);
        if (which == 0) {
            put("read");
            put("(");
            put(")");
            return;
        }
        if (which < 3) {
            Known k = pick("a");
            if (k != null) {
                put(k.name);
                put("[");
                expression(Math.min(1, depth - 1));
                put("]");
                return;
            }
        }
        if (which < 7) {
            Known k = pick(below(60) == 0 ? "vlaf" : "vl");
            if (k != null) {
                put(k.name);
                return;
            }
        }
        put("" + (below(12) == 0 ? chance.nextInt(Integer.MAX_VALUE) : below(4)));
    }

    /** The same text with something put in, left out or exchanged. */
    String spoiled(String text) {
        StringBuilder s = new StringBuilder(text);
        int times = 1 + below(2);
        for (int i = 0; i < times; i++) {
            int at = below(s.length() + 1);
            switch (below(4)) {
                case 0 -> s.insert(at, PIECES[below(PIECES.length)]);
                case 1 -> s.delete(at, Math.min(s.length(), at + 1 + below(3)));
                case 2 -> {
                    s.delete(at, Math.min(s.length(), at + 1 + below(2)));
                    s.insert(at, PIECES[below(PIECES.length)]);
                }
                default -> s.setLength(at);
            }
        }
        return s.toString();
    }

    /** One thing opened within another, about as often as is allowed. */
    String deep() {
        StringBuilder s = new StringBuilder("int a[2];int f(int x){return x;}int main(){");
        StringBuilder shut = new StringBuilder();
        int open = 1;
        int most = 38 + below(5);
        boolean sayE = below(3) == 0;
        while (!sayE && open < most) {
            switch (below(6)) {
                case 0 -> {
                    s.append("{");
                    shut.insert(0, "}");
                }
                case 1 -> s.append("while(0)");
                case 2 -> {
                    s.append("if(1)");
                }
                case 3 -> {
                    s.append("if(0);else ");
                    open++;
                }
                case 4 -> {
                    s.append("if(1)");
                    shut.insert(0, "else ;");
                }
                default -> {
                    sayE = open > 30 || below(8) == 0;
                    open--;
                }
            }
            open++;
        }
        if (sayE) {
            s.append("print(");
            shut.insert(0, ");");
            open++;
            while (open < most) {
                switch (below(6)) {
                    case 0 -> {
                        s.append("(");
                        shut.insert(0, ")");
                    }
                    case 1 -> {
                        s.append("a[");
                        shut.insert(0, "]");
                    }
                    case 2 -> {
                        s.append("f(");
                        shut.insert(0, ")");
                    }
                    case 3 -> s.append("-");
                    case 4 -> s.append("~");
                    default -> s.append("1+!");
                }
                open++;
            }
            s.append(below(2) == 0 ? "1" : "read()");
        } else {
            s.append(below(2) == 0 ? ";" : "print(1);");
        }
        return s.append(shut).append("}").toString();
    }

    /** Pieces in a row, without any sense. */
    String soup() {
        StringBuilder s = new StringBuilder();
        int n = below(12);
        for (int i = 0; i < n; i++) {
            s.append(PIECES[below(PIECES.length)]);
            if (below(3) == 0) {
                s.append(' ');
            }
        }
        return s.toString();
    }
}
