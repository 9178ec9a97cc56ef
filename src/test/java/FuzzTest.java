import java.util.Random;

/** Calls by chance on TinyC and on the Oracle: every answer must be the same. */
final class FuzzTest {
    private static int wrong;
    private static final int[] kinds = new int[16];
    private static final int[] machineEnds = new int[8];
    private static final int[] textEnds = new int[8];
    private static final StringBuilder log = new StringBuilder();

    private static void same(String call, long got, long due) {
        if (log.length() < 4000) {
            log.append(call).append(" = ").append(got).append('\n');
        }
        if (got != due && wrong++ < 5) {
            System.out.println(log + call + " answered " + got + ", due is " + due + "\n");
        }
    }

    public static void main(String[] args) {
        int rounds = args.length > 0 ? Integer.parseInt(args[0]) : 60000;
        long seed = args.length > 1 ? Long.parseLong(args[1]) : 1;
        for (int i = 0; i < rounds && wrong == 0; i++) {
            round(new Random(seed * 1000003L + i));
        }
        System.out.println("kinds " + java.util.Arrays.toString(kinds) + ", machine " + java.util.Arrays.toString(machineEnds)
            + ", text " + java.util.Arrays.toString(textEnds));
        System.out.println(wrong == 0 ? "FuzzTest: all answers are as due" : "FuzzTest: " + wrong + " answers are not as due");
        if (wrong != 0) {
            System.exit(1);
        }
    }

    private static int cells(Random chance, int few, int many) {
        return switch (chance.nextInt(8)) {
            case 0 -> chance.nextInt(few + 1);
            case 1, 2 -> chance.nextInt(many + 1);
            case 3 -> 4097 + chance.nextInt(9);
            default -> many;
        };
    }

    private static void round(Random chance) {
        log.setLength(0);
        int text = chance.nextInt(40) == 0 ? chance.nextInt(100) : 1000;
        int ast = cells(chance, 40, 400);
        int code = cells(chance, 40, 600);
        int mem = cells(chance, 12, 90);
        int io = chance.nextInt(3) == 0 ? chance.nextInt(4) : 30;
        TinyC x = new TinyC(text, ast, code, mem, io);
        Oracle y = new Oracle(text, ast, code, mem, io);
        log.append("new TinyC(" + text + ", " + ast + ", " + code + ", " + mem + ", " + io + ")\n");
        Writer writer = new Writer(chance);
        String s = switch (chance.nextInt(8)) {
            case 0 -> writer.soup();
            case 1 -> writer.deep();
            default -> writer.text(60 + chance.nextInt(240));
        };
        if (chance.nextInt(5) < 2) {
            s = writer.spoiled(s);
        }
        feed(x, y, s);
        int times = chance.nextInt(10) == 0 ? 2 : 1;
        for (int i = 0; i < times; i++) {
            int result = x.compile();
            same("compile()", result, y.compile());
            kinds[result & 15]++;
            compareCode(x, y);
            int calls = 1 + chance.nextInt(12);
            for (int j = 0; j < calls; j++) {
                call(chance, x, y);
            }
            if (i + 1 < times) {
                feed(x, y, chance.nextBoolean() ? "int zz;" : writer.soup());
            }
        }
        finishBoth(x, y);
    }

    private static void feed(TinyC x, Oracle y, String s) {
        log.append("text: ").append(s).append('\n');
        for (int i = 0; i < s.length(); i++) {
            int got = x.feed(s.charAt(i));
            int due = y.feed(s.charAt(i));
            if (got != due) {
                same("feed " + i, got, due);
            }
        }
    }

    private static void compareCode(TinyC x, Oracle y) {
        same("codeSize()", x.codeSize(), y.codeSize());
        for (int i = -1; i <= y.codeSize(); i++) {
            if (x.codeAt(i) != y.codeAt(i)) {
                same("codeAt(" + i + ")", x.codeAt(i), y.codeAt(i));
            }
        }
    }

    private static void call(Random chance, TinyC x, Oracle y) {
        int fuel = chance.nextInt(6) == 0 ? chance.nextInt(400) - 5 : chance.nextInt(12) - 1;
        switch (chance.nextInt(9)) {
            case 0 -> {
                int w = chance.nextInt(9) - 3;
                same("input(" + w + ")", x.input(w), y.input(w));
            }
            case 1, 2 -> same("step()", x.step(), y.step());
            case 3, 4 -> same("run(" + fuel + ")", x.run(fuel), y.run(fuel));
            case 5, 6 -> same("interpret(" + fuel + ")", x.interpret(fuel), y.interpret(fuel));
            case 7 -> {
                if (chance.nextBoolean()) {
                    x.reset();
                    y.reset();
                    log.append("reset()\n");
                }
            }
            default -> {
                int i = chance.nextInt(8) - 2;
                same("out(" + i + ")", x.out(i), y.out(i));
            }
        }
        same("outSize()", x.outSize(), y.outSize());
    }

    private static void finishBoth(TinyC x, Oracle y) {
        x.reset();
        y.reset();
        int status = x.run(3000);
        same("run(3000)", status, y.run(3000));
        machineEnds[status + 1]++;
        compareOut(x, y);
        x.reset();
        y.reset();
        int last = 0;
        for (int fuel = 1; fuel < 3000 && last == 0; fuel += 1 + fuel / 20) {
            last = x.interpret(1 + fuel / 20);
            same("interpret(" + (1 + fuel / 20) + ")", last, y.interpret(1 + fuel / 20));
        }
        textEnds[last + 1]++;
        compareOut(x, y);
    }

    private static void compareOut(TinyC x, Oracle y) {
        same("outSize()", x.outSize(), y.outSize());
        for (int i = 0; i < y.outSize(); i++) {
            same("out(" + i + ")", x.out(i), y.out(i));
        }
    }
}
