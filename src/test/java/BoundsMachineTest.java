/**
 * Promises 5 and 6 with the machine of Terms II: each sentence that names a bound with a test of its own,
 * the case at the bound, the one just within it, the one just beyond it.
 */
final class BoundsMachineTest {
    private static final Check check = new Check("BoundsMachineTest");
    private static final int MIN = Integer.MIN_VALUE;
    private static final int MAX = Integer.MAX_VALUE;
    private static final String LEAST = "(-2147483647-1)";
    private static final String LARGEST = "2147483647";

    public static void main(String[] args) {
        promiseFive();
        promiseSix();
        values();
        instructions();
        zeroAndPlace();
        room();
        inputAndOutput();
        check.end();
    }

    private static void promiseFive() {
        whatAStepTells();
        standingItDoesNothing();
        minusOneWithoutCode();
        minusTwoBehindAStepOfTheText();
        minusTwoBehindATrapOfTheText();
    }

    private static void promiseSix() {
        fuelAtMost();
        fuelBelowZero();
        statusWithoutAnyStep();
        minusOneAndTwoLikewise();
    }

    private static void values() {
        asAtFirst();
        valuesGoRound();
        cutTowardsZero();
        theLeastByMinusOne();
        shiftsByTheLowestFiveBits();
        shiftKeepsTheSign();
        oneOrZero();
    }

    private static void instructions() {
        zeroEndsIt();
        ifItIsZero();
        callsAndReturns();
        bitsAtTheirEnds();
        nothingIsLeftBehind();
    }

    private static void zeroAndPlace() {
        standsForGood();
        byZero();
        placeWithinAnArray();
    }

    private static void room() {
        pushingBeyondMemory();
        bothOfACall();
        allOfTheLocals();
        globalsThatDoNotFit();
    }

    private static void inputAndOutput() {
        noMoreInput();
        inputAheadOfRoom();
        noRoomForWhatComesOut();
        noRoomForTheLastValue();
    }

    private static TinyC made(int memCells, int ioCells, String text, int... inputs) {
        return check.madeWith(memCells, ioCells, text, inputs);
    }

    /** With these cells so many steps go on, and the next one tells this for good. */
    private static void trapAt(TinyC x, int step, int status, String text) {
        for (int i = 1; i < step; i++) {
            check.due("step " + i + " of " + text, x.step(), 0);
        }
        for (int i = 0; i < 3; i++) {
            check.due("step " + (step + i) + " of " + text, x.step(), status);
        }
    }

    // ---- promise 5 ----

    /** Promise 5: the step just ahead of each end, that step, and the one behind it. */
    private static void whatAStepTells() {
        check.sentence("Promise 5", "One step of the machine: 0 it goes on, 1 it is HALTED, 2 to 6 the TRAP by which it stands");
        trapAt(made(99, 9, "int main(){}"), 5, 1, "HALTED");
        trapAt(made(99, 9, "int main(){return 1/0;}"), 5, 2, "ZERO");
        trapAt(made(99, 9, "int a[1];int main(){return a[1];}"), 4, 3, "PLACE");
        trapAt(made(2, 9, "int main(){}"), 3, 4, "ROOM");
        trapAt(made(99, 9, "int main(){return read();}"), 3, 5, "INPUT");
        trapAt(made(99, 0, "int main(){print(1);}"), 4, 6, "OUTPUT");
    }

    /** Promise 5: behind HALTED and behind a TRAP nothing comes out, nothing is read, nothing changes. */
    private static void standingItDoesNothing() {
        check.sentence("Promise 5", "(standing, it does nothing)");
        TinyC halted = made(99, 9, "int main(){print(read());return 4;}", 3, 2);
        check.due("run", halted.run(99), 1);
        TinyC trapped = made(99, 9, "int main(){print(read());return 1/0;}", 3, 2);
        check.due("run", trapped.run(99), 2);
        for (int i = 0; i < 20; i++) {
            check.due("step() behind HALTED", halted.step(), 1);
            check.due("run(9) behind HALTED", halted.run(9), 1);
            check.due("step() behind a TRAP", trapped.step(), 2);
            check.due("run(9) behind a TRAP", trapped.run(9), 2);
        }
        check.outs("behind HALTED", halted, 3, 4);
        check.outs("behind a TRAP", trapped, 3);
    }

    /** Promise 5: a new object, one with a text, one with a wrong one; with code that is older than a wrong text it is not so. */
    private static void minusOneWithoutCode() {
        check.sentence("Promise 5", "-1 without code;");
        TinyC x = new TinyC(99, 99, 99, 99, 9);
        check.due("step() at first", x.step(), -1);
        x.reset();
        check.due("step() behind reset()", x.step(), -1);
        Check.fed(x, "int main(){");
        check.due("step() with a text", x.step(), -1);
        check.due("compile() of a wrong text", x.compile(), 2 + 16 * 11);
        check.due("step() behind a wrong text", x.step(), -1);
        check.due("interpret(1) behind a wrong text", x.interpret(1), -1);
        check.due("still not -2", x.step(), -1);
        Check.fed(x, "}");
        check.due("step() ahead of compile()", x.step(), -1);
        check.due("compile()", x.compile(), 0);
        check.due("step() with code", x.step(), 0);
        Check.fed(x, "}");
        check.due("compile() of a wrong text", x.compile(), 2 + 16 * 12);
        check.due("step() with the code that stays", x.step(), 0);
    }

    /** Promise 5: behind interpret(0) and below it is not so, behind one STEP it is, till reset() or compile(). */
    private static void minusTwoBehindAStepOfTheText() {
        check.sentence("Promise 5", "-2 if interpret() did a STEP since reset()");
        TinyC x = made(99, 9, "int main(){return 5;}");
        for (int fuel : new int[] {0, -1, MIN}) {
            check.due("interpret(" + fuel + ")", x.interpret(fuel), 0);
            check.due("run(0)", x.run(0), 0);
        }
        check.due("interpret(1)", x.interpret(1), 0);
        check.due("step()", x.step(), -2);
        check.due("step() again", x.step(), -2);
        check.due("interpret(5)", x.interpret(5), 1);
        check.due("step() behind HALTED", x.step(), -2);
        check.outs("once", x, 5);
        x.reset();
        check.due("step() behind reset()", x.step(), 0);
        x.reset();
        check.due("interpret(1)", x.interpret(1), 0);
        check.due("compile()", x.compile(), 0);
        check.due("step() behind compile()", x.step(), 0);
        check.due("interpret(1) is refused", x.interpret(1), -2);
        check.due("what was refused was no STEP", x.step(), 0);
    }

    /** Promise 5: the first STEP of all comes to ROOM, a later one to another TRAP. */
    private static void minusTwoBehindATrapOfTheText() {
        check.sentence("Promise 5", "(one that came to a TRAP, too)");
        TinyC x = made(1, 9, "int main(){}");
        check.due("interpret(0)", x.interpret(0), 0);
        check.due("run(0)", x.run(0), 0);
        check.due("interpret(1)", x.interpret(1), 4);
        check.due("step()", x.step(), -2);
        check.due("run(0)", x.run(0), -2);
        x.reset();
        check.due("step() behind reset()", x.step(), 4);
        TinyC y = made(99, 9, "int main(){return 1/0;}");
        check.due("interpret(99)", y.interpret(99), 2);
        check.due("step()", y.step(), -2);
        TinyC z = made(4, 9, "int a[5];int main(){}");
        check.due("interpret(1) with globals that don't fit", z.interpret(1), 4);
        check.due("step()", z.step(), -2);
    }

    // ---- promise 6 ----

    /** Promise 6: none, one, one fewer than there are, as many, one more, far more; in one go and in parts. */
    private static void fuelAtMost() {
        check.sentence("Promise 6", "Steps until it stands, but fuel (below 0: none) at most");
        // 32 37 1 34 1 34 1 33 0
        String text = "int main(){print(1);print(2);return 3;}";
        int[] outs = {0, 0, 0, 0, 1, 1, 2, 2, 2, 3, 3};
        for (int fuel = 0; fuel <= 10; fuel++) {
            TinyC x = made(99, 9, text);
            check.due("run(" + fuel + ")", x.run(fuel), fuel >= 9 ? 1 : 0);
            check.due("outSize() behind run(" + fuel + ")", x.outSize(), outs[fuel]);
            check.due("the last of the rest", x.run(Math.max(0, 8 - fuel)), fuel >= 9 ? 1 : 0);
            check.due("one more", x.run(1), 1);
        }
        for (int fuel : new int[] {11, 1000000, MAX - 1, MAX}) {
            TinyC x = made(99, 9, text);
            check.due("run(" + fuel + ")", x.run(fuel), 1);
            check.outs("all", x, 1, 2, 3);
        }
        TinyC loop = made(99, 9, "int main(){while(1);}");
        check.due("a run that doesn't stand", loop.run(100000), 0);
        check.due("and goes on", loop.run(1), 0);
    }

    /** Promise 6: 0 and below do nothing, ahead of all, in the midst, and behind the end. */
    private static void fuelBelowZero() {
        check.sentence("Promise 6", "fuel (below 0: none)");
        TinyC x = made(99, 9, "int main(){print(7);}");
        for (int i = 1; i <= 7; i++) {
            for (int fuel : new int[] {0, -1, -2, MIN + 1, MIN}) {
                check.due("run(" + fuel + ") ahead of step " + i, x.run(fuel), 0);
            }
            check.due("outSize() ahead of step " + i, x.outSize(), i > 4 ? 1 : 0);
            check.due("step " + i, x.step(), i == 7 ? 1 : 0);
        }
        check.due("run(-1) behind the end", x.run(-1), 1);
        check.due("outSize()", x.outSize(), 2);
    }

    /** Promise 6: run(0) tells 0 ahead of the first step, though it will find no room; then each way to stand. */
    private static void statusWithoutAnyStep() {
        check.sentence("Promise 6", "the status behind them, as step() tells it (also without any step;");
        String[] texts = {"int main(){}", "int main(){return 1/0;}", "int a[1];int main(){return a[1];}", "int main(){int x;int y;}",
            "int main(){return read();}", "int main(){print(1);print(2);}"};
        for (int i = 0; i < texts.length; i++) {
            TinyC x = made(i == 3 ? 3 : 99, 1, texts[i]);
            check.due("run(0) ahead of " + texts[i], x.run(0), 0);
            check.due("run(99) of " + texts[i], x.run(99), i + 1);
            check.due("run(0) behind " + texts[i], x.run(0), i + 1);
            check.due("run(-1) behind " + texts[i], x.run(-1), i + 1);
            check.due("run(99) behind " + texts[i], x.run(99), i + 1);
            x.reset();
            check.due("run(0) behind reset()", x.run(0), 0);
        }
        check.due("run(0) with globals that don't fit", made(0, 9, "int v;int main(){}").run(0), 0);
    }

    /** Promise 6: with fuel and without. */
    private static void minusOneAndTwoLikewise() {
        check.sentence("Promise 6", "(also without any step; -1, -2 likewise)");
        TinyC none = new TinyC(99, 99, 99, 99, 9);
        TinyC begun = made(99, 9, "int main(){}");
        check.due("interpret(1)", begun.interpret(1), 0);
        for (int fuel : new int[] {MIN, -1, 0, 1, 99, MAX}) {
            check.due("run(" + fuel + ") without code", none.run(fuel), -1);
            check.due("run(" + fuel + ") behind a STEP", begun.run(fuel), -2);
        }
        check.due("nothing was done", begun.interpret(1), 0);
        check.due("nothing was done", begun.interpret(1), 1);
    }

    // ---- values ----

    /** Terms II: an array's first and last, a variable behind it; FP 0 and SP behind the globals show in the steps and cells. */
    private static void asAtFirst() {
        check.sentence("Terms II", "At first memory is 0, PC 0, SP behind the globals, FP 0.");
        check.prints("int a[1000];int v;int main(){print(a[0]);print(a[999]);print(v);}", 0, 0, 0);
        // globals, then three cells for the call and a value
        for (int globals : new int[] {1, 2, 50, 1000}) {
            String text = "int a[" + globals + "];int main(){}";
            check.due("run with one cell too few behind " + globals, made(globals + 2, 9, text).run(99), 4);
            check.due("run with just enough behind " + globals, made(globals + 3, 9, text).run(99), 1);
        }
        // what a call leaves in its cells doesn't come into the globals
        check.prints("int a[2];int f(int x){int y=x;return y+1;}int main(){a[1]=f(f(8));print(a[0]);print(a[1]);}", 0, 10);
    }

    private static void value(String e, int due) {
        check.prints("int main(){print(" + e + ");}", due);
    }

    /** Terms II: at, just within and just beyond both ends, for + - * and - ahead of one. */
    private static void valuesGoRound() {
        check.sentence("Terms II", "Values have 32 bits and go round;");
        value("2147483646+1", MAX);
        value("2147483647+0", MAX);
        value("2147483647+1", MIN);
        value("2147483647+2", MIN + 1);
        value("2147483647+2147483647", -2);
        value("-2147483647-0", MIN + 1);
        value("-2147483647-1", MIN);
        value("-2147483647-2", MAX);
        value("-2147483647-3", MAX - 1);
        value(LEAST + "+" + LEAST, 0);
        value(LEAST + "-1", MAX);
        value("0-" + LEAST, MIN);
        value("2147483647-" + LEAST, -1);
        value("-" + LEAST, MIN);
        value("--" + LEAST, MIN);
        value("-(" + LEAST + "+1)", MAX);
        value("-2147483647", MIN + 1);
        value("-0", 0);
        value("~2147483647", MIN);
        value("~" + LEAST, MAX);
        value("~0", -1);
        value("~-1", 0);
        value("46340*46340", 2147395600);
        value("46341*46341", -2147479015);
        value("65536*32768", MIN);
        value("65536*32767", 2147418112);
        value("65536*65536", 0);
        value("65537*65537", 131073);
        value(LARGEST + "*" + LARGEST, 1);
        value(LARGEST + "*2", -2);
        value(LEAST + "*-1", MIN);
        value(LEAST + "*2", 0);
        value(LEAST + "*" + LEAST, 0);
        value(LEAST + "*" + LARGEST, MIN);
    }

    /** Terms II: just below, at and above a whole one, with each pair of signs, and the ends. */
    private static void cutTowardsZero() {
        check.sentence("Terms II", "/ and % cut towards 0;");
        int[] xs = {-8, -7, -6, -5, -4, -3, -2, -1, 0, 1, 2, 3, 4, 5, 6, 7, 8};
        int[] quotients = {2, 2, 2, 1, 1, 1, 0, 0, 0, 0, 0, 1, 1, 1, 2, 2, 2};
        int[] rests = {2, 1, 0, 2, 1, 0, 2, 1, 0, 1, 2, 0, 1, 2, 0, 1, 2};
        for (int i = 0; i < xs.length; i++) {
            int sign = xs[i] < 0 ? -1 : 1;
            value(xs[i] + "/3", sign * quotients[i]);
            value(xs[i] + "/-3", -sign * quotients[i]);
            value(xs[i] + "%3", sign * rests[i]);
            value(xs[i] + "%-3", sign * rests[i]);
        }
        value(LARGEST + "/1", MAX);
        value(LARGEST + "/-1", -MAX);
        value(LARGEST + "/" + LARGEST, 1);
        value("2147483646/" + LARGEST, 0);
        value(LARGEST + "/2", 1073741823);
        value(LEAST + "/2", -1073741824);
        value(LEAST + "/" + LARGEST, -1);
        value(LARGEST + "/" + LEAST, 0);
        value(LEAST + "/" + LEAST, 1);
        value(LEAST + "%2", 0);
        value(LEAST + "%" + LARGEST, -1);
        value(LARGEST + "%" + LEAST, MAX);
        value(LEAST + "%" + LEAST, 0);
    }

    /** Terms II: the one quotient that goes round, and its neighbours. */
    private static void theLeastByMinusOne() {
        check.sentence("Terms II", "Values have 32 bits and go round; / and % cut towards 0;");
        value(LEAST + "/-1", MIN);
        value(LEAST + "%-1", 0);
        value("(" + LEAST + "+1)/-1", MAX);
        value("(" + LEAST + "+1)%-1", 0);
        value(LEAST + "/1", MIN);
        value(LEAST + "%1", 0);
        value(LEAST + "/-2", 1073741824);
        value(LEAST + "%-2", 0);
        value("-1/" + LEAST, 0);
        value("-1%" + LEAST, -1);
    }

    /** Terms II: by 0, 1, 31, 32, 33, 63, 64, by less than 0, by the ends. */
    private static void shiftsByTheLowestFiveBits() {
        check.sentence("Terms II", "<< >> by the lowest 5 bits,");
        String[] by = {"0", "1", "30", "31", "32", "33", "62", "63", "64", "65", "-1", "-2", "-31", "-32", "-33", LEAST, LARGEST, "1024"};
        int[] bits = {0, 1, 30, 31, 0, 1, 30, 31, 0, 1, 31, 30, 1, 0, 31, 0, 31, 0};
        int[] left = new int[32];
        int power = 1;
        for (int i = 0; i < 32; i++) {
            left[i] = power;
            power = power + power;
        }
        for (int i = 0; i < by.length; i++) {
            int n = bits[i];
            value("1<<" + by[i], left[n]);
            value("3<<" + by[i], n == 31 ? MIN : n == 30 ? -1073741824 : 3 * left[n]);
            value("-1<<" + by[i], n == 31 ? MIN : -left[n]);
            value(LARGEST + ">>" + by[i], n == 0 ? MAX : n == 1 ? 1073741823 : n == 30 ? 1 : 0);
            value(LEAST + ">>" + by[i], n == 0 ? MIN : n == 1 ? -1073741824 : n == 30 ? -2 : -1);
        }
    }

    /** Terms II: of -1 nothing but -1 is left, of 0 and 1 nothing; it goes downwards below 0. */
    private static void shiftKeepsTheSign() {
        check.sentence("Terms II", ">> keeps the sign;");
        for (int n = 0; n < 34; n++) {
            value("-1>>" + n, -1);
            value("0>>" + n, 0);
            value("1>>" + n, n == 0 || n == 32 ? 1 : 0);
        }
        value("-8>>1", -4);
        value("-7>>1", -4);
        value("-9>>1", -5);
        value("-8>>3", -1);
        value("-8>>2", -2);
        value("7>>1", 3);
        value("8>>3", 1);
        value("8>>4", 0);
    }

    /** Terms II: one below, the same, one above, and both ends against one another. */
    private static void oneOrZero() {
        check.sentence("Terms II", "comparing, ! give 1 or 0.");
        String[] xs = {LEAST, "-2147483647", "-1", "0", "1", "2147483646", LARGEST};
        for (int i = 0; i < xs.length; i++) {
            for (int j = 0; j < xs.length; j++) {
                value(xs[i] + "==" + xs[j], i == j ? 1 : 0);
                value(xs[i] + "!=" + xs[j], i == j ? 0 : 1);
                value(xs[i] + "<" + xs[j], i < j ? 1 : 0);
                value(xs[i] + "<=" + xs[j], i <= j ? 1 : 0);
                value(xs[i] + ">" + xs[j], i > j ? 1 : 0);
                value(xs[i] + ">=" + xs[j], i >= j ? 1 : 0);
            }
            value("!" + xs[i], i == 3 ? 1 : 0);
            value("!!" + xs[i], i == 3 ? 0 : 1);
        }
    }

    // ---- instructions ----

    /** Terms II, 0: the least and the largest value of main, and 0 if it doesn't return. */
    private static void zeroEndsIt() {
        check.sentence("Terms II", "0 ends it: the value on top comes out, HALTED.");
        String[] returns = {"", "return 0;", "return -1;", "return " + LARGEST + ";", "return " + LEAST + ";"};
        int[] due = {0, 0, -1, MAX, MIN};
        for (int i = 0; i < returns.length; i++) {
            TinyC x = made(99, 1, "int main(){" + returns[i] + "}");
            check.due("run with " + returns[i], x.run(99), 1);
            check.outs(returns[i], x, due[i]);
        }
    }

    /** Terms II, 31: 0 alone, not its neighbours, not what has its lowest bits 0. */
    private static void ifItIsZero() {
        check.sentence("Terms II", "31 t: the top goes; if it is 0 PC is t.");
        for (String no : new String[] {"0", "-0", "1-1", LEAST + "+" + LEAST}) {
            check.prints("int main(){if(" + no + ")print(1);else print(2);while(" + no + ")print(3);}", 2);
            value("(" + no + ")&&1", 0);
            value("(" + no + ")||0", 0);
        }
        for (String yes : new String[] {"1", "-1", "2", "256", "65536", LARGEST, LEAST}) {
            check.prints("int main(){if(" + yes + ")print(1);else print(2);while(" + yes + "){print(3);return 0;}}", 1, 3);
            value("(" + yes + ")&&1", 1);
            value("(" + yes + ")||0", 1);
            value("1&&" + yes, 1);
            value("0||" + yes, 1);
        }
    }

    /** Terms II, 32 and 33: no parameter, one, eight; the deepest call that fits, and one deeper. */
    private static void callsAndReturns() {
        check.sentence("Terms II", "33 n: v goes; SP is FP - 2 - n, PC and FP what was pushed; v is pushed.");
        check.prints("int f(){return 5;}int main(){print(1+f()+2);}", 8);
        check.prints("int f(int x){return x;}int main(){int y=3;print(10+f(y)+y);}", 16);
        check.prints("int f(int a,int b,int c,int d,int e,int f,int g,int h){int x=a;{int y=h;return x*10+y;}}"
            + "int main(){int z=7;print(100+f(1,2,3,4,5,6,7,8)+z);}", 125);
        String text = "int f(int n){if(n)return f(n-1);return 9;}int main(){return f(?);}";
        for (int n = 0; n <= 3; n++) {
            String deep = text.replace("?", "" + n);
            // main's PC, FP; for each call of f its part, PC, FP; in the last one a value
            int cells = 2 + 3 * (n + 1) + 1;
            check.due("run with just enough of " + deep, made(cells, 9, deep).run(999), 1);
            check.due("run with one too few of " + deep, made(cells - 1, 9, deep).run(999), 4);
        }
    }

    /** Terms II, 10 to 12: no bit, all bits, the sign's bit alone, all but it. */
    private static void bitsAtTheirEnds() {
        check.sentence("Terms II", "10 to 23, 27, 28: y goes, x goes, x op y is pushed; 24 to 26 of one.");
        String[] xs = {"0", "-1", LEAST, LARGEST, "1"};
        int[] values = {0, -1, MIN, MAX, 1};
        int[][] either = {{0, -1, MIN, MAX, 1}, {-1, -1, -1, -1, -1}, {MIN, -1, MIN, -1, MIN + 1}, {MAX, -1, -1, MAX, MAX}, {1, -1, MIN + 1, MAX, 1}};
        int[][] both = {{0, 0, 0, 0, 0}, {0, -1, MIN, MAX, 1}, {0, MIN, MIN, 0, 0}, {0, MAX, 0, MAX, 1}, {0, 1, 0, 1, 1}};
        for (int i = 0; i < xs.length; i++) {
            for (int j = 0; j < xs.length; j++) {
                value(xs[i] + "|" + xs[j], either[i][j]);
                value(xs[i] + "&" + xs[j], both[i][j]);
                value(xs[i] + "^" + xs[j], either[i][j] - both[i][j]);
            }
            value("~" + xs[i], -1 - values[i]);
        }
    }

    /** Terms II, 36 and what else takes from the top: behind each S, done twice, all cells but its LOCALS' are free again. */
    private static void nothingIsLeftBehind() {
        check.sentence("Terms II", "36: the top goes.");
        stack("int n(){}int main(){n();n();}", 2, 2, 4, 4, 5, 3, 2, 4, 4, 5, 3, 2, 3, 1, 0);
        String[] all = {";", "{}", "{int x;}", "v=1;", "a[1]=2;", "v=a[1];", "print(3);", "if(1);", "if(0);else v=1;", "while(v){v=0;}",
            "n();", "f(1);", "v=f(n());", "v=1&&0;", "v=0||1;", "v=-!~v;", "v=read();"};
        for (String s : all) {
            String text = "int v;int a[2];int n(){}int f(int x){int y;return x;}int main(){" + s + s + "return 1-(2-(3-(4-(5-(6-7)))));}";
            // globals, PC and FP, LOCALS, seven numbers
            int cells = 3 + 2 + (s.contains("int x") ? 1 : 0) + 7;
            check.due("run with just enough of " + text, made(cells, 9, text, 5, 6).run(999), 1);
            check.due("run with one too few of " + text, made(cells - 1, 9, text, 5, 6).run(999), 4);
        }
    }

    // ---- traps ----

    /** Terms II: more input, more room in no way, more text, a wrong text, interpret() don't help; reset() and compile() do. */
    private static void standsForGood() {
        check.sentence("Terms II", "TRAPS (the machine stands for good):");
        TinyC x = made(99, 9, "int main(){print(1);return read();}");
        check.due("run", x.run(99), 5);
        check.due("input(7)", x.input(7), 0);
        check.due("run behind input(7)", x.run(99), 5);
        check.due("interpret", x.interpret(99), -2);
        check.due("run behind interpret", x.run(99), 5);
        check.due("feed", x.feed(32), 0);
        check.due("run behind feed", x.run(99), 5);
        check.due("feed", x.feed('#'), 0);
        check.due("compile() of a wrong text", x.compile() & 15, 1);
        check.due("run behind a wrong text", x.run(99), 5);
        check.outs("once", x, 1);
        x.reset();
        check.due("run behind reset()", x.run(99), 1);
        TinyC y = made(99, 9, "int main(){return 1/0;}");
        check.due("run", y.run(99), 2);
        check.due("compile()", y.compile(), 0);
        check.due("run(0) behind compile()", y.run(0), 0);
    }

    /** Terms II, 2: by -1, 0 and 1; of 0 and of the ends; a 0 that is made, not told. */
    private static void byZero() {
        check.sentence("Terms II", "2 ZERO: / % by 0.");
        for (String sign : new String[] {"/", "%"}) {
            for (String x : new String[] {"0", "1", "-1", LARGEST, LEAST}) {
                check.ends("int main(){return " + x + sign + "0;}", 2);
                check.ends("int main(){return " + x + sign + "-0;}", 2);
                check.ends("int main(){return " + x + sign + "(1-1);}", 2);
                check.ends("int main(){return " + x + sign + "1;}", 1);
                check.ends("int main(){return " + x + sign + "-1;}", 1);
            }
        }
        check.ends("int v;int main(){return 1/v;}", 2);
        trapAt(made(99, 9, "int main(){print(8);print(7%0);}"), 7, 2, "7%0");
    }

    /** Terms II, 3: -1, 0, n - 1, n and the ends, of arrays of 1, 2 and 1000, taken and set. */
    private static void placeWithinAnArray() {
        check.sentence("Terms II", "3 PLACE: i of 6, 7 isn't 0 .. n - 1.");
        for (int n : new int[] {1, 2, 1000}) {
            String text = "int u;int a[" + n + "];int w;int main(){";
            for (String i : new String[] {"0", "" + (n - 1)}) {
                check.ends(text + "return a[" + i + "];}", 1);
                check.ends(text + "a[" + i + "]=1;}", 1);
                check.prints(text + "a[" + i + "]=5;print(a[" + i + "]);print(u);print(w);}", 5, 0, 0);
            }
            for (String i : new String[] {"-1", "" + n, "" + (n + 1), "4096", LARGEST, LEAST, "(" + LEAST + "+1)"}) {
                check.ends(text + "return a[" + i + "];}", 3);
                check.ends(text + "a[" + i + "]=1;}", 3);
            }
        }
        // the value goes, then i: both parts are made before it is looked at
        check.ends("int a[1];int main(){a[1]=1/0;}", 2);
        check.ends("int a[1];int main(){a[1]=read();}", 5);
        trapAt(made(99, 9, "int a[1];int main(){a[1]=1;}"), 5, 3, "a[1]=1");
    }

    /**
     * SP behind each step, as the document's instructions move it: with fewer cells the machine stands at the
     * first step that would need more, with as many as the largest it comes to its end.
     */
    private static void stack(String text, int... sp) {
        int most = 0;
        for (int s : sp) {
            most = Math.max(most, s);
        }
        for (int cells = 0; cells <= most + 1; cells++) {
            int step = 1;
            while (step < sp.length && sp[step - 1] <= cells) {
                step++;
            }
            int status = sp[step - 1] > cells ? 4 : 1;
            trapAt(made(cells, 9, text, 5, 6), step, status, text + " with " + cells + " cells");
        }
    }

    /** Terms II, 4: 1, 2, 4, 35 as the ones that push too much; others take before they push. */
    private static void pushingBeyondMemory() {
        check.sentence("Terms II", "4 ROOM: pushing beyond memory's cells");
        stack("int main(){}", 2, 2, 3, 1, 0);
        stack("int main(){return 5;}", 2, 2, 3, 1, 0);
        stack("int main(){return 1+2;}", 2, 2, 3, 4, 3, 1, 0);
        stack("int main(){return 1-(2-3);}", 2, 2, 3, 4, 5, 4, 3, 1, 0);
        stack("int main(){return -!~1;}", 2, 2, 3, 3, 3, 3, 1, 0);
        stack("int v;int main(){return 1+v;}", 3, 3, 4, 5, 4, 2, 1);
        stack("int main(){int x;return 1+x;}", 2, 3, 4, 3, 4, 5, 4, 1, 0);
        stack("int main(){return 1+read();}", 2, 2, 3, 4, 3, 1, 0);
        stack("int v;int main(){v=v+1;}", 3, 3, 4, 5, 4, 3, 4, 2, 1);
        stack("int a[2];int main(){a[1]=2;print(a[1]);}", 4, 4, 5, 6, 4, 5, 5, 4, 5, 3, 2);
        stack("int main(){int i=1;while(i)i=i-1;}", 2, 3, 4, 3, 4, 3, 4, 5, 4, 3, 3, 4, 3, 4, 1, 0);
        stack("int main(){return 1&&0;}", 2, 2, 3, 2, 3, 2, 3, 1, 0);
        stack("int main(){return 0||7;}", 2, 2, 3, 2, 3, 2, 3, 3, 1, 0);
        stack("int f(int x,int y){return x-y;}int main(){f(5,3);}", 2, 2, 3, 4, 6, 6, 7, 8, 7, 3, 2, 3, 1, 0);
        stack("int f(int x){return x;}int main(){return 1+f(2);}", 2, 2, 3, 4, 6, 6, 7, 4, 3, 1, 0);
    }

    /** Terms II, 4 of 32: with none, one and two cells left. */
    private static void bothOfACall() {
        check.sentence("Terms II", "(of 32, 37: both, all of them;");
        for (int cells = 0; cells <= 2; cells++) {
            check.due("the first call with " + cells, made(cells, 9, "int main(){}").step(), cells < 2 ? 4 : 0);
        }
        String text = "int f(){}int main(){f();}";
        for (int left = 0; left <= 3; left++) {
            TinyC x = made(2 + left, 9, text);
            check.due("up to the call", x.run(2), 0);
            check.due("the call with " + left + " left", x.step(), left < 2 ? 4 : 0);
        }
        check.due("all of it with two left", made(4, 9, text).run(99), 4);
        check.due("all of it with three left", made(5, 9, text).run(99), 1);
    }

    /** Terms II, 4 of 37: k of 0, 1, 3, with one fewer than k, k, one more left. */
    private static void allOfTheLocals() {
        check.sentence("Terms II", "(of 32, 37: both, all of them;");
        String[] locals = {"", "int x;", "int x;int y;int z;"};
        int[] k = {0, 1, 3};
        for (int i = 0; i < k.length; i++) {
            for (int left = 0; left <= k[i] + 1; left++) {
                TinyC x = made(2 + left, 9, "int main(){" + locals[i] + "}");
                check.due("the call", x.step(), 0);
                check.due("37 " + k[i] + " with " + left + " left", x.step(), left < k[i] ? 4 : 0);
                check.due("the next with " + left + " left", x.step(), left <= k[i] ? 4 : 0);
            }
        }
    }

    /** Terms II, 4: one global more than cells, as many, one fewer; the first step tells, not run(0), compile(), reset(). */
    private static void globalsThatDoNotFit() {
        check.sentence("Terms II", "globals that don't fit: at the first step)");
        for (int globals = 8; globals <= 14; globals++) {
            TinyC x = made(10, 9, "int a[" + (globals - 1) + "];int v;int main(){print(1);}");
            check.due("run(0) with " + globals, x.run(0), 0);
            check.due("step() with " + globals, x.step(), globals > 8 ? 4 : 0);
            check.due("step() again with " + globals, x.step(), globals > 8 ? 4 : 0);
            check.due("interpret(1): a step was done", x.interpret(1), -2);
            check.due("outSize()", x.outSize(), 0);
            x.reset();
            check.due("run(0) behind reset()", x.run(0), 0);
        }
        TinyC most = made(4096, 9, "int a[1000];int b[1000];int c[1000];int d[1000];int e[1000];int main(){}");
        check.due("5000 globals: run(0)", most.run(0), 0);
        check.due("5000 globals: step()", most.step(), 4);
        most.reset();
        check.due("5000 globals: interpret(1)", most.interpret(1), 4);
    }

    /** Terms II, 5: none of none, one of none, one of one, two of one; the values at their ends are input like others. */
    private static void noMoreInput() {
        check.sentence("Terms II", "5 INPUT: there is no more");
        check.ends("int main(){return 0;}", 1);
        check.ends("int main(){return read();}", 5);
        check.ends("int main(){return read();}", 1, 0);
        check.ends("int main(){return read();}", 1, -1);
        check.ends("int main(){return read();}", 1, MIN);
        check.ends("int main(){return read()+read();}", 5, 1);
        check.ends("int main(){return read()+read();}", 1, 1, 2);
        TinyC full = made(99, 1, "int main(){print(read());print(read());}", 4, 5);
        check.due("a full input of one", full.run(99), 5);
        TinyC none = made(99, 0, "int main(){return read();}", 4);
        check.due("input without cells", none.run(99), 5);
    }

    /** Terms II, 5 ahead of 4: neither input nor room, input alone, room alone, both. */
    private static void inputAheadOfRoom() {
        check.sentence("Terms II", "5 INPUT: there is no more (ahead of 4).");
        String text = "int main(){return read();}";
        trapAt(made(2, 9, text), 3, 5, "neither");
        trapAt(made(2, 9, text, 1), 3, 4, "input alone");
        trapAt(made(3, 9, text), 3, 5, "room alone");
        trapAt(made(3, 9, text, 1), 5, 1, "both");
    }

    /** Terms II, 6 of 34: no cell, one, two for two numbers; what was there stays. */
    private static void noRoomForWhatComesOut() {
        check.sentence("Terms II", "6 OUTPUT: there is no room for what comes out");
        String text = "int main(){print(4);print(5);return 6;}";
        trapAt(made(99, 0, text), 4, 6, "no cells");
        trapAt(made(99, 1, text), 6, 6, "one cell");
        trapAt(made(99, 2, text), 9, 6, "two cells");
        trapAt(made(99, 3, text), 9, 1, "three cells");
        trapAt(made(99, 4, text), 9, 1, "four cells");
        TinyC x = made(99, 1, text);
        check.due("run", x.run(99), 6);
        check.outs("what was there", x, 4);
    }

    /** Terms II, 6 of 0. */
    private static void noRoomForTheLastValue() {
        check.sentence("Terms II", "6 OUTPUT: there is no room for what comes out (of 0, too).");
        trapAt(made(99, 0, "int main(){}"), 5, 6, "no cells");
        trapAt(made(99, 1, "int main(){}"), 5, 1, "one cell");
        trapAt(made(99, 1, "int main(){print(3);}"), 7, 6, "one cell");
        TinyC x = made(99, 1, "int main(){print(3);return 4;}");
        check.due("run", x.run(99), 6);
        check.outs("the first alone", x, 3);
    }
}
