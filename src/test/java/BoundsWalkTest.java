/**
 * Promise 7 with Terms III, the text by itself: each sentence that names a bound with a test of its own,
 * the case at the bound, the one just within it, the one just beyond it.
 */
final class BoundsWalkTest {
    private static final Check check = new Check("BoundsWalkTest");
    private static final int MIN = Integer.MIN_VALUE;
    private static final int MAX = Integer.MAX_VALUE;

    public static void main(String[] args) {
        promiseSeven();
        expressions();
        statements();
        ends();
        traps();
        room();
        check.end();
    }

    private static void promiseSeven() {
        fuelAtMost();
        fuelBelowZero();
        statusWithoutAnyStep();
        minusOneWithoutCode();
        minusTwoBehindAStepOfTheMachine();
    }

    private static void expressions() {
        oneItemAtFirst();
        numberNameRead();
        itemsSignsAndCalls();
        fewestAndMostParts();
        andAlsoOrElse();
        whetherItIsZero();
        callsAndTheirEnd();
    }

    private static void statements() {
        blocksWithoutAny();
        blocksWithOneAndMore();
        localsAssignmentsPrints();
        itemAssignments();
        callsAlone();
        ifs();
        whiles();
        returns();
        localsAreZeroAtFirst();
    }

    private static void ends() {
        haltedByTheLastStep();
        noRoomForTheLastValue();
    }

    private static void traps() {
        zeroAsInTwo();
        placeAsInTwo();
        inputAsInTwo();
        outputAsInTwo();
    }

    private static void room() {
        framesCountTheirParametersAndLocals();
        globalsCount();
        globalsAloneThatDoNotFit();
        roomAheadOfHalted();
        whatHasComeOut();
        deepCalls();
        nothingIsLeftBehind();
    }

    private static TinyC made(int memCells, int ioCells, String text, int... inputs) {
        return check.madeWith(memCells, ioCells, text, inputs);
    }

    /** So many STEPS go on, and the next one tells this for good. */
    private static void endAt(TinyC x, int step, int status, String text) {
        for (int i = 1; i < step; i++) {
            check.due("STEP " + i + " of " + text, x.interpret(1), 0);
        }
        for (int i = 0; i < 3; i++) {
            check.due("STEP " + (step + i) + " of " + text, x.interpret(1), status);
        }
    }

    /**
     * VALUES, ITEMS, globals and FRAMES behind each STEP, counted by hand from the document: with fewer cells
     * it is ROOM at the first STEP behind which there are more, with as many as the most it is HALTED by the last.
     */
    private static void cells(String text, int... sums) {
        int most = 0;
        for (int s : sums) {
            most = Math.max(most, s);
        }
        for (int cells = 0; cells <= most + 1; cells++) {
            int step = 1;
            while (step < sums.length && sums[step - 1] <= cells) {
                step++;
            }
            int status = sums[step - 1] > cells ? 4 : 1;
            endAt(made(cells, 9, text, 5, 6), step, status, text + " with " + cells + " cells");
        }
    }

    // ---- promise 7 ----

    /** Promise 7: none, one, one fewer than there are, as many, one more, far more; in one go and in parts. */
    private static void fuelAtMost() {
        check.sentence("Promise 7", "STEPS of the text until it stands, but fuel at most: likewise.");
        // call, BLOCK, row, print, 1, done, row, return, 2, done
        String text = "int main(){print(1);return 2;}";
        int[] outs = {0, 0, 0, 0, 0, 0, 1, 1, 1, 1, 2, 2};
        for (int fuel = 0; fuel <= 11; fuel++) {
            TinyC x = made(99, 9, text);
            check.due("interpret(" + fuel + ")", x.interpret(fuel), fuel >= 10 ? 1 : 0);
            check.due("outSize() behind interpret(" + fuel + ")", x.outSize(), outs[fuel]);
            check.due("the last but one", x.interpret(Math.max(0, 9 - fuel)), fuel >= 10 ? 1 : 0);
            check.due("one more", x.interpret(1), 1);
        }
        for (int fuel : new int[] {12, 1000000, MAX - 1, MAX}) {
            TinyC x = made(99, 9, text);
            check.due("interpret(" + fuel + ")", x.interpret(fuel), 1);
            check.outs("all", x, 1, 2);
        }
        TinyC loop = made(99, 9, "int main(){while(1);}");
        check.due("one that doesn't stand", loop.interpret(100000), 0);
        check.due("and goes on", loop.interpret(1), 0);
    }

    /** Promise 7: 0 and below do nothing, ahead of all, in the midst, and behind the end. */
    private static void fuelBelowZero() {
        check.sentence("Promise 7", "STEPS of the text until it stands, but fuel at most: likewise.");
        TinyC x = made(99, 9, "int main(){print(7);}");
        for (int i = 1; i <= 7; i++) {
            for (int fuel : new int[] {0, -1, -2, MIN + 1, MIN}) {
                check.due("interpret(" + fuel + ") ahead of STEP " + i, x.interpret(fuel), 0);
            }
            check.due("outSize() ahead of STEP " + i, x.outSize(), i > 6 ? 1 : 0);
            check.due("STEP " + i, x.interpret(1), i == 7 ? 1 : 0);
        }
        check.due("interpret(-1) behind the end", x.interpret(-1), 1);
        check.due("outSize()", x.outSize(), 2);
    }

    /** Promise 7: 0 ahead of the first STEP, though it will find no room; then each way to stand. */
    private static void statusWithoutAnyStep() {
        check.sentence("Promise 7", "until it stands, but fuel at most: likewise.");
        String[] texts = {"int main(){}", "int main(){return 1/0;}", "int a[1];int main(){return a[1];}", "int main(){int x;int y;}",
            "int main(){return read();}", "int main(){print(1);print(2);}"};
        for (int i = 0; i < texts.length; i++) {
            TinyC x = made(i == 3 ? 3 : 99, 1, texts[i]);
            check.due("interpret(0) ahead of " + texts[i], x.interpret(0), 0);
            check.due("interpret(99) of " + texts[i], x.interpret(99), i + 1);
            check.due("interpret(0) behind " + texts[i], x.interpret(0), i + 1);
            check.due("interpret(-1) behind " + texts[i], x.interpret(-1), i + 1);
            check.due("interpret(99) behind " + texts[i], x.interpret(99), i + 1);
            x.reset();
            check.due("interpret(0) behind reset()", x.interpret(0), 0);
        }
        check.due("interpret(0) with globals that don't fit", made(0, 9, "int v;int main(){}").interpret(0), 0);
    }

    /** Promise 7: with fuel and without; a new object, one with a text, one with a wrong text. */
    private static void minusOneWithoutCode() {
        check.sentence("Promise 7", "-1 without code;");
        TinyC x = new TinyC(99, 99, 99, 99, 9);
        for (String more : new String[] {"", "int main(){", "}"}) {
            Check.fed(x, more);
            for (int fuel : new int[] {MIN, -1, 0, 1, MAX}) {
                check.due("interpret(" + fuel + ") with " + more, x.interpret(fuel), -1);
            }
            if (!more.equals("}")) {
                check.due("compile()", x.compile() == 0 ? 1 : 0, 0);
                check.due("interpret(1) behind a wrong text", x.interpret(1), -1);
            }
        }
        check.due("compile()", x.compile(), 0);
        check.due("interpret(1) with code", x.interpret(1), 0);
        Check.fed(x, "}");
        check.due("compile() of a wrong text", x.compile(), 2 + 16 * 12);
        check.due("interpret(1) with the code that stays", x.interpret(1), 0);
    }

    /** Promise 7: behind run(0) it is not so, behind one step it is, a TRAP's, too, till reset() or compile(). */
    private static void minusTwoBehindAStepOfTheMachine() {
        check.sentence("Promise 7", "-2 if the machine did a step since reset().");
        TinyC x = made(99, 9, "int main(){return 5;}");
        for (int fuel : new int[] {0, -1, MIN}) {
            check.due("run(" + fuel + ")", x.run(fuel), 0);
            check.due("interpret(0)", x.interpret(0), 0);
        }
        check.due("step()", x.step(), 0);
        for (int fuel : new int[] {MIN, -1, 0, 1, MAX}) {
            check.due("interpret(" + fuel + ")", x.interpret(fuel), -2);
        }
        check.due("run(3): what was refused did nothing", x.run(3), 0);
        check.due("run(1)", x.run(1), 1);
        check.due("interpret(1) behind HALTED", x.interpret(1), -2);
        x.reset();
        check.due("interpret(1) behind reset()", x.interpret(1), 0);
        check.due("step() is refused", x.step(), -2);
        check.due("what was refused was no step", x.interpret(5), 1);
        TinyC trap = made(1, 9, "int main(){}");
        check.due("step() that comes to a TRAP", trap.step(), 4);
        check.due("interpret(1)", trap.interpret(1), -2);
        check.due("compile()", trap.compile(), 0);
        check.due("interpret(1) behind compile()", trap.interpret(1), 4);
        TinyC globals = made(4, 9, "int a[5];int main(){}");
        check.due("step() with globals that don't fit", globals.step(), 4);
        check.due("interpret(0)", globals.interpret(0), -2);
    }

    // ---- E ----

    /** Terms III: the call of main is there ahead of the first STEP, which makes of it its end and its BLOCK. */
    private static void oneItemAtFirst() {
        check.sentence("Terms III", "At first one ITEM: a call of main, all parts of which are there.");
        cells("int main(){}", 2, 1, 1);
        check.due("interpret(0) with no cell for it", made(0, 9, "int main(){}").interpret(0), 0);
    }

    /** Terms III: one STEP, which puts a value where the ITEM was. */
    private static void numberNameRead() {
        check.sentence("Terms III", "E: NUMBER, NAME, read: its value comes.");
        cells("int main(){return 5;}", 2, 2, 2, 3, 3, 1);
        cells("int main(){return read();}", 2, 2, 2, 3, 3, 1);
        cells("int v;int main(){return v;}", 3, 3, 3, 4, 4, 2);
        cells("int main(){int x;return x;}", 3, 3, 4, 3, 3, 4, 4, 1);
        cells("int main(){return ((5));}", 2, 2, 2, 3, 3, 1);
    }

    /** Terms III: with one part, with two. */
    private static void itemsSignsAndCalls() {
        check.sentence("Terms III", "calls: an ITEM for what is to be done, and above it its parts, the first one on top");
        cells("int a[2];int main(){return a[1];}", 4, 4, 4, 5, 6, 6, 5, 3);
        cells("int main(){return -1;}", 2, 2, 2, 3, 4, 4, 3, 1);
        cells("int main(){return !~1;}", 2, 2, 2, 3, 4, 5, 5, 4, 3, 1);
        cells("int main(){return 1+2;}", 2, 2, 2, 3, 5, 5, 5, 3, 1);
        cells("int main(){return 1-(2-3);}", 2, 2, 2, 3, 5, 5, 7, 7, 7, 5, 3, 1);
        cells("int main(){return 1-2-3;}", 2, 2, 2, 3, 5, 7, 7, 7, 5, 5, 3, 1);
    }

    /** Terms III: a call with no part, with one, with eight. */
    private static void fewestAndMostParts() {
        check.sentence("Terms III", "calls: an ITEM for what is to be done, and above it its parts, the first one on top");
        cells("int n(){}int main(){return n();}", 2, 2, 2, 3, 3, 4, 3, 3, 1);
        cells("int f(int x){}int main(){return f(9);}", 2, 2, 2, 3, 4, 4, 5, 4, 3, 1);
        cells("int f(int a,int b,int c,int d,int e,int f,int g,int h){}int main(){return f(1,2,3,4,5,6,7,8);}",
            2, 2, 2, 3, 11, 11, 11, 11, 11, 11, 11, 11, 11, 12, 11, 3, 1);
        check.prints("int f(int a,int b,int c,int d,int e,int f,int g,int h){print(a);print(b);print(g);print(h);return 0;}"
            + "int main(){f(1,2,3,4,5,6,7,8);}", 1, 2, 7, 8);
    }

    /** Terms III: the first part says it, and it doesn't. */
    private static void andAlsoOrElse() {
        check.sentence("Terms III", "&& ||: the value goes; if that says it, 0 or 1 comes; else an ITEM for whether it is 0, above it the second part;");
        cells("int main(){return 1&&2;}", 2, 2, 2, 3, 4, 4, 4, 4, 3, 1);
        cells("int main(){return 0||2;}", 2, 2, 2, 3, 4, 4, 4, 4, 3, 1);
        cells("int main(){return 0&&2;}", 2, 2, 2, 3, 4, 4, 3, 1);
        cells("int main(){return 1||2;}", 2, 2, 2, 3, 4, 4, 3, 1);
        cells("int main(){return 0&&2&&3;}", 2, 2, 2, 3, 4, 5, 5, 4, 3, 1);
        cells("int main(){return 0||(0||3);}", 2, 2, 2, 3, 4, 4, 4, 5, 5, 5, 5, 4, 3, 1);
    }

    /** Terms III: 0 alone is 0; its neighbours and the ends are not. */
    private static void whetherItIsZero() {
        check.sentence("Terms III", "that ITEM: 1 if the value that goes is not 0, else 0;");
        for (String yes : new String[] {"1", "-1", "2", "2147483647", "(-2147483647-1)", "65536"}) {
            check.prints("int main(){print(1&&" + yes + ");print(0||" + yes + ");print(" + yes + "&&0);print(" + yes + "||0);}", 1, 1, 0, 1);
        }
        check.prints("int main(){print(1&&0);print(0||0);print(0&&1);print(0||1);}", 0, 0, 0, 1);
    }

    /** Terms III: without parts, with one part and one LOCAL; by its end and by return. */
    private static void callsAndTheirEnd() {
        check.sentence("Terms III", "a call: the values go into a FRAME; ITEM: its end, above it its BLOCK; the end: 0 comes, the FRAME is gone.");
        cells("int n(){}int main(){n();}", 2, 2, 2, 3, 3, 4, 3, 3, 1, 1);
        cells("int f(int x){int y;}int main(){f(1);}", 2, 2, 2, 3, 4, 4, 6, 6, 6, 5, 3, 1, 1);
        cells("int f(int x){return x;}int main(){return f(9);}", 2, 2, 2, 3, 4, 4, 5, 5, 5, 6, 6, 3, 1);
        check.prints("int n(){}int main(){print(n());}", 0);
    }

    // ---- S ----

    /** Terms III: a FUNCTION's own, one that is an S. */
    private static void blocksWithoutAny() {
        check.sentence("Terms III", "BLOCK: an ITEM for its first LOCAL or S and what is behind (one without any: nothing comes);");
        cells("int main(){}", 2, 1, 1);
        cells("int main(){{}}", 2, 2, 2, 1, 1);
        cells("int main(){{}{}}", 2, 2, 3, 2, 2, 1, 1);
        cells("int main(){{{}}}", 2, 2, 2, 2, 2, 1, 1);
    }

    /** Terms III: one, two, three of them; the last has nothing behind it. */
    private static void blocksWithOneAndMore() {
        check.sentence("Terms III", "that ITEM: another one for what is behind (if there is some), above it that LOCAL, S.");
        cells("int main(){;}", 2, 2, 2, 1, 1);
        cells("int main(){;;}", 2, 2, 3, 2, 2, 1, 1);
        cells("int main(){;;;}", 2, 2, 3, 2, 3, 2, 2, 1, 1);
        cells("int main(){{;}}", 2, 2, 2, 2, 2, 1, 1);
        cells("int main(){int x;;}", 3, 3, 4, 3, 3, 2, 1);
        cells("int main(){{int x;}{int y;int z;}}", 4, 4, 5, 5, 5, 4, 4, 4, 5, 4, 4, 3, 1);
    }

    /** Terms III: a LOCAL without E is done at once, the others in three STEPS. */
    private static void localsAssignmentsPrints() {
        check.sentence("Terms III", "above it E (of LOCAL without E: done at once, 0).");
        cells("int main(){int x;}", 3, 3, 3, 2, 1);
        cells("int main(){int x=4;}", 3, 3, 3, 4, 4, 2, 1);
        cells("int main(){int x;x=4;}", 3, 3, 4, 3, 3, 4, 4, 2, 1);
        cells("int v;int main(){v=3;}", 3, 3, 3, 4, 4, 2, 2);
        cells("int main(){print(6);}", 2, 2, 2, 3, 3, 1, 1);
    }

    /** Terms III: both parts below what is to be done. */
    private static void itemAssignments() {
        check.sentence("Terms III", "NAME [ E ] = F: that ITEM, F, E on top.");
        cells("int a[2];int main(){a[1]=2;}", 4, 4, 4, 6, 6, 6, 3, 3);
        TinyC x = made(99, 9, "int a[3];int main(){a[read()]=read();return a[1];}", 1, 2);
        check.due("interpret", x.interpret(99), 1);
        check.outs("E is read first", x, 2);
    }

    /** Terms III. */
    private static void callsAlone() {
        check.sentence("Terms III", "A call as S: an ITEM that lets the value go, above it the call.");
        cells("int n(){}int main(){n();}", 2, 2, 2, 3, 3, 4, 3, 3, 1, 1);
        cells("int f(int x){return x;}int main(){f(7);}", 2, 2, 2, 3, 4, 4, 5, 5, 5, 6, 6, 3, 1, 1);
    }

    /** Terms III: said and not said, with else and without. */
    private static void ifs() {
        check.sentence("Terms III", "if: it goes; the S that is said, if there is one;");
        cells("int main(){if(1);}", 2, 2, 2, 3, 3, 2, 1, 1);
        cells("int main(){if(0);}", 2, 2, 2, 3, 3, 1, 1);
        cells("int main(){if(0);else;}", 2, 2, 2, 3, 3, 2, 1, 1);
        cells("int main(){if(1);else{}}", 2, 2, 2, 3, 3, 2, 1, 1);
        cells("int main(){if(1)if(0);else;}", 2, 2, 2, 3, 3, 2, 3, 3, 2, 1, 1);
        for (String yes : new String[] {"-1", "2", "-2147483647-1", "2147483647"}) {
            check.prints("int main(){if(" + yes + ")print(1);else print(2);}", 1);
        }
    }

    /** Terms III: not once, once, twice. */
    private static void whiles() {
        check.sentence("Terms III", "while: it goes; if it is not 0: the while itself, above it its S;");
        cells("int main(){while(0);}", 2, 2, 2, 3, 3, 1, 1);
        cells("int main(){while(1)return 3;}", 2, 2, 2, 3, 3, 3, 4, 4, 1);
        cells("int v;int main(){while(v-1)v=1;}", 3, 3, 3, 4, 6, 6, 6, 4, 4, 5, 5, 3, 4, 6, 6, 6, 4, 2, 2);
        check.prints("int main(){int i=-2;while(i){print(i);i=i+1;}}", -2, -1);
    }

    /** Terms III: from main itself, out of a BLOCK, out of a while, out of a call among values. */
    private static void returns() {
        check.sentence("Terms III", "return: the value stays, all ITEMS down to its call's end go, that too, and the FRAME.");
        cells("int main(){return 5;;;}", 2, 2, 3, 4, 4, 1);
        cells("int main(){{return 5;}}", 2, 2, 2, 2, 2, 3, 3, 1);
        cells("int main(){int x;{int y;return 5;}}", 4, 4, 5, 4, 4, 4, 5, 4, 4, 5, 5, 1);
        cells("int n(){return 5;}int main(){return 1+n();}", 2, 2, 2, 3, 5, 5, 5, 6, 6, 6, 7, 7, 5, 3, 1);
        check.prints("int f(int x){while(1){if(x>2)return x;x=x+1;}}int main(){print(f(1)+f(9)*10);}", 93);
    }

    /** Terms III: in a FRAME that lies where another one was, and told again in a while. */
    private static void localsAreZeroAtFirst() {
        check.sentence("Terms III", "LOCALS are 0 at first");
        check.prints("int f(int x){int y;int z;print(y);print(z);y=x;z=x;return y+z;}int main(){print(f(3));print(f(4));}", 0, 0, 6, 0, 0, 8);
        check.prints("int main(){int i=2;while(i){int x;print(x);x=7;i=i-1;}{int y;print(y);}}", 0, 0, 0);
    }

    // ---- the end ----

    /** Terms III: by the STEP that took the last ITEM, not by one more. */
    private static void haltedByTheLastStep() {
        check.sentence("Terms III", "When there are no ITEMS any more the value that is left comes out: HALTED (by the STEP that took the last one).");
        endAt(made(99, 9, "int main(){}"), 3, 1, "int main(){}");
        endAt(made(99, 9, "int main(){return 8;}"), 6, 1, "int main(){return 8;}");
        TinyC x = made(99, 9, "int main(){return 8;}");
        check.due("interpret(5)", x.interpret(5), 0);
        check.due("outSize() just ahead of it", x.outSize(), 0);
        check.due("interpret(1)", x.interpret(1), 1);
        check.outs("just behind it", x, 8);
        check.due("interpret(9)", x.interpret(9), 1);
        check.outs("nothing more", x, 8);
        TinyC y = made(99, 9, "int main(){}");
        check.due("interpret(3)", y.interpret(3), 1);
        check.outs("0 of the end", y, 0);
    }

    /** Terms III, the value that is left: no cell, as many as there are numbers, one fewer. */
    private static void noRoomForTheLastValue() {
        check.sentence("Terms III", "the value that is left comes out");
        endAt(made(99, 0, "int main(){}"), 3, 6, "no cells");
        endAt(made(99, 1, "int main(){}"), 3, 1, "one cell");
        endAt(made(99, 1, "int main(){print(1);return 2;}"), 10, 6, "one cell for two");
        endAt(made(99, 2, "int main(){print(1);return 2;}"), 10, 1, "two cells for two");
        endAt(made(99, 0, "int main(){return 2;}"), 6, 6, "no cells");
    }

    // ---- traps ----

    /** Terms III: at the sign's own STEP, behind those of its parts. */
    private static void zeroAsInTwo() {
        check.sentence("Terms III", "TRAPS as in II, at what is done,");
        endAt(made(99, 9, "int main(){return 1/0;}"), 8, 2, "1/0");
        endAt(made(99, 9, "int main(){return 1%0;}"), 8, 2, "1%0");
        endAt(made(99, 9, "int main(){return 1/1;}"), 9, 1, "1/1");
        endAt(made(99, 9, "int main(){return 1%-1;}"), 11, 1, "1%-1");
        endAt(made(5, 9, "int main(){return 1/0;}"), 8, 2, "1/0 with just enough cells");
        endAt(made(4, 9, "int main(){return 1/0;}"), 5, 4, "1/0 with one too few");
    }

    /** Terms III: -1, 0, n - 1, n. */
    private static void placeAsInTwo() {
        check.sentence("Terms III", "TRAPS as in II, at what is done,");
        endAt(made(99, 9, "int a[2];int main(){return a[0];}"), 8, 1, "a[0]");
        endAt(made(99, 9, "int a[2];int main(){return a[1];}"), 8, 1, "a[1]");
        endAt(made(99, 9, "int a[2];int main(){return a[2];}"), 7, 3, "a[2]");
        endAt(made(99, 9, "int a[2];int main(){return a[-1];}"), 9, 3, "a[-1]");
        endAt(made(99, 9, "int a[2];int main(){a[1]=1;}"), 8, 1, "a[1]=1");
        endAt(made(99, 9, "int a[2];int main(){a[2]=1;}"), 7, 3, "a[2]=1");
        endAt(made(99, 9, "int a[2];int main(){a[-1]=1;}"), 9, 3, "a[-1]=1");
        endAt(made(99, 9, "int a[2];int main(){a[2]=1/0;}"), 9, 2, "a[2]=1/0");
    }

    /** Terms III: none, and one fewer than there are reads; it stands for good. */
    private static void inputAsInTwo() {
        check.sentence("Terms III", "TRAPS as in II, at what is done,");
        endAt(made(99, 9, "int main(){return read();}"), 5, 5, "read()");
        endAt(made(3, 9, "int main(){return read();}"), 5, 5, "read() with just enough cells");
        endAt(made(99, 9, "int main(){return read();}", 1), 6, 1, "read()");
        endAt(made(99, 9, "int main(){return read()+read();}", 1), 7, 5, "read()+read()");
        endAt(made(99, 9, "int main(){return read()+read();}", 1, 2), 9, 1, "read()+read()");
        TinyC x = made(99, 9, "int main(){return read();}");
        check.due("interpret", x.interpret(99), 5);
        check.due("input", x.input(3), 0);
        check.due("it stands for good", x.interpret(99), 5);
        x.reset();
        check.due("till reset()", x.interpret(99), 1);
    }

    /** Terms III: no cell, one cell for two numbers, two cells. */
    private static void outputAsInTwo() {
        check.sentence("Terms III", "TRAPS as in II, at what is done,");
        endAt(made(99, 0, "int main(){print(4);}"), 6, 6, "no cells");
        endAt(made(99, 1, "int main(){print(4);print(5);}"), 10, 6, "one cell");
        endAt(made(99, 2, "int main(){print(4);print(5);}"), 11, 6, "two cells");
        endAt(made(99, 3, "int main(){print(4);print(5);}"), 11, 1, "three cells");
        TinyC x = made(99, 1, "int main(){print(4);print(5);}");
        check.due("interpret", x.interpret(99), 6);
        check.outs("what was there", x, 4);
    }

    // ---- ROOM ----

    /** Terms III, ROOM: no parameter and k 0, eight parameters, k of BLOCKS that are not at a time. */
    private static void framesCountTheirParametersAndLocals() {
        check.sentence("Terms III", "ROOM: VALUES, ITEMS, globals, and of each FRAME its parameters and k are more, behind a STEP, than memory has cells");
        for (int k = 0; k <= 9; k++) {
            StringBuilder locals = new StringBuilder();
            for (int i = 0; i < k; i++) {
                locals.append("int x").append(i).append(';');
            }
            check.due("one too few for k " + k, made(k + 1, 9, "int main(){{" + locals + "}}").interpret(1), 4);
            check.due("just enough for k " + k, made(k + 2, 9, "int main(){{" + locals + "}}").interpret(1), 0);
        }
        cells("int f(int x,int y){{int a;}{int b;}}int main(){f(1,2);}",
            2, 2, 2, 3, 5, 5, 5, 7, 7, 8, 8, 8, 7, 7, 7, 7, 6, 3, 1, 1);
    }

    /** Terms III, ROOM: none, one, as many as leave two cells, one more. */
    private static void globalsCount() {
        check.sentence("Terms III", "ROOM: VALUES, ITEMS, globals,");
        cells("int v;int main(){}", 3, 2, 2);
        cells("int v;int a[3];int w;int main(){;}", 7, 7, 7, 6, 6);
        for (int globals : new int[] {1, 2, 998, 999, 1000}) {
            check.due("one too few", made(globals + 1, 9, "int a[" + globals + "];int main(){}").interpret(99), 4);
            check.due("just enough", made(globals + 2, 9, "int a[" + globals + "];int main(){}").interpret(99), 1);
        }
    }

    /** Terms III, ROOM: one global more than cells, as many, one and two fewer; not without a STEP. */
    private static void globalsAloneThatDoNotFit() {
        check.sentence("Terms III", "globals alone that don't fit: at the first STEP.");
        for (int globals = 7; globals <= 13; globals++) {
            TinyC x = made(10, 9, "int a[" + (globals - 1) + "];int v;int main(){print(1);}");
            check.due("interpret(0) with " + globals, x.interpret(0), 0);
            check.due("run(0) with " + globals, x.run(0), 0);
            check.due("interpret(1) with " + globals, x.interpret(1), globals > 8 ? 4 : 0);
            check.due("interpret(1) again with " + globals, x.interpret(1), globals > 8 ? 4 : 0);
            check.due("step(): a STEP was done", x.step(), -2);
            check.due("outSize()", x.outSize(), 0);
            x.reset();
            check.due("interpret(0) behind reset()", x.interpret(0), 0);
        }
    }

    /** Terms III, ROOM: with no cell and with one the shortest text has no ROOM at its first STEP; with two it is HALTED. */
    private static void roomAheadOfHalted() {
        check.sentence("Terms III", "(It is looked at ahead of HALTED.)");
        endAt(made(0, 0, "int main(){}"), 1, 4, "no cell");
        endAt(made(1, 0, "int main(){}"), 1, 4, "one cell");
        endAt(made(2, 0, "int main(){}"), 3, 6, "two cells, no output");
        endAt(made(2, 1, "int main(){}"), 3, 1, "two cells");
        endAt(made(2, 1, "int v;int main(){}"), 1, 4, "two cells, a global");
        endAt(made(3, 1, "int v;int main(){}"), 3, 1, "three cells, a global");
    }

    /** Terms III, ROOM: what came out by STEPS before it is out, and nothing of what would have come. */
    private static void whatHasComeOut() {
        check.sentence("Terms III", "(that STEP counts as not done by what comes out: it has come out)");
        // the second print's E needs five cells, the first one's three, with one for what is behind
        String text = "int main(){print(1);print(2+3);print(4);}";
        TinyC x = made(5, 9, text);
        check.due("interpret with one too few", x.interpret(99), 4);
        check.outs("what came out before", x, 1);
        TinyC y = made(6, 9, text);
        check.due("interpret with just enough", y.interpret(99), 1);
        check.outs("all", y, 1, 5, 4, 0);
        TinyC z = made(4, 9, text);
        check.due("with enough for the first alone", z.interpret(99), 4);
        check.outs("the first", z, 1);
        TinyC none = made(3, 9, text);
        check.due("with too few for the first", none.interpret(99), 4);
        check.outs("nothing", none);
    }

    /** Terms III, ROOM: the deepest call that fits, and one deeper; FRAMES that are gone leave their cells. */
    private static void deepCalls() {
        check.sentence("Terms III", "of each FRAME its parameters and k are more, behind a STEP, than memory has cells");
        String text = "int f(int n){if(n)return f(n-1);return 9;}int main(){return f(?);}";
        for (int n = 0; n <= 3; n++) {
            String deep = text.replace("?", "" + n);
            // end and return of main; of each call that waits its end, FRAME, what is behind, return; in the
            // last one its end, FRAME, what is behind, if and E
            int cells = 2 + 4 * n + 5;
            check.due("interpret with just enough of " + deep, made(cells, 9, deep).interpret(9999), 1);
            check.due("interpret with one too few of " + deep, made(cells - 1, 9, deep).interpret(9999), 4);
        }
        // end, FRAME, while, =, -, its second part; end, FRAME of two, what is behind, LOCAL, E
        String many = "int f(int x){int y=x;return y;}int main(){int i=300;while(i)i=f(i)-1;}";
        check.due("calls one behind the other with just enough", made(12, 9, many).interpret(99999), 1);
        check.due("calls one behind the other with one too few", made(11, 9, many).interpret(99999), 4);
    }

    /** Terms III, ROOM: behind each S, done twice, nothing of it is left among VALUES, ITEMS and FRAMES. */
    private static void nothingIsLeftBehind() {
        check.sentence("Terms III", "ROOM: VALUES, ITEMS, globals, and of each FRAME its parameters and k are more, behind a STEP, than memory has cells");
        cells("int f(int x){int y;}int main(){f(1);f(2);return 1-(2-(3-4));}",
            2, 2, 3, 4, 5, 5, 7, 7, 7, 6, 4, 2, 3, 4, 5, 5, 7, 7, 7, 6, 4, 2, 2, 3, 5, 5, 7, 7, 9, 9, 9, 7, 5, 3, 1);
        String[] all = {";", "{}", "{int x;}", "{int x=1;}", "v=1;", "a[1]=2;", "v=a[1];", "print(3);", "if(1);", "if(0);", "if(0);else v=1;",
            "while(v){v=0;}", "n();", "f(1);", "v=f(n());", "v=1&&0;", "v=0&&1;", "v=0||1;", "v=1||0;", "v=-!~v;", "v=read();"};
        for (String s : all) {
            String text = "int v;int a[2];int n(){}int f(int x){int y;return x;}int main(){" + s + s + "return 1-(2-(3-(4-(5-(6-7)))));}";
            // globals, end and return, LOCALS; of each - three, of which one is a value for the next
            int cells = 3 + 2 + (s.contains("int x") ? 1 : 0) + 2 * 6 + 1;
            check.due("interpret with just enough of " + text, made(cells, 9, text, 5, 6).interpret(999), 1);
            check.due("interpret with one too few of " + text, made(cells - 1, 9, text, 5, 6).interpret(999), 4);
        }
    }
}
