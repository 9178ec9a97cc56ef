/**
 * Promises 1, 2, 4, 8 to 12, each sentence that names a bound with a test of its own: the case at the
 * bound, the one just within it, the one just beyond it.
 */
final class BoundsFaceTest {
    private static final Check check = new Check("BoundsFaceTest");
    private static final int MIN = Integer.MIN_VALUE;
    private static final int MAX = Integer.MAX_VALUE;
    private static final String SHORTEST = "int main(){}";
    private static final int[] BELOW_ZERO = {MIN, MIN + 1, -4097, -4096, -1, 0};
    private static final int[] ABOVE_THE_MOST = {4096, 4097, 8192, 65536, MAX - 1, MAX};

    public static void main(String[] args) {
        anObject();
        aNewObject();
        feed();
        input();
        reset();
        outSizeAndOut();
        codeSizeAndCodeAt();
        check.end();
    }

    private static void anObject() {
        the512thCall();
    }

    private static void aNewObject() {
        cellsOfTheText();
        cellsOfTheTree();
        cellsOfTheCode();
        cellsOfMemory();
        cellsOfInputAndOutput();
        allZeroAtFirst();
        belowZeroText();
        belowZeroTree();
        belowZeroCode();
        belowZeroMemory();
        belowZeroInputAndOutput();
        aboveTheMostText();
        aboveTheMostTree();
        aboveTheMostCode();
        aboveTheMostMemory();
        aboveTheMostInput();
        aboveTheMostOutput();
    }

    private static void feed() {
        feedComesBehindTheText();
        feedTakesAnyNumber();
        feedWithoutRoom();
        feedWithoutRoomDoesNothing();
    }

    private static void input() {
        inputComesBehindTheInput();
        inputTakesAnyNumber();
        inputWithoutRoom();
        inputWithoutRoomDoesNothing();
    }

    private static void reset() {
        resetWithoutCode();
        bothAreAsAtFirst();
        bothAreAsAtFirstBehindATrap();
        whatCameOutIsGone();
        inputBeginsWithItsFirst();
        textCodeAndInputStay();
    }

    private static void outSizeAndOut() {
        howManyCameOut();
        outBeyondItsEnds();
        outThatIsMinusOne();
    }

    private static void codeSizeAndCodeAt() {
        howManyCellsTheCodeHas();
        codeAtBeyondItsEnds();
    }

    private static TinyC fed(TinyC x, String text) {
        return Check.fed(x, text);
    }

    private static TinyC compiled(TinyC x, String text) {
        check.due("compile() of " + text, fed(x, text).compile(), 0);
        return x;
    }

    // ---- what it is ----

    /** What it is: the 511th and the 512th call answer, and those beyond, whose answers are free, don't throw. */
    private static void the512thCall() {
        check.sentence("What it is", "An object is used for at most 512 calls after it has been made; what later calls answer is free.");
        TinyC x = new TinyC(4096, 99, 99, 99, 9);
        int refused = 0;
        for (int i = 1; i <= 510; i++) {
            refused += x.feed(i <= 498 ? 32 : SHORTEST.charAt(i - 499));
        }
        check.due("feeds refused", refused, 0);
        check.due("call 511, compile()", x.compile(), 0);
        check.due("call 512, run(99)", x.run(99), 1);
        int came = 0;
        for (int i = 0; i < 1000; i++) {
            x.feed(i);
            x.compile();
            x.input(i);
            x.reset();
            x.run(3);
            x.step();
            x.interpret(3);
            x.reset();
            x.interpret(3);
            x.out(i - 9);
            x.codeAt(i - 9);
            came++;
        }
        check.due("rounds of later calls that came back", came, 1000);
    }

    // ---- promise 1 ----

    /** Promise 1, text: as many signs as cells. */
    private static void cellsOfTheText() {
        check.sentence("Promise 1", "Cells of the text,");
        for (int cells : new int[] {1, 2, 11, 12, 13, 400}) {
            TinyC x = new TinyC(cells, 99, 99, 99, 9);
            for (int i = 1; i <= cells; i++) {
                check.due("feed " + i + " of " + cells, x.feed(32), 0);
            }
            check.due("feed one beyond " + cells, x.feed(32), 1);
        }
        check.due("a text one cell too long", fed(new TinyC(11, 99, 99, 99, 9), SHORTEST).compile(), 2 + 16 * 11);
        check.due("a text that just fits", fed(new TinyC(12, 99, 99, 99, 9), SHORTEST).compile(), 0);
        check.due("a text with a cell to spare", fed(new TinyC(13, 99, 99, 99, 9), SHORTEST).compile(), 0);
    }

    /** Promise 1, tree: a FUNCTION and an S need eight. */
    private static void cellsOfTheTree() {
        check.sentence("Promise 1", "the tree,");
        String text = "int main(){;}";
        check.due("none", fed(new TinyC(99, 0, 99, 99, 9), text).compile(), 9 + 16 * 4);
        check.due("three", fed(new TinyC(99, 3, 99, 99, 9), text).compile(), 9 + 16 * 4);
        check.due("four", fed(new TinyC(99, 4, 99, 99, 9), text).compile(), 9 + 16 * 11);
        check.due("one too few", fed(new TinyC(99, 7, 99, 99, 9), text).compile(), 9 + 16 * 11);
        check.due("just enough", fed(new TinyC(99, 8, 99, 99, 9), text).compile(), 0);
        check.due("one to spare", fed(new TinyC(99, 9, 99, 99, 9), text).compile(), 0);
    }

    /** Promise 1, code: the shortest one has ten. */
    private static void cellsOfTheCode() {
        check.sentence("Promise 1", "the code,");
        check.due("none", fed(new TinyC(99, 99, 0, 99, 9), SHORTEST).compile(), 10 + 16 * 12);
        check.due("one too few", fed(new TinyC(99, 99, 9, 99, 9), SHORTEST).compile(), 10 + 16 * 12);
        check.due("just enough", fed(new TinyC(99, 99, 10, 99, 9), SHORTEST).compile(), 0);
        check.due("one to spare", fed(new TinyC(99, 99, 11, 99, 9), SHORTEST).compile(), 0);
    }

    /** Promise 1, memory: PC, FP and a value on the machine; the end and the BLOCK of the text. */
    private static void cellsOfMemory() {
        check.sentence("Promise 1", "memory,");
        check.due("run, one too few", compiled(new TinyC(99, 99, 99, 2, 9), SHORTEST).run(99), 4);
        check.due("run, just enough", compiled(new TinyC(99, 99, 99, 3, 9), SHORTEST).run(99), 1);
        check.due("run, one to spare", compiled(new TinyC(99, 99, 99, 4, 9), SHORTEST).run(99), 1);
        check.due("interpret, one too few", compiled(new TinyC(99, 99, 99, 1, 9), SHORTEST).interpret(99), 4);
        check.due("interpret, just enough", compiled(new TinyC(99, 99, 99, 2, 9), SHORTEST).interpret(99), 1);
        check.due("interpret, one to spare", compiled(new TinyC(99, 99, 99, 3, 9), SHORTEST).interpret(99), 1);
    }

    /** Promise 1, input and output: both have all of the cells; what one uses the other one still has. */
    private static void cellsOfInputAndOutput() {
        check.sentence("Promise 1", "and of input and output (each)");
        String text = "int main(){print(read());return read();}";
        int[] status = {5, 5, 1, 1};
        int[] outs = {0, 1, 2, 2};
        for (int cells = 1; cells <= 3; cells++) {
            TinyC x = compiled(new TinyC(99, 99, 99, 99, cells), text);
            check.due("input 1 of " + cells, x.input(8), 0);
            check.due("input 2 of " + cells, x.input(9), cells < 2 ? 1 : 0);
            check.due("run with " + cells, x.run(99), status[cells]);
            check.due("outSize() with " + cells, x.outSize(), outs[cells]);
            check.due("input 3 of " + cells, x.input(7), cells < 3 ? 1 : 0);
        }
        TinyC one = compiled(new TinyC(99, 99, 99, 99, 1), "int main(){return read();}");
        check.due("input 1 of 1", one.input(8), 0);
        check.due("one in, one out", one.run(99), 1);
        TinyC two = compiled(new TinyC(99, 99, 99, 99, 1), "int main(){print(read());}");
        two.input(8);
        check.due("one in, two out", two.run(99), 6);
    }

    /** Promise 1: empty text, tree, code, memory, input and output. */
    private static void allZeroAtFirst() {
        check.sentence("Promise 1", "all 0 at first");
        TinyC x = new TinyC(400, 400, 400, 200, 20);
        check.due("outSize()", x.outSize(), 0);
        check.due("out(0)", x.out(0), -1);
        check.due("codeSize()", x.codeSize(), 0);
        check.due("codeAt(0)", x.codeAt(0), -1);
        check.due("compile(): the text's length is 0", x.compile(), 7);
        compiled(x, "int v;int a[3];int main(){print(v);print(a[0]);print(a[2]);print(read());}");
        check.due("run: there is no input", x.run(99), 5);
        check.outs("memory is 0", x, 0, 0, 0);
        x.reset();
        check.due("interpret: there is no input", x.interpret(99), 5);
        check.outs("memory is 0", x, 0, 0, 0);
    }

    /** Promise 1, text: no sign fits; with 1 one does. */
    private static void belowZeroText() {
        check.sentence("Promise 1", "Below 0 is 0,");
        for (int cells : BELOW_ZERO) {
            TinyC x = new TinyC(cells, 99, 99, 99, 9);
            check.due("feed with " + cells, x.feed(32), 1);
            check.due("compile() with " + cells, x.compile(), 7);
        }
        TinyC x = new TinyC(1, 99, 99, 99, 9);
        check.due("feed with 1", x.feed(32), 0);
        check.due("compile() with 1", x.compile(), 7 + 16);
    }

    /** Promise 1, tree: four cells are a FUNCTION's, which 0 has not. */
    private static void belowZeroTree() {
        check.sentence("Promise 1", "Below 0 is 0,");
        for (int cells : BELOW_ZERO) {
            check.due("compile() with " + cells, fed(new TinyC(99, cells, 99, 99, 9), SHORTEST).compile(), 9 + 16 * 4);
            check.due("compile() of a GLOBAL with " + cells, fed(new TinyC(99, cells, 99, 99, 9), "int v;").compile(), 7 + 16 * 6);
        }
        check.due("compile() with 4", fed(new TinyC(99, 4, 99, 99, 9), SHORTEST).compile(), 0);
    }

    /** Promise 1, code. */
    private static void belowZeroCode() {
        check.sentence("Promise 1", "Below 0 is 0,");
        for (int cells : BELOW_ZERO) {
            TinyC x = fed(new TinyC(99, 99, cells, 99, 9), SHORTEST);
            check.due("compile() with " + cells, x.compile(), 10 + 16 * 12);
            check.due("codeSize() with " + cells, x.codeSize(), 0);
            check.due("codeAt(0) with " + cells, x.codeAt(0), -1);
        }
        check.due("compile() with 10", fed(new TinyC(99, 99, 10, 99, 9), SHORTEST).compile(), 0);
    }

    /** Promise 1, memory: the first step and the first STEP have no room. */
    private static void belowZeroMemory() {
        check.sentence("Promise 1", "Below 0 is 0,");
        for (int cells : BELOW_ZERO) {
            TinyC x = compiled(new TinyC(99, 99, 99, cells, 9), SHORTEST);
            check.due("run(0) with " + cells, x.run(0), 0);
            check.due("step() with " + cells, x.step(), 4);
            x.reset();
            check.due("interpret(1) with " + cells, x.interpret(1), 4);
        }
        check.due("step() with 2", compiled(new TinyC(99, 99, 99, 2, 9), SHORTEST).step(), 0);
        check.due("interpret(1) with 2", compiled(new TinyC(99, 99, 99, 2, 9), SHORTEST).interpret(1), 0);
    }

    /** Promise 1, input and output: nothing goes in, nothing comes out. */
    private static void belowZeroInputAndOutput() {
        check.sentence("Promise 1", "Below 0 is 0,");
        for (int cells : BELOW_ZERO) {
            TinyC x = compiled(new TinyC(99, 99, 99, 99, cells), SHORTEST);
            check.due("input with " + cells, x.input(1), 1);
            check.due("run with " + cells, x.run(99), 6);
            check.due("outSize() with " + cells, x.outSize(), 0);
            x.reset();
            check.due("interpret with " + cells, x.interpret(99), 6);
            check.due("out(0) with " + cells, x.out(0), -1);
        }
        TinyC x = compiled(new TinyC(99, 99, 99, 99, 1), SHORTEST);
        check.due("input with 1", x.input(1), 0);
        check.due("run with 1", x.run(99), 1);
    }

    private static int signsThatFit(int cells) {
        TinyC x = new TinyC(cells, 9, 9, 9, 9);
        int fed = 0;
        while (fed < 9999 && x.feed(32) == 0) {
            fed++;
        }
        return fed;
    }

    /** Promise 1, text. (It takes more than 512 calls to see this bound: the answers are free, but kept.) */
    private static void aboveTheMostText() {
        check.sentence("Promise 1", "above 4,096 is 4,096.");
        check.due("signs that fit into 4095", signsThatFit(4095), 4095);
        for (int cells : ABOVE_THE_MOST) {
            check.due("signs that fit into " + cells, signsThatFit(cells), 4096);
        }
    }

    /** Promise 1, tree: a FUNCTION and 1023 S have 4096 cells. (Beyond 512 calls.) */
    private static void aboveTheMostTree() {
        check.sentence("Promise 1", "above 4,096 is 4,096.");
        String fits = "int main(){" + ";".repeat(1023) + "}";
        String tooLarge = "int main(){" + ";".repeat(1024) + "}";
        check.due("with 4095", fed(new TinyC(4096, 4095, 99, 99, 9), fits).compile(), 9 + 16 * (11 + 1022));
        for (int cells : ABOVE_THE_MOST) {
            check.due("4096 with " + cells, fed(new TinyC(4096, cells, 99, 99, 9), fits).compile(), 0);
            check.due("4100 with " + cells, fed(new TinyC(4096, cells, 99, 99, 9), tooLarge).compile(), 9 + 16 * (11 + 1023));
        }
    }

    /** Promise 1, code: each || with its second part is 16 cells. (Beyond 512 calls.) */
    private static void aboveTheMostCode() {
        check.sentence("Promise 1", "above 4,096 is 4,096.");
        String many = "int main(){print(1" + "||1".repeat(255) + ");";
        String fits = many + "print(1);}";
        String tooLarge = many + "print(-1);}";
        check.due("with 4095", fed(new TinyC(4096, 4096, 4095, 99, 9), fits).compile(), 10 + 16 * fits.length());
        for (int cells : ABOVE_THE_MOST) {
            TinyC x = fed(new TinyC(4096, 4096, cells, 99, 9), fits);
            check.due("4096 with " + cells, x.compile(), 0);
            check.due("codeSize() with " + cells, x.codeSize(), 4096);
            check.due("codeAt(4094) with " + cells, x.codeAt(4094), 33);
            check.due("codeAt(4095) with " + cells, x.codeAt(4095), 0);
            check.due("codeAt(4096) with " + cells, x.codeAt(4096), -1);
            check.due("run with " + cells, x.run(9999), 1);
            check.due("4097 with " + cells, fed(new TinyC(4096, 4096, cells, 99, 9), tooLarge).compile(), 10 + 16 * tooLarge.length());
        }
    }

    private static TinyC withGlobals(int memCells, int globals) {
        String text = "int a[1000];int b[1000];int c[1000];int d[1000];int e[" + (globals - 4000) + "];int main(){}";
        return compiled(new TinyC(200, 99, 99, memCells, 9), text);
    }

    /** Promise 1, memory: behind the globals the machine needs three cells, the text two. */
    private static void aboveTheMostMemory() {
        check.sentence("Promise 1", "above 4,096 is 4,096.");
        check.due("run, 4095 cells, 4092 globals", withGlobals(4095, 4092).run(99), 1);
        check.due("run, 4095 cells, 4093 globals", withGlobals(4095, 4093).run(99), 4);
        check.due("interpret, 4095 cells, 4093 globals", withGlobals(4095, 4093).interpret(99), 1);
        check.due("interpret, 4095 cells, 4094 globals", withGlobals(4095, 4094).interpret(99), 4);
        for (int cells : ABOVE_THE_MOST) {
            check.due("run, " + cells + " cells, 4092 globals", withGlobals(cells, 4092).run(99), 1);
            check.due("run, " + cells + " cells, 4093 globals", withGlobals(cells, 4093).run(99), 1);
            check.due("run, " + cells + " cells, 4094 globals", withGlobals(cells, 4094).run(99), 4);
            check.due("interpret, " + cells + " cells, 4093 globals", withGlobals(cells, 4093).interpret(99), 1);
            check.due("interpret, " + cells + " cells, 4094 globals", withGlobals(cells, 4094).interpret(99), 1);
            check.due("interpret, " + cells + " cells, 4095 globals", withGlobals(cells, 4095).interpret(99), 4);
        }
    }

    private static int numbersThatFit(int cells) {
        TinyC x = new TinyC(9, 9, 9, 9, cells);
        int put = 0;
        while (put < 9999 && x.input(put) == 0) {
            put++;
        }
        return put;
    }

    /** Promise 1, input. (Beyond 512 calls.) */
    private static void aboveTheMostInput() {
        check.sentence("Promise 1", "above 4,096 is 4,096.");
        check.due("numbers that fit into 4095", numbersThatFit(4095), 4095);
        for (int cells : ABOVE_THE_MOST) {
            check.due("numbers that fit into " + cells, numbersThatFit(cells), 4096);
        }
    }

    private static void printsWithoutEnd(int cells, int due) {
        TinyC x = compiled(new TinyC(99, 99, 99, 99, cells), "int main(){int i=1;while(1){print(i);i=i+1;}}");
        check.due("run with " + cells, x.run(1000000), 6);
        check.due("outSize() with " + cells, x.outSize(), due);
        check.due("the last one with " + cells, x.out(due - 1), due);
        check.due("one beyond it with " + cells, x.out(due), -1);
        x.reset();
        check.due("interpret with " + cells, x.interpret(1000000), 6);
        check.due("outSize() with " + cells, x.outSize(), due);
        check.due("the last one with " + cells, x.out(due - 1), due);
    }

    /** Promise 1, output. */
    private static void aboveTheMostOutput() {
        check.sentence("Promise 1", "above 4,096 is 4,096.");
        printsWithoutEnd(4095, 4095);
        for (int cells : ABOVE_THE_MOST) {
            printsWithoutEnd(cells, 4096);
        }
    }

    // ---- promise 2 ----

    /** Promise 2: into an empty text, behind one sign, behind a compiled text. */
    private static void feedComesBehindTheText() {
        check.sentence("Promise 2", "A sign comes behind the text: 0.");
        TinyC x = new TinyC(99, 99, 99, 99, 9);
        check.due("feed into an empty text", x.feed('#'), 0);
        check.due("its place is 0", x.compile(), 1);
        TinyC y = new TinyC(99, 99, 99, 99, 9);
        check.due("feed", y.feed(32), 0);
        check.due("feed behind one sign", y.feed('#'), 0);
        check.due("its place is 1", y.compile(), 1 + 16);
        TinyC z = compiled(new TinyC(99, 99, 99, 99, 9), SHORTEST);
        check.due("feed behind a compiled text", z.feed('#'), 0);
        check.due("its place is the text's length before", z.compile(), 1 + 16 * 12);
    }

    /** Promise 2: the least and the largest number, and those about the ends of bytes and of chars. */
    private static void feedTakesAnyNumber() {
        check.sentence("Promise 2", "A sign comes behind the text: 0.");
        int[] signs = {MIN, -1, 0, 127, 128, 255, 256, 256 + 32, 65535, 65536, 65536 + 32, 65536 + 'a', MIN + 32, MAX};
        for (int sign : signs) {
            TinyC x = compiled(new TinyC(99, 99, 99, 99, 9), SHORTEST);
            check.due("feed(" + sign + ")", x.feed(sign), 0);
            check.due("compile() with " + sign, x.compile(), 1 + 16 * 12);
        }
    }

    /** Promise 2: the last cell takes a sign, the next feed is refused, and so is every one after it. */
    private static void feedWithoutRoom() {
        check.sentence("Promise 2", "1, doing nothing: there is no room.");
        TinyC x = fed(new TinyC(12, 99, 99, 99, 9), "int main(){");
        check.due("feed into the last cell", x.feed('}'), 0);
        for (int i = 0; i < 3; i++) {
            check.due("feed without room", x.feed(32), 1);
        }
        check.due("compile()", x.compile(), 0);
        check.due("feed behind compile()", x.feed(32), 1);
        x.reset();
        check.due("feed behind reset()", x.feed(32), 1);
        TinyC none = new TinyC(0, 99, 99, 99, 9);
        check.due("feed without cells", none.feed(32), 1);
    }

    /** Promise 2: text, code, machine, what came out are as they were. */
    private static void feedWithoutRoomDoesNothing() {
        check.sentence("Promise 2", "1, doing nothing: there is no room.");
        String text = "int main(){print(1);print(2);}";
        TinyC x = compiled(new TinyC(text.length(), 99, 99, 99, 9), text);
        check.due("run(4)", x.run(4), 0);
        check.due("feed", x.feed('#'), 1);
        check.due("outSize()", x.outSize(), 1);
        check.due("codeSize()", x.codeSize(), 16);
        check.due("interpret(1)", x.interpret(1), -2);
        check.due("run(4): one step too few", x.run(4), 0);
        check.due("run(1)", x.run(1), 1);
        check.outs("both", x, 1, 2, 0);
        check.due("compile(): the text is as it was", x.compile(), 0);
        TinyC y = fed(new TinyC(3, 99, 99, 99, 9), "int");
        check.due("feed", y.feed('s'), 1);
        check.due("compile() of int", y.compile(), 2 + 16 * 3);
    }

    // ---- promise 4 ----

    /** Promise 4: ahead of compile(), behind it, in the midst of a run, behind one that was taken. */
    private static void inputComesBehindTheInput() {
        check.sentence("Promise 4", "A number comes behind the input: 0.");
        TinyC x = new TinyC(99, 99, 99, 99, 4);
        check.due("input ahead of the text", x.input(1), 0);
        compiled(x, "int main(){print(read());print(read());print(read());}");
        check.due("input behind compile()", x.input(2), 0);
        check.due("run(4): the first one is out", x.run(4), 0);
        check.due("input in the midst", x.input(3), 0);
        check.due("run", x.run(99), 1);
        check.outs("in their order", x, 1, 2, 3, 0);
        check.due("input behind the end", x.input(4), 0);
        check.due("input without room", x.input(5), 1);
    }

    /** Promise 4: the least, -1, 0 and the largest number. */
    private static void inputTakesAnyNumber() {
        check.sentence("Promise 4", "A number comes behind the input: 0.");
        for (int w : new int[] {MIN, MIN + 1, -1, 0, 1, MAX - 1, MAX}) {
            TinyC x = compiled(new TinyC(99, 99, 99, 99, 1), "int main(){return read();}");
            check.due("input(" + w + ")", x.input(w), 0);
            check.due("run", x.run(99), 1);
            check.outs("it", x, w);
            x.reset();
            check.due("interpret", x.interpret(99), 1);
            check.outs("it", x, w);
        }
    }

    /** Promise 4: the last cell takes a number, the next one is refused; what was read leaves no room. */
    private static void inputWithoutRoom() {
        check.sentence("Promise 4", "1, doing nothing: there is no room.");
        TinyC x = compiled(new TinyC(99, 99, 99, 99, 2), "int main(){print(read());return read();}");
        check.due("input into the last cell but one", x.input(1), 0);
        check.due("input into the last cell", x.input(2), 0);
        check.due("input without room", x.input(3), 1);
        check.due("and again", x.input(3), 1);
        check.due("run", x.run(99), 1);
        check.due("input behind what was read", x.input(3), 1);
        x.reset();
        check.due("input behind reset()", x.input(3), 1);
        check.due("compile()", x.compile(), 0);
        check.due("input behind compile()", x.input(3), 1);
        check.due("input without cells", new TinyC(9, 9, 9, 9, 0).input(3), 1);
    }

    /** Promise 4: the input is as it was, so are the machine and what came out. */
    private static void inputWithoutRoomDoesNothing() {
        check.sentence("Promise 4", "1, doing nothing: there is no room.");
        TinyC x = compiled(new TinyC(99, 99, 99, 99, 2), "int main(){print(read());return read();}");
        x.input(1);
        x.input(2);
        check.due("run(4)", x.run(4), 0);
        check.due("input", x.input(3), 1);
        check.due("outSize()", x.outSize(), 1);
        check.due("run(2): one step too few", x.run(2), 0);
        check.due("run(1)", x.run(1), 1);
        check.outs("the first two", x, 1, 2);
        TinyC y = compiled(new TinyC(99, 99, 99, 99, 1), "int main(){print(read());print(read());}");
        y.input(1);
        y.input(2);
        check.due("run: the second one isn't there", y.run(99), 5);
    }

    // ---- promise 8 ----

    /** Promise 8: on a new object it changes nothing; the text that was fed stays. */
    private static void resetWithoutCode() {
        check.sentence("Promise 8", "Both are as at first");
        TinyC x = new TinyC(99, 99, 99, 99, 9);
        x.reset();
        check.due("step()", x.step(), -1);
        check.due("interpret(1)", x.interpret(1), -1);
        fed(x, SHORTEST);
        x.input(1);
        x.reset();
        x.reset();
        check.due("step() ahead of compile()", x.step(), -1);
        check.due("compile()", x.compile(), 0);
        check.due("run", x.run(99), 1);
    }

    /** Promise 8: behind no step, one step, all but the last, the last; with just enough cells, so that nothing may be left over. */
    private static void bothAreAsAtFirst() {
        check.sentence("Promise 8", "Both are as at first");
        String text = "int g;int f(int x){int y=x;g=g+y;return g;}int main(){int z=f(3);print(f(4)+z);}";
        for (int which = 0; which < 2; which++) {
            int cells = fewestCells(which, text);
            TinyC x = compiled(new TinyC(99, 200, 99, cells, 2), text);
            int steps = stepsToTheEnd(which, x);
            for (int other = 0; other < 2; other++) {
                for (int fuel = 0; fuel <= steps + 1; fuel++) {
                    x.reset();
                    go(other, x, fuel);
                    x.reset();
                    check.due("all but one behind " + fuel, go(which, x, steps - 1), 0);
                    check.due("the last one behind " + fuel, go(which, x, 1), 1);
                    check.outs("behind " + fuel, x, 10, 0);
                }
            }
        }
    }

    private static int fewestCells(int which, String text) {
        int cells = 0;
        while (cells < 999 && go(which, compiled(new TinyC(99, 200, 99, cells, 2), text), 999) != 1) {
            cells++;
        }
        return cells;
    }

    private static int stepsToTheEnd(int which, TinyC x) {
        int count = 1;
        while (count < 9999 && go(which, x, 1) == 0) {
            count++;
        }
        return count;
    }

    /** Promise 8: behind a TRAP neither stands any more. */
    private static void bothAreAsAtFirstBehindATrap() {
        check.sentence("Promise 8", "Both are as at first");
        TinyC trap = compiled(new TinyC(99, 99, 99, 99, 9), "int main(){print(5);return 1/0;}");
        for (int i = 0; i < 2; i++) {
            check.due("run up to the TRAP", trap.run(99), 2);
            trap.reset();
            check.due("run(0) behind it", trap.run(0), 0);
            check.due("interpret up to the TRAP", trap.interpret(99), 2);
            trap.reset();
            check.due("interpret(0) behind it", trap.interpret(0), 0);
        }
    }

    /** Promise 8: nothing, one number, all that fit. */
    private static void whatCameOutIsGone() {
        check.sentence("Promise 8", "what came out is gone");
        TinyC x = compiled(new TinyC(99, 99, 99, 99, 3), "int main(){while(1)print(7);}");
        int[] fuels = {0, 5, 6, 10, 99};
        for (int fuel : fuels) {
            x.run(fuel);
            x.reset();
            check.due("outSize() behind run(" + fuel + ")", x.outSize(), 0);
            check.due("out(0) behind run(" + fuel + ")", x.out(0), -1);
            check.due("run again", x.run(99), 6);
            check.outs("all that fit", x, 7, 7, 7);
            x.reset();
        }
    }

    /** Promise 8: no number taken, one, all of them, and one more than there are. */
    private static void inputBeginsWithItsFirst() {
        check.sentence("Promise 8", "input begins with its first one");
        TinyC x = compiled(new TinyC(99, 99, 99, 99, 3), "int main(){while(1)print(read());}");
        x.input(8);
        x.input(9);
        // 32, 37, then 1 31 35 34 30 again and again
        int[] fuels = {0, 4, 5, 9, 10, 15, 99};
        for (int fuel : fuels) {
            x.run(fuel);
            x.reset();
            check.due("run behind " + fuel + " steps and reset()", x.run(99), 5);
            check.outs("behind " + fuel + " steps and reset()", x, 8, 9);
            x.reset();
            x.interpret(fuel);
            x.reset();
            check.due("interpret behind " + fuel + " STEPS and reset()", x.interpret(99), 5);
            check.outs("behind " + fuel + " STEPS and reset()", x, 8, 9);
            x.reset();
        }
    }

    /** Promise 8: a full text stays full, the code has its cells, a full input stays full. */
    private static void textCodeAndInputStay() {
        check.sentence("Promise 8", "text, code and input stay");
        String text = "int main(){return read();}";
        TinyC x = compiled(new TinyC(text.length(), 99, 99, 99, 1), text);
        x.input(6);
        x.run(99);
        x.reset();
        check.due("feed", x.feed(32), 1);
        check.due("input", x.input(7), 1);
        check.due("codeSize()", x.codeSize(), 13);
        check.due("codeAt(12)", x.codeAt(12), 0);
        check.due("run", x.run(99), 1);
        check.outs("the input", x, 6);
        x.reset();
        check.due("compile()", x.compile(), 0);
    }

    // ---- promises 9 and 10 ----

    /** Promise 9: none, one, all that fit, none more by a TRAP OUTPUT, none behind reset() and compile(). */
    private static void howManyCameOut() {
        check.sentence("Promise 9", "How many numbers came out.");
        for (int which = 0; which < 2; which++) {
            TinyC x = compiled(new TinyC(99, 99, 99, 99, 2), "int main(){print(4);print(5);return 6;}");
            check.due("outSize() at first", x.outSize(), 0);
            // print is done by the 4th step, by the 6th STEP; the next ones by the 6th and the 10th
            go(which, x, which == 0 ? 3 : 5);
            check.due("outSize() just ahead of the first", x.outSize(), 0);
            go(which, x, 1);
            check.due("outSize() just behind the first", x.outSize(), 1);
            go(which, x, which == 0 ? 1 : 3);
            check.due("outSize() just ahead of the second", x.outSize(), 1);
            go(which, x, 1);
            check.due("outSize() just behind the second", x.outSize(), 2);
            check.due("no room for the third", go(which, x, 99), 6);
            check.due("outSize() behind the TRAP", x.outSize(), 2);
            go(which, x, 99);
            check.due("outSize() stays", x.outSize(), 2);
            x.reset();
            check.due("outSize() behind reset()", x.outSize(), 0);
            go(which, x, 99);
            x.compile();
            check.due("outSize() behind compile()", x.outSize(), 0);
        }
    }

    private static int go(int which, TinyC x, int fuel) {
        return which == 0 ? x.run(fuel) : x.interpret(fuel);
    }

    /** Promise 10: the first, the last, one ahead of the first, one behind the last, and far beyond. */
    private static void outBeyondItsEnds() {
        check.sentence("Promise 10", "Number i of them; -1 if there is none such");
        TinyC x = compiled(new TinyC(99, 99, 99, 99, 3), "int main(){print(4);print(5);return 6;}");
        check.due("out(0) of none", x.out(0), -1);
        check.due("out(-1) of none", x.out(-1), -1);
        x.run(4);
        check.due("out(0) of one", x.out(0), 4);
        check.due("out(1) of one", x.out(1), -1);
        x.run(99);
        check.due("out(0)", x.out(0), 4);
        check.due("out(1)", x.out(1), 5);
        check.due("out(2)", x.out(2), 6);
        for (int i : new int[] {MIN, MIN + 1, -4096, -3, -2, -1, 3, 4, 4095, 4096, 4097, MAX - 1, MAX}) {
            check.due("out(" + i + ")", x.out(i), -1);
        }
        x.reset();
        check.due("out(0) behind reset()", x.out(0), -1);
        x.interpret(6);
        check.due("out(0) of one", x.out(0), 4);
        check.due("out(1): what came out once is not there", x.out(1), -1);
    }

    /** Promise 10: -1 that came out is one of them; its neighbours and the ends of values come out as they are. */
    private static void outThatIsMinusOne() {
        check.sentence("Promise 10", "(or it is -1)");
        TinyC x = compiled(new TinyC(99, 99, 99, 99, 9),
            "int main(){print(-2);print(-1);print(-0);print(2147483647);return -2147483647-1;}");
        check.due("run", x.run(99), 1);
        check.due("outSize()", x.outSize(), 5);
        check.due("-2", x.out(0), -2);
        check.due("-1", x.out(1), -1);
        check.due("0", x.out(2), 0);
        check.due("the largest", x.out(3), MAX);
        check.due("the least", x.out(4), MIN);
    }

    // ---- promises 11 and 12 ----

    /** Promise 11: none at first, none behind a wrong text, all cells full, as it was behind a wrong text later. */
    private static void howManyCellsTheCodeHas() {
        check.sentence("Promise 11", "How many cells the code has.");
        TinyC x = new TinyC(99, 99, 10, 99, 9);
        check.due("codeSize() at first", x.codeSize(), 0);
        fed(x, "int main(){");
        check.due("compile() of a wrong text", x.compile(), 2 + 16 * 11);
        check.due("codeSize() behind it", x.codeSize(), 0);
        fed(x, "}");
        check.due("codeSize() ahead of compile()", x.codeSize(), 0);
        check.due("compile()", x.compile(), 0);
        check.due("codeSize(): all cells", x.codeSize(), 10);
        fed(x, "int f(){}");
        check.due("compile() of what doesn't fit", x.compile(), 10 + 16 * 21);
        check.due("codeSize() stays", x.codeSize(), 10);
        x.run(99);
        x.reset();
        check.due("codeSize() behind a run and reset()", x.codeSize(), 10);
    }

    /** Promise 12: the first, the last, one ahead of the first, one behind the last, and far beyond. */
    private static void codeAtBeyondItsEnds() {
        check.sentence("Promise 12", "Cell i of it; -1 if there is none such (or it is -1).");
        TinyC x = new TinyC(99, 99, 16, 99, 9);
        check.due("codeAt(0) without code", x.codeAt(0), -1);
        check.due("codeAt(-1) without code", x.codeAt(-1), -1);
        compiled(x, SHORTEST);
        int[] due = {32, 4, 0, 0, 37, 0, 1, 0, 33, 0};
        for (int i = 0; i < due.length; i++) {
            check.due("codeAt(" + i + ")", x.codeAt(i), due[i]);
        }
        for (int i : new int[] {MIN, MIN + 1, -4096, -2, -1, 10, 11, 15, 16, 17, 4095, 4096, MAX - 1, MAX}) {
            check.due("codeAt(" + i + ")", x.codeAt(i), -1);
        }
        fed(x, "int f(){}");
        check.due("compile()", x.compile(), 0);
        check.due("codeAt(15): the last cell that there is", x.codeAt(15), 0);
        check.due("codeAt(14)", x.codeAt(14), 33);
        check.due("codeAt(16)", x.codeAt(16), -1);
    }
}
