/** Promises 1, 2, 4, 8, 9, 10, 11, 12: cells, text, input, reset, what came out, the code's cells. */
final class FaceTest {
    private static final Check check = new Check("FaceTest");
    private static final String ECHO = "int main(){print(read());print(-1);return 7;}";

    public static void main(String[] args) {
        cellsBelowZero();
        cellsAboveTheMost();
        allIsEmptyAtFirst();
        feedingUpToTheLastCell();
        feedTakesAnyNumber();
        inputUpToTheLastCell();
        resetKeepsTextCodeAndInput();
        outsBeyondTheEnds();
        codeBeyondTheEnds();
        objectsAreApart();
        laterCallsDoNotFail();
        check.end();
    }

    private static void cellsBelowZero() {
        for (int few : new int[] {-1, -5000, Integer.MIN_VALUE, 0}) {
            TinyC x = new TinyC(few, few, few, few, few);
            check.due("feed without text cells", x.feed(32), 1);
            check.due("input without io cells", x.input(1), 1);
            check.due("compile() of nothing", x.compile(), 7);
            check.due("outSize()", x.outSize(), 0);
            check.due("codeSize()", x.codeSize(), 0);
        }
        check.due("no tree cells", Check.fed(new TinyC(50, -1, 50, 50, 5), "int main(){}").compile(), 9 + 16 * 4);
        check.due("no code cells", Check.fed(new TinyC(50, 50, -1, 50, 5), "int main(){}").compile(), 10 + 16 * 12);
        TinyC x = Check.fed(new TinyC(50, 50, 50, -1, 5), "int main(){}");
        check.due("compile without memory", x.compile(), 0);
        check.due("run without memory", x.run(9), 4);
        x.reset();
        check.due("interpret without memory", x.interpret(9), 4);
        x = Check.fed(new TinyC(50, 50, 50, 50, -1), "int main(){}");
        check.due("compile without io", x.compile(), 0);
        check.due("run without io", x.run(99), 6);
    }

    private static void cellsAboveTheMost() {
        int[] many = {4096, 4097, 5000, Integer.MAX_VALUE};
        for (int m : many) {
            String globals = "int a[1000];int b[1000];int c[1000];int d[1000];";
            TinyC x = Check.fed(new TinyC(m, m, m, m, m), globals + "int e[93];int main(){}");
            check.due("compile", x.compile(), 0);
            check.due("run: 4093 globals, 2 of the call, 1 value", x.run(9), 1);
            x = Check.fed(new TinyC(m, m, m, m, m), globals + "int e[94];int main(){}");
            x.compile();
            check.due("one global more: two steps", x.run(2), 0);
            check.due("one global more: the value", x.step(), 4);
            x = Check.fed(new TinyC(m, m, m, m, m), "int main(){while(1)print(3);}");
            x.compile();
            check.due("output without end", x.run(1000000), 6);
            check.due("outSize()", x.outSize(), 4096);
            check.due("out(4095)", x.out(4095), 3);
            check.due("out(4096)", x.out(4096), -1);
            int fed = 0;
            TinyC y = new TinyC(m, m, m, m, m);
            while (y.feed(32) == 0) {
                fed++;
            }
            check.due("signs that fit", fed, 4096);
        }
        TinyC x = new TinyC(1, 1, 1, 1, 1);
        check.due("one sign", x.feed(32), 0);
        check.due("and no more", x.feed(32), 1);
        check.due("its text's length", x.compile(), 7 + 16);
    }

    private static void allIsEmptyAtFirst() {
        TinyC x = Check.roomy();
        check.due("outSize()", x.outSize(), 0);
        check.due("out(0)", x.out(0), -1);
        check.due("codeSize()", x.codeSize(), 0);
        check.due("codeAt(0)", x.codeAt(0), -1);
        check.due("step()", x.step(), -1);
        check.due("run(1)", x.run(1), -1);
        check.due("run(0)", x.run(0), -1);
        check.due("interpret(1)", x.interpret(1), -1);
        check.due("interpret(0)", x.interpret(0), -1);
        x.reset();
        check.due("step() behind reset()", x.step(), -1);
        check.due("compile() of nothing", x.compile(), 7);
    }

    private static void feedingUpToTheLastCell() {
        String text = "int main(){}";
        TinyC x = new TinyC(text.length(), 100, 100, 100, 9);
        for (int i = 0; i < text.length(); i++) {
            check.due("feed", x.feed(text.charAt(i)), 0);
        }
        check.due("feed into a full text", x.feed('#'), 1);
        check.due("the text has not changed", x.compile(), 0);
        check.due("the text stays", x.compile(), 0);
        check.due("feed behind compile", x.feed(32), 1);
        TinyC y = Check.fed(Check.roomy(), text);
        y.compile();
        Check.fed(y, "int g");
        check.due("the text goes on behind compile", y.compile(), 2 + 16 * 17);
        Check.fed(y, ";");
        check.due("and is whole again", y.compile(), 0);
    }

    private static void feedTakesAnyNumber() {
        for (int c : new int[] {0, -1, 9, 13, 35, 64, 127, 128, 256 + 32, Integer.MIN_VALUE, Integer.MAX_VALUE, 65536 + 59}) {
            TinyC x = Check.roomy();
            check.due("feed(" + c + ")", x.feed(c), 0);
            check.due("compile() of " + c, x.compile(), 1);
        }
    }

    private static void inputUpToTheLastCell() {
        TinyC x = Check.fed(new TinyC(100, 100, 100, 100, 2), "int main(){print(read());return read();}");
        check.due("input(5)", x.input(5), 0);
        check.due("input(min)", x.input(Integer.MIN_VALUE), 0);
        check.due("input into full cells", x.input(3), 1);
        check.due("compile()", x.compile(), 0);
        check.due("run", x.run(99), 1);
        check.outs("inputs in their order", x, 5, Integer.MIN_VALUE);
        check.due("input is still full behind run", x.input(3), 1);
        x.reset();
        check.due("and behind reset()", x.input(3), 1);
    }

    private static void resetKeepsTextCodeAndInput() {
        TinyC x = check.made(ECHO, 4);
        for (int i = 0; i < 3; i++) {
            check.due("run", x.run(99), 1);
            check.outs("behind run", x, 4, -1, 7);
            x.reset();
            check.due("outSize() behind reset()", x.outSize(), 0);
            check.due("out(0) behind reset()", x.out(0), -1);
            check.due("run(0) behind reset()", x.run(0), 0);
            check.due("interpret", x.interpret(99), 1);
            check.outs("behind interpret", x, 4, -1, 7);
            x.reset();
        }
        check.due("codeSize()", x.codeSize(), 20);
        x.interpret(8);
        x.reset();
        check.due("in the midst of the text", x.run(99), 1);
        x.reset();
        x.run(5);
        x.reset();
        check.due("in the midst of the code", x.interpret(99), 1);
        check.outs("from the beginning", x, 4, -1, 7);
        TinyC g = check.made("int g;int a[2];int main(){print(g);g=5;print(a[1]);a[1]=6;}");
        for (int i = 0; i < 2; i++) {
            g.run(99);
            check.outs("memory is 0 again", g, 0, 0, 0);
            g.reset();
            g.interpret(99);
            check.outs("globals are 0 again", g, 0, 0, 0);
            g.reset();
        }
    }

    private static void outsBeyondTheEnds() {
        TinyC x = check.made(ECHO, 4);
        check.due("run up to the first", x.run(4), 0);
        check.due("outSize()", x.outSize(), 1);
        check.due("run on", x.run(99), 1);
        check.due("outSize()", x.outSize(), 3);
        check.due("out(0)", x.out(0), 4);
        check.due("out(1)", x.out(1), -1);
        check.due("out(2)", x.out(2), 7);
        for (int i : new int[] {-1, 3, 99, 100, 4096, Integer.MIN_VALUE, Integer.MAX_VALUE}) {
            check.due("out(" + i + ")", x.out(i), -1);
        }
    }

    private static void codeBeyondTheEnds() {
        TinyC x = check.made("int main(){}");
        check.due("codeSize()", x.codeSize(), 10);
        check.due("codeAt(9)", x.codeAt(9), 0);
        for (int i : new int[] {-1, 10, 4095, 4096, Integer.MIN_VALUE, Integer.MAX_VALUE}) {
            check.due("codeAt(" + i + ")", x.codeAt(i), -1);
        }
        Check.fed(x, "#");
        check.due("compile() of a wrong text", x.compile(), 1 + 16 * 12);
        check.due("codeSize() stays", x.codeSize(), 10);
        check.due("codeAt(0) stays", x.codeAt(0), 32);
        check.due("codeAt(1) stays", x.codeAt(1), 4);
    }

    private static void objectsAreApart() {
        TinyC x = check.made("int main(){return 1;}");
        TinyC y = check.made("int main(){return 2;}");
        x.run(2);
        y.interpret(99);
        x.run(99);
        check.outs("x", x, 1);
        check.outs("y", y, 2);
    }

    private static void laterCallsDoNotFail() {
        TinyC x = Check.roomy();
        for (int i = 0; i < 6000; i++) {
            x.feed("-(a[!".charAt(i % 5));
            x.input(i);
        }
        check.due("a full text that is wrong", x.compile(), 2);
    }
}
