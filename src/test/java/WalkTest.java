/** Promise 7, and with it 9, 10: the text by itself, STEP by STEP. */
final class WalkTest {
    private static final Check check = new Check("WalkTest");
    /** The call of main, its BLOCK, the ITEM for its one S; behind them the end, which HALTS it. */
    private static final int AROUND = 4;

    public static void main(String[] args) {
        countsOfSteps();
        fuel();
        trapsAtWhatIsDone();
        room();
        resetInTheMidst();
        parametersAndLocals();
        output();
        check.end();
    }

    /** So many STEPS, the last of which ends it. */
    private static void steps(String text, int count, int status, int... inputs) {
        TinyC x = check.made(text, inputs);
        for (int i = 1; i < count; i++) {
            check.due("STEP " + i + " of " + text, x.interpret(1), 0);
        }
        check.due("the last STEP of " + text, x.interpret(1), status);
        check.due("a STEP beyond the last of " + text, x.interpret(1), status);
        check.due("none beyond the last of " + text, x.interpret(0), status);
        TinyC y = check.made(text, inputs);
        check.due("all but one of " + text, y.interpret(count - 1), 0);
        check.due("all of " + text, y.interpret(99), status);
    }

    /** main has this S alone, which takes so many STEPS. */
    private static void statement(String s, int count) {
        steps("int v;int a[3];int f(int x){}int n(){}int main(){" + s + "}", AROUND + count, 1, 5, 6, 7);
    }

    /** The E takes so many STEPS; print takes two. */
    private static void value(String e, int count) {
        statement("print(" + e + ");", 2 + count);
    }

    private static void countsOfSteps() {
        steps("int main(){}", 3, 1);
        steps("int main(){return 5;}", 6, 1);
        statement(";", 1);
        statement("{}", 1);
        statement("{;}", 3);
        statement("{;;}", 5);
        statement(";;", 3);
        statement("v=1;", 3);
        statement("int x;", 1);
        statement("int x=1;", 3);
        statement("int x;int y;", 3);
        statement("int x=1;x=x;", 7);
        statement("a[1]=2;", 4);
        statement("print(1);", 3);
        statement("if(1);", 4);
        statement("if(0);", 3);
        statement("if(0);else;", 4);
        statement("if(1){}else;", 4);
        statement("while(0);", 3);
        statement("int x=2;while(x)x=x-1;", 3 + 1 + 3 + 2 * (3 + 6));
        // the call apart, the call done, its BLOCK, its end, the value goes
        statement("n();", 1 + 1 + 1 + 1 + 1 + 1);
        statement("f(1);", 1 + 1 + 1 + 1 + 1 + 1 + 1);
        value("1", 1);
        value("v", 1);
        value("read()", 1);
        value("a[1]", 3);
        value("-1", 3);
        value("!~1", 5);
        value("1+2", 4);
        value("(1+2)*3", 7);
        value("n()", 4);
        value("f(1)", 5);
        value("0&&1", 3);
        value("1&&1", 5);
        value("1||1", 3);
        value("0||1", 5);
        value("1&&1&&1", 9);
        value("0&&1&&1", 5);
        value("0||0||0", 9);
        // return ends all the ITEMS down to its call's end
        steps("int main(){return 1;;;;}", 6, 1);
        steps("int main(){while(1){return 1;}}", 3 + 3 + 1 + 1 + 3, 1);
        steps("int f(){return 2;}int main(){return f();}", 3 + 1 + (1 + 1 + 1 + 1 + 3) + 1, 1);
        steps("int f(){return 2;}int main(){return 1+f();}", 3 + 1 + 1 + 1 + (1 + 1 + 1 + 1 + 3) + 1 + 1, 1);
    }

    private static void fuel() {
        TinyC x = check.made("int main(){print(1);print(2);}");
        check.due("interpret(0)", x.interpret(0), 0);
        check.due("interpret(-1)", x.interpret(-1), 0);
        check.due("interpret(min)", x.interpret(Integer.MIN_VALUE), 0);
        check.due("run(0): no STEP was done", x.run(0), 0);
        check.due("interpret(5)", x.interpret(5), 0);
        check.due("outSize()", x.outSize(), 0);
        check.due("interpret(1)", x.interpret(1), 0);
        check.due("outSize()", x.outSize(), 1);
        check.due("interpret(max)", x.interpret(Integer.MAX_VALUE), 1);
        check.outs("all", x, 1, 2, 0);
        check.due("interpret(99)", x.interpret(99), 1);
        check.outs("nothing more", x, 1, 2, 0);
        check.due("interpret for long", check.made("int main(){while(1);}").interpret(1000000), 0);
    }

    private static void trapsAtWhatIsDone() {
        // the sign apart, both parts, then it is done
        steps("int main(){print(1/0);}", 3 + 1 + 4, 2);
        steps("int main(){print(1%0);}", 3 + 1 + 4, 2);
        steps("int a[2];int main(){print(a[2]);}", 3 + 1 + 3, 3);
        steps("int a[2];int main(){a[-1]=1;}", 3 + 1 + 3 + 1 + 1, 3);
        steps("int main(){print(read());}", 3 + 1 + 1, 5);
        // the E in [ ] is the first part
        TinyC x = check.made("int a[2];int main(){a[read()]=read();print(a[1]);}", 1, 8);
        check.due("interpret", x.interpret(99), 1);
        check.outs("8", x, 8, 0);
        x = check.made("int f(int x,int y){return x*10+y;}int main(){return f(read(),read())-read();}", 1, 2, 3);
        check.due("interpret", x.interpret(99), 1);
        check.outs("parts from the left", x, 9);
        x = check.made("int main(){print(read());}");
        check.due("interpret", x.interpret(99), 5);
        x.input(3);
        check.due("it stands for good", x.interpret(99), 5);
        x.reset();
        check.due("interpret behind reset()", x.interpret(99), 1);
        check.outs("3", x, 3, 0);
    }

    /** Ends well with just as many cells; with one fewer there is no ROOM behind this STEP. */
    private static void roomOf(int cells, int step, String text) {
        check.due("interpret with " + cells + " of " + text, check.madeWith(cells, 9, text, 1, 2).interpret(99999), 1);
        TinyC x = check.madeWith(cells - 1, 9, text, 1, 2);
        check.due("interpret up to the trap of " + text, x.interpret(step - 1), 0);
        check.due("the trap of " + text, x.interpret(1), 4);
        check.due("it stands for good", x.interpret(99), 4);
    }

    private static void room() {
        // the end and the BLOCK
        roomOf(2, 1, "int main(){}");
        roomOf(2, 1, "int main(){;}");
        // the end, what is behind, the S
        roomOf(3, 3, "int main(){;;}");
        // the end, return, its E
        roomOf(3, 4, "int main(){return 5;}");
        // the end, return, +, two parts
        roomOf(5, 5, "int main(){return 1+2;}");
        // globals and LOCALS count from the call on
        roomOf(2 + 5, 1, "int a[4];int g;int main(){}");
        roomOf(2 + 2 + 1, 3, "int main(){int x;int y;}");
        roomOf(1 + 2, 1, "int main(){int x;}");
        // of all BLOCKS the most LOCALS at a time
        roomOf(2 + 4, 5, "int main(){{int x;int y;}{int z;}}");
        // end, DROP, then end and BLOCK of the call
        roomOf(1 + 1 + 2, 6, "int n(){}int main(){n();}");
        // end, DROP, end, BLOCK and the FRAME with one parameter and one LOCAL
        roomOf(1 + 1 + 2 + 2, 7, "int f(int x){int y;}int main(){f(1);}");
        // end, DROP, the call, eight parts
        roomOf(1 + 1 + 1 + 8 + 1, 14,
            "int f(int a,int b,int c,int d,int e,int f,int g,int h){}int main(){f(1,2,3,4,5,6,7,8);}");
        // end, print, &&, ...: the second part has the ITEM for whether it is 0 below it
        roomOf(4, 5, "int main(){print(1&&1);}");
        TinyC x = check.madeWith(4, 9, "int a[5];int main(){}");
        check.due("globals that don't fit: interpret(0)", x.interpret(0), 0);
        check.due("globals that don't fit: run(0)", x.run(0), 0);
        check.due("globals that don't fit: interpret(1)", x.interpret(1), 4);
        check.due("step()", x.step(), -2);
        // a FRAME far too large for the memory
        x = check.madeWith(9, 9, "int main(){" + manyLocals(60) + "}");
        check.due("interpret(1)", x.interpret(1), 4);
        // INPUT comes ahead: what is done is looked at behind it
        x = check.madeWith(3, 9, "int main(){return read();}");
        check.due("read without input", x.interpret(99), 5);
        // FRAMES are gone behind their calls
        check.due("many calls", check.madeWith(12, 9,
            "int f(int x){int y=x;return y;}int main(){int i=50;while(i)i=f(i)-1;}").interpret(99999), 1);
    }

    /** Values, ITEMS and FRAMES of what was left in the midst must be gone behind reset(). */
    private static void resetInTheMidst() {
        String text = "int f(int x){int y=x+1;return x*10+y+(0+1);}int main(){int z=7;return 1+f(4)+z;}";
        int cells = 0;
        while (check.madeWith(cells, 9, text).interpret(99) != 1) {
            cells++;
        }
        TinyC x = check.madeWith(cells, 9, text);
        for (int fuel = 1; fuel < 40; fuel++) {
            x.interpret(fuel);
            x.reset();
            check.due("interpret behind " + fuel + " STEPS and reset()", x.interpret(99), 1);
            check.outs("behind " + fuel + " STEPS and reset()", x, 54);
            x.reset();
            x.run(fuel);
            x.reset();
            check.due("interpret behind " + fuel + " steps and reset()", x.interpret(99), 1);
            x.reset();
        }
    }

    private static void parametersAndLocals() {
        check.prints("int f(int x,int y){int z=x;int w=y;x=5;y=6;print(z);print(w);z=7;w=8;print(x);print(y);"
            + "{int q=9;int x=q+z;print(x);}print(w);return x;}int main(){int z=50;print(f(1,2));print(z);}",
            1, 2, 5, 6, 16, 8, 5, 50);
    }

    private static String manyLocals(int count) {
        StringBuilder b = new StringBuilder();
        for (int i = 0; i < count; i++) {
            b.append("int x").append(i).append(';');
        }
        return b.toString();
    }

    private static void output() {
        TinyC x = check.madeWith(99, 2, "int main(){print(1);print(2);print(3);}");
        check.due("interpret", x.interpret(99), 6);
        check.outs("two", x, 1, 2);
        x = check.madeWith(99, 2, "int main(){print(1);print(2);}");
        check.due("interpret: main's value doesn't fit", x.interpret(99), 6);
        check.outs("two", x, 1, 2);
        x = check.madeWith(99, 2, "int main(){print(1);return 2;}");
        check.due("interpret", x.interpret(99), 1);
        check.outs("two", x, 1, 2);
        x = check.madeWith(99, 0, "int main(){}");
        check.due("interpret(2)", x.interpret(2), 0);
        check.due("interpret(1)", x.interpret(1), 6);
        x = check.madeWith(99, 0, "int main(){return 1;}");
        check.due("interpret(5)", x.interpret(5), 0);
        check.due("interpret(1)", x.interpret(1), 6);
        check.due("interpret(1)", x.interpret(1), 6);
    }
}
