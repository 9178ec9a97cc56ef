/** Promises 5, 6, and with them 9, 10: the machine, step by step. */
final class MachineTest {
    private static final Check check = new Check("MachineTest");
    private static final int MIN = Integer.MIN_VALUE;
    private static final int MAX = Integer.MAX_VALUE;

    public static void main(String[] args) {
        countsOfSteps();
        fuel();
        values();
        namesAndCalls();
        zero();
        place();
        roomOfTheMachine();
        input();
        output();
        whoHasBegun();
        check.end();
    }

    /** So many steps, the last of which ends it. */
    private static void steps(String text, int count, int status, int... inputs) {
        TinyC x = check.made(text, inputs);
        for (int i = 1; i < count; i++) {
            check.due("step " + i + " of " + text, x.step(), 0);
        }
        check.due("the last step of " + text, x.step(), status);
        check.due("a step beyond the last of " + text, x.step(), status);
        check.due("run beyond the last step of " + text, x.run(99), status);
    }

    private static void countsOfSteps() {
        steps("int main(){}", 5, 1);
        steps("int main(){return 5;}", 5, 1);
        steps("int main(){print(5);}", 7, 1);
        steps("int main(){if(1);}", 7, 1);
        steps("int main(){if(1);else;}", 8, 1);
        steps("int main(){if(0);else;}", 7, 1);
        steps("int main(){while(0);}", 7, 1);
        steps("int main(){int i=2;while(i)i=i-1;}", 5 + 2 + 2 + 2 * 7, 1);
        steps("int main(){return 1&&2;}", 5 + 5, 1);
        steps("int main(){return 0&&2;}", 5 + 2, 1);
        steps("int main(){return 1||2;}", 5 + 3, 1);
        steps("int main(){return 0||2;}", 5 + 5, 1);
        steps("int f(int x){return x;}int main(){return f(3);}", 5 + 4, 1);
        steps("int main(){print(1/0);}", 5, 2);
        steps("int main(){print(read());}", 3, 5);
    }

    private static void fuel() {
        TinyC x = check.made("int main(){print(1);print(2);}");
        check.due("run(0)", x.run(0), 0);
        check.due("run(-1)", x.run(-1), 0);
        check.due("run(min)", x.run(MIN), 0);
        check.due("outSize()", x.outSize(), 0);
        check.due("run(3)", x.run(3), 0);
        check.due("outSize()", x.outSize(), 0);
        check.due("run(1)", x.run(1), 0);
        check.due("outSize()", x.outSize(), 1);
        check.due("run(4)", x.run(4), 0);
        check.due("outSize()", x.outSize(), 2);
        check.due("run(0)", x.run(0), 0);
        check.due("run(max)", x.run(MAX), 1);
        check.outs("all", x, 1, 2, 0);
        check.due("run(0)", x.run(0), 1);
        check.due("run(-1)", x.run(-1), 1);
        check.outs("nothing more", x, 1, 2, 0);
        check.due("run for long", check.made("int main(){while(1);}").run(1000000), 0);
    }

    private static void value(String e, int due) {
        check.prints("int v;int a[3];int main(){v=-2147483647-1;a[1]=7;print(" + e + ");}", due);
    }

    private static void values() {
        value("2147483647+1", MIN);
        value("v-1", MAX);
        value("-v", MIN);
        value("v*-1", MIN);
        value("v/-1", MIN);
        value("v%-1", 0);
        value("65536*65536", 0);
        value("46341*46341", -2147479015);
        value("7/2", 3);
        value("-7/2", -3);
        value("7/-2", -3);
        value("-7/-2", 3);
        value("7%2", 1);
        value("-7%2", -1);
        value("7%-2", 1);
        value("-7%-2", -1);
        value("1<<31", MIN);
        value("1<<32", 1);
        value("1<<33", 2);
        value("1<<-1", MIN);
        value("v>>31", -1);
        value("v>>32", MIN);
        value("-8>>1", -4);
        value("8>>-31", 4);
        value("-1>>31", -1);
        value("12|10", 14);
        value("12^10", 6);
        value("12&10", 8);
        value("~0", -1);
        value("~5", -6);
        value("!0", 1);
        value("!5", 0);
        value("!-5", 0);
        value("1==1", 1);
        value("1==2", 0);
        value("1!=1", 0);
        value("1!=2", 1);
        value("v<1", 1);
        value("1<v", 0);
        value("1<1", 0);
        value("1<=1", 1);
        value("2<=1", 0);
        value("1>v", 1);
        value("1>1", 0);
        value("1>=1", 1);
        value("v>=1", 0);
        value("10-3-2", 5);
        value("100/10/5", 2);
        value("2+3*4", 14);
        value("(2+3)*4", 20);
        value("1<2==1", 1);
        value("5&&7", 1);
        value("5&&0", 0);
        value("0&&1/0", 0);
        value("0||8", 1);
        value("0||0", 0);
        value("3||1/0", 1);
        value("-1&&-1", 1);
        value("1||0&&0", 1);
        value("a[1]", 7);
        value("a[a[1]-5]", 0);
        value("a[0]+a[1]*a[1]", 49);
    }

    private static void namesAndCalls() {
        check.prints("int f(int x,int y){return x-y;}int main(){print(f(9,4));print(f(f(9,1),f(5,2)));}", 5, 5);
        check.prints("int f(int n){if(n<2)return n;return f(n-1)+f(n-2);}int main(){print(f(10));}", 55);
        check.prints("int f(int n){}int main(){print(f(3));}", 0);
        check.prints("int g;int f(){g=g+1;return g;}int main(){f();f();print(g);print(f()+f()*10);}", 2, 43);
        check.prints("int main(){int x=1;{int x=2;print(x);}print(x);{int y;print(y);y=5;}{int z;print(z);}}", 2, 1, 0, 0);
        check.prints("int f(int x){x=x+1;return x;}int main(){int x=5;print(f(x));print(x);}", 6, 5);
        check.prints("int main(){int i=0;int s=0;while(i<5){int t=i*i;s=s+t;i=i+1;}print(s);}", 30);
        check.prints("int main(){int i=3;while(i){if(i==2)print(20);else if(i==1)print(10);else print(0);i=i-1;}}", 0, 20, 10);
        check.prints("int a[5];int main(){int i=0;while(i<5){a[i]=i*i;i=i+1;}print(a[4]);print(a[0]);}", 16, 0);
        check.prints("int f(int a,int b,int c,int d,int e,int f,int g,int h){print(a*10+h);return b;}"
            + "int main(){print(f(1,2,3,4,5,6,7,8));}", 18, 2);
        check.prints("int main(){int i=0;while(1){i=i+1;if(i>3)return i*0;print(i);}}", 1, 2, 3);
    }

    private static void zero() {
        check.ends("int main(){return 1/0;}", 2);
        check.ends("int main(){return 1%0;}", 2);
        check.ends("int main(){return 0/0;}", 2);
        check.ends("int v;int main(){print(1);v=5/v;print(2);}", 2);
        check.ends("int main(){return 0/1;}", 1);
    }

    private static void place() {
        String[] bad = {"-1", "3", "4", "2147483647", "-2147483647-1"};
        for (String i : bad) {
            check.ends("int v;int a[3];int w;int main(){return a[" + i + "];}", 3);
            check.ends("int v;int a[3];int w;int main(){a[" + i + "]=1;}", 3);
        }
        check.ends("int a[3];int main(){a[0]=1;a[2]=a[0];return a[2];}", 1);
        check.ends("int a[1];int main(){return a[1];}", 3);
        // the value is made ahead of the place's being looked at
        check.ends("int a[1];int main(){a[1]=1/0;}", 2);
        check.ends("int a[1];int main(){a[1/0]=read();}", 2);
    }

    /** Runs with just as many cells, and not with one fewer, where the trap comes with this step. */
    private static void roomOf(int cells, int step, String text) {
        check.due("run with " + cells + " of " + text, check.madeWith(cells, 9, text).run(99999), 1);
        TinyC x = check.madeWith(cells - 1, 9, text);
        check.due("run up to the trap of " + text, x.run(step - 1), 0);
        check.due("the trap of " + text, x.step(), 4);
        check.due("it stands for good", x.run(99), 4);
    }

    private static void roomOfTheMachine() {
        roomOf(3, 3, "int main(){}");
        roomOf(5, 3, "int main(){int x;int y;}");
        roomOf(4, 4, "int main(){return 1+1;}");
        roomOf(8, 3, "int a[5];int main(){}");
        // a call's two cells, all LOCALS at once
        roomOf(2 + 3, 5, "int f(){}int main(){f();}");
        TinyC x = check.madeWith(3, 9, "int f(){}int main(){f();}");
        check.due("call with one cell left", x.run(2), 0);
        check.due("call with one cell left", x.step(), 4);
        x = check.madeWith(4, 9, "int main(){int x;int y;int z;}");
        check.due("two of three LOCALS would fit", x.step(), 0);
        check.due("two of three LOCALS would fit", x.step(), 4);
        x = check.madeWith(1, 9, "int main(){}");
        check.due("the first call", x.step(), 4);
        x = check.madeWith(2, 9, "int main(){}");
        check.due("37 0 with no cell left", x.run(2), 0);
        check.due("1 0 with no cell left", x.step(), 4);
        // globals that don't fit, at the first step
        x = check.madeWith(4, 9, "int a[5];int main(){}");
        check.due("run(0)", x.run(0), 0);
        check.due("step()", x.step(), 4);
        check.due("interpret(1): a step was done", x.interpret(1), -2);
        x = check.madeWith(5, 9, "int a[5];int main(){}");
        check.due("globals that just fit: the call doesn't", x.step(), 4);
        check.ends("int f(){return f();}int main(){return f();}", 4);
        check.ends("int f(int x){return 1+f(x+1);}int main(){return f(0);}", 4);
    }

    private static void input() {
        check.ends("int main(){return read();}", 5);
        check.ends("int main(){return read();}", 1, 8);
        check.ends("int main(){return read()+read();}", 5, 8);
        TinyC x = check.made("int main(){print(read()-read());}", 10, 3);
        check.due("run", x.run(99), 1);
        check.outs("from the first on", x, 7, 0);
        // INPUT ahead of ROOM
        x = check.madeWith(2, 9, "int main(){print(read());}");
        check.due("run up to 35", x.run(2), 0);
        check.due("no input and no room", x.step(), 5);
        x = check.madeWith(2, 9, "int main(){print(read());}", 1);
        check.due("input, but no room", x.run(3), 4);
        // it stands for good, though there is input now
        x = check.made("int main(){print(read());}");
        check.due("run", x.run(99), 5);
        check.due("input(6)", x.input(6), 0);
        check.due("run", x.run(99), 5);
        x.reset();
        check.due("run behind reset()", x.run(99), 1);
        check.outs("6", x, 6, 0);
        // input that comes in time
        x = check.made("int main(){print(read());}");
        check.due("run(2)", x.run(2), 0);
        x.input(4);
        check.due("run(99)", x.run(99), 1);
        check.outs("4", x, 4, 0);
    }

    private static void output() {
        TinyC x = check.madeWith(99, 2, "int main(){print(1);print(2);print(3);}");
        check.due("run", x.run(99), 6);
        check.outs("two", x, 1, 2);
        x = check.madeWith(99, 2, "int main(){print(1);print(2);}");
        check.due("run: main's value doesn't fit", x.run(99), 6);
        check.outs("two", x, 1, 2);
        x = check.madeWith(99, 2, "int main(){print(1);return 2;}");
        check.due("run", x.run(99), 1);
        check.outs("two", x, 1, 2);
        x = check.madeWith(99, 0, "int main(){}");
        check.due("run(4)", x.run(4), 0);
        check.due("step()", x.step(), 6);
    }

    private static void whoHasBegun() {
        TinyC x = check.made("int main(){return 5;}");
        check.due("run(0)", x.run(0), 0);
        check.due("interpret(0) behind run(0)", x.interpret(0), 0);
        check.due("step()", x.step(), 0);
        check.due("interpret(1)", x.interpret(1), -2);
        check.due("interpret(0)", x.interpret(0), -2);
        check.due("interpret(-1)", x.interpret(-1), -2);
        check.due("run goes on", x.run(99), 1);
        check.due("interpret behind HALTED", x.interpret(99), -2);
        x.reset();
        check.due("interpret(1) behind reset()", x.interpret(1), 0);
        check.due("step()", x.step(), -2);
        check.due("run(0)", x.run(0), -2);
        check.due("run(-5)", x.run(-5), -2);
        check.due("run(99)", x.run(99), -2);
        check.due("interpret goes on", x.interpret(99), 1);
        check.due("step() behind HALTED", x.step(), -2);
        check.outs("once", x, 5);
        check.due("compile()", x.compile(), 0);
        check.due("step() behind compile()", x.step(), 0);
        // a STEP that came to a TRAP is one, too
        x = check.madeWith(1, 9, "int main(){}");
        check.due("interpret(1)", x.interpret(1), 4);
        check.due("step()", x.step(), -2);
        x.reset();
        check.due("step()", x.step(), 4);
        check.due("interpret(1)", x.interpret(1), -2);
    }
}
