import java.util.Arrays;

/**
 * Promise 3 itself, and with it Terms II up to the machine: each sentence that names a bound with a test
 * of its own.
 */
final class BoundsCodeTest {
    private static final Check check = new Check("BoundsCodeTest");
    private static final String SHORTEST = "int main(){}";

    public static void main(String[] args) {
        theTextStays();
        thenAsReset();
        allElseStays();
        allElseStaysWithoutCode();
        addressesOfGlobals();
        placesOfParameters();
        placesOfLocals();
        placesThatAreFreeAgain();
        mainsAddress();
        theMostLocalsAtATime();
        localWithoutE();
        addressesBehindIf();
        addressesBehindWhile();
        addressesBehindAndAlso();
        addressesBehindOrElse();
        emptyBlocksAndSemicolons();
        leastAndLargestNumber();
        partsOfACall();
        sizesOfArrays();
        check.end();
    }

    private static void code(String text, int... due) {
        TinyC x = check.made(text);
        int[] got = new int[x.codeSize()];
        for (int i = 0; i < got.length; i++) {
            got[i] = x.codeAt(i);
        }
        check.due("code of " + text + " is " + Arrays.toString(got) + ", due is " + Arrays.toString(due) + ", same",
            Arrays.equals(got, due) ? 1 : 0, 1);
    }

    /** The code of main's BLOCK, which begins at cell 6; v is at 0. */
    private static void body(int locals, String block, int... due) {
        int[] all = new int[due.length + 10];
        System.arraycopy(new int[] {32, 4, 0, 0, 37, locals}, 0, all, 0, 6);
        System.arraycopy(due, 0, all, 6, due.length);
        System.arraycopy(new int[] {1, 0, 33, 0}, 0, all, 6 + due.length, 4);
        code("int v;int main(){" + block + "}", all);
    }

    private static TinyC compiled(TinyC x, String text) {
        check.due("compile() of " + text, Check.fed(x, text).compile(), 0);
        return x;
    }

    // ---- promise 3 ----

    /** Promise 3: compiled again, and again with more behind it; a full text, too. */
    private static void theTextStays() {
        check.sentence("Promise 3", "The text (which stays) is made code: 0,");
        TinyC x = compiled(new TinyC(21, 99, 16, 99, 9), SHORTEST);
        for (int i = 0; i < 3; i++) {
            check.due("compile() again", x.compile(), 0);
            check.due("codeSize()", x.codeSize(), 10);
        }
        Check.fed(x, "int f(){}");
        check.due("feed into the full text", x.feed(32), 1);
        check.due("compile() with more", x.compile(), 0);
        check.due("codeSize()", x.codeSize(), 16);
        // globals, LOCALS and parameters begin at their first numbers each time
        TinyC g = compiled(new TinyC(99, 99, 99, 99, 9), "int a[3];int w;int f(int x){int y=x;return w;}int main(){return f(1);}");
        int[] due = new int[g.codeSize()];
        for (int i = 0; i < due.length; i++) {
            due[i] = g.codeAt(i);
        }
        check.due("w's address", due[11], 3);
        for (int again = 0; again < 5; again++) {
            check.due("compile() again", g.compile(), 0);
            check.due("codeSize()", g.codeSize(), due.length);
            for (int i = 0; i < due.length; i++) {
                check.due("codeAt(" + i + ")", g.codeAt(i), due[i]);
            }
        }
        TinyC y = Check.fed(new TinyC(99, 99, 99, 99, 9), "int main(){");
        for (int i = 0; i < 3; i++) {
            check.due("compile() of a wrong text", y.compile(), 2 + 16 * 11);
        }
        Check.fed(y, "}");
        check.due("compile() of what is whole now", y.compile(), 0);
    }

    /** Promise 3: behind no step, one, a TRAP, HALTED: nothing is out, input begins anew, nobody has begun. */
    private static void thenAsReset() {
        check.sentence("Promise 3", "0, then as reset().");
        String text = "int g;int main(){g=g+1;print(g);print(read());print(read());}";
        TinyC x = compiled(new TinyC(99, 200, 99, 99, 9), text);
        x.input(5);
        for (int fuel : new int[] {0, 1, 9, 99}) {
            x.run(fuel);
            check.due("compile() behind run(" + fuel + ")", x.compile(), 0);
            check.due("outSize()", x.outSize(), 0);
            check.due("interpret(0)", x.interpret(0), 0);
            check.due("interpret(99)", x.interpret(99), 5);
            check.outs("from the beginning", x, 1, 5);
            check.due("compile()", x.compile(), 0);
            x.interpret(fuel);
            check.due("compile() behind interpret(" + fuel + ")", x.compile(), 0);
            check.due("outSize()", x.outSize(), 0);
            check.due("run(0)", x.run(0), 0);
            check.due("run(99)", x.run(99), 5);
            check.outs("from the beginning", x, 1, 5);
            x.reset();
        }
        check.due("input(6)", x.input(6), 0);
        check.due("run(99)", x.run(99), 1);
        check.due("compile() behind HALTED", x.compile(), 0);
        check.due("run(0)", x.run(0), 0);
    }

    /** Promise 3: a text that was right and is wrong now, by each kind that more signs can bring: all stays. */
    private static void allElseStays() {
        check.sentence("Promise 3", "Else what is wrong: all else stays.");
        String text = "int main(){print(read());print(2);return 3;}";
        int length = text.length();
        String[] more = {"#", ";", "int f(){w=1;}", "int main;", "int f(){f=1;}", "int f(){f(1);}", "int f(){return " + "-".repeat(41),
            "int f(){;;}", "int f(){}", "int a[0]"};
        int[] due = {1 + 16 * length, 2 + 16 * length, 3 + 16 * (length + 8), 4 + 16 * (length + 4), 5 + 16 * (length + 8),
            6 + 16 * (length + 8), 8 + 16 * (length + 15 + 39), 9 + 16 * (length + 9), 10 + 16 * (length + 9), 11 + 16 * (length + 6)};
        int[] treeCells = {99, 99, 99, 99, 99, 99, 400, 36, 36, 36};
        int[] codeCells = {99, 99, 99, 99, 99, 99, 99, 99, 24, 99};
        for (int i = 0; i < more.length; i++) {
            TinyC x = compiled(new TinyC(120, treeCells[i], codeCells[i], 99, 9), text);
            x.input(1);
            check.due("run(4)", x.run(4), 0);
            Check.fed(x, more[i]);
            check.due("compile() with " + more[i], x.compile(), due[i]);
            check.due("outSize()", x.outSize(), 1);
            check.due("out(0)", x.out(0), 1);
            check.due("codeSize()", x.codeSize(), 19);
            check.due("codeAt(0)", x.codeAt(0), 32);
            check.due("codeAt(18)", x.codeAt(18), 0);
            check.due("interpret(1): the machine has begun", x.interpret(1), -2);
            check.due("run(3): one step too few", x.run(3), 0);
            check.due("compile() again with " + more[i], x.compile(), due[i]);
            check.due("run(1)", x.run(1), 0);
            check.due("run(1)", x.run(1), 1);
            check.outs("as if there had been no compile()", x, 1, 2, 3);
            x.reset();
            check.due("interpret(8)", x.interpret(8), 0);
            check.due("compile() with " + more[i], x.compile(), due[i]);
            check.due("step(): the text has begun", x.step(), -2);
            check.due("interpret(99)", x.interpret(99), 1);
            check.due("compile() with " + more[i], x.compile(), due[i]);
            check.due("it stands as it stood", x.interpret(0), 1);
            check.outs("as if there had been no compile()", x, 1, 2, 3);
        }
    }

    /** Promise 3: kind 7, and any other one, on an object that never had code. */
    private static void allElseStaysWithoutCode() {
        check.sentence("Promise 3", "Else what is wrong: all else stays.");
        TinyC x = new TinyC(99, 99, 99, 99, 1);
        check.due("input", x.input(4), 0);
        check.due("compile() of nothing", x.compile(), 7);
        Check.fed(x, "int v;");
        check.due("compile() without main", x.compile(), 7 + 16 * 6);
        check.due("codeSize()", x.codeSize(), 0);
        check.due("step()", x.step(), -1);
        check.due("interpret(1)", x.interpret(1), -1);
        check.due("input stays full", x.input(4), 1);
        compiled(x, "int main(){return read();}");
        check.due("run", x.run(99), 1);
        check.outs("the input", x, 4);
    }

    // ---- Terms II, addresses and places ----

    /** Terms II: the first at 0, behind a variable 1 more, behind an array of 1, 2, 1000 as many. */
    private static void addressesOfGlobals() {
        check.sentence("Terms II", "Globals have addresses from 0 on, as they stand (an array as many as it has).");
        code("int u;int main(){u=1;}", 32, 4, 0, 0, 37, 0, 1, 1, 3, 0, 1, 0, 33, 0);
        code("int u;int w;int main(){w=u;}", 32, 4, 0, 0, 37, 0, 2, 0, 3, 1, 1, 0, 33, 0);
        code("int b[1];int w;int main(){w=b[0];}", 32, 4, 0, 0, 37, 0, 1, 0, 6, 0, 1, 3, 1, 1, 0, 33, 0);
        code("int b[2];int w;int main(){w=1;}", 32, 4, 0, 0, 37, 0, 1, 1, 3, 2, 1, 0, 33, 0);
        code("int b[1000];int c[999];int w;int main(){b[1]=2;c[3]=4;w=5;}",
            32, 4, 0, 0, 37, 0, 1, 1, 1, 2, 7, 0, 1000, 1, 3, 1, 4, 7, 1000, 999, 1, 5, 3, 1999, 1, 0, 33, 0);
        // FUNCTIONS between them take none
        code("int u;int f(){}int w;int main(){w=u;}",
            32, 10, 0, 0, 37, 0, 1, 0, 33, 0, 37, 0, 2, 0, 3, 1, 1, 0, 33, 0);
    }

    /** Terms II: the first and the last parameter of one, of two and of eight. */
    private static void placesOfParameters() {
        check.sentence("Terms II", "parameter j has -2 - n + j");
        code("int main(){}int f(int a){a=a;}", 32, 4, 0, 0, 37, 0, 1, 0, 33, 0, 37, 0, 4, -3, 5, -3, 1, 0, 33, 1);
        code("int main(){}int f(int a,int b){a=b;}", 32, 4, 0, 0, 37, 0, 1, 0, 33, 0, 37, 0, 4, -3, 5, -4, 1, 0, 33, 2);
        code("int main(){}int f(int a,int b,int c,int d,int e,int f,int g){a=g;}",
            32, 4, 0, 0, 37, 0, 1, 0, 33, 0, 37, 0, 4, -3, 5, -9, 1, 0, 33, 7);
        code("int main(){}int f(int a,int b,int c,int d,int e,int f,int g,int h){b=h;a=g;}",
            32, 4, 0, 0, 37, 0, 1, 0, 33, 0, 37, 0, 4, -3, 5, -9, 4, -4, 5, -10, 1, 0, 33, 8);
    }

    /** Terms II: the first is 0, with parameters or without. */
    private static void placesOfLocals() {
        check.sentence("Terms II", "LOCALS 0, 1, .. in the order in which they are told;");
        body(1, "int x;x=1;", 1, 0, 5, 0, 1, 1, 5, 0);
        body(3, "int x;int y;int z;z=y;", 1, 0, 5, 0, 1, 0, 5, 1, 1, 0, 5, 2, 4, 1, 5, 2);
        code("int main(){}int f(int a){int x;int y;y=a;}",
            32, 4, 0, 0, 37, 0, 1, 0, 33, 0, 37, 2, 1, 0, 5, 0, 1, 0, 5, 1, 4, -3, 5, 1, 1, 0, 33, 1);
        // each FUNCTION begins with 0 again
        code("int main(){int x;}int f(){int y;}",
            32, 4, 0, 0, 37, 1, 1, 0, 5, 0, 1, 0, 33, 0, 37, 1, 1, 0, 5, 0, 1, 0, 33, 0);
    }

    /** Terms II: just behind the } of a BLOCK, of two within one another, and not ahead of it. */
    private static void placesThatAreFreeAgain() {
        check.sentence("Terms II", "those of a BLOCK that has ended are free again.");
        body(1, "{int x;}{int y;}", 1, 0, 5, 0, 1, 0, 5, 0);
        body(2, "{int x;{int y;}}", 1, 0, 5, 0, 1, 0, 5, 1);
        body(3, "int x;{int y;{int z;}{int w;}}{int u;}", 1, 0, 5, 0, 1, 0, 5, 1, 1, 0, 5, 2, 1, 0, 5, 2, 1, 0, 5, 1);
        body(2, "int x;{int y;}x=1;{int z;z=x;}", 1, 0, 5, 0, 1, 0, 5, 1, 1, 1, 5, 0, 1, 0, 5, 1, 4, 0, 5, 1);
    }

    /** Terms II: main as the first FUNCTION, behind one, as the last of three. */
    private static void mainsAddress() {
        check.sentence("Terms II", "It begins with 32 main's address 0, 0. Then each FUNCTION as it stands:");
        code("int main(){}", 32, 4, 0, 0, 37, 0, 1, 0, 33, 0);
        code("int main(){}int f(){}", 32, 4, 0, 0, 37, 0, 1, 0, 33, 0, 37, 0, 1, 0, 33, 0);
        code("int f(){}int main(){}", 32, 10, 0, 0, 37, 0, 1, 0, 33, 0, 37, 0, 1, 0, 33, 0);
        code("int e(){;}int f(int x){return x;}int main(){f(1);}",
            32, 20, 0, 0, 37, 0, 1, 0, 33, 0, 37, 0, 4, -3, 33, 1, 1, 0, 33, 1, 37, 0, 1, 1, 32, 10, 1, 36, 1, 0, 33, 0);
    }

    /** Terms II: none, one, more in a BLOCK that has ended than behind it, and the other way round. */
    private static void theMostLocalsAtATime() {
        check.sentence("Terms II", "37 k (k: the most LOCALS at a time), its BLOCK, 1 0, 33 n.");
        mostLocals(0, "");
        mostLocals(0, "{}");
        mostLocals(1, "int x;");
        mostLocals(1, "{int x;}");
        mostLocals(1, "{int x;}{int y;}{int z;}");
        mostLocals(2, "int x;{int y;}{int z;}");
        mostLocals(2, "{int x;int y;}{int z;}");
        mostLocals(2, "{int z;}{int x;int y;}");
        mostLocals(3, "{int x;{int y;{int z;}}}");
        mostLocals(3, "int x;{int y;}{int z;int w;}");
        mostLocals(3, "int x;int y;int z;{}");
        mostLocals(39, "int a;{".repeat(39) + "}".repeat(39));
        mostLocals(80, manyLocals(80));
        // of another FUNCTION they don't count
        TinyC x = check.made("int f(){int x;int y;}int main(){int z;}");
        check.due("k of f", x.codeAt(5), 2);
        check.due("k of main", x.codeAt(x.codeAt(1) + 1), 1);
    }

    private static void mostLocals(int due, String block) {
        check.due("k of " + block, check.made("int main(){" + block + "}").codeAt(5), due);
        TinyC x = check.made("int f(int p,int q){" + block + "}int main(){}");
        check.due("k of " + block + " with parameters", x.codeAt(5), due);
    }

    private static String manyLocals(int count) {
        StringBuilder b = new StringBuilder();
        for (int i = 0; i < count; i++) {
            b.append("int x").append(i).append(';');
        }
        return b.toString();
    }

    /** Terms II. */
    private static void localWithoutE() {
        check.sentence("Terms II", "LOCAL: E (without one: 1 0), 5 place.");
        body(1, "int x;", 1, 0, 5, 0);
        body(1, "int x=0;", 1, 0, 5, 0);
        body(1, "int x=7;", 1, 7, 5, 0);
    }

    // ---- Terms II, addresses of what comes next ----

    /** Terms II: what is said is empty, the last of the FUNCTION, the last of another if. */
    private static void addressesBehindIf() {
        check.sentence("Terms II", "if: E, 31 A, S, (with else: 30 B, A:, S, B:) else A:.");
        body(0, "if(1);", 1, 1, 31, 10);
        body(0, "if(1){}", 1, 1, 31, 10);
        body(0, "if(1);else;", 1, 1, 31, 12, 30, 12);
        body(0, "if(1);else v=2;", 1, 1, 31, 12, 30, 16, 1, 2, 3, 0);
        body(0, "if(1)v=2;else;", 1, 1, 31, 16, 1, 2, 3, 0, 30, 16);
        body(0, "if(1)if(2);", 1, 1, 31, 14, 1, 2, 31, 14);
        body(0, "if(1)if(2);else;", 1, 1, 31, 16, 1, 2, 31, 16, 30, 16);
        body(0, "if(1)if(2);else;else;", 1, 1, 31, 18, 1, 2, 31, 16, 30, 16, 30, 18);
        body(0, "if(1);else if(2);else;", 1, 1, 31, 12, 30, 18, 1, 2, 31, 18, 30, 18);
    }

    /** Terms II: an empty S, two of them within one another; W is the E's first cell. */
    private static void addressesBehindWhile() {
        check.sentence("Terms II", "while: W:, E, 31 X, S, 30 W, X:.");
        body(0, "while(1);", 1, 1, 31, 12, 30, 6);
        body(0, ";while(1){}", 1, 1, 31, 12, 30, 6);
        body(0, "v=1;while(-v);", 1, 1, 3, 0, 2, 0, 24, 31, 17, 30, 10);
        body(0, "while(1)while(2);", 1, 1, 31, 18, 1, 2, 31, 16, 30, 10, 30, 6);
        body(0, "while(1)if(2);", 1, 1, 31, 16, 1, 2, 31, 14, 30, 6);
    }

    /** Terms II: alone, as the first part and as the second part of another one. */
    private static void addressesBehindAndAlso() {
        check.sentence("Terms II", "a && b: a, 31 F, b, 31 F, 1 1, 30 X, F:, 1 0, X:.");
        body(0, "v=1&&2;", 1, 1, 31, 18, 1, 2, 31, 18, 1, 1, 30, 20, 1, 0, 3, 0);
        body(0, "v=1&&2&&3;", 1, 1, 31, 18, 1, 2, 31, 18, 1, 1, 30, 20, 1, 0, 31, 30, 1, 3, 31, 30, 1, 1, 30, 32, 1, 0, 3, 0);
        body(0, "v=1&&(2&&3);", 1, 1, 31, 30, 1, 2, 31, 22, 1, 3, 31, 22, 1, 1, 30, 24, 1, 0, 31, 30, 1, 1, 30, 32, 1, 0, 3, 0);
    }

    /** Terms II: alone, as the first part and as the second part of another one. */
    private static void addressesBehindOrElse() {
        check.sentence("Terms II", "a || b: a, 31 N, 1 1, 30 X, N:, b, 31 F, 1 1, 30 X, F:, 1 0, X:.");
        body(0, "v=1||2;", 1, 1, 31, 14, 1, 1, 30, 24, 1, 2, 31, 22, 1, 1, 30, 24, 1, 0, 3, 0);
        body(0, "v=1||2||3;", 1, 1, 31, 14, 1, 1, 30, 24, 1, 2, 31, 22, 1, 1, 30, 24, 1, 0,
            31, 30, 1, 1, 30, 40, 1, 3, 31, 38, 1, 1, 30, 40, 1, 0, 3, 0);
        body(0, "v=1||(2||3);", 1, 1, 31, 14, 1, 1, 30, 40, 1, 2, 31, 22, 1, 1, 30, 32, 1, 3, 31, 30, 1, 1, 30, 32, 1, 0,
            31, 38, 1, 1, 30, 40, 1, 0, 3, 0);
    }

    /** Terms II: none, one, many of them. */
    private static void emptyBlocksAndSemicolons() {
        check.sentence("Terms II", "BLOCK: what is in it. ; alone: nothing.");
        body(0, "");
        body(0, ";");
        body(0, "{}");
        body(0, ";;;;{;{};}{{{}}}");
        body(0, ";v=1;", 1, 1, 3, 0);
        body(0, "{;{v=1;}}", 1, 1, 3, 0);
    }

    /** Terms II: no part, one, eight; as an S and in an E; the first FUNCTION's address is 4. */
    private static void partsOfACall() {
        check.sentence("Terms II", "Call: its parts, 32 address n.");
        body(0, "main();", 32, 4, 0, 36);
        body(0, "v=main();", 32, 4, 0, 3, 0);
        code("int f(int x){}int main(){f(7);return f(8);}",
            32, 10, 0, 0, 37, 0, 1, 0, 33, 1, 37, 0, 1, 7, 32, 4, 1, 36, 1, 8, 32, 4, 1, 33, 0, 1, 0, 33, 0);
        code("int f(int a,int b,int c,int d,int e,int f,int g,int h){}int main(){f(1,2,3,4,5,6,7,8);}",
            32, 10, 0, 0, 37, 0, 1, 0, 33, 8, 37, 0, 1, 1, 1, 2, 1, 3, 1, 4, 1, 5, 1, 6, 1, 7, 1, 8, 32, 4, 8, 36, 1, 0, 33, 0);
    }

    /** Terms II: the least and the largest array, taken and set. */
    private static void sizesOfArrays() {
        check.sentence("Terms II", "NAME [ E ]: E, 6 address size.");
        for (int size : new int[] {1, 2, 999, 1000}) {
            code("int b[" + size + "];int c[" + size + "];int main(){c[1]=b[0];}",
                32, 4, 0, 0, 37, 0, 1, 1, 1, 0, 6, 0, size, 7, size, size, 1, 0, 33, 0);
        }
    }

    /** Terms II: 0, 1, the largest; one below 0 is made by 24. */
    private static void leastAndLargestNumber() {
        check.sentence("Terms II", "NUMBER: 1 it.");
        body(0, "v=0;", 1, 0, 3, 0);
        body(0, "v=0000000001;", 1, 1, 3, 0);
        body(0, "v=2147483646;", 1, 2147483646, 3, 0);
        body(0, "v=2147483647;", 1, 2147483647, 3, 0);
        body(0, "v=-2147483647;", 1, 2147483647, 24, 3, 0);
        body(0, "v=-1;", 1, 1, 24, 3, 0);
    }
}
