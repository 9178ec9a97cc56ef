import java.util.ArrayList;
import java.util.Arrays;
import java.util.List;

/** Promises 3, 11, 12: the code that compile() makes, cell by cell. */
final class CodeTest {
    private static final Check check = new Check("CodeTest");

    public static void main(String[] args) {
        wholeTexts();
        statements();
        signsOfOneAndTwo();
        whatBindsTighter();
        andAlsoOrElse();
        placesAndAddresses();
        madeAnew();
        check.end();
    }

    private static void code(String text, int... due) {
        TinyC x = check.made(text);
        int[] got = new int[x.codeSize()];
        for (int i = 0; i < got.length; i++) {
            got[i] = x.codeAt(i);
        }
        check.due("code of " + text + " is " + Arrays.toString(got) + ", due is " + Arrays.toString(due) + ", same",
            Arrays.equals(got, due) ? 1 : 0, 1);
    }

    /** The code of main's BLOCK, which begins at 6; v is at 0, a at 1 to 3. */
    private static void body(int locals, String block, int... due) {
        List<Integer> all = new ArrayList<>(List.of(32, 4, 0, 0, 37, locals));
        for (int d : due) {
            all.add(d);
        }
        all.addAll(List.of(1, 0, 33, 0));
        code("int v;int a[3];int main(){" + block + "}", all.stream().mapToInt(i -> i).toArray());
    }

    private static void value(String e, int... due) {
        int[] all = Arrays.copyOf(due, due.length + 1);
        all[due.length] = 34;
        body(0, "print(" + e + ");", all);
    }

    private static void wholeTexts() {
        code("int main(){}", 32, 4, 0, 0, 37, 0, 1, 0, 33, 0);
        code("int main(){return 5;}", 32, 4, 0, 0, 37, 0, 1, 5, 33, 0, 1, 0, 33, 0);
        code("int f(){}int main(){}", 32, 10, 0, 0, 37, 0, 1, 0, 33, 0, 37, 0, 1, 0, 33, 0);
        code("int main(){}int f(int x,int y){}", 32, 4, 0, 0, 37, 0, 1, 0, 33, 0, 37, 0, 1, 0, 33, 2);
        code("int f(int x){return f(x);}int main(){f(2);}",
            32, 17, 0, 0, 37, 0, 4, -3, 32, 4, 1, 33, 1, 1, 0, 33, 1, 37, 0, 1, 2, 32, 4, 1, 36, 1, 0, 33, 0);
    }

    private static void statements() {
        body(0, ";;{}{;}");
        body(0, "v=7;", 1, 7, 3, 0);
        body(0, "a[1]=2;", 1, 1, 1, 2, 7, 1, 3);
        body(0, "a[v]=a[2];", 2, 0, 1, 2, 6, 1, 3, 7, 1, 3);
        body(0, "print(3);", 1, 3, 34);
        body(0, "return 9;", 1, 9, 33, 0);
        body(0, "main();", 32, 4, 0, 36);
        body(1, "int x;", 1, 0, 5, 0);
        body(1, "int x=4;x=x;", 1, 4, 5, 0, 4, 0, 5, 0);
        body(0, "if(v)v=1;", 2, 0, 31, 14, 1, 1, 3, 0);
        body(0, "if(v)v=1;else v=2;", 2, 0, 31, 16, 1, 1, 3, 0, 30, 20, 1, 2, 3, 0);
        body(0, "if(v);else;", 2, 0, 31, 12, 30, 12);
        body(0, "if(v)if(v)v=1;else v=2;", 2, 0, 31, 24, 2, 0, 31, 20, 1, 1, 3, 0, 30, 24, 1, 2, 3, 0);
        body(0, "while(v)v=1;", 2, 0, 31, 16, 1, 1, 3, 0, 30, 6);
        body(0, "while(1);", 1, 1, 31, 12, 30, 6);
        body(0, "{v=1;{v=2;}}", 1, 1, 3, 0, 1, 2, 3, 0);
    }

    private static void signsOfOneAndTwo() {
        value("0", 1, 0);
        value("2147483647", 1, 2147483647);
        value("v", 2, 0);
        value("a[2]", 1, 2, 6, 1, 3);
        value("read()", 35);
        value("main()", 32, 4, 0);
        value("-1", 1, 1, 24);
        value("!1", 1, 1, 25);
        value("~1", 1, 1, 26);
        value("-!~1", 1, 1, 26, 25, 24);
        value("((1))", 1, 1);
        String[] signs = {"|", "^", "&", "==", "!=", "<", "<=", ">", ">=", "<<", ">>", "+", "-", "*", "/", "%"};
        int[] numbers = {10, 11, 12, 13, 14, 15, 16, 17, 18, 19, 20, 21, 22, 23, 27, 28};
        for (int i = 0; i < signs.length; i++) {
            value("1" + signs[i] + "2", 1, 1, 1, 2, numbers[i]);
            value("1" + signs[i] + "2" + signs[i] + "3", 1, 1, 1, 2, numbers[i], 1, 3, numbers[i]);
            value("1" + signs[i] + "(2" + signs[i] + "3)", 1, 1, 1, 2, 1, 3, numbers[i], numbers[i]);
            value("-1" + signs[i] + " -2", 1, 1, 24, 1, 2, 24, numbers[i]);
        }
    }

    /** Each sign of a looser row against each of the next tighter one, on either side. */
    private static void whatBindsTighter() {
        String[][] rows = {
            {"|"}, {"^"}, {"&"}, {"==", "!="}, {"<", "<=", ">", ">="}, {"<<", ">>"}, {"+", "-"}, {"*", "/", "%"}};
        int[][] numbers = {{10}, {11}, {12}, {13, 14}, {15, 16, 17, 18}, {19, 20}, {21, 22}, {23, 27, 28}};
        for (int l = 0; l < rows.length; l++) {
            for (int t = l; t < rows.length; t++) {
                for (int i = 0; i < rows[l].length; i++) {
                    for (int j = 0; j < rows[t].length; j++) {
                        int loose = numbers[l][i];
                        int tight = numbers[t][j];
                        value("1" + rows[t][j] + "2" + rows[l][i] + "3", 1, 1, 1, 2, tight, 1, 3, loose);
                        if (l < t) {
                            value("1" + rows[l][i] + "2" + rows[t][j] + "3", 1, 1, 1, 2, 1, 3, tight, loose);
                        } else {
                            value("1" + rows[l][i] + "2" + rows[t][j] + "3", 1, 1, 1, 2, loose, 1, 3, tight);
                        }
                    }
                }
            }
        }
        value("1|2^3&4==5<6<<7+8*9", 1, 1, 1, 2, 1, 3, 1, 4, 1, 5, 1, 6, 1, 7, 1, 8, 1, 9, 23, 21, 19, 15, 13, 12, 11, 10);
    }

    private static void andAlsoOrElse() {
        value("1&&2", 1, 1, 31, 18, 1, 2, 31, 18, 1, 1, 30, 20, 1, 0);
        value("1||2", 1, 1, 31, 14, 1, 1, 30, 24, 1, 2, 31, 22, 1, 1, 30, 24, 1, 0);
        value("1&&2&&3", 1, 1, 31, 18, 1, 2, 31, 18, 1, 1, 30, 20, 1, 0,
            31, 30, 1, 3, 31, 30, 1, 1, 30, 32, 1, 0);
        value("1||2&&3", 1, 1, 31, 14, 1, 1, 30, 36, 1, 2, 31, 26, 1, 3, 31, 26, 1, 1, 30, 28, 1, 0,
            31, 34, 1, 1, 30, 36, 1, 0);
        value("1&&2|3", 1, 1, 31, 21, 1, 2, 1, 3, 10, 31, 21, 1, 1, 30, 23, 1, 0);
        value("1&&(2||3)", 1, 1, 31, 34, 1, 2, 31, 18, 1, 1, 30, 28, 1, 3, 31, 26, 1, 1, 30, 28, 1, 0,
            31, 34, 1, 1, 30, 36, 1, 0);
    }

    private static void placesAndAddresses() {
        code("int u;int b[4];int w;int main(){u=1;b[0]=1;w=1;}",
            32, 4, 0, 0, 37, 0, 1, 1, 3, 0, 1, 0, 1, 1, 7, 1, 4, 1, 1, 3, 5, 1, 0, 33, 0);
        code("int f(int x,int y,int z){int l=z;x=y;}int main(){}",
            32, 18, 0, 0, 37, 1, 4, -3, 5, 0, 4, -4, 5, -5, 1, 0, 33, 3, 37, 0, 1, 0, 33, 0);
        code("int f(int a,int b,int c,int d,int e,int f,int g,int h){a=h;}int main(){}",
            32, 14, 0, 0, 37, 0, 4, -3, 5, -10, 1, 0, 33, 8, 37, 0, 1, 0, 33, 0);
        // places of a BLOCK that has ended are free again; k is the most at a time
        body(3, "int x;{int y;{int z;}}{int w;w=x;}", 1, 0, 5, 0, 1, 0, 5, 1, 1, 0, 5, 2, 1, 0, 5, 1, 4, 0, 5, 1);
        body(2, "{int x;int y;}{int z;}", 1, 0, 5, 0, 1, 0, 5, 1, 1, 0, 5, 0);
        // a LOCAL is known from behind its ;
        body(1, "int v=v;v=1;", 2, 0, 5, 0, 1, 1, 5, 0);
        body(2, "int v=1;{int v=v;v=2;}v=3;", 1, 1, 5, 0, 4, 0, 5, 1, 1, 2, 5, 1, 1, 3, 5, 0);
        // the parameter, then the LOCAL with its NAME
        code("int f(int x){int x=x;x=x;}int main(){}",
            32, 18, 0, 0, 37, 1, 4, -3, 5, 0, 4, 0, 5, 0, 1, 0, 33, 1, 37, 0, 1, 0, 33, 0);
        // each FUNCTION counts its own LOCALS
        code("int f(){int x;}int main(){}", 32, 14, 0, 0, 37, 1, 1, 0, 5, 0, 1, 0, 33, 0, 37, 0, 1, 0, 33, 0);
        // parts from the left
        code("int f(int x,int y){}int main(){f(1,f(2,3));}",
            32, 10, 0, 0, 37, 0, 1, 0, 33, 2, 37, 0, 1, 1, 1, 2, 1, 3, 32, 4, 2, 32, 4, 2, 36, 1, 0, 33, 0);
    }

    private static void madeAnew() {
        TinyC x = check.made("int main(){}");
        check.due("codeSize()", x.codeSize(), 10);
        Check.fed(x, "int f(){}");
        check.due("codeSize() ahead of compile()", x.codeSize(), 10);
        check.due("compile()", x.compile(), 0);
        check.due("codeSize()", x.codeSize(), 16);
        check.due("compile() again", x.compile(), 0);
        check.due("codeSize()", x.codeSize(), 16);
        check.due("codeAt(10)", x.codeAt(10), 37);
    }
}
