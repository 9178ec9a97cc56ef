/** Promise 3: what is wrong with a text, its kind and its place. */
final class WrongTest {
    private static final Check check = new Check("WrongTest");
    private static final String KNOWN = "int v;int a[2];int f(int x){return x;}int n(){}";

    public static void main(String[] args) {
        noTokens();
        cannotStand();
        missingAtTheEnd();
        unknownNames();
        namesToldTwice();
        misusedNames();
        parts();
        noMain();
        tooDeep();
        noTreeLeft();
        noCodeCells();
        tooGreatNumbers();
        theFirstAndTheLeast();
        fullTexts();
        againAndAgain();
        allElseStays();
        check.end();
    }

    private static void wrong(int kind, String marked) {
        check.wrong(kind, marked);
    }

    private static void wrongWith(int astCells, int codeCells, int kind, String marked) {
        check.wrongWith(astCells, codeCells, kind, marked);
    }

    private static void right(String text) {
        check.right(text);
    }

    /** As an S of main, behind some names that are known. */
    private static void wrongS(int kind, String marked) {
        wrong(kind, KNOWN + "int main(){" + marked + "}");
    }

    private static void rightS(String s) {
        right(KNOWN + "int main(){" + s + "}");
    }

    private static String times(int n, String s) {
        return s.repeat(n);
    }

    private static void noTokens() {
        wrong(1, "@#");
        wrong(1, "int main(){}@\t");
        wrong(1, "int main(){}@\r");
        wrong(1, "int main(){}  \n @.");
        wrong(1, "int @ninechars;");
        wrong(1, "int @a12345678;");
        right("int eightchr;int _1234567;int ZzAa;int main(){}");
        right("int A;int Z;int a;int z;int _;int A0;int Z9;int _0;int a0;int z9;int main(){A=Z;a=z;_=A0+Z9+_0+a0+z9;}");
        right("int\nmain\n(\n)\n{\n}\n");
        wrongS(1, "v=@12345678901;");
        wrongS(1, "v=@00000000000;");
        rightS("v=0000000000;v=0000000001;v=2147483647;");
        wrongS(1, "v=1@\"");
        wrongS(1, "v=@$;");
        wrong(1, "@ninechars");
        wrong(1, "int main(){@integers1}");
    }

    private static void cannotStand() {
        wrong(2, "@main");
        wrong(2, "@;");
        wrong(2, "@1");
        wrong(2, "int @int");
        wrong(2, "int @if;");
        wrong(2, "int @read;");
        wrong(2, "int @5;");
        wrong(2, "int v@,");
        wrong(2, "int v@=1;");
        wrong(2, "int v[@]");
        wrong(2, "int v[@v]");
        wrong(2, "int v[@-1]");
        wrong(2, "int v[2@;");
        wrong(2, "int v[2]@[2];");
        wrong(2, "int f(@x)");
        wrong(2, "int f(int @)");
        wrong(2, "int f(int x @int y)");
        wrong(2, "int f(int x,@)");
        wrong(2, "int f(int x@[2])");
        wrong(2, "int f()@;");
        wrong(2, "int main(){}@}");
        wrongS(2, "v@;");
        wrongS(2, "v@+1;");
        wrongS(2, "v=@;");
        wrongS(2, "v=1@=1;");
        wrongS(2, "v=v@=1;");
        wrongS(2, "v=1@)");
        wrongS(2, "v=(1@;");
        wrongS(2, "v=(1@]");
        wrongS(2, "v=(1@,2)");
        wrongS(2, "v=a[1@);");
        wrongS(2, "v=a[@];");
        wrongS(2, "v=1 @2;");
        wrongS(2, "v=12@abc;");
        wrongS(2, "v=1@v;");
        wrongS(2, "v=@+1;");
        wrongS(2, "v=1+@*2;");
        wrongS(2, "v=1@!2;");
        wrongS(2, "v=1@~2;");
        wrongS(2, "v=1@(2);");
        wrongS(2, "v=1@[2];");
        wrongS(2, "v=a[1]@[1];");
        wrongS(2, "v=n()@();");
        wrongS(2, "v=(v)@[1];");
        wrongS(2, "v=!@;");
        wrongS(2, "a[1]@;");
        wrongS(2, "a[1]@+=1;");
        wrongS(2, "a[1]@==1;");
        wrongS(2, "n()@+1;");
        wrongS(2, "n()@=1;");
        wrongS(2, "f(1,@);");
        wrongS(2, "f(@,1);");
        wrongS(2, "f(1@;");
        wrongS(2, "f(1@];");
        wrongS(2, "@(v)=1;");
        wrongS(2, "@1;");
        wrongS(2, "@read();");
        wrongS(2, "v=read@;");
        wrongS(2, "v=read(@1);");
        wrongS(2, "v=@print(1);");
        wrongS(2, "print @1;");
        wrongS(2, "print(@);");
        wrongS(2, "print(1)@}");
        wrongS(2, "print(1@,2);");
        wrongS(2, "return@;");
        wrongS(2, "return 1@}");
        wrongS(2, "if @v;");
        wrongS(2, "if(@);");
        wrongS(2, "if(v)@}");
        wrongS(2, "if(v)@int x;");
        wrongS(2, "@else;");
        wrongS(2, "if(v);else;@else;");
        wrongS(2, "if(v);;@else;");
        wrongS(2, "while@{}");
        wrongS(2, "while(v)@}");
        wrongS(2, "while(v);@else;");
        wrongS(2, "v=1;@int x;");
        wrongS(2, ";@int x;");
        wrongS(2, "{};@int x;");
        wrongS(2, "int x@[2];");
        wrongS(2, "int x@,y;");
        wrongS(2, "int x=@;");
        wrongS(2, "int x=1@,y;");
        wrongS(2, "int @1;");
        wrongS(2, "int n@()");
        rightS("v=1<<-1;v= - - 1;v=1- -1;v=!!1;v=1&~1;v=1==!1;v=-1;v=1>>1>>1;");
        rightS(";;{}{;}{{}}if(v)if(v);else;else;while(v)while(v);");
    }

    private static void missingAtTheEnd() {
        String text = KNOWN + "int main(){int y=1;v=-(a[f(1)]+2);if(v){}else while(read())a[0]=1;print(3);n();return 4;}";
        // every shorter text that ends at a token's end lacks something, unless a GLOBAL or FUNCTION has just ended
        for (int i = 0; i < text.length(); i++) {
            boolean inWord = i > 0 && word(text.charAt(i)) && word(text.charAt(i - 1));
            boolean whole = i == 0 || i == "int v;".length() || i == "int v;int a[2];".length()
                || i == "int v;int a[2];int f(int x){return x;}".length() || i == KNOWN.length();
            if (!inWord && !whole) {
                check.due("compile() of " + text.substring(0, i),
                    Check.fed(Check.roomy(), text.substring(0, i)).compile(), 2 + 16 * i);
            }
        }
        right(text);
        wrong(2, "int @");
        wrong(2, "int main(  @");
        wrong(2, "int main(){\n \n@");
    }

    private static boolean word(char c) {
        return Character.isLetterOrDigit(c);
    }

    private static void unknownNames() {
        wrongS(3, "@w=1;");
        wrongS(3, "@w;");
        wrongS(3, "@w+1;");
        wrongS(3, "@w();");
        wrongS(3, "@w[1]=1;");
        wrongS(3, "v=@w;");
        wrongS(3, "v=@w();");
        wrongS(3, "v=1+@w[1];");
        wrongS(3, "int x=@x;");
        wrongS(3, "int x=@y;int y;");
        wrongS(3, "{int x;}@x=1;");
        wrongS(3, "{int x;}{v=@x;}");
        wrongS(3, "@V=1;");
        wrong(3, "int main(){@later();}int later(){}");
        wrong(3, "int main(){@g=1;}int g;");
        wrong(3, "int f(int x){}int main(){@x=1;}");
        wrong(3, "int f(){int x;}int main(){@x=1;}");
        right("int main(){main();}");
        right("int x;int main(){int x=x;x=1;{int x=x;}}");
        right("int f(int f){return f;}int main(){int main=1;return main;}");
    }

    private static void namesToldTwice() {
        wrong(4, "int v;int @v;");
        wrong(4, "int v;int @v(){}");
        wrong(4, "int v[2];int @v[3];");
        wrong(4, "int f(){}int @f;");
        wrong(4, "int f(){}int @f(){}");
        wrong(4, "int main(){}int @main(){}");
        wrong(4, "int f(int x,int @x)");
        wrong(4, "int main(){int x;int @x;}");
        wrong(4, "int main(){int x;int y;int @x=1;}");
        wrong(4, "int main(){{int x;int @x;}}");
        right("int v;int f(int v,int f){int v;int f;{int v;int f;}{int v;}}int main(){int main;}");
        right("int main(){int x;{int x;{int x;}}{int x;}}");
    }

    private static void misusedNames() {
        wrongS(5, "@a=1;");
        wrongS(5, "@f=1;");
        wrongS(5, "@n=1;");
        wrongS(5, "@v[0]=1;");
        wrongS(5, "@f[0]=1;");
        wrongS(5, "@v();");
        wrongS(5, "@a();");
        wrongS(5, "@a(1)");
        wrongS(5, "int x;@x();");
        wrongS(5, "int x;@x[0]=1;");
        wrongS(5, "int n;@n();");
        wrongS(5, "int a;v=@a[0];");
        wrongS(5, "v=@a;");
        wrongS(5, "v=@f;");
        wrongS(5, "v=@f+1;");
        wrongS(5, "v=1+@a*2;");
        wrongS(5, "v=@v[0];");
        wrongS(5, "v=@f[0];");
        wrongS(5, "v=@v(1);");
        wrongS(5, "v=@a(1);");
        wrongS(5, "v=(@a);");
        wrongS(5, "v=a[@a];");
        wrongS(5, "v=f(@a);");
        wrongS(5, "v=f(@f,1);");
        wrongS(5, "print(@n);");
        wrongS(5, "return @n;");
        wrongS(5, "if(@n);");
        wrongS(5, "while(-@a);");
        wrongS(5, "int x=@a;");
        // the token behind it can't stand there
        wrongS(2, "a@;");
        wrongS(2, "a@);");
        wrongS(2, "f@+1;");
        wrongS(2, "v=a@=1;");
        wrongS(2, "v=a@);");
        wrongS(2, "v=a@];");
        wrongS(2, "v=a@,1;");
        wrongS(2, "v=f @1;");
        wrongS(2, "v=a[n@);");
        wrongS(2, "v=(a@;");
        wrongS(2, "v=(a@,1);");
        wrongS(2, "v=f(a@;");
        wrongS(2, "v=f(a@];");
        wrongS(1, "v=a@#");
        wrong(2, KNOWN + "int main(){v=a@");
        wrong(2, KNOWN + "int main(){a@");
    }

    private static void parts() {
        wrong(6, "int f(int a,int b,int c,int d,int e,int f,int g,int h,int @i)");
        right("int f(int a,int b,int c,int d,int e,int f,int g,int h){}int main(){return f(1,2,3,4,5,6,7,8);}");
        wrong(4, "int f(int a,int b,int c,int d,int e,int f,int g,int h,int @a)");
        wrongS(6, "@f();");
        wrongS(6, "@f(1,2);");
        wrongS(6, "@n(1);");
        wrongS(6, "v=@f();");
        wrongS(6, "v=@f(1,2,3);");
        wrongS(6, "v=f(@n(1),2);");
        wrongS(6, "v=f(@f());");
        wrongS(6, "v=@n(f(1),2);");
        wrongS(2, "v=f(@;");
        wrongS(2, "v=f(1,2@;");
        wrongS(3, "v=n(@w);");
        wrongS(5, "v=n(@a);");
        wrong(6, "int f(int x){@f();}int main(){}");
        wrong(6, "int main(){@main(1);}");
    }

    private static void noMain() {
        wrong(7, "@");
        wrong(7, "  \n@");
        wrong(7, "int v;@");
        wrong(7, "int main;@");
        wrong(7, "int main[3];@");
        wrong(7, "int main(int x){}@");
        wrong(7, "int Main(){}@");
        wrong(7, "int f(){} @");
        right("int main(){}int f(int x){}");
        right("int f(int x){}int main(){} ");
        wrongWith(4096, 3, 7, "int f(){}@");
    }

    private static void tooDeep() {
        // main's { is one of the forty
        wrongS(8, times(39, "{") + "@{");
        rightS(times(39, "{") + times(39, "}"));
        rightS(times(38, "while(0)") + ";");
        wrongS(8, times(38, "while(0)") + "while@(0);");
        wrongS(8, times(39, "{") + "@while(0);");
        wrongS(8, times(39, "{") + "@if(0);");
        wrongS(8, times(38, "{") + "if@(0);");
        rightS(times(37, "{") + "if(0);else;" + times(37, "}"));
        wrongS(8, times(39, "{") + "print@(0);");
        rightS(times(38, "{") + "print(0);" + times(38, "}"));
        rightS(times(39, "{") + "v=1;" + times(39, "}"));
        wrongS(8, times(39, "{") + "v=@-1;");
        wrongS(8, times(39, "{") + "v=@(1);");
        wrongS(8, times(39, "{") + "v=a@[1];");
        wrongS(8, times(39, "{") + "a@[1]=1;");
        wrongS(8, times(39, "{") + "n@();");
        wrongS(8, times(39, "{") + "v=n@();");
        wrongS(8, times(39, "{") + "v=read@();");
        rightS("v=" + times(39, "(") + "1" + times(39, ")") + ";");
        wrongS(8, "v=" + times(39, "(") + "@(");
        rightS("v=" + times(39, "-") + "1;");
        wrongS(8, "v=" + times(39, "~") + "@~1;");
        rightS("v=" + times(39, "!") + "1+" + times(39, "!") + "v*" + times(39, "-") + "v;");
        rightS("v=" + times(38, "-") + "a[1]+" + times(38, "!") + "n();");
        wrongS(8, "v=" + times(39, "-") + "a@[1];");
        rightS("v=" + times(39, "a[") + "1" + times(39, "]") + ";");
        wrongS(8, "v=" + times(39, "a[") + "a@[");
        rightS("v=" + times(39, "f(") + "1" + times(39, ")") + ";");
        wrongS(8, "v=" + times(39, "f(") + "f@(");
        rightS(times(100, "{}") + times(50, "if(1);else;") + times(50, "while(0);") + times(50, "v=(1);"));
        rightS(times(50, "v=n()+read();n();f(1);a[0]=a[1];print(-1);"));
        rightS("v=" + times(60, "n()+read()+f(1)+a[1]+-1+!(1)+") + "1;");
        elseTooDeep();
        // of one token the least: 5 ahead of 8, 8 ahead of 9
        wrongS(5, "v=" + times(39, "(") + "@v(");
        wrongS(5, "v=" + times(39, "(") + "@v[");
        int cells = 4 * (4 + 1 + 1);
        wrongWith(cells + 4 * 39, 4096, 8, KNOWN + "int main(){v=" + times(39, "-") + "@-1;}");
    }

    /** An if is open till the S of its else ends, and its else is one more within it. */
    private static void elseTooDeep() {
        rightS(times(37, "{") + "if(0);else;" + times(37, "}"));
        wrongS(8, times(37, "{") + "if(0);else@{");
        wrongS(8, times(37, "{") + "if(0);else @while(0);");
        wrongS(8, times(37, "{") + "if(0);else @if(0);");
        wrongS(8, times(37, "{") + "if(0);else print@(0);");
        wrongS(8, times(37, "{") + "if(0);else v=@-1;");
        rightS(times(37, "{") + "if(0);else v=1;" + times(37, "}"));
        rightS(times(36, "{") + "if(0);else{}" + times(36, "}"));
        // the S ahead of the else is not within it, nor is what is behind both
        rightS(times(37, "{") + "if(0){}else;{{}}" + times(37, "}"));
        wrongS(8, times(37, "{") + "if(0){@{");
        wrongS(8, times(37, "{") + "if(0);else;{{@{");
        // a chain goes two deeper each
        rightS(times(19, "if(0);else ") + ";");
        rightS(times(19, "if(0);else ") + "{}");
        wrongS(8, times(19, "if(0);else ") + "{@{");
        wrongS(8, times(19, "if(0);else ") + "if@(0);");
        rightS(times(18, "if(0);else ") + "if(0){}else{}");
        wrongS(8, times(18, "if(0);else ") + "if(0){}else{@{");
        rightS(times(18, "if(0);else ") + "if(0){{}}else{}");
        // elses behind ifs that are within one another: each if's own, outwards
        rightS(times(38, "if(0)") + ";" + times(38, "else;"));
        rightS(times(37, "if(0)") + ";" + "else{}" + times(36, "else{}"));
        wrongS(8, times(38, "if(0)") + ";" + "else@{");
        wrongS(8, times(38, "if(0)") + ";" + "else;else{@{");
    }

    private static void noTreeLeft() {
        tree(4, "int @main(){}");
        tree(8, "int main(){@;}");
        tree(8, "int f(){}int @main(){}");
        tree(8, "int f(){}int g;int a[3];int h(int x){}int main(){}", "int f(){}int g;int a[3];int @h(int x){}int main(){}");
        tree(8, "int main(){@{}}");
        tree(12, "int main(){{@;}}");
        tree(8, "int main(){@if(1);}");
        tree(12, "int main(){if(@1);}");
        tree(16, "int main(){if(1)@;}");
        tree(20, "int main(){if(1);else@;}");
        tree(8, "int main(){@while(1);}");
        tree(8, "int main(){@return 1;}");
        tree(12, "int main(){return @1;}");
        tree(8, "int main(){@print(1);}");
        tree(12, "int main(){print(@read());}");
        tree(8, "int main(){int x=@1;}");
        tree(12, "int main(){int x=1@+2;}");
        tree(16, "int main(){int x=1+@2;}");
        tree(8, "int main(){int x=@-2;}");
        tree(12, "int main(){int x=(-(@2));}");
        tree(8, "int main(){@main();}");
        tree(8, "int f(int x){}int @main(){}");
        tree(16, "int f(int x){}int main(){f(@1);}");
        tree(16, "int f(int x){}int main(){return @f(1);}");
        tree(20, "int f(int x){}int main(){return f(@1);}");
        tree(8, "int v;int main(){@v=1;}");
        tree(12, "int v;int main(){v=@1;}");
        tree(12, "int v;int main(){v=@v;}");
        tree(12, "int v[2];int main(){v[@1]=2;}");
        tree(16, "int v[2];int main(){v[1]=@2;}");
        tree(12, "int v[2];int main(){return @v[1];}");
        tree(16, "int v[2];int main(){return v[@1];}");
        tree(16, "int main(){return 1@&&2;}");
        tree(20, "int main(){return 1||@2;}");
        // three cells are not four, and none are left over
        wrongWith(3, 4096, 9, "int @main(){}");
        wrongWith(0, 4096, 9, "int @main(){}");
        wrongWith(7, 4096, 9, "int main(){@;}");
        // no cells for these
        check.due("LOCALS have none", Check.fed(new TinyC(99, 4, 99, 9, 9), "int g;int main(){int x;int y;}").compile(), 0);
        // of one token the least kind
        wrongWith(4, 4096, 3, "int main(){@w=1;}");
        wrongWith(8, 4096, 3, "int main(){return @w;}");
        wrongWith(8, 4096, 9, "int main(){return @2147483648;}");
        wrongWith(3, 4096, 2, "int main@,");
        wrongWith(3, 4096, 9, "int @main(#");
        wrongWith(3, 4096, 1, "int main@#(");
    }

    /** At the mark four cells are taken when there are cells - 4 of them before: with these it is right or wrong later. */
    private static void tree(int cells, String marked) {
        if (marked.indexOf('@') >= 0 && cells >= 4) {
            wrongWith(cells - 4, 4096, 9, marked);
            wrongWith(cells - 1, 4096, 9, marked);
            String text = marked.replace("@", "");
            int later = Check.fed(new TinyC(4096, cells, 4096, 100, 9), text).compile();
            boolean ok = later == 0 || (later & 15) == 9 && later >> 4 > marked.indexOf('@')
                || (later & 15) == 7;
            check.due("compile() with " + cells + " cells of " + marked + " goes further", ok ? 1 : 0, 1);
        }
    }

    private static void tree(int cells, String text, String marked) {
        wrongWith(cells - 4, 4096, 9, marked);
        check.due("compile() of " + text, Check.fed(new TinyC(4096, cells + 4, 4096, 100, 9), text).compile(), 0);
    }

    private static void noCodeCells() {
        wrongWith(4096, 9, 10, "int main(){}@");
        wrongWith(4096, 0, 10, "int main(){} @");
        check.due("ten cells are enough", Check.fed(new TinyC(99, 99, 10, 9, 9), "int main(){}").compile(), 0);
        String text = "int v;int a[2];int f(int x){return x;}int main(){v=1&&2||3;a[f(1)]=v;if(v)f(2);else while(v)v=0;}";
        int size = check.made(text).codeSize();
        for (int cells = 0; cells < size; cells++) {
            check.due("compile() with " + cells, Check.fed(new TinyC(199, 999, cells, 9, 9), text).compile(), 10 + 16 * text.length());
        }
        check.due("compile() with " + size, Check.fed(new TinyC(199, 999, size, 9, 9), text).compile(), 0);
    }

    private static void tooGreatNumbers() {
        wrongS(11, "v=@2147483648;");
        wrongS(11, "v=@9999999999;");
        wrongS(11, "v=-@2147483648;");
        wrongS(11, "v=@4294967296;");
        rightS("v=2147483647;v=0;");
        wrong(11, "int a[@0]");
        wrong(11, "int a[@000]");
        wrong(11, "int a[@1001]");
        wrong(11, "int a[@2147483648]");
        wrong(11, "int a[@4294967297]");
        wrong(11, "int a[@9999999999]");
        wrong(1, "int a[@10000000000]");
        right("int a[1];int b[1000];int c[0000001000];int main(){}");
    }

    /** The text fills its cells, and ends within a token or behind one. */
    private static void fullTexts() {
        String[] texts = {"int", "i", "int v", "int v[2", "int v[", "int main(){return 1<", "int main(){return 1 ", "int main(){return v"};
        for (String text : texts) {
            TinyC x = Check.fed(new TinyC(text.length(), 99, 99, 9, 9), text);
            int due = text.equals("i") ? 2 : text.endsWith("v") && text.length() > 9 ? 3 + 16 * 18 : 2 + 16 * text.length();
            check.due("compile() of all of " + text, x.compile(), due);
        }
        String whole = "int v;int main(){}";
        check.due("compile()", Check.fed(new TinyC(whole.length(), 99, 99, 9, 9), whole).compile(), 0);
    }

    /** What one compile() left behind is of no weight for the next. */
    private static void againAndAgain() {
        TinyC x = Check.fed(new TinyC(200, 40, 30, 99, 9), "int g;int a[3];int main(){g=((((-1+(");
        for (int i = 0; i < 50; i++) {
            check.due("compile() of what is not whole", x.compile(), 2 + 16 * 36);
        }
        TinyC deep = Check.fed(Check.roomy(), "int main(){return " + times(50, "-") + times(50, "("));
        for (int i = 0; i < 50; i++) {
            check.due("compile() of what is too deep", deep.compile(), 8 + 16 * (18 + 39));
        }
        Check.fed(x, "1)))));");
        for (int i = 0; i < 50; i++) {
            check.due("compile() of what is not whole", x.compile(), 2 + 16 * 43);
        }
        Check.fed(x, "a[1]=1;}");
        for (int i = 0; i < 5; i++) {
            check.due("compile() of what is whole", x.compile(), 0);
            check.due("codeSize()", x.codeSize(), 25);
            check.due("a's address", x.codeAt(19), 1);
            check.due("run", x.run(99), 1);
        }
    }

    private static void theFirstAndTheLeast() {
        wrong(4, "int v;int @v#");
        wrong(4, "int v;int @v(int x,int x){w=1;}");
        wrong(3, "int main(){@w=u;}#");
        wrong(2, "int main(@1,int x,int x)");
        wrongS(6, "@f();w=1;");
        wrongS(3, "v=f(1,2,@w);");
        wrongS(5, "v=@a+w;");
        wrongS(3, "v=@w+a;");
        wrongS(2, "@];w=1;");
    }

    private static void allElseStays() {
        TinyC x = check.made("int main(){print(read());print(2);return 3;}", 1);
        check.due("run(4)", x.run(4), 0);
        check.outs("behind run(4)", x, 1);
        Check.fed(x, "int");
        check.due("compile() of a wrong text", x.compile(), 2 + 16 * 47);
        check.due("interpret(1): the machine has begun", x.interpret(1), -2);
        check.outs("behind compile()", x, 1);
        check.due("codeSize()", x.codeSize(), 19);
        check.due("run(99)", x.run(99), 1);
        check.outs("behind run(99)", x, 1, 2, 3);
        Check.fed(x, " g[5];");
        check.due("compile() of a right text", x.compile(), 0);
        check.outs("as behind reset()", x);
        check.due("interpret(9)", x.interpret(9), 0);
        Check.fed(x, "int g;");
        check.due("compile() of a wrong text", x.compile(), 4 + 16 * 57);
        check.due("step(): the text has begun", x.step(), -2);
        check.due("interpret(99)", x.interpret(99), 1);
        check.outs("behind interpret(99)", x, 1, 2, 3);
    }
}
