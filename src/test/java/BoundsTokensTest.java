/**
 * Promise 3 with Terms I, from the signs to the NAMES: each sentence that names a bound with a test of
 * its own. What is wrong with a text is looked at by BoundsWrongTest.
 */
final class BoundsTokensTest {
    private static final Check check = new Check("BoundsTokensTest");
    private static final String LETTERS = "abcdefghijklmnopqrstuvwxyzABCDEFGHIJKLMNOPQRSTUVWXYZ_";
    private static final String DIGITS = "0123456789";
    private static final String BLANKS = " \n";
    /** Signs that are tokens, or begin one. */
    private static final String SIGNS = "(){}[],;=|^&!<>+-*/%~";
    private static final String[] KEYWORDS = {"int", "if", "else", "while", "return", "print", "read"};
    private static final String KNOWN = "int v;int a[2];int f(int x){}int n(){}";

    public static void main(String[] args) {
        blanks();
        blanksAlone();
        signsByTheirNumbers();
        asLongAsCanBe();
        asLongAsCanBeWords();
        firstSignOfAName();
        laterSignsOfAName();
        lengthOfAName();
        allSignsOfANameCount();
        digitsOfANumber();
        keywordsAreNoNames();
        emptyText();
        globals();
        functions();
        blocks();
        locals();
        elseOrNone();
        partsOfACall();
        signsFromTheLeft();
        knownFromWhereItStands();
        functionWithinItself();
        parameterInItsFunction();
        localFromBehindItsSemicolon();
        localToTheEndOfItsBlock();
        theInnermostIsMeant();
        globalsAndFunctionsTwice();
        parametersTwice();
        localsTwice();
        parameterAndLocal();
        check.end();
    }

    private static void wrongS(int kind, String marked) {
        check.wrong(kind, KNOWN + "int main(){" + marked + "}");
    }

    private static void rightS(String s) {
        check.right(KNOWN + "int main(){" + s + "}");
    }

    /** The code of an E, which stands at cell 6 of a text that begins with main; v is at 0. */
    private static void codeOf(String e, int... due) {
        TinyC x = Check.fed(Check.roomy(), "int v;int main(){print(" + e + ");}");
        check.due("compile() with " + e, x.compile(), 0);
        check.due("codeSize() with " + e, x.codeSize(), 11 + due.length);
        for (int i = 0; i < due.length; i++) {
            check.due("cell " + i + " of " + e, x.codeAt(6 + i), due[i]);
        }
    }

    /** Terms I: none, one and many of them, ahead of the first token and behind the last. */
    private static void blanks() {
        check.sentence("Terms I", "Blanks (32, 10) stand between tokens as one likes.");
        String[] tokens = {"int", " ", "main", "", "(", "", ")", "", "{", "", "return", " ", "5", "", ";", "", "}"};
        for (String blank : new String[] {" ", "\n", "  ", "\n\n", " \n ", " ".repeat(20)}) {
            StringBuilder all = new StringBuilder(blank);
            for (int i = 0; i < tokens.length; i += 2) {
                all.append(tokens[i]).append(blank);
            }
            check.right(all.toString());
            check.wrong(1, blank + "@#");
            check.wrong(2, "int" + blank + "@int");
            check.wrong(2, "int" + blank + "@");
        }
        check.right("int main(){return 5;}");
        check.wrong(2, "@intmain(){}");
        check.wrong(2, "@in t main(){}");
        wrongS(2, "v=1 @2;");
        wrongS(3, "v=@re ad();");
    }

    /** Terms I: a text of blanks alone is an empty one with a length. */
    private static void blanksAlone() {
        check.sentence("Terms I", "Blanks (32, 10) stand between tokens as one likes.");
        check.wrong(7, "@");
        check.wrong(7, " @");
        check.wrong(7, "\n@");
        check.wrong(7, " \n".repeat(100) + "@");
    }

    /** Terms I: the numbers next to those of the blanks, and every other sign, between two tokens. */
    private static void signsByTheirNumbers() {
        check.sentence("Terms I", "Signs by their numbers.");
        String before = "int main(){}";
        for (int sign = -3; sign < 700; sign++) {
            TinyC x = Check.fed(Check.roomy(), before);
            x.feed(sign);
            boolean blank = sign == 32 || sign == 10;
            int due = blank ? 0 : isOf(LETTERS + DIGITS + SIGNS, sign) ? 2 + 16 * 12 : 1 + 16 * 12;
            check.due("compile() of " + before + " and " + sign, x.compile(), due);
        }
    }

    private static boolean isOf(String signs, int sign) {
        return sign >= 0 && sign < 128 && signs.indexOf(sign) >= 0;
    }

    /** Terms I: a sign of two that could be two of one, and what is one too many behind it. */
    private static void asLongAsCanBe() {
        check.sentence("Terms I", "TOKENS, as long as can be");
        codeOf("1<<2", 1, 1, 1, 2, 19);
        codeOf("1>>2", 1, 1, 1, 2, 20);
        codeOf("1<=2", 1, 1, 1, 2, 16);
        codeOf("1>=2", 1, 1, 1, 2, 18);
        codeOf("1==2", 1, 1, 1, 2, 13);
        codeOf("1!=2", 1, 1, 1, 2, 14);
        codeOf("1<2", 1, 1, 1, 2, 15);
        codeOf("1>2", 1, 1, 1, 2, 17);
        codeOf("1&2", 1, 1, 1, 2, 12);
        codeOf("1|2", 1, 1, 1, 2, 10);
        codeOf("1--2", 1, 1, 1, 2, 24, 22);
        codeOf("1- -2", 1, 1, 1, 2, 24, 22);
        codeOf("1<-2", 1, 1, 1, 2, 24, 15);
        codeOf("1<!2", 1, 1, 1, 2, 25, 15);
        codeOf("1&~2", 1, 1, 1, 2, 26, 12);
        codeOf("!!2", 1, 2, 25, 25);
        for (String two : new String[] {"<<", ">>", "&&", "||", "<=", ">=", "==", "!="}) {
            rightS("v=1" + two + "2;");
            String one = two.substring(0, 1);
            String other = two.substring(1);
            // apart they are two tokens, the first of which may stand there
            wrongS(2, one.equals("=") || one.equals("!") ? "v=1@" + one + " " + other + "2;" : "v=1" + one + " @" + other + "2;");
            // a third one is a token of its own
            wrongS(2, "v=1" + two + "@" + other + "2;");
        }
        wrongS(2, "v@==1;");
        wrongS(2, "v= @=1;");
        wrongS(2, "v=!@!=1;");
        wrongS(2, "v=1<<@=2;");
        wrongS(2, "v=1>=@=2;");
        wrongS(2, "v=1@=2;");
        wrongS(2, "v=1!=@=2;");
        // the text ends where the second one could stand
        check.wrong(2, KNOWN + "int main(){v=1<@");
        check.wrong(2, KNOWN + "int main(){v=1<<@");
        check.wrong(2, KNOWN + "int main(){v=1@=");
    }

    /** Terms I: letters and digits behind a word, digits behind a NUMBER, letters behind a NUMBER. */
    private static void asLongAsCanBeWords() {
        check.sentence("Terms I", "TOKENS, as long as can be");
        check.wrong(2, "@intv;");
        check.wrong(2, "@int1;");
        check.wrong(2, "@int_;");
        wrongS(3, "@returnv;");
        wrongS(3, "@return1;");
        wrongS(3, "@print1(1);");
        wrongS(3, "v=@read1();");
        wrongS(3, "if(1);@else1;");
        rightS("return v;");
        rightS("return(1);");
        rightS("return-1;");
        rightS("if(1);else{}");
        wrongS(2, "v=12@ab;");
        wrongS(2, "v=1@_;");
        wrongS(2, "v=1@int;");
        wrongS(2, "v=1@v;");
        check.right("int a1b2;int main(){a1b2=12;}");
    }

    /** Terms I: every number of a sign as the first one of a NAME; @ [ ` { / : are next to those that may. */
    private static void firstSignOfAName() {
        check.sentence("Terms I", "NAMES: a letter (a .. z, A .. Z, _)");
        for (int sign = 0; sign < 512; sign++) {
            TinyC x = Check.fed(Check.roomy(), "int ");
            x.feed(sign);
            Check.fed(x, ";int main(){}");
            int due = 1 + 16 * 4;
            if (isOf(LETTERS, sign)) {
                due = 0;
            } else if (isOf(DIGITS + SIGNS, sign)) {
                due = 2 + 16 * 4;
            } else if (isOf(BLANKS, sign)) {
                due = 2 + 16 * 5;
            }
            check.due("compile() of a NAME that begins with " + sign, x.compile(), due);
        }
    }

    /** Terms I: every number of a sign as the second and as the last one of a NAME. */
    private static void laterSignsOfAName() {
        check.sentence("Terms I", "then letters, digits,");
        for (int sign = 0; sign < 512; sign++) {
            for (String before : new String[] {"a", "abcdefg"}) {
                TinyC x = Check.fed(Check.roomy(), "int " + before);
                x.feed(sign);
                Check.fed(x, "=;int main(){}");
                int behind = 4 + before.length();
                // = can't stand behind the NAME, wherever it ends
                int due = isOf(LETTERS + DIGITS + BLANKS, sign) ? 2 + 16 * (behind + 1) : 2 + 16 * behind;
                due = sign == '(' || sign == '[' ? 2 + 16 * (behind + 1) : due;
                due = sign == ';' ? 2 + 16 * (behind + 1) : due;
                due = isOf(LETTERS + DIGITS + BLANKS + SIGNS, sign) ? due : 1 + 16 * behind;
                check.due("compile() of a NAME with " + sign, x.compile(), due);
            }
        }
    }

    /** Terms I: one, seven and eight signs; nine, and many, are none. */
    private static void lengthOfAName() {
        check.sentence("Terms I", "8 in all");
        String name = "abcdefgh";
        for (int length = 1; length <= 8; length++) {
            String fits = name.substring(0, length);
            check.right("int " + fits + ";int main(){" + fits + "=" + fits + ";}");
            check.right("int " + fits + "(int " + fits + "){int " + fits + ";}int main(){" + fits + "(1);}");
        }
        for (String tooLong : new String[] {"abcdefghi", "a12345678", "_________", "abcdefgh1", "a".repeat(16), "a".repeat(17), "b".repeat(300)}) {
            check.wrong(1, "int @" + tooLong + ";");
            check.wrong(1, "int main(int @" + tooLong);
            check.wrong(1, "int main(){int @" + tooLong);
            check.wrong(1, "int main(){@" + tooLong);
            check.wrong(1, "int main(){return @" + tooLong);
            check.wrong(1, "@" + tooLong);
        }
        // what begins like a KEYWORD is a NAME with eight signs, and none with nine
        check.wrong(2, "@int45678");
        check.wrong(1, "@int456789");
        check.right("int returnxx;int whilexyz;int main(){returnxx=whilexyz;}");
        wrongS(1, "@returnxxx;");
    }

    /** Terms I: NAMES that differ in one of their eight signs alone are two. */
    private static void allSignsOfANameCount() {
        check.sentence("Terms I", "8 in all");
        String name = "abcdefgh";
        for (int i = 0; i < 8; i++) {
            String other = name.substring(0, i) + "A" + name.substring(i + 1);
            check.right("int " + name + ";int " + other + ";int main(){}");
            check.wrong(3, "int " + name + ";int main(){@" + other + "=1;}");
            check.wrong(4, "int " + other + ";int @" + other + ";");
        }
        for (int length = 1; length < 8; length++) {
            String part = name.substring(0, length);
            check.right("int " + name + ";int " + part + ";int main(){}");
            check.wrong(3, "int " + name + ";int main(){@" + part + "=1;}");
        }
        check.right("int a;int A;int a0;int a_;int main(){}");
    }

    /** Terms I: one, nine and ten digits; eleven, and many, are none, whatever the NUMBER. */
    private static void digitsOfANumber() {
        check.sentence("Terms I", "NUMBERS: digits, 10 at most");
        for (String fits : new String[] {"0", "9", "00", "123456789", "999999999", "0000000000", "0000000001", "2147483647", "0999999999"}) {
            rightS("v=" + fits + ";");
        }
        for (String tooLong : new String[] {"00000000000", "00000000001", "12345678901", "99999999999", "02147483647", "1".repeat(20), "1".repeat(300)}) {
            wrongS(1, "v=@" + tooLong + ";");
            check.wrong(1, "int b[@" + tooLong + "];");
        }
        codeOf("0000000012", 1, 12);
        codeOf("0999999999", 1, 999999999);
        check.right("int b[0000000001];int c[0000001000];int main(){}");
        // ten digits behind a blank or a sign are a NUMBER of their own
        wrongS(2, "v=1234567890 @1;");
        rightS("v=1234567890-1234567890;");
    }

    /** Terms I: none of them is told as a NAME; what is one letter shorter, longer or larger is. */
    private static void keywordsAreNoNames() {
        check.sentence("Terms I", "the KEYWORDS int if else while return print read, which are no NAMES");
        for (String word : KEYWORDS) {
            check.wrong(2, "int @" + word + ";");
            check.wrong(2, "int f(int @" + word + ")");
            check.wrong(2, "int main(){int @" + word + ";}");
            String shorter = word.substring(0, word.length() - 1);
            String larger = word.substring(0, 1).toUpperCase() + word.substring(1);
            for (String near : new String[] {shorter, word + "s", word + "0", word + "_", "_" + word, larger, word.toUpperCase()}) {
                check.right("int " + near + ";int main(){" + near + "=" + near + ";}");
            }
        }
        check.right("int main(){int main;main=1;}");
    }

    /** Terms I, TEXT: {GLOBAL | FUNCTION}: none, one, several of each. */
    private static void emptyText() {
        check.sentence("Terms I", "TEXT: {GLOBAL | FUNCTION}.");
        check.wrong(7, "@");
        check.wrong(7, "int v;@");
        check.wrong(7, "int f(){}@");
        check.right("int main(){}");
        check.right("int main(){}int v;");
        check.right("int v;int w;int f(){}int u;int main(){}int g(){}");
        check.wrong(2, "int main(){}@;");
        check.wrong(2, "int main(){}@main");
        check.wrong(2, "int main(){}@{}");
    }

    /** Terms I, GLOBAL: without [ ], with one, with two. */
    private static void globals() {
        check.sentence("Terms I", "GLOBAL: int NAME [ \"[\" NUMBER \"]\" ] ;");
        check.right("int q;int main(){}");
        check.right("int q[1];int main(){}");
        check.wrong(2, "int q[1]@[1];");
        check.wrong(2, "int q[@];");
        check.wrong(2, "int q[1 @1];");
        check.wrong(2, "int q@]");
        check.wrong(2, "int q@,p;");
        check.wrong(2, "int q@=1;");
        check.wrong(2, "int @;");
        check.wrong(2, "int q @p;");
    }

    /** Terms I, FUNCTION: no parameter, one, two; a comma too few and too many; no BLOCK, one, two. */
    private static void functions() {
        check.sentence("Terms I", "FUNCTION: int NAME ( [int NAME {, int NAME}] ) BLOCK.");
        check.right("int q(){}int main(){}");
        check.right("int q(int x){}int main(){}");
        check.right("int q(int x,int y){}int main(){}");
        check.wrong(2, "int q(@,int x){}");
        check.wrong(2, "int q(int x @int y){}");
        check.wrong(2, "int q(int x,@,int y){}");
        check.wrong(2, "int q(int x,@){}");
        check.wrong(2, "int q(int@){}");
        check.wrong(2, "int q(@x){}");
        check.wrong(2, "int q()@;");
        check.wrong(2, "int q(){}@{}");
        check.wrong(2, "int q()@return 1;");
    }

    /** Terms I, BLOCK: neither LOCAL nor S, each alone, both, a LOCAL behind an S. */
    private static void blocks() {
        check.sentence("Terms I", "BLOCK: \"{\" {LOCAL} {S} \"}\".");
        rightS("");
        rightS("int x;");
        rightS("int x;int y;");
        rightS(";");
        rightS(";;");
        rightS("int x;;");
        rightS("int x;int y;;;");
        wrongS(2, ";@int x;");
        wrongS(2, "int x;;@int y;");
        wrongS(2, "{}@int x;");
        rightS("{int x;}");
        rightS(";{int x;}");
        wrongS(2, "if(1)@int x;");
        wrongS(2, "while(1)@int x;");
        wrongS(2, "if(1);else @int x;");
        rightS("if(1){int x;}else{int x;}");
        check.wrong(2, "int main(){}@}");
        check.wrong(2, "int main(){{}@");
    }

    /** Terms I, LOCAL: without an E, with one, with two. */
    private static void locals() {
        check.sentence("Terms I", "LOCAL: int NAME [= E] ;");
        rightS("int x;");
        rightS("int x=1;");
        wrongS(2, "int x=@;");
        wrongS(2, "int x=1@=2;");
        wrongS(2, "int x=1@,2;");
        wrongS(2, "int x@,y;");
        wrongS(2, "int x@[2];");
        wrongS(2, "int x@(){}");
        wrongS(2, "int @;");
    }

    /** Terms I, S: no else, one, two; the else belongs to the nearest if. */
    private static void elseOrNone() {
        check.sentence("Terms I", "if ( E ) S [else S]");
        rightS("if(1);");
        rightS("if(1);else;");
        wrongS(2, "if(1);else;@else;");
        wrongS(2, "@else;");
        wrongS(2, ";@else;");
        wrongS(2, "if(1);;@else;");
        wrongS(2, "while(1);@else;");
        wrongS(2, "if(1)@else;");
        rightS("if(1)if(1);else;else;");
        wrongS(2, "if(1)if(1);else;else;@else;");
        check.prints("int main(){if(0)if(0);else print(1);if(1)if(0);else print(2);if(0)if(1);else;else print(3);}", 2, 3);
    }

    /** Terms I, S and E: no part, one, eight; a comma too few and too many. */
    private static void partsOfACall() {
        check.sentence("Terms I", "NAME ( [E {, E}] )");
        String g = "int g(int a,int b,int c,int d,int e,int f,int g,int h){}int h(int a,int b){}int i(int a){}int j(){}int main(){";
        for (String v : new String[] {"", "return "}) {
            check.right(g + v + "j();}");
            check.right(g + v + "i(1);}");
            check.right(g + v + "h(1,2);}");
            check.right(g + v + "g(1,2,3,4,5,6,7,8);}");
            check.wrong(2, g + v + "h(@,1);}");
            check.wrong(2, g + v + "h(1,@);}");
            check.wrong(2, g + v + "h(1,@,2);}");
            check.wrong(2, g + v + "h(1 @2);}");
            check.wrong(2, g + v + "j(@,);}");
            check.wrong(2, g + v + "i(1@;}");
        }
    }

    /** Terms I, E: two and three of one row, which no brackets hold together. */
    private static void signsFromTheLeft() {
        check.sentence("Terms I", "E, from the loosest, all from the left:");
        codeOf("1-2-3", 1, 1, 1, 2, 22, 1, 3, 22);
        codeOf("1-2+3-4", 1, 1, 1, 2, 22, 1, 3, 21, 1, 4, 22);
        codeOf("1/2%3*4", 1, 1, 1, 2, 27, 1, 3, 28, 1, 4, 23);
        codeOf("1<2>3<=4>=5", 1, 1, 1, 2, 15, 1, 3, 17, 1, 4, 16, 1, 5, 18);
        codeOf("1==2!=3", 1, 1, 1, 2, 13, 1, 3, 14);
        codeOf("1<<2>>3", 1, 1, 1, 2, 19, 1, 3, 20);
        codeOf("1-(2-3)", 1, 1, 1, 2, 1, 3, 22, 22);
        codeOf("1|2|3", 1, 1, 1, 2, 10, 1, 3, 10);
        // the loosest and the tightest row on either side, and all rows at once
        codeOf("1|2*3", 1, 1, 1, 2, 1, 3, 23, 10);
        codeOf("1*2|3", 1, 1, 1, 2, 23, 1, 3, 10);
        codeOf("-1*-2", 1, 1, 24, 1, 2, 24, 23);
        codeOf("1|2^3&4==5<6<<7+8*-9", 1, 1, 1, 2, 1, 3, 1, 4, 1, 5, 1, 6, 1, 7, 1, 8, 1, 9, 24, 23, 21, 19, 15, 13, 12, 11, 10);
        codeOf("-9*8+7<<6<5==4&3^2|1", 1, 9, 24, 1, 8, 23, 1, 7, 21, 1, 6, 19, 1, 5, 15, 1, 4, 13, 1, 3, 12, 1, 2, 11, 1, 1, 10);
    }

    /** Terms I, NAMES: just ahead of where it stands, just behind, and at the text's end. */
    private static void knownFromWhereItStands() {
        check.sentence("Terms I", "is known from where it stands on");
        check.wrong(3, "int main(){@v=1;}int v;");
        check.right("int v;int main(){v=1;}");
        check.wrong(3, "int main(){return @b[0];}int b[1];");
        check.right("int b[1];int main(){return b[0];}");
        check.wrong(3, "int main(){@g();}int g(){}");
        check.right("int g(){}int main(){g();}");
        check.right("int v;int b[2];int g(){}int h(){}int w;int main(){v=b[0]+g()+h()+w;}");
    }

    /** Terms I, NAMES: from its first LOCAL to its last S, and behind it. */
    private static void functionWithinItself() {
        check.sentence("Terms I", "a FUNCTION (known within itself, too)");
        check.right("int main(){int x=main();main();return main();}");
        check.right("int f(int x){return f(x);}int main(){f(1);}");
        check.wrong(6, "int f(int x){return @f();}");
        check.wrong(6, "int f(int x){return @f(1,2);}");
        check.right("int f(int f){return f;}int main(){}");
        check.wrong(5, "int f(int f){return @f(1);}");
    }

    /** Terms I, NAMES: in its FUNCTION's first LOCAL and last S; not in the FUNCTIONS ahead and behind. */
    private static void parameterInItsFunction() {
        check.sentence("Terms I", "a parameter in its FUNCTION");
        check.right("int f(int x){int y=x;{x=1;}return x;}int main(){}");
        check.wrong(3, "int e(){return @x;}int f(int x){}");
        check.wrong(3, "int f(int x){}int g(){return @x;}");
        check.wrong(3, "int f(int x){}int g(int y){return y+@x;}");
        check.right("int f(int x){return x;}int g(int x){return x;}int main(){}");
        check.right("int x;int f(int x){}int main(){x=1;}");
    }

    /** Terms I, NAMES: not in its own E, nor ahead of it; right behind its ; it is. */
    private static void localFromBehindItsSemicolon() {
        check.sentence("Terms I", "a LOCAL from behind its ; to the end of its BLOCK");
        check.wrong(3, "int main(){int x=@x;}");
        check.wrong(3, "int main(){int x=1+(@x);}");
        check.wrong(3, "int main(){int y=@x;int x;}");
        check.right("int main(){int x;int y=x;}");
        check.right("int main(){int x=1;x=x;}");
        // what is meant in its E is the one outside
        check.prints("int x;int main(){x=4;{int x=x+1;print(x);}print(x);}", 5, 4);
    }

    /** Terms I, NAMES: the last S of its BLOCK, in BLOCKS within it, and just behind the }. */
    private static void localToTheEndOfItsBlock() {
        check.sentence("Terms I", "a LOCAL from behind its ; to the end of its BLOCK");
        check.right("int main(){{int x;;;{{x=1;}}x=2;}}");
        check.wrong(3, "int main(){{int x;}@x=1;}");
        check.wrong(3, "int main(){{int x;}{@x=1;}}");
        check.wrong(3, "int main(){if(1){int x;}else @x=1;}");
        check.wrong(3, "int main(){while(1){int x;}return @x;}");
        check.wrong(3, "int f(){int x;}int main(){@x=1;}");
    }

    /** Terms I, NAMES: a GLOBAL, a parameter, LOCALS of one BLOCK within another; each ends with its BLOCK. */
    private static void theInnermostIsMeant() {
        check.sentence("Terms I", "the innermost one is meant");
        check.prints("int x;int f(int x){print(x);{int x=3;print(x);{int x=4;print(x);}print(x);}print(x);return x;}"
            + "int main(){x=1;f(2);print(x);}", 2, 3, 4, 3, 2, 1);
        check.prints("int f(int x){int x=x+1;print(x);return x;}int main(){f(2);}", 3);
        check.wrong(5, "int x[2];int main(){int x;@x[0]=1;}");
        check.wrong(5, "int x;int f(){int f;@f();}");
        check.right("int x[2];int main(){{int x;x=1;}x[0]=1;}");
    }

    /** Terms I, NAMES: each of two sorts behind each. */
    private static void globalsAndFunctionsTwice() {
        check.sentence("Terms I", "Of GLOBALS and FUNCTIONS no two have a NAME");
        String[] first = {"int q;", "int q[2];", "int q(){}"};
        String[] second = {"int @q;", "int @q[2];", "int @q(){}"};
        for (String one : first) {
            for (String two : second) {
                check.wrong(4, one + two);
                check.wrong(4, one + "int r;int s(int q){int q;}" + two);
                check.right(one + two.replace("@q", "p") + "int main(){}");
            }
        }
        check.wrong(4, "int main(){}int @main;");
    }

    /** Terms I, NAMES: two that stand together, the first and the eighth; not of two FUNCTIONS. */
    private static void parametersTwice() {
        check.sentence("Terms I", "nor two parameters of a FUNCTION");
        check.wrong(4, "int f(int x,int @x)");
        check.wrong(4, "int f(int x,int y,int @x)");
        check.wrong(4, "int f(int a,int b,int c,int d,int e,int f,int g,int @a)");
        check.wrong(4, "int f(int a,int b,int c,int d,int e,int f,int g,int @g)");
        check.right("int f(int x,int y){}int g(int x,int y){}int main(){}");
        check.right("int x;int f(int x,int f){}int main(){}");
    }

    /** Terms I, NAMES: two that stand together, the first and the last; not of two BLOCKS. */
    private static void localsTwice() {
        check.sentence("Terms I", "nor two LOCALS of a BLOCK");
        check.wrong(4, "int main(){int x;int @x;}");
        check.wrong(4, "int main(){int x;int y;int z;int @x;}");
        check.wrong(4, "int main(){{{int x;int @x;}}}");
        check.wrong(4, "int main(){int x;{int x;}{int y;int @y;}}");
        check.right("int main(){int x;{int x;{int x;}}{int x;}}");
        check.right("int f(){int x;}int main(){int x;}");
    }

    /** Terms I, NAMES: of the FUNCTION's own BLOCK and of one within; all eight. */
    private static void parameterAndLocal() {
        check.sentence("Terms I", "(a parameter and a LOCAL of the FUNCTION's BLOCK may)");
        check.right("int f(int x){int x;}int main(){}");
        check.right("int f(int x){int x=x;{int x=x;}}int main(){}");
        check.right("int f(int a,int b,int c,int d,int e,int f,int g,int h){int h;int a;}int main(){}");
        check.wrong(4, "int f(int x){int x;int @x;}");
    }
}
