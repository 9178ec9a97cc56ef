import java.util.Arrays;
import java.util.List;

/**
 * Promise 3 with Terms I, WHAT IS WRONG: each sentence that names a bound with a test of its own, the
 * case at the bound, the one just within it, the one just beyond it.
 */
final class BoundsWrongTest {
    private static final Check check = new Check("BoundsWrongTest");
    private static final String KNOWN = "int v;int a[2];int f(int x){return x;}int n(){}";
    private static final String IN_MAIN = KNOWN + "int main(){";
    /** Each token once. */
    private static final List<String> TOKENS = List.of(
        "v", "7", "int", "if", "else", "while", "return", "print", "read", "(", ")", "{", "}", "[", "]", ",", ";", "=",
        "||", "&&", "|", "^", "&", "==", "!=", "<", "<=", ">", ">=", "<<", ">>", "+", "-", "*", "/", "%", "!", "~");
    private static final String S_BEGINS = "{ if while return print v ;";
    private static final String E_BEGINS = "7 v read ( - ! ~";
    private static final String E_GOES_ON = "|| && | ^ & == != < <= > >= << >> + - * / %";

    public static void main(String[] args) {
        thePlace();
        thePlaceOfWhatIsMissing();
        theFirstThatIsMet();
        ofOneTokenTheLeastKind();
        kindsOneToThree();
        kindFour();
        kindFive();
        kindSix();
        kindEight();
        kindNine();
        kindEleven();
        kindsSevenAndTen();
        check.end();
    }

    private static void kindsOneToThree() {
        oneItIsNone();
        twoItCannotStandThere();
        twoAtTheEnd();
        threeNotKnown();
    }

    private static void kindFour() {
        fourToldTwice();
    }

    private static void kindFive() {
        fiveAsTheTokenBehindComes();
        fiveArrayWithoutBrackets();
        fiveVariableWithBrackets();
        fiveNoFunction();
        fiveFunctionWithout();
        fiveAssigned();
    }

    private static void kindSix() {
        sixTheNinthParameter();
        sixMoreOrFewerParts();
    }

    private static void kindEight() {
        eightBrackets();
        eightIndexes();
        eightBraces();
        eightSignsAheadOfOne();
        eightIf();
        eightWhile();
        eightElse();
        eightTillWhatItOpensEnds();
    }

    private static void kindNine() {
        nineNumberNameRead();
        nineSigns();
        nineStatements();
        nineBlocks();
        nineCallAlone();
        nineFunctions();
        nineNothingElse();
    }

    private static void kindEleven() {
        elevenNumbers();
        elevenArrays();
    }

    private static void kindsSevenAndTen() {
        sevenNoMain();
        tenMoreThanItsCells();
        sevenThenTen();
    }

    private static void wrongS(int kind, String marked) {
        check.wrong(kind, IN_MAIN + marked + "}");
    }

    private static void rightS(String s) {
        check.right(IN_MAIN + s + "}");
    }

    private static String times(int n, String s) {
        return s.repeat(n);
    }

    // ---- the place ----

    /** WHAT IS WRONG: the first sign of all, the second, the last; of a long token its first sign. */
    private static void thePlace() {
        check.sentence("Terms I", "a kind, and 16 times the place (of a token's first sign;");
        check.wrong(1, "@#");
        check.wrong(1, " @#");
        check.wrong(2, "@;");
        check.wrong(2, " @;");
        check.wrong(2, "@while");
        check.wrong(2, "  \n  @while");
        check.wrong(1, "int main(){}@#");
        check.wrong(1, times(490, " ") + "@#");
        check.wrong(1, times(4095, " ") + "@#");
        check.wrong(2, "int main(){return 1 @return");
        check.wrong(3, "int main(){@abcdefgh=1;");
        check.wrong(11, "int main(){return @2147483648;");
    }

    /** WHAT IS WRONG: a text that is cut behind each of its signs. */
    private static void thePlaceOfWhatIsMissing() {
        check.sentence("Terms I", "of what is missing at the end the text's length");
        String text = "int main(){return 1;} ";
        for (int length = 0; length <= text.length(); length++) {
            int due = 2 + 16 * length;
            due = length == 0 ? 7 : due;
            // i, in and r, re, .. retur are NAMES
            due = length == 1 || length == 2 ? 2 : due;
            due = length >= 12 && length <= 16 ? 3 + 16 * 11 : due;
            due = length >= 21 ? 0 : due;
            String cut = text.substring(0, length);
            check.due("compile() of " + cut, Check.fed(Check.roomy(), cut).compile(), due);
            check.due("compile() of " + cut + " in a full text", Check.fed(new TinyC(length, 99, 99, 99, 9), cut).compile(), due);
        }
        check.wrong(2, "int main(){ \n @");
        check.wrong(2, "int main(){" + times(480, " ") + "@");
    }

    /** WHAT IS WRONG: two faults, the one whose token is come to first counts, whatever its kind. */
    private static void theFirstThatIsMet() {
        check.sentence("Terms I", "The first that is met, as tokens are come to");
        wrongS(11, "v=@2147483648+#");
        wrongS(8, times(39, "{") + "@{#");
        wrongS(6, "@n(1)#");
        wrongS(5, "v=@a;#");
        check.wrong(4, "int v;int @v#");
        wrongS(3, "v=@w#");
        wrongS(2, "@)#");
        wrongS(1, "@#)");
        // told at an earlier place, but met later
        wrongS(3, "v=n(@w);");
        wrongS(2, "v=n(1@;");
        wrongS(1, "v=n(1@#");
        wrongS(1, "v=a@#");
        wrongS(11, "v=n(@2147483648);");
        check.wrongWith(3, 4096, 1, "int main@#(){}");
        check.wrongWith(3, 4096, 9, "int @main(#");
        // 7 and 10 are met at the end alone
        check.wrongWith(4096, 0, 2, "int f(@");
        check.wrongWith(4096, 0, 3, "int f(){@w=1;}");
    }

    /** WHAT IS WRONG: each two kinds that one token can have. */
    private static void ofOneTokenTheLeastKind() {
        check.sentence("Terms I", "of one token the least kind");
        // 1 and 2, 5
        wrongS(1, "v=a@#;");
        wrongS(1, "v=@abcdefghi;");
        // 2 and 3, 5, 8, 9, 11
        wrongS(2, "v=1 @w;");
        wrongS(2, "v=a@);");
        wrongS(2, times(39, "{") + "v=1@(");
        wrongS(2, times(39, "{") + "v=1@!");
        wrongS(2, times(39, "{") + "v@{");
        check.wrongWith(8, 4096, 2, "int main(){return@;}");
        check.wrongWith(12, 4096, 2, "int main(){return 1@!1;}");
        check.wrongWith(12, 4096, 2, "int main(){return 1 @2;}");
        wrongS(2, "v=1 @2147483648;");
        check.wrong(2, "int b[2 @0];");
        // 3 and 9
        check.wrongWith(4, 4096, 3, "int main(){@w=1;}");
        check.wrongWith(8, 4096, 3, "int main(){return @w;}");
        // 4 and 6
        check.wrong(4, "int q(int a,int b,int c,int d,int e,int f,int g,int h,int @h)");
        // 5 and 6, 8, 9
        wrongS(5, "n(@a);");
        wrongS(5, "f(1,@n);");
        wrongS(5, times(39, "{") + "@v(");
        wrongS(5, times(39, "{") + "v=@v(");
        wrongS(5, times(39, "{") + "@v[");
        wrongS(5, times(39, "{") + "v=@n[");
        check.wrongWith(12, 4096, 5, "int a[1];int main(){return @a+1;}");
        // 8 and 9
        check.wrongWith(4 * 40, 4096, 8, "int main(){" + times(39, "{") + "@{");
        check.wrongWith(4 * 40, 4096, 8, "int main(){" + times(39, "{") + "@if");
        check.wrongWith(4 * 40, 4096, 8, "int main(){" + times(39, "{") + "@while");
        check.wrongWith(4 * 41, 4096, 8, "int main(){" + times(39, "{") + "return @-1");
        // 9 and 11
        check.wrongWith(8, 4096, 9, "int main(){return @2147483648;}");
        check.wrongWith(12, 4096, 11, "int main(){return @2147483648;}");
    }

    // ---- 1, 2, 3, 4 ----

    /** Kind 1: eight signs and nine, ten digits and eleven, a sign that is none, at each place where a token is due. */
    private static void oneItIsNone() {
        check.sentence("Terms I", "1 it is none (a NAME too long, a NUMBER of more digits, other signs)");
        String[] places = {"", "int ", "int q", "int q[", "int q[2", "int q[2]", "int q(", "int q(int ", "int q(int x",
            "int q()", IN_MAIN, IN_MAIN + "int ", IN_MAIN + "int x", IN_MAIN + "v", IN_MAIN + "v=", IN_MAIN + "v=1", IN_MAIN + "v=-",
            IN_MAIN + "if", IN_MAIN + "if(", IN_MAIN + "if(1)", IN_MAIN + "if(1);", IN_MAIN + "if(1);else ", IN_MAIN + "f(1,",
            IN_MAIN + "f(1)", IN_MAIN + "v=read", IN_MAIN + "v=read(", "int main(){}"};
        for (String before : places) {
            check.wrong(1, before + "@#");
            check.wrong(1, before + "@\t");
            check.wrong(1, before + " @abcdefghi");
            check.wrong(1, before + " @12345678901");
        }
        rightS("int abcdefgh;abcdefgh=1234567890;");
    }

    /** Kind 2: at each place of the grammar each token, those that can stand there and those that can't. */
    private static void twoItCannotStandThere() {
        check.sentence("Terms I", "2 it can't stand there.");
        outsideOfFunctions();
        inBlocks();
        inStatements();
        inExpressions();
    }

    private static void outsideOfFunctions() {
        canStand("", "int");
        canStand("int", "v");
        canStand("int q", "[ ; (");
        canStand("int q[", "7");
        canStand("int q[2", "]");
        canStand("int q[2]", ";");
        canStand("int q;", "int");
        canStand("int q(", "int )");
        canStand("int q(int", "v");
        canStand("int q(int x", ", )");
        canStand("int q(int x,", "int");
        canStand("int q(int x,int y", ", )");
        canStand("int q()", "{");
        canStand("int q(){}", "int");
    }

    private static void inBlocks() {
        canStand(IN_MAIN, "int } " + S_BEGINS);
        canStand(IN_MAIN + "int", "v");
        canStand(IN_MAIN + "int x", "= ;");
        canStand(IN_MAIN + "int x=", E_BEGINS);
        canStand(IN_MAIN + "int x=1", "; " + E_GOES_ON);
        canStand(IN_MAIN + "int x;", "int } " + S_BEGINS);
        canStand(IN_MAIN + "int x;;", "} " + S_BEGINS);
        canStand(IN_MAIN + ";", "} " + S_BEGINS);
        canStand(IN_MAIN + "{", "int } " + S_BEGINS);
        canStand(IN_MAIN + "{}", "} " + S_BEGINS);
        canStand(IN_MAIN + "{;", "} " + S_BEGINS);
    }

    private static void inStatements() {
        canStand(IN_MAIN + "if", "(");
        canStand(IN_MAIN + "if(", E_BEGINS);
        canStand(IN_MAIN + "if(1", ") " + E_GOES_ON);
        canStand(IN_MAIN + "if(1)", S_BEGINS);
        canStand(IN_MAIN + "if(1);", "} else " + S_BEGINS);
        canStand(IN_MAIN + "if(1){}", "} else " + S_BEGINS);
        canStand(IN_MAIN + "if(1);else", S_BEGINS);
        canStand(IN_MAIN + "if(1);else;", "} " + S_BEGINS);
        canStand(IN_MAIN + "if(1)if(1);", "} else " + S_BEGINS);
        canStand(IN_MAIN + "if(1)if(1);else;", "} else " + S_BEGINS);
        canStand(IN_MAIN + "if(1)if(1);else;else;", "} " + S_BEGINS);
        canStand(IN_MAIN + "if(1)while(1);", "} else " + S_BEGINS);
        canStand(IN_MAIN + "while", "(");
        canStand(IN_MAIN + "while(", E_BEGINS);
        canStand(IN_MAIN + "while(1", ") " + E_GOES_ON);
        canStand(IN_MAIN + "while(1)", S_BEGINS);
        canStand(IN_MAIN + "while(1);", "} " + S_BEGINS);
        canStand(IN_MAIN + "return", E_BEGINS);
        canStand(IN_MAIN + "return 1", "; " + E_GOES_ON);
        canStand(IN_MAIN + "print", "(");
        canStand(IN_MAIN + "print(", E_BEGINS);
        canStand(IN_MAIN + "print(1", ") " + E_GOES_ON);
        canStand(IN_MAIN + "print(1)", ";");
        canStand(IN_MAIN + "v", "= [ (");
        canStand(IN_MAIN + "a", "= [ (");
        canStand(IN_MAIN + "f", "= [ (");
        canStand(IN_MAIN + "v=", E_BEGINS);
        canStand(IN_MAIN + "v=1", "; " + E_GOES_ON);
        canStand(IN_MAIN + "a[", E_BEGINS);
        canStand(IN_MAIN + "a[1", "] " + E_GOES_ON);
        canStand(IN_MAIN + "a[1]", "=");
        canStand(IN_MAIN + "a[1]=", E_BEGINS);
        canStand(IN_MAIN + "a[1]=1", "; " + E_GOES_ON);
        canStand(IN_MAIN + "n(", ") " + E_BEGINS);
        canStand(IN_MAIN + "n()", ";");
        canStand(IN_MAIN + "f(1", ") , " + E_GOES_ON);
        canStand(IN_MAIN + "f(1,", E_BEGINS);
        canStand(IN_MAIN + "f(1)", ";");
    }

    private static void inExpressions() {
        canStand(IN_MAIN + "v=v", "; [ ( " + E_GOES_ON);
        canStand(IN_MAIN + "v=a", "; [ ( " + E_GOES_ON);
        canStand(IN_MAIN + "v=f", "; [ ( " + E_GOES_ON);
        canStand(IN_MAIN + "v=(v", ") [ ( " + E_GOES_ON);
        canStand(IN_MAIN + "v=a[v", "] [ ( " + E_GOES_ON);
        canStand(IN_MAIN + "v=f(v", ") , [ ( " + E_GOES_ON);
        canStand(IN_MAIN + "v=-", E_BEGINS);
        canStand(IN_MAIN + "v=!", E_BEGINS);
        canStand(IN_MAIN + "v=~", E_BEGINS);
        canStand(IN_MAIN + "v=-1", "; " + E_GOES_ON);
        canStand(IN_MAIN + "v=(", E_BEGINS);
        canStand(IN_MAIN + "v=(1", ") " + E_GOES_ON);
        canStand(IN_MAIN + "v=(1)", "; " + E_GOES_ON);
        canStand(IN_MAIN + "v=read", "(");
        canStand(IN_MAIN + "v=read(", ")");
        canStand(IN_MAIN + "v=read()", "; " + E_GOES_ON);
        canStand(IN_MAIN + "v=a[", E_BEGINS);
        canStand(IN_MAIN + "v=a[1]", "; " + E_GOES_ON);
        canStand(IN_MAIN + "v=n(", ") " + E_BEGINS);
        canStand(IN_MAIN + "v=n()", "; " + E_GOES_ON);
        canStand(IN_MAIN + "v=f(1,", E_BEGINS);
        canStand(IN_MAIN + "v=f(f(1)", ") , " + E_GOES_ON);
        for (String sign : E_GOES_ON.split(" ")) {
            canStand(IN_MAIN + "v=1" + sign, E_BEGINS);
            canStand(IN_MAIN + "v=1" + sign + " 2", "; " + E_GOES_ON);
        }
    }

    /** Behind these signs the tokens that can stand don't bring 2 at their place, all others do. */
    private static void canStand(String before, String which) {
        List<String> can = Arrays.asList(which.split(" "));
        for (String token : TOKENS) {
            int place = before.length() + 1;
            int got = Check.fed(Check.roomy(), before + " " + token).compile();
            String call = "compile() of " + before + " and then " + token;
            if (can.contains(token)) {
                check.due(call + " tells it can't stand", got == 2 + 16 * place ? 1 : 0, 0);
            } else {
                check.due(call, got, 2 + 16 * place);
            }
        }
    }

    /** Kind 2 of what is missing: the end of the text can stand ahead of all and behind a GLOBAL or FUNCTION alone. */
    private static void twoAtTheEnd() {
        check.sentence("Terms I", "of what is missing at the end the text's length");
        String[] parts = {"int", " q", "[", "2", "]", ";", "int", " main", "(", "int", " x", ",", "int", " y", ")", "{", "int", " z",
            "=", "1", ";", "if", "(", "z", ")", "q", "[", "1", "]", "=", "-", "read", "(", ")", ";", "else", " while", "(", "!", "x",
            ")", "main", "(", "1", ",", "2", ")", ";", "return", " 1", "+", "(", "2", ")", ";", "}"};
        StringBuilder text = new StringBuilder();
        for (String part : parts) {
            text.append(part);
            boolean whole = text.toString().equals("int q[2];") || text.toString().endsWith("}");
            check.wrong(whole ? 7 : 2, text + "@");
            check.wrong(whole ? 7 : 2, text + " \n@");
        }
    }

    /** Kind 3: a NAME that differs by one sign, by a letter's size, by its length. */
    private static void threeNotKnown() {
        check.sentence("Terms I", "3 a NAME that isn't known.");
        for (String name : new String[] {"w", "V", "vv", "v1", "_", "main1", "Main", "mai"}) {
            wrongS(3, "@" + name + "=1;");
            wrongS(3, "@" + name + "();");
            wrongS(3, "@" + name + "[0]=1;");
            wrongS(3, "@" + name + ";");
            wrongS(3, "v=@" + name + ";");
            wrongS(3, "v=f(@" + name + ");");
            wrongS(3, "v=a[@" + name + "];");
            wrongS(3, "v=-(1+@" + name + ");");
            wrongS(3, "int x=@" + name + ";");
            wrongS(3, "v=@" + name);
        }
        rightS("v=v;main();");
    }

    /** Kind 4 at the second NAME, as it is come to: whatever stands behind it. */
    private static void fourToldTwice() {
        check.sentence("Terms I", "4 one that is told twice.");
        for (String behind : new String[] {"", ";", "(", "[", "#", " 7", "[2];"}) {
            check.wrong(4, "int v;int @v" + behind);
        }
        check.wrong(4, "int q(int x,int @x");
        check.wrong(4, "int q(int x,int @x#");
        check.wrong(4, "int q(){int x;int @x");
        check.wrong(4, "int q(){int x;int @x=w;}");
        check.right("int v;int v1;int V;int main(){}");
    }

    // ---- 5 ----

    /** Kind 5: told at the NAME, but only as the token behind it can stand there. */
    private static void fiveAsTheTokenBehindComes() {
        check.sentence("Terms I", "5 a NAME used as what it isn't (told at it, as the token behind it is come to and can stand there:");
        for (String sign : E_GOES_ON.split(" ")) {
            wrongS(5, "v=@a" + sign);
            wrongS(5, "v=@f" + sign + "1;");
            wrongS(5, "v=1" + sign + "@a;");
        }
        wrongS(5, "v=@a  ;");
        wrongS(2, "v=a@=1;");
        wrongS(2, "v=a @7;");
        wrongS(2, "v=a @v;");
        wrongS(2, "v=a@!");
        wrongS(2, "v=a@{");
        wrongS(2, "v=a@}");
        wrongS(2, "v=(a@;");
        wrongS(2, "v=(a@]");
        wrongS(2, "v=(a@,");
        wrongS(2, "v=a@)");
        wrongS(2, "v=a[a@)");
        wrongS(2, "v=f(a@;");
        wrongS(2, "v=f(a@]");
        wrongS(2, "a@;");
        wrongS(2, "a@+1;");
        wrongS(2, "f@;");
        wrongS(2, "f @1;");
        wrongS(1, "f@#");
        wrongS(1, "v=a@#");
        check.wrong(2, IN_MAIN + "v=a@");
        check.wrong(2, IN_MAIN + "a@");
        check.wrong(2, IN_MAIN + "v=f  @");
    }

    /** Kind 5: each place where an E is, with the array's own bracket and without. */
    private static void fiveArrayWithoutBrackets() {
        check.sentence("Terms I", "an array without [ ]");
        String[] places = {"v=?;", "print(?);", "return ?;", "if(?);", "while(?);", "int x=?;", "a[?]=1;", "a[0]=?;", "f(?);",
            "v=a[?];", "v=f(?);", "v=f(f(?));", "v=(?);", "v=-?;", "v=!?;", "v=~?;", "v=1+?;", "v=?+1;", "v=1&&?;", "v=?||1;"};
        for (String place : places) {
            wrongS(5, place.replace("?", "@a"));
            rightS(place.replace("?", "a[1]"));
            rightS(place.replace("?", "v"));
        }
        wrongS(5, "v=@a(1);");
        wrongS(5, "v=@a();");
    }

    /** Kind 5: a GLOBAL, a parameter, a LOCAL with [ , in an E and as an S. */
    private static void fiveVariableWithBrackets() {
        check.sentence("Terms I", "a variable with [ ,");
        wrongS(5, "v=@v[0];");
        wrongS(5, "@v[0]=1;");
        wrongS(5, "@v[");
        wrongS(5, "v=@v[");
        wrongS(5, "int x;v=@x[0];");
        wrongS(5, "int x;@x[0]=1;");
        wrongS(5, "int a;@a[0]=1;");
        check.wrong(5, "int q(int x){return @x[0];}");
        check.wrong(5, "int q(int x){@x[0]=1;}");
        wrongS(5, "v=@f[0];");
        wrongS(5, "@f[0]=1;");
        rightS("v=a[0];a[0]=v;");
    }

    /** Kind 5: a variable, an array, a parameter, a LOCAL with ( . */
    private static void fiveNoFunction() {
        check.sentence("Terms I", "what is no FUNCTION with (");
        wrongS(5, "@v();");
        wrongS(5, "@a();");
        wrongS(5, "@v(1);");
        wrongS(5, "v=@v();");
        wrongS(5, "v=@a();");
        wrongS(5, "@v(");
        wrongS(5, "v=@a(");
        wrongS(5, "int n;@n();");
        wrongS(5, "int n;v=@n();");
        check.wrong(5, "int q(int q){@q();}");
        check.wrong(5, "int q(int x){return @x(1);}");
        rightS("n();v=n();f(1);");
        rightS("{int n;}n();");
    }

    /** Kind 5: a FUNCTION where a value is due, without parameters, with one, the one that is being read. */
    private static void fiveFunctionWithout() {
        check.sentence("Terms I", "a FUNCTION without;");
        for (String name : new String[] {"f", "n", "main"}) {
            wrongS(5, "v=@" + name + ";");
            wrongS(5, "print(@" + name + ");");
            wrongS(5, "return @" + name + "+1;");
            wrongS(5, "v=f(@" + name + ");");
            wrongS(5, "v=-@" + name + ";");
        }
        check.wrong(5, "int q(){return @q;}");
        rightS("v=n();v=f(1);v=main();");
    }

    /** Kind 5: as their = is come to; a variable, a parameter, a LOCAL, one of an array are right. */
    private static void fiveAssigned() {
        check.sentence("Terms I", "a FUNCTION, an array that is assigned)");
        wrongS(5, "@a=1;");
        wrongS(5, "@f=1;");
        wrongS(5, "@n=");
        wrongS(5, "@main=1;");
        wrongS(5, "@a=w;");
        check.wrong(5, "int q(){@q=1;}");
        rightS("v=1;a[0]=1;{int f=1;f=2;}{int a;a=2;}");
        check.right("int q(int q){q=1;}int main(){}");
    }

    // ---- 6 ----

    private static String parameters(int count) {
        StringBuilder b = new StringBuilder();
        for (int i = 1; i <= count; i++) {
            b.append(i > 1 ? "," : "").append("int ").append(i > 8 ? "@" : "").append('p').append(i);
        }
        return b.toString();
    }

    private static String parts(int count) {
        return times(Math.max(0, count - 1), "1,") + times(Math.min(1, count), "1");
    }

    /** Kind 6: none, seven, eight, nine; the tenth is not come to. */
    private static void sixTheNinthParameter() {
        check.sentence("Terms I", "6 the ninth parameter (at its NAME)");
        for (int count = 0; count <= 8; count++) {
            check.right("int q(" + parameters(count) + "){}int main(){}");
        }
        check.wrong(6, "int q(" + parameters(9) + "){}");
        check.wrong(6, "int q(" + parameters(9));
        check.wrong(6, "int q(" + parameters(9) + "#");
        check.wrong(6, "int q(" + parameters(10) + "){}");
        // what is ahead of its NAME is met first
        check.wrong(2, "int q(" + parameters(8) + ",@)");
        check.wrong(2, "int q(" + parameters(8) + ",int@");
        check.wrong(1, "int q(" + parameters(8) + ",int @#");
    }

    /** Kind 6: one part fewer, as many, one more, as an S and in an E, for each number of parameters. */
    private static void sixMoreOrFewerParts() {
        check.sentence("Terms I", "a call with more or fewer parts than parameters (at its NAME, as its ) is come to)");
        for (int count = 0; count <= 8; count++) {
            String text = "int q(" + parameters(count) + "){}int main(){";
            for (int given = 0; given <= 10; given++) {
                if (given == count) {
                    check.right(text + "q(" + parts(given) + ");return q(" + parts(given) + ");}");
                } else {
                    check.wrong(6, text + "@q(" + parts(given) + ")");
                    check.wrong(6, text + "return @q(" + parts(given) + ")#");
                    check.wrong(2, text + "return q(" + parts(given) + "@;");
                    check.wrong(1, text + "return q(" + parts(given) + "@#");
                }
            }
        }
        // the inner call's ) comes first
        wrongS(6, "f(@n(1),2);");
        wrongS(6, "@n(f(1));");
    }

    // ---- 8 ----

    /** Behind main's { and so many more of them, the text is right, or 8 stands at the mark. */
    private static void within(int others, boolean right, String marked) {
        String before = times(others - 1, "{");
        if (right) {
            rightS(before + marked.replace("@", "") + times(others - 1, "}"));
        } else {
            wrongS(8, before + marked);
        }
    }

    /** An opener within 38, 39 and 40 others, when nothing more is opened in it. */
    private static void atTheBound(String marked) {
        within(1, true, marked);
        within(38, true, marked);
        within(39, true, marked);
        within(40, false, marked);
    }

    /** Kind 8: ( of an E, of calls, of read, print, if and while. */
    private static void eightBrackets() {
        check.sentence("Terms I", "8 one that would be within 40 others: (");
        atTheBound("v=@(1);");
        atTheBound("v=n@();");
        atTheBound("v=f@(1);");
        atTheBound("n@();");
        atTheBound("f@(1);");
        atTheBound("v=read@();");
        atTheBound("print@(1);");
        within(38, true, "if(1);");
        within(39, false, "if@(1);");
        within(38, true, "while(1);");
        within(39, false, "while@(1);");
        rightS("v=" + times(39, "(") + "1" + times(39, ")") + ";");
        wrongS(8, "v=" + times(39, "(") + "@(1" + times(40, ")") + ";");
        wrongS(8, "v=" + times(39, "(") + "@((1" + times(41, ")") + ";");
        rightS("v=" + times(39, "f(") + "1" + times(39, ")") + ";");
        wrongS(8, "v=" + times(39, "f(") + "f@(1" + times(40, ")") + ";");
        // at each level a sign of each row waits for its second part
        String rows = "0||1&&0|0^1&1==1<1<<1+1*(";
        check.prints("int main(){print(" + times(38, rows) + "7" + times(38, ")") + ");}", 1);
        check.wrong(8, "int main(){print(" + times(38, rows) + rows.replace("(", "@(") + "7");
    }

    /** Kind 8: [ in an E and of an S. */
    private static void eightIndexes() {
        check.sentence("Terms I", "8 one that would be within 40 others: ( [");
        atTheBound("v=a@[1];");
        atTheBound("a@[1]=1;");
        rightS("v=" + times(39, "a[") + "1" + times(39, "]") + ";");
        wrongS(8, "v=" + times(39, "a[") + "a@[1" + times(40, "]") + ";");
        rightS("a[" + times(38, "a[") + "1" + times(38, "]") + "]=1;");
        wrongS(8, "a[" + times(38, "a[") + "a@[1");
    }

    /** Kind 8: the FUNCTION's own { is one of them. */
    private static void eightBraces() {
        check.sentence("Terms I", "8 one that would be within 40 others: ( [ {");
        atTheBound("@{}");
        check.right("int main()" + times(40, "{") + times(40, "}"));
        check.wrong(8, "int main()" + times(40, "{") + "@{" + times(41, "}"));
        check.wrong(8, "int main()" + times(40, "{") + "@{{" + times(42, "}"));
    }

    /** Kind 8: - ! ~ , each alone and all together; as signs of two parts they open nothing. */
    private static void eightSignsAheadOfOne() {
        check.sentence("Terms I", "8 one that would be within 40 others: ( [ { - ! ~ ahead of one,");
        for (String sign : new String[] {"-", "!", "~"}) {
            atTheBound("v=@" + sign + "1;");
            rightS("v=" + times(38, sign) + "1;");
            rightS("v=" + times(39, sign) + "1;");
            wrongS(8, "v=" + times(39, sign) + "@" + sign + "1;");
            wrongS(8, "v=" + times(39, sign) + "@" + sign + sign + "1;");
            wrongS(8, "v=" + times(39, sign) + "@(1);");
            wrongS(8, "v=" + times(39, sign) + "a@[1];");
            wrongS(8, "v=" + times(39, sign) + "n@();");
            wrongS(8, "v=" + times(39, sign) + "read@();");
        }
        rightS("v=" + times(13, "-!~") + "1;");
        wrongS(8, "v=" + times(13, "-!~") + "@-1;");
        within(40, true, "v=1-1;");
        within(40, true, "v=" + times(60, "1-") + "1;");
        within(40, false, "v=1-@-1;");
        within(39, true, "v=1--1;");
    }

    /** Kind 8: if opens itself and then its ( , which is one deeper. */
    private static void eightIf() {
        check.sentence("Terms I", "if, while, else, each till what it opens ends");
        within(38, true, "if(1);");
        within(39, false, "if@(1);");
        within(40, false, "@if(1);");
        within(38, true, "if(1){}");
        within(38, false, "if(1){@{}}");
        within(38, false, "if(@(1));");
        within(37, true, "if((1)){{}}");
        rightS(times(38, "if(1)") + ";");
        wrongS(8, times(38, "if(1)") + "if@(1);");
    }

    /** Kind 8: while likewise. */
    private static void eightWhile() {
        check.sentence("Terms I", "if, while, else, each till what it opens ends");
        within(38, true, "while(1);");
        within(39, false, "while@(1);");
        within(40, false, "@while(1);");
        within(38, true, "while(1){}");
        within(38, false, "while(1){@{}}");
        within(38, false, "while(@(1));");
        within(37, true, "while((1)){{}}");
        rightS(times(38, "while(1)") + ";");
        wrongS(8, times(38, "while(1)") + "while@(1);");
    }

    /** Kind 8: else is within its if; no else can be too deep, as its if's ( is as deep, but what is in it can. */
    private static void eightElse() {
        check.sentence("Terms I", "if, while, else, each till what it opens ends (else: at it)");
        within(37, true, "if(1);else{}");
        within(38, true, "if(1);else;");
        within(38, true, "if(1);else v=1;");
        within(38, false, "if(1);else@{}");
        within(38, false, "if(1);else print@(1);");
        within(38, false, "if(1);else v=@-1;");
        within(38, false, "if(1);else @if(1);");
        within(38, false, "if(1);else @while(1);");
        within(37, false, "if(1);else if@(1);");
        within(36, true, "if(1);else if(1);");
        within(38, true, "if(1){}else;");
        within(37, true, "if(1){{}}else{}");
        // behind its S neither the if nor the else is open
        within(38, true, "if(1);else;{{}}");
        within(38, false, "if(1);else;{{@{}}}");
        within(38, true, "if(1);{{}}");
        within(38, false, "if(1);{{@{}}}");
    }

    /** Kind 8: what has ended is not counted, however many there were. */
    private static void eightTillWhatItOpensEnds() {
        check.sentence("Terms I", "each till what it opens ends");
        within(39, true, times(41, "{}"));
        within(39, true, times(41, "v=(1);"));
        within(39, true, times(41, "v=-1;"));
        within(39, true, "v=" + times(41, "-1+") + "-1;");
        within(39, true, "v=" + times(41, "(1)+!1*a[1]-n()+read()+") + "1;");
        within(39, true, times(41, "a[1]=1;n();print(1);"));
        within(38, true, times(41, "if(1);"));
        within(38, true, times(41, "if(1);else;"));
        within(38, true, times(41, "while(1);"));
        check.right(manyFunctions(45) + "int main(){}");
        check.right(manyArrays(45) + "int main(){}");
    }

    private static String manyFunctions(int count) {
        StringBuilder b = new StringBuilder();
        for (int i = 0; i < count; i++) {
            b.append("int f").append(i).append("(int x){{}}");
        }
        return b.toString();
    }

    private static String manyArrays(int count) {
        StringBuilder b = new StringBuilder();
        for (int i = 0; i < count; i++) {
            b.append("int a").append(i).append("[1];");
        }
        return b.toString();
    }

    // ---- 9 ----

    /**
     * Each mark takes four cells, in this order: with every number of cells up to four more than they all
     * need, 9 stands at the first mark for which there are not four left.
     */
    private static void cellsFor(String marked) {
        String[] pieces = marked.split("@", -1);
        String text = marked.replace("@", "");
        int marks = pieces.length - 1;
        for (int cells = 0; cells <= 4 * marks + 4; cells++) {
            int place = 0;
            for (int i = 0; i <= cells / 4 && i < marks; i++) {
                place += pieces[i].length();
            }
            int due = cells / 4 < marks ? 9 + 16 * place : 0;
            check.due("compile() with " + cells + " cells of " + marked, Check.fed(new TinyC(500, cells, 500, 9, 9), text).compile(), due);
        }
    }

    /** Kind 9: four for each of them, wherever the E stands. */
    private static void nineNumberNameRead() {
        check.sentence("Terms I", "9 there are not four cells of the tree left for it: four for each NUMBER, NAME and read in an E,");
        cellsFor("int @main(){@return @1;}");
        cellsFor("int v;int @main(){@return @v;}");
        cellsFor("int @main(){@return @read();}");
        cellsFor("int a[3];int @main(){@return @a[@1];}");
        cellsFor("int a[3];int @main(){@return @a[@a[@a[@2]]];}");
        cellsFor("int @f(int x,int y){@return @x;}int @main(){@return @f(@1,@2);}");
        cellsFor("int @main(){@return @main();}");
        cellsFor("int @main(){int x=@1;int y;int z=@x;}");
        cellsFor("int v;int @main(){@v=@v;}");
        cellsFor("int a[3];int @main(){@a[@1]=@read();}");
        cellsFor("int @main(){@print(@1);@if(@1)@;@while(@0)@;}");
    }

    /** Kind 9: each sign of one and of two parts; no brackets, no commas. */
    private static void nineSigns() {
        check.sentence("Terms I", "sign of an E (not brackets),");
        for (String sign : E_GOES_ON.split(" ")) {
            cellsFor("int @main(){@return @1@" + sign + "@2;}");
            cellsFor("int @main(){@return (@1@" + sign + "(@2))@" + sign + "@3;}");
        }
        for (String sign : new String[] {"-", "!", "~"}) {
            cellsFor("int @main(){@return @" + sign + "@1;}");
            cellsFor("int @main(){@return @" + sign + "@" + sign + "(@" + sign + "@1);}");
        }
        cellsFor("int @main(){@return ((((@1))));}");
        cellsFor("int @f(int x,int y,int z){}int @main(){@return @f((@1),(@2),(@3));}");
    }

    /** Kind 9: at its first token, each of them. */
    private static void nineStatements() {
        check.sentence("Terms I", "S (at its first token;");
        cellsFor("int @main(){@;}");
        cellsFor("int @main(){@;@;@;}");
        cellsFor("int @main(){@if(@1)@;}");
        cellsFor("int @main(){@if(@1)@;else @;}");
        cellsFor("int @main(){@if(@1)@if(@2)@;else @;else @;}");
        cellsFor("int @main(){@while(@1)@;}");
        cellsFor("int @main(){@while(@1)@while(@2)@;}");
        cellsFor("int @main(){@return @1;}");
        cellsFor("int @main(){@print(@1);}");
        cellsFor("int v;int @main(){@v=@1;}");
        cellsFor("int a[2];int @main(){@a[@0]=@1;}");
        cellsFor("int @main(){int x;@x=@1;}");
    }

    /** Kind 9: a BLOCK that is an S, empty or not; a FUNCTION's own has none. */
    private static void nineBlocks() {
        check.sentence("Terms I", "an S that is a BLOCK, too, a FUNCTION's own not;");
        cellsFor("int @main(){}");
        cellsFor("int @main(){@{}}");
        cellsFor("int @main(){@{@{}@{}}}");
        cellsFor("int @main(){@{@;@;}}");
        cellsFor("int @main(){@{int x;int y;}}");
        cellsFor("int @main(){@if(@1)@{}else @{}}");
        cellsFor("int @main(){@while(@1)@{@;}}");
    }

    /** Kind 9: the call's NAME has none of its own, its parts have. */
    private static void nineCallAlone() {
        check.sentence("Terms I", "a call as S has these four alone)");
        cellsFor("int @main(){@main();}");
        cellsFor("int @f(int x,int y){}int @main(){@f(@1,@2);}");
        cellsFor("int @f(int x,int y){}int @main(){@f(@f(@1,@2),@-@3);}");
    }

    /** Kind 9: at its NAME, but as its ( is come to; nothing for its parameters. */
    private static void nineFunctions() {
        check.sentence("Terms I", "FUNCTION (its NAME, met as its ( is come to)");
        cellsFor("int @main(){}");
        cellsFor("int @f(){}int @main(){}int @g(){}");
        cellsFor("int @f(int a,int b,int c,int d,int e,int f,int g,int h){}int @main(){}");
        check.wrongWith(3, 4096, 9, "int @main(");
        check.wrongWith(3, 4096, 9, "int @main  (");
        check.wrongWith(3, 4096, 9, "int @main(#");
        check.wrongWith(3, 4096, 2, "int main@)");
        check.wrongWith(3, 4096, 2, "int main@");
        check.wrongWith(3, 4096, 1, "int main@#(");
        check.wrongWith(4, 4096, 2, "int main(@");
    }

    /** Kind 9: with four cells for main there are none for GLOBALS, arrays, LOCALS and parameters, nor are they due. */
    private static void nineNothingElse() {
        check.sentence("Terms I", "9 there are not four cells of the tree left for it:");
        cellsFor("int v;int a[9];int w;int @main(){int x;int y;int z;}int b[2];");
        check.wrongWith(0, 4096, 7, "int v;int a[1000];int w;@");
        check.wrongWith(0, 4096, 11, "int v;int a[@1001];");
    }

    // ---- 11 ----

    /** Kind 11: the largest NUMBER, the next one, the largest of ten digits; ahead of it a - changes nothing. */
    private static void elevenNumbers() {
        check.sentence("Terms I", "11 a NUMBER above 2147483647,");
        for (String fits : new String[] {"0", "1", "2147483646", "2147483647", "0000000000"}) {
            rightS("v=" + fits + ";");
            rightS("v=-" + fits + ";");
        }
        for (String tooLarge : new String[] {"2147483648", "2147483649", "2200000000", "3000000000", "4294967295", "4294967296", "4294967297",
            "6442450943", "9999999999"}) {
            wrongS(11, "v=@" + tooLarge + ";");
            wrongS(11, "v=-@" + tooLarge + ";");
            wrongS(11, "v=a[@" + tooLarge + "];");
            wrongS(11, "f(@" + tooLarge + "#");
            wrongS(11, "int x=@" + tooLarge + ";");
        }
        wrongS(1, "v=@02147483648;");
        check.prints("int main(){print(2147483647);print(-2147483647);print(2147483646);}", 2147483647, -2147483647, 2147483646);
    }

    /** Kind 11: 0, 1, 2, 999, 1000, 1001 and those that are as large as none may be. */
    private static void elevenArrays() {
        check.sentence("Terms I", "an array's that is 0 or above 1000");
        for (String fits : new String[] {"1", "2", "999", "1000", "0000000001", "0000001000"}) {
            check.right("int b[" + fits + "];int main(){}");
        }
        for (String beyond : new String[] {"0", "00", "0000000000", "1001", "1002", "2000", "4097", "65537", "2147483647", "2147483648",
            "4294967296", "4294967297", "4294968296", "9999999999"}) {
            check.wrong(11, "int b[@" + beyond + "];int main(){}");
            check.wrong(11, "int b[@" + beyond + "#");
        }
        check.wrong(2, "int b[@-1];");
        check.wrong(1, "int b[@00000000001];");
    }

    // ---- 7, 10 ----

    /** Kind 7: no main, a variable, an array, one with a parameter, other NAMES; one without parameters, first or last. */
    private static void sevenNoMain() {
        check.sentence("Terms I", "At the end of the text: 7 there is no FUNCTION main without parameters,");
        for (String text : new String[] {"", " ", "int v;", "int main;", "int main[1];", "int main(int x){}", "int main(int x,int y){}",
            "int Main(){}", "int mai(){}", "int main1(){}", "int f(){int main;}", "int f(int main){}"}) {
            check.wrong(7, text + "@");
            check.wrong(7, text + " \n @");
        }
        check.right("int main(){}");
        check.right("int f(int main){}int main(){}");
        check.right("int main(){}int f(){}int v;");
    }

    /** Kind 10: for a text with each sort of code, every number of cells up to one more than it needs. */
    private static void tenMoreThanItsCells() {
        check.sentence("Terms I", "then 10 the code would have more than its cells (both at the text's length).");
        String text = "int v;int a[2];int f(int x){int y=x;return y;}int main(){v=1&&2||3;a[f(1)]=-v;if(v)f(2);else while(v)v=0;print(read());} ";
        // 4, f: 2 + 4 + 4 + 4, main: 2 + (2 + 2 + 2 + 8 + 6 + 2 + 8 + 2) + (2 + 3 + 2 + 1 + 3) + (4 + 6 + 2 + 4 + 4 + 2) + 2 + 4
        int size = 4 + 14 + 2 + 32 + 11 + 22 + 2 + 4;
        for (int cells = 0; cells <= size + 1; cells++) {
            TinyC x = Check.fed(new TinyC(500, 500, cells, 9, 9), text);
            check.due("compile() with " + cells, x.compile(), cells < size ? 10 + 16 * text.length() : 0);
            check.due("codeSize() with " + cells, x.codeSize(), cells < size ? 0 : size);
        }
        // the least code of all
        check.wrongWith(4096, 9, 10, "int main(){}@");
        check.due("compile() with 10", Check.fed(new TinyC(99, 99, 10, 9, 9), "int main(){}").compile(), 0);
        check.due("compile() with 11", Check.fed(new TinyC(99, 99, 11, 9, 9), "int main(){}").compile(), 0);
    }

    /** Kinds 7 and 10: without cells and without main it is 7; faults ahead of the end come first. */
    private static void sevenThenTen() {
        check.sentence("Terms I", "7 there is no FUNCTION main without parameters, then 10 the code would have more than its cells");
        check.wrongWith(4096, 0, 7, "@");
        check.wrongWith(4096, 0, 7, "int f(){}@");
        check.wrongWith(4096, 3, 7, "int main(int x){}@");
        check.wrongWith(4096, 0, 10, "int main(){}@");
        check.wrongWith(4096, 0, 10, "int main(){} @");
        check.wrongWith(4096, 0, 2, "int main(){}@;");
        check.wrongWith(4096, 0, 2, "int main(){@");
        check.wrongWith(4096, 15, 10, "int main(){}int f(){}@");
        check.wrongWith(0, 0, 9, "int @main(){}");
    }
}
