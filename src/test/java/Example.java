/** How TinyC is used: README.md shows this file and what it prints. */
final class Example {
    private static final String TEXT = "int half(int n){return n/2;} int main(){print(half(read()));return 7;}";

    public static void main(String[] args) {
        TinyC x = new TinyC(400, 400, 400, 200, 20);
        for (int i = 0; i < TEXT.length(); i++) {
            x.feed(TEXT.charAt(i));
        }
        x.input(84);
        System.out.println("compile: " + x.compile());
        System.out.println("code: " + x.codeSize() + " cells, the first one is " + x.codeAt(0));

        System.out.println("step: " + x.step());
        System.out.println("run: " + x.run(1000));
        printOut(x);

        System.out.println("interpret, as the machine has begun: " + x.interpret(1000));
        x.reset();
        System.out.println("interpret, three STEPS: " + x.interpret(3));
        System.out.println("interpret, the others: " + x.interpret(1000));
        printOut(x);
    }

    private static void printOut(TinyC x) {
        for (int i = 0; i < x.outSize(); i++) {
            System.out.println("out(" + i + "): " + x.out(i));
        }
    }
}
