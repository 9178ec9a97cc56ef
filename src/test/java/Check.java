import java.nio.file.Path;
import java.util.Arrays;

/** Compares answers with those that are due, and tells those that differ. */
final class Check {
    private final String test;
    private int calls;
    private int wrong;
    private Doc doc;
    private int sentences;
    /** What the answers are about: the test, or a sentence of the document. */
    private String about;
    /** How many answers there were before those about this sentence. */
    private int before;

    Check(String test) {
        this.test = test;
        about = test;
    }

    /** The answers from here on are about these words of that part of the document. */
    void sentence(String part, String words) {
        endSentence();
        doc = doc == null ? new Doc(Path.of("../shared/DOC.md")) : doc;
        sentences++;
        about = test + ", " + part + ": \"" + words + "\"";
        due("the words stand in the document", doc.says(part, words) ? 1 : 0, 1);
        before = calls;
    }

    private void endSentence() {
        if (sentences > 0) {
            due("there are answers about it", calls > before ? 1 : 0, 1);
        }
    }

    void due(String call, long got, long due) {
        calls++;
        if (got != due) {
            wrong++;
            System.out.println(about + ": " + call + " answered " + got + ", due is " + due);
        }
    }

    /** Ends the test: with exit code 1 if an answer was wrong. */
    void end() {
        endSentence();
        String told = sentences > 0 ? " about " + sentences + " sentences" : "";
        System.out.println(test + ": " + calls + " answers" + told + ", " + wrong + " not as due");
        if (wrong != 0 || calls == 0) {
            System.exit(1);
        }
    }

    /** compile() tells this kind at the mark @, which is left out of the text. */
    void wrong(int kind, String marked) {
        wrongWith(4096, 4096, kind, marked);
    }

    void wrongWith(int astCells, int codeCells, int kind, String marked) {
        int place = marked.indexOf('@');
        String text = marked.replace("@", "");
        TinyC x = fed(new TinyC(4096, astCells, codeCells, 100, 9), text);
        due("compile() of " + marked, x.compile(), kind + 16 * place);
        due("codeSize() of " + marked, x.codeSize(), 0);
        due("run(9) of " + marked, x.run(9), -1);
    }

    void right(String text) {
        due("compile() of " + text, fed(roomy(), text).compile(), 0);
    }

    static TinyC roomy() {
        return new TinyC(4096, 4096, 4096, 4096, 100);
    }

    static TinyC fed(TinyC x, String text) {
        for (int i = 0; i < text.length(); i++) {
            x.feed(text.charAt(i));
        }
        return x;
    }

    /** An object with room enough that has compiled this text. */
    TinyC made(String text, int... inputs) {
        return madeWith(4096, 100, text, inputs);
    }

    TinyC madeWith(int memCells, int ioCells, String text, int... inputs) {
        TinyC x = fed(new TinyC(4096, 4096, 4096, memCells, ioCells), text);
        for (int w : inputs) {
            x.input(w);
        }
        due("compile() of " + text, x.compile(), 0);
        return x;
    }

    void outs(String call, TinyC x, int... due) {
        int[] got = new int[x.outSize()];
        for (int i = 0; i < got.length; i++) {
            got[i] = x.out(i);
        }
        due(call + ": outs are " + Arrays.toString(got) + ", due are " + Arrays.toString(due) + ", same",
            Arrays.equals(got, due) ? 1 : 0, 1);
    }

    /** What comes out, on both machines, ahead of main's own value. */
    void prints(String text, int... due) {
        for (int which = 0; which < 2; which++) {
            TinyC x = made(text);
            due((which == 0 ? "run of " : "interpret of ") + text, which == 0 ? x.run(100000) : x.interpret(100000), 1);
            outs(text, x, Arrays.copyOf(due, due.length + 1));
        }
    }

    /** Both machines come to this end. */
    void ends(String text, int status, int... inputs) {
        due("run of " + text, made(text, inputs).run(100000), status);
        due("interpret of " + text, made(text, inputs).interpret(100000), status);
    }
}
