/** What tests share: the count of wrong answers, and objects that begin with LAWS or WORDS. */
final class Checks {
    private final String test;
    private String sentence = "";
    private int asked = 0;
    private int wrong = 0;

    Checks(String test) {
        this.test = test;
    }

    /** The sentence of the document that the next answers are about. */
    void sentence(String text) {
        sentence = text;
    }

    void due(String call, long got, long want) {
        asked++;
        if (got != want) {
            wrong++;
            System.out.println(sentence + ": " + call + " answered " + got + ", due is " + want);
        }
    }

    void need(String what, boolean holds) {
        due(what, holds ? 1 : 0, 1);
    }

    void dueFault(String text, int place) {
        due("laws of '" + text + "'", read(text), -10 - place);
    }

    void end() {
        System.out.println(test + ": " + wrong + " of " + asked + " answers are not as due");
        if (wrong > 0 || asked == 0) System.exit(1);
    }

    /** Eight bytes a call, for an object is good for 512 calls. */
    static void type(HandsPicture it, String text) {
        for (int i = 0; i < text.length(); i += 8) {
            int end = Math.min(text.length(), i + 8);
            long v = 0;
            for (int k = i; k < end; k++) v = v << 8 | text.charAt(k);
            it.type(v, end - i);
        }
    }

    static int read(String text) {
        return readAnew(new HandsPicture(), text);
    }

    static int readAnew(HandsPicture it, String text) {
        type(it, text);
        return it.laws();
    }

    static HandsPicture with(String laws) {
        HandsPicture it = new HandsPicture();
        int many = readAnew(it, laws);
        if (many < 0) throw new IllegalStateException("not LAWS: " + laws);
        return it;
    }

    static HandsPicture withWords(int... widths) {
        HandsPicture it = new HandsPicture();
        for (int width : widths) it.word(width);
        return it;
    }
}
