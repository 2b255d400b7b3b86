/** Plain texts of any size, so that nothing but the size itself can be wrong. */
final class Texts {
    private Texts() {
    }

    /** Inputs and gates on variables 1, 2 ..; each gate is the variable before it AND itself, each output the last one. */
    static String chain(boolean binary, int largest, int inputs, int outputs, int gates) {
        StringBuilder text = new StringBuilder(binary ? "aig " : "aag ");
        text.append(largest + " " + inputs + " 0 " + outputs + " " + gates + "\n");
        for (int k = 1; k <= inputs && !binary; k++) {
            text.append(2 * k + "\n");
        }
        for (int k = 0; k < outputs; k++) {
            text.append(2 * (inputs + gates) + "\n");
        }
        for (int k = 1; k <= gates; k++) {
            int own = 2 * (inputs + k);
            text.append(binary ? "\2\0" : own + " " + (own - 2) + " " + (own - 2) + "\n");
        }
        return text.toString();
    }

    /** An aag of the greatest size: inputs on variables 1000, 999 .., gates on 1 .. 300, each output another gate. */
    static String full() {
        return wide(300);
    }

    /** The same with fewer gates, 16 at least. */
    static String wide(int gates) {
        StringBuilder text = new StringBuilder("aag 1000 14 0 16 " + gates + "\n");
        for (int k = 0; k < 14; k++) {
            text.append(2000 - 2 * k + "\n");
        }
        for (int k = 0; k < 16; k++) {
            text.append(2 * gates - 2 * k + "\n");
        }
        for (int k = 1; k <= gates; k++) {
            text.append(2 * k + " " + (2001 - 2 * (k % 14)) + " " + (k == 1 ? 2000 : 2 * k - 1) + "\n");
        }
        return text.toString();
    }

    static String step(int step) {
        if (step < 128) {
            return String.valueOf((char) step);
        }
        return "" + (char) (128 + step % 128) + (char) (step / 128);
    }
}
