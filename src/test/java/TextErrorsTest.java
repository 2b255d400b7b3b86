/** Promise 3 and the document's errors 1 to 8, each with its place (look 4 and 5). */
final class TextErrorsTest {
    public static void main(String[] args) {
        kinds();
        firstLines();
        sizes();
        lines();
        steps();
        ends();
        literals();
        stepLiterals();
        nothing();
        loops();
        Check.end();
    }

    private static void due(String text, int error, int place) {
        Check.dueLoad(text, error, place);
    }

    private static void kinds() {
        for (String text : new String[] {"", "a", "aag", "aig", "aag\n", "aag\t0 0 0 0 0\n", "abg 0 0 0 0 0\n", "AAG 0 0 0 0 0\n",
            "bag 0 0 0 0 0\n", "aah 0 0 0 0 0\n", " aag 0 0 0 0 0\n"}) {
            due(text, 1, 0);
        }
        due("aag 0 0 0 0 0\n", 0, 0);
        due("aig 0 0 0 0 0\n", 0, 0);
    }

    private static void firstLines() {
        due("aag ", 2, 4);
        due("aig ", 2, 4);
        due("aag  0 0 0 0 0\n", 2, 4);
        due("aag \n", 2, 4);
        due("aag -1 0 0 0 0\n", 2, 4);
        due("aag 00 0 0 0 0\n", 2, 5);
        due("aag 01 0 0 0 0\n", 2, 5);
        due("aag 0 0 0 0\n", 2, 11);
        due("aag 0 0 0 0 \n", 2, 12);
        due("aag 0 0 0 0 0 \n", 2, 13);
        due("aag 0 0 0 0 0 0\n", 2, 13);
        due("aag 0 0 0 0 0", 2, 13);
        due("aag 0 0 0 0 0\r\n", 2, 13);
        due("aag 0  0 0 0 0\n", 2, 6);
        due("aag 0 0 0 0 /\n", 2, 12);
        due("aag 0 0 0 0 :\n", 2, 12);
        due("aag 1234567890 0 1 0 0\n", 2, 13);
        due("aag 123456789", 2, 13);
        due("aag 0 0 1 0 x\n", 2, 12);
    }

    private static void sizes() {
        due("aag 999999999 999999999 1 999999999 999999999\n", 3, 0);
        due("aig 1 1 2 0 0\n", 3, 0);
        due("aag 999999999 999999999 0 999999999 999999999\n", 4, 0);
        due("aag 1001 0 0 0 0\n", 4, 0);
        due("aag 1000 0 0 0 0\n", 0, 0);
        due("aag 1000 15 0 0 0\n", 4, 0);
        due("aag 1000 0 0 17 0\n", 4, 0);
        due("aag 1000 0 0 0 301\n", 4, 0);
        due("aag 1000 14 0 16 300\n", 5, 21);
        due("aag 2 1 0 0 2\n", 4, 0);
        due("aag 3 1 0 0 2\n", 5, 14);
        due("aig 3 1 0 0 1\n", 4, 0);
        due("aig 1 1 0 0 1\n", 4, 0);
        due("aig 2 1 0 0 1\n", 5, 14);
        due("aig 14 14 0 0 0\n", 0, 0);
        due("aig 15 15 0 0 0\n", 4, 0);
        due("aig 300 0 0 0 300\n" + "\2\0".repeat(300), 0, 0);
        due("aig 301 0 0 0 301\n" + "\2\0".repeat(301), 4, 0);
        due("aag 0 0 0 16 0\n" + "1\n".repeat(16), 0, 0);
    }

    private static void lines() {
        due("aag 1 1 0 0 0\n", 5, 14);
        due("aag 1 1 0 0 0\n2", 5, 15);
        due("aag 1 1 0 0 0\n2 \n", 5, 15);
        due("aag 1 1 0 0 0\n02\n", 5, 15);
        due("aag 1 1 0 0 0\nx\n", 5, 14);
        due("aag 1 1 0 0 0\n\n", 5, 14);
        due("aag 1 1 0 1 0\n2\n", 5, 16);
        due("aag 1 1 0 1 0\n2\n3 3\n", 5, 17);
        due("aag 2 1 0 0 1\n2\n4 2\n", 5, 19);
        due("aag 2 1 0 0 1\n2\n4 2 3", 5, 21);
        due("aag 2 1 0 0 1\n2\n4 2 3 \n", 5, 21);
        due("aag 2 1 0 0 1\n2\n4  2 3\n", 5, 18);
        due("aag 2 1 0 0 1\n2\n4 1234567890 3\n", 5, 27);
        // the form of a line comes before its literals, what stands before it does not
        due("aag 2 1 0 0 1\n2\n5 9 9", 5, 21);
        due("aag 2 1 0 0 1\n3\n4 2", 6, 14);
    }

    private static void steps() {
        due("aig 2 1 0 0 1\n\2", 5, 15);
        due("aig 2 1 0 0 1\n\200", 5, 15);
        due("aig 2 1 0 0 1\n\200\0", 5, 15);
        due("aig 2 1 0 0 1\n\200\200", 5, 15);
        due("aig 2 1 0 0 1\n\377\377\1", 5, 15);
        due("aig 2 1 0 0 1\n\2\200\0", 5, 16);
        due("aig 2 1 0 0 1\n\2\377", 5, 16);
        due("aig 2 1 0 0 1\n\2\200\200\1", 5, 16);
        due("aig 2 1 0 1 1\n5", 5, 15);
        due("aig 2 1 0 1 1\n5\n", 5, 16);
        // gate 99 of 100 is literal 200: a step of two bytes up to 200
        due("aig 100 0 0 0 100\n" + "\2\0".repeat(99) + "\310\1\0", 0, 0);
        due("aig 100 0 0 0 100\n" + "\2\0".repeat(99) + "\311\1\0", 6, 18 + 198);
    }

    private static void ends() {
        due("aag 0 0 0 0 0\nc\n", 0, 0);
        due("aag 0 0 0 0 0\nc\nwhatever\0\377 there is", 0, 0);
        due("aig 2 1 0 0 1\n\2\0c\n", 0, 0);
        due("aag 0 0 0 0 0\nc", 5, 15);
        due("aag 0 0 0 0 0\nc \n", 5, 15);
        due("aag 0 0 0 0 0\n\n", 5, 14);
        due("aag 0 0 0 0 0\ni0 x\nc\n", 5, 14);
        due("aag 1 1 0 0 0\n2\n4\n", 5, 16);
        due("aig 2 1 0 0 1\n\2\0\n", 5, 16);
        due("aig 2 1 0 0 1\n\2\0C\n", 5, 16);
    }

    private static void literals() {
        due("aag 2 2 0 0 0\n2\n3\n", 6, 16);
        due("aag 2 2 0 0 0\n0\n2\n", 6, 14);
        due("aag 2 2 0 0 0\n1\n2\n", 6, 14);
        due("aag 2 2 0 0 0\n2\n6\n", 6, 16);
        due("aag 2 2 0 0 0\n2\n5\n", 6, 16);
        due("aag 2 2 0 0 0\n2\n2\n", 6, 16);
        due("aag 2 2 0 0 0\n999999999\n2\n", 6, 14);
        due("aag 2 2 0 2 0\n2\n4\n5\n6\n", 6, 20);
        due("aag 2 2 0 2 0\n2\n4\n5\n0\n", 0, 0);
        due("aig 2 2 0 2 0\n5\n6\n", 6, 16);
        due("aag 3 1 0 0 2\n2\n4 2 2\n4 2 2\n", 6, 22);
        due("aag 3 1 0 0 2\n2\n4 2 2\n2 2 2\n", 6, 22);
        due("aag 3 1 0 0 2\n2\n4 2 2\n7 2 2\n", 6, 22);
        due("aag 3 1 0 0 2\n2\n4 2 2\n8 2 2\n", 6, 22);
        due("aag 3 1 0 0 2\n2\n4 2 2\n0 2 2\n", 6, 22);
        due("aag 3 1 0 0 2\n2\n4 2 2\n1 2 2\n", 6, 22);
        due("aag 3 1 0 0 2\n2\n4 8 9\n5 2 2\n", 6, 18);
        due("aag 3 1 0 0 2\n2\n4 7 8\n5 2 2\n", 6, 20);
        due("aag 3 1 0 0 2\n2\n5 8 8\n6 2 2\n", 6, 16);
        // gates one by one: the first one's literals come before the second one's form
        due("aag 3 1 0 0 2\n2\n4 8 2\n6 2\n", 6, 18);
    }

    private static void stepLiterals() {
        due("aig 2 1 0 0 1\n\0\0", 6, 14);
        due("aig 2 1 0 0 1\n\5\0", 6, 14);
        due("aig 2 1 0 0 1\n\4\0", 0, 0);
        due("aig 2 1 0 0 1\n\1\3", 0, 0);
        due("aig 2 1 0 0 1\n\1\4", 6, 15);
        due("aig 2 1 0 0 1\n\4\1", 6, 15);
        // p is looked at before q is read
        due("aig 2 1 0 0 1\n\0", 6, 14);
        due("aig 2 1 0 0 1\n\200\1\200", 6, 14);
        due("aig 2 1 0 0 1\n\2\200\1", 6, 15);
    }

    private static void nothing() {
        due("aag 9 1 0 2 1\n2\n18\n9\n6 2 2\n", 7, 4);
        due("aag 9 1 0 1 1\n2\n6\n6 15 10\n", 7, 5);
        due("aag 9 1 0 1 1\n2\n6\n6 10 15\n", 7, 5);
        due("aag 9 1 0 1 1\n2\n17\n6 2 0\n", 7, 8);
        due("aag 9 1 0 1 1\n2\n1\n6 0 1\n", 0, 0);
        due("aag 1000 0 0 2 0\n1\n2001\n", 7, 1000);
        // behind all others, the end too, and before loops
        due("aag 9 1 0 1 1\n2\n6\n6 10 15\nx", 5, 26);
        due("aag 9 1 0 1 1\n2\n6\n6 6 15\n", 7, 7);
    }

    private static void loops() {
        due("aag 2 1 0 0 1\n2\n4 4 2\n", 8, 2);
        due("aag 2 1 0 0 1\n2\n4 2 5\n", 8, 2);
        due("aag 2 1 0 0 1\n2\n4 2 5\nc", 5, 23);
        due("aag 3 0 0 0 3\n6 4 4\n4 6 6\n2 0 0\n", 8, 2);
        // 2 and 3 only lead to the loop of 5 and 4, and 6 is only led to
        due("aag 6 1 0 0 5\n2\n4 6 6\n6 8 8\n8 10 2\n10 9 12\n12 2 2\n", 8, 4);
        // two loops, 5 with itself and 3 with 6; 4 lies between them
        due("aag 6 1 0 0 5\n2\n4 8 2\n6 12 8\n8 10 2\n10 11 2\n12 7 2\n", 8, 3);
        due("aag 6 1 0 0 5\n2\n4 8 2\n6 8 8\n8 10 2\n10 11 2\n12 7 2\n", 8, 5);
        due(ring(300), 8, 1);
        due(leadingToLast(300), 8, 300);
    }

    private static String ring(int gates) {
        StringBuilder text = new StringBuilder("aag " + gates + " 0 0 0 " + gates + "\n");
        for (int k = 1; k <= gates; k++) {
            text.append(2 * k + " " + 2 * (k % gates + 1) + " 1\n");
        }
        return text.toString();
    }

    private static String leadingToLast(int gates) {
        StringBuilder text = new StringBuilder("aag " + gates + " 0 0 0 " + gates + "\n");
        for (int k = 1; k <= gates; k++) {
            text.append(2 * k + " " + 2 * Math.min(gates, k + 1) + " 1\n");
        }
        return text.toString();
    }
}
