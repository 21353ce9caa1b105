/** Promises 2 to 4: put, clear and size. */
final class TextsTest {
    private static final int[] EDGES = {
        Integer.MIN_VALUE, -1000, -1, 2, 3, 256, 65536, Integer.MAX_VALUE
    };

    private TextsTest() {
    }

    public static void main(String[] args) {
        theHighestByteComesFirst();
        onlyTheLowestBytesCount();
        wrongArgumentsChangeNothing();
        everyCharacterIsTakenOrRefused();
        aTextHasARoom(0, 100);
        aTextHasARoom(1, 420);
        clearEmptiesOneText();
        Check.end();
    }

    private static void theHighestByteComesFirst() {
        ReadCaller x = new ReadCaller();
        Check.same("put >ab newline", x.put(0, Run.word(">ab\n"), 4), true);
        Check.same("put ACG", x.put(0, Run.word("ACG"), 3), true);
        Check.same("put T newline", x.put(0, Run.word("T\n"), 2), true);
        Check.same("put @", x.put(1, '@', 1), true);
        Check.same("size(0)", x.size(0), 9);
        Check.same("size(1)", x.size(1), 1);
        Check.same("call(0)", x.call(0), -2001);
        Check.same("clear(1)", x.clear(1), true);
        Check.same("call(0)", x.call(0), 0);
    }

    private static void onlyTheLowestBytesCount() {
        ReadCaller x = new ReadCaller();
        Check.same("put >", x.put(0, 0xFF000900 | '>', 1), true);
        Check.same("put a newline", x.put(0, 0x80FF0000 | Run.word("a\n"), 2), true);
        Check.same("put AC newline", x.put(0, 0xFF000000 | Run.word("AC\n"), 3), true);
        Check.same("size(0)", x.size(0), 6);
        Check.same("call(0)", x.call(0), 0);
    }

    private static void wrongArgumentsChangeNothing() {
        ReadCaller x = new ReadCaller();
        x.put(0, 'a', 1);
        x.put(1, 'b', 1);
        for (int edge : EDGES) {
            Check.same("put into text " + edge, x.put(edge, 'A', 1), false);
            Check.same("clear of text " + edge, x.clear(edge), false);
            Check.same("size of text " + edge, x.size(edge), -1);
        }
        int[] counts = {Integer.MIN_VALUE, -4, -1, 0, 5, 8, Integer.MAX_VALUE};
        for (int n : counts) {
            Check.same("put of " + n, x.put(0, Run.word("AAAA"), n), false);
            Check.same("put of " + n, x.put(1, Run.word("AAAA"), n), false);
        }
        Check.same("size(0)", x.size(0), 1);
        Check.same("size(1)", x.size(1), 1);
    }

    private static void everyCharacterIsTakenOrRefused() {
        for (int c = 0; c < 256; c++) {
            boolean due = c == 10 || c >= 32 && c <= 126;
            for (int text = 0; text < 2; text++) {
                ReadCaller x = new ReadCaller();
                Check.same("put of character " + c, x.put(text, c, 1), due);
                Check.same("size", x.size(text), due ? 1 : 0);
                for (int at = 0; at < 4; at++) {
                    int word = Run.word("AAAA") & ~(255 << 8 * at) | c << 8 * at;
                    int size = x.size(text);
                    Check.same("put of character " + c + " among others", x.put(text, word, 4), due);
                    Check.same("size", x.size(text), due ? size + 4 : size);
                }
            }
        }
    }

    private static void aTextHasARoom(int text, int room) {
        ReadCaller x = new ReadCaller();
        for (int i = 0; i < room - 2; i += 2) {
            Check.same("put", x.put(text, Run.word("AA"), 2), true);
        }
        Check.same("put of too many", x.put(text, Run.word("AAA"), 3), false);
        Check.same("put of too many", x.put(text, Run.word("AAAA"), 4), false);
        Check.same("size", x.size(text), room - 2);
        Check.same("put of the last two", x.put(text, Run.word("AA"), 2), true);
        Check.same("size", x.size(text), room);
        Check.same("put of one too many", x.put(text, 'A', 1), false);
        Check.same("size", x.size(text), room);
        Check.same("the other text's size", x.size(1 - text), 0);
        Check.same("clear", x.clear(text), true);
        Check.same("size", x.size(text), 0);
        Check.same("put again", x.put(text, 'A', 1), true);
    }

    private static void clearEmptiesOneText() {
        ReadCaller x = new ReadCaller();
        x.put(0, Run.word("AAA"), 3);
        x.put(1, Run.word("AA"), 2);
        Check.same("clear(1)", x.clear(1), true);
        Check.same("size(0)", x.size(0), 3);
        Check.same("size(1)", x.size(1), 0);
        Check.same("clear(1) of an empty text", x.clear(1), true);
        Check.same("clear(0)", x.clear(0), true);
        Check.same("size(0)", x.size(0), 0);
    }
}
