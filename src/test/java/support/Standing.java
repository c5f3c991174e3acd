/** Which bytes can stand behind the front of a text: all the others are a FAULT 1, at their place. */
final class Standing {
    /** How a text is told to an album. */
    interface Reader {
        int read(MarginAlbum album, String text);
    }

    private final Bench bench;
    private final Reader reader;
    private final String print;

    /** Each text is told to an album of this print. */
    Standing(Bench bench, Reader reader, String print) {
        this.bench = bench;
        this.reader = reader;
        this.print = print;
    }

    /** The first byte that can't stand is the one behind the front, unless it is one of the able ones. */
    void behind(String front, String able) {
        for (int sign = 0; sign < 256; sign++) {
            int got = reader.read(Bench.printed(print), front + (char) sign);
            boolean isAble = able.indexOf(sign) >= 0;
            bench.due(front + " and byte " + sign + " can stand there", got != -1000 - front.length(), isAble);
        }
    }

    /** The text may not end behind the front. */
    void noEndBehind(String front) {
        due(front, -1000 - front.length());
    }

    void due(String text, int due) {
        bench.due(text, reader.read(Bench.printed(print), text), due);
    }
}
