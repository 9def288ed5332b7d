/** The boundaries that the document names, sentence by sentence. */
public final class BoundaryTest {
    public static void main(String[] args) {
        Sentences s = new Sentences(new Check("BoundaryTest"));
        NumberBoundaries.test(s);
        SendingBoundaries.test(s);
        RoundBoundaries.test(s);
        WidthBoundaries.test(s);
        TextBoundaries.test(s);
        ErrorBoundaries.test(s);
        Promises1To6.test(s);
        Promises7To12.test(s);
        Promises13To15.test(s);
        Promises16To20.test(s);
        Promises21To25.test(s);
        Promises26To28.test(s);
        s.finish();
    }
}
