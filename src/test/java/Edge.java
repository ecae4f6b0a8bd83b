/** A test of one sentence of the document: the number of the promise in which it shows, the sentence, and the test. */
record Edge(int promise, String sentence, Runnable test) {
    static final String NO_MEASURE = "Throws IndexOutOfBoundsException if there is no such measure";
    static final String NO_VOICE = "Throws IndexOutOfBoundsException if there is no such measure or voice";
    static final String NO_EVENT = "Throws IndexOutOfBoundsException if there is no such measure, voice or event";
    static final String MEASURE = "measure: number of a measure";
    static final String VOICE = "voice: 0 or 1";
    static final String UNDOABLE = "Undoable.";
    static final String RETURNS_VALUE = "Returns that value.";
    static final String RETURNS_NUMBER = "Returns the number.";
    static final String RETURNS_LENGTH = "Returns the length of the text.";
    static final String CHANGES_NOTHING = "A call that throws an exception changes nothing.";
    static final String FIRST_LISTED = "If several exceptions of a method apply, the one that is listed first is thrown.";
    static final String NONE_LAST = "NONE is returned only if no exception applies.";
}
