/** A call that a test makes, with the words that tell it. */
final class Call {
    /** What is called; a lambda in the tests. */
    interface Deed {
        int on(NameNets x);
    }

    final String words;
    final Deed deed;

    Call(String words, Deed deed) {
        this.words = words;
        this.deed = deed;
    }
}
