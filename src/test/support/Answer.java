/** A call and what the book answered to it. */
record Answer(String call, int value) {
    void is(int due) {
        if (value != due) {
            Sentences.wrong(call + " answered " + value + ", due is " + due);
        }
    }
}
