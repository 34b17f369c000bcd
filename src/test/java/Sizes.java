/** How large an object is, as its answers show it: "P S Q R". Looking at R uses up a slot and some cycles. */
final class Sizes {
    private static final int FAR = 200;

    private Sizes() { }

    static String of(DvpSettler x) {
        int participants = 0;
        int securities = 0;
        int slots = 0;
        for (int i = 0; i < FAR; i++) {
            participants += x.cash(i) == -1 ? 0 : 1;
            securities += x.totalHolding(i) == -1 ? 0 : 1;
            slots += x.status(i) == -1 ? 0 : 1;
        }
        return participants + " " + securities + " " + slots + " " + recycles(x);
    }

    /** The cycles that it takes until an instruction that nobody can cover has failed. */
    private static int recycles(DvpSettler x) {
        int id = x.submit(Probe.parties(0, 1), 0, 1000000, 0);
        for (int cycles = 0; cycles < FAR; cycles++) {
            if (x.status(id) == DvpSettler.FAILED) {
                return cycles;
            }
            x.cycle();
        }
        return FAR;
    }
}
