/** Counts answers that are not the ones that are due, and tells of each. */
final class Due {
    private int wrong = 0;
    private int asked = 0;

    void is(String what, long got, long want) {
        asked++;
        if (got != want) {
            wrong++;
            if (wrong <= 40) {
                System.out.println(what + " answered " + got + ", due is " + want);
            }
        }
    }

    void holds(String what, boolean truth) {
        is(what, truth ? 1 : 0, 1);
    }

    int wrongs() {
        return wrong;
    }

    void end() {
        System.out.println(asked + " answers, " + wrong + " not as due");
        if (wrong != 0) {
            System.exit(1);
        }
    }

    /** A bank with texts typed into it. */
    static HoleBank bank(String holes, String works) {
        HoleBank bank = new HoleBank();
        type(bank, 0, holes);
        type(bank, 1, works);
        return bank;
    }

    static void type(HoleBank bank, int text, String bytes) {
        for (int i = 0; i < bytes.length(); i++) {
            bank.type(text, bytes.charAt(i));
        }
    }
}
