/** The class under test with a shorter way to tell RULES. */
final class Desk {
    private Desk() {
    }

    static PremiumHours with(String rules) {
        PremiumHours desk = new PremiumHours();
        if (tell(desk, rules) < 0) {
            throw new IllegalStateException("faulty rules in a test: " + rules);
        }
        return desk;
    }

    /** What rules answers to this text. */
    static int tell(PremiumHours desk, String rules) {
        feed(desk, rules);
        return desk.rules(rules.length());
    }

    static void feed(PremiumHours desk, String text) {
        for (int i = 0; i < text.length(); i += 20) {
            int[] numbers = new int[5];
            for (int k = 0; k < 20; k++) {
                int sign = i + k < text.length() ? text.charAt(i + k) : ' ';
                numbers[k / 4] = numbers[k / 4] << 8 | sign;
            }
            if (desk.feed(numbers[0], numbers[1], numbers[2], numbers[3], numbers[4]) < 0) {
                throw new IllegalStateException("no room on the tape in a test");
            }
        }
    }

    /** A worker comes and goes: minutes of the day, of the same day. */
    static void work(PremiumHours desk, int worker, int day, int comes, int goes) {
        desk.punch(worker, 0, day, comes, false);
        desk.punch(worker, 1, day, goes, false);
    }
}
