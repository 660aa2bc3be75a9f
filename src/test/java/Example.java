/** An evening in a hall: the example of README.md, which ReadmeTest compares with this file. */
public final class Example {
    public static void main(String[] args) {
        String text = """
                party ann; party bob;
                region north; ward hill north; ward lake north;
                box a hill 100 11 60 38 2;
                box b lake 50 12 25 24 1;
                table 0; table 20; table 99;
                """;
        CountHall hall = new CountHall();
        feed(hall, text);
        int statements = hall.load(text.length());
        if (statements < 0) {
            System.out.println("error " + statements + " at byte " + hall.errorPosition());
            return;
        }
        System.out.println(statements + " statements, " + hall.count(3) + " boxes, " + hall.count(4) + " tables");

        int hill = hall.named(2, letters("hill"));
        int lake = hall.named(2, letters("lake"));
        int a = hall.named(3, letters("a"));
        int b = hall.named(3, letters("b"));
        hall.bring(a);
        hall.bring(b);

        // Box a, step by step: its ward has a clear leader, so that one count is enough.
        int takenOff = hall.open(a, 0);
        int counts = hall.countBox(0);
        int putOn = hall.seal(0);
        System.out.println("seal " + takenOff + " taken off, counts: " + counts + ", seal " + putOn + " put on");
        System.out.println("why not hill: " + hall.whyNot(hill) + ", why not lake: " + hall.whyNot(lake));
        System.out.println("declared: ward " + hall.declare());
        System.out.println(written(hall, hill));

        // Box b: its ward is close, so that work goes on until two tables agree.
        while (hall.toCount() != 0 && hall.countsLeft(b) != CountHall.NOT_FOUND) {
            hall.work();
            int latest = hall.boxProperty(b, 3) - 1;
            System.out.println("table " + hall.countedAt(b, latest) + " found " + hall.counted(b, latest, 0) + " for ann, "
                    + hall.counted(b, latest, 1) + " for bob, confirmed: " + hall.isConfirmed(b));
        }
        System.out.println("declared: ward " + hall.declare());
        System.out.println(written(hall, lake));
        System.out.println("ann's seats: " + hall.regionSeats(0, 0) + ", north is declared: " + hall.isRegionDeclared(0));

        // The latest change is taken back; then somebody changes a seal.
        System.out.println("changes that can still be undone: " + hall.undo() + ", declared wards: " + hall.declaredCount());
        hall.tamper(b, 77);
        System.out.println("box b is not opened: " + (hall.open(b, 0) == CountHall.BAD_SEAL));
        System.out.println("seals in its ledger once 77 is accepted: " + hall.accept(b));
    }

    /** Feeds 20 bytes at a time, filled up with spaces; load is told how many of the bytes are the text. */
    private static void feed(CountHall hall, String text) {
        for (int at = 0; at < text.length(); at += 20) {
            int[] words = new int[5];
            for (int i = 0; i < 20; i++) {
                char sign = at + i < text.length() ? text.charAt(at + i) : ' ';
                words[i / 4] = words[i / 4] << 8 | sign;
            }
            hall.feed(words[0], words[1], words[2], words[3], words[4]);
        }
    }

    /** A name as the method named takes it: six groups of 5 bits, a is 1. */
    private static int letters(String name) {
        int letters = 0;
        for (int i = 0; i < 6; i++) {
            letters = letters << 5 | (i < name.length() ? name.charAt(i) - 'a' + 1 : 0);
        }
        return letters;
    }

    private static String written(CountHall hall, int ward) {
        StringBuilder line = new StringBuilder();
        int characters = hall.write(ward);
        for (int index = 0; index < characters; index++) {
            line.append((char) hall.outputAt(index));
        }
        return line.toString();
    }
}
