/** Tells a page and a query, chooses sentences, writes them, and reads back what was written. */
public final class Example {
    // Twenty bytes a call, four to a number, the highest first; end() takes off what is too much.
    static void tell(PassagePicker picker, String text) {
        picker.end(0);
        for (int from = 0; from < text.length(); from += 20) {
            int[] numbers = new int[5];
            for (int i = 0; i < 20 && from + i < text.length(); i++) {
                numbers[i / 4] |= (text.charAt(from + i) & 255) << 24 - i % 4 * 8;
            }
            picker.feed(numbers[0], numbers[1], numbers[2], numbers[3], numbers[4]);
        }
        picker.end(text.length());
    }

    // What quote() and write() answer is how many bytes octet() has.
    static String read(PassagePicker picker, int length) {
        StringBuilder text = new StringBuilder();
        for (int k = 0; k < length; k++) {
            text.append((char) picker.octet(k));
        }
        return text.toString();
    }

    public static void main(String[] args) {
        PassagePicker picker = new PassagePicker();

        tell(picker, "The red fox ran. Hens & cocks slept. No dog, no fox, no hens to fear. Dogs bark.");
        System.out.println("sentences " + picker.page());
        tell(picker, "item 5 red fox; item 2 soft fox; item 3 dog*;");
        System.out.println("items " + picker.query() + ", matches " + picker.count(5));

        picker.tell(0, 60);
        picker.tell(1, 2);
        System.out.println("best " + picker.take(true) + ", sentences as bits " + picker.count(9));
        System.out.println(read(picker, picker.write(600)));
        System.out.println(read(picker, picker.write(12)));

        picker.drop(0);
        picker.choose(1);
        System.out.println(read(picker, picker.write(600)));
        System.out.println("in place of " + picker.exchange(0) + " comes " + picker.exchange(1)
                + ", more by " + picker.exchange(2));
        System.out.println("traded " + picker.trade() + ", sentences as bits " + picker.count(9));
        System.out.println(read(picker, picker.quote(20)));

        tell(picker, "item 5 fox; item 10 dog;");
        try {
            picker.query();
        } catch (IllegalArgumentException refused) {
            System.out.println("fault at " + picker.fault() + ", items still " + picker.count(4));
        }
    }
}
