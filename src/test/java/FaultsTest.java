import java.util.Random;

/** Many texts, sound and spoilt, read by a SlipDrawer and by the Model: promises 7 to 9. */
public final class FaultsTest {
    public static void main(String[] args) {
        int wrong = 0;
        int[] seen = new int[6];
        for (int seed = 1; seed <= 20000 && wrong == 0; seed++) {
            Random random = new Random(seed);
            Texts texts = new Texts(random);
            Pair pair = new Pair();
            String text = switch (random.nextInt(5)) {
                case 0 -> texts.sound(22);
                case 1 -> texts.deep();
                default -> texts.spoilt(1 + random.nextInt(20));
            };
            if (text.length() > 2100) {
                continue;
            }
            pair.making(random.nextInt(4), text);
            seen[pair.drawer.fault(0)]++;
            wrong += pair.wrong;
        }
        System.out.println("texts without a fault " + seen[0] + ", with fault 1 " + seen[1] + ", 4 " + seen[4]
            + ", 5 " + seen[5] + "; " + wrong + " wrong");
        if (wrong != 0 || seen[0] == 0 || seen[1] == 0 || seen[4] == 0 || seen[5] == 0) {
            System.exit(1);
        }
    }
}
