import java.io.IOException;
import java.nio.file.Files;
import java.nio.file.Path;
import java.util.List;

/**
 * Promises 4 to 13 on texts whose answers another program has worked out, which shares no code with the class and asks a
 * solver what FACTS say. Each text stands on a line of its own and its answers on the next: what compile(), place(),
 * accepted() and place() again answer, the types of all NAMES, and how it runs in each of the ROUNDS.
 */
public final class SecondReadingTest {
    private static final Path TEXTS = Path.of("src/test/data/second-reading.txt");
    /** What the INPUTS are given in each round; an array that can't be so long stays as it was. */
    private static final int[][] ROUNDS = {
        {0, 0, 0, 0, 0, 0}, {1, 2, 3, 4, 5, 6}, {3, 6, 9, 1, 4, 7}, {4, -4, -1, 2, -6, -3}, {3, 6, -2, 1, 4, 7}};
    private static final int[] FUELS = {20000, 30, 1, 7, 100};
    private static final int ELEMENTS = 20;

    public static void main(String[] args) throws IOException {
        Due due = new Due("SecondReadingTest");
        List<String> lines = Files.readAllLines(TEXTS);
        due.is("whether there are texts", lines.size() > 1, true);
        for (int i = 0; i + 1 < lines.size(); i += 2) {
            due.is(lines.get(i), answers(lines.get(i)), lines.get(i + 1));
        }
        due.close();
    }

    private static String answers(String text) {
        LiquidTongue tongue = new LiquidTongue();
        StringBuilder told = new StringBuilder();
        told.append(Due.compile(tongue, text)).append(' ').append(tongue.place());
        told.append(' ').append(tongue.accepted()).append(' ').append(tongue.place());
        for (int k = 0; tongue.type(k) >= 0; k++) {
            told.append('|').append(Due.told(tongue, k));
        }
        told.append('!');
        for (int round = 0; round < ROUNDS.length; round++) {
            give(tongue, round);
            told.append(tongue.run(FUELS[round])).append(' ').append(tongue.value());
            told.append(' ').append(tongue.fuel()).append(';');
        }
        return told.toString();
    }

    private static void give(LiquidTongue tongue, int round) {
        for (int i = 0; i < ROUNDS[round].length; i++) {
            tongue.give(i, ROUNDS[round][i]);
            for (int k = 0; k < ELEMENTS; k++) {
                tongue.element(i, k, (5 * k + round + i) % 9 - 2);
            }
        }
    }
}
