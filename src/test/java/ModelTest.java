import java.lang.reflect.Method;
import java.util.ArrayList;
import java.util.List;
import java.util.Random;

/** Runs of drawn calls: ScandalCounter must answer as Model does, and must never throw. */
public final class ModelTest {
    private static final int RUNS = 400;
    private static final int CALLS = 512;
    private static final int MOST_TOLD = 20;

    /** Each call, how often it is drawn, and for each argument the least and the most that is usual. */
    private static final String[] CALLS_AND_RANGES = {
        "say 6 0 5 0 7 0 20", "said 1 0 5", "person 3 0 6 0 99", "of 6 0 7 0 7", "change 2 0 7 0 4 0 6",
        "change 3 0 7 1 1 0 60", "change 2 0 7 2 2 0 99", "change 2 0 7 3 3 0 40", "change 1 0 7 1 4 9900 9999",
        "feels 2 0 7 0 20", "bearer 2 0 7 1 20", "go 3 1 7", "go 1 1 60", "now 5 0 7", "ahead 3 0 7 1 4 0 100",
        "hints 1 0 100", "even 2", "when 2 0 7 0 60", "clean 2 0 7", "whom 2 0 40", "weightFor 2 1 40",
        "buildFor 2 0 7 0 40", "kindFor 2 0 7 0 40", "refuse 1 0 7 0 40 0 20", "refuse 1 0 7 0 9 0 6", "swapFor 2 0 40",
        "fits 2 0 3 0 7", "weighed 2 0 3 0 7", "kinds 2 0 3 0 7", "gossip 1 1 20", "odds 2 0 20 0 1", "seed 1 -99 99",
        "feed 1 0 255 1 4", "wipe 1", "text 1", "hold 2 0 9 -1 7", "as 3 0 9 0 6", "sheet 2 0 3 8 8 0 12",
        "sheet 2 0 3 16 16 0 12", "sheet 2 0 3 32 32 0 40", "sheet 1 0 3 0 0 0 40", "write 6 0 3 0 8 -1 20",
        "write 3 0 3 0 8 -300 800", "copy 3 0 3 0 6 0 3 0 6 0 6", "load 1 0 3", "judge 2 0 3", "image 1", "undo 1",
        "tear 1", "count 3 0 7", "status 3 -1 6",
    };
    private static final String[] WORDS = {
        "person", "lady", "duke", "clergy", "bishop", "cowman", "young", "build", "owed", "bore", "said", "hints", ";",
        ";", "0", "5", "7", "20", "99", "9999", "10000", "x", "#", " ", "", "007",
    };

    private final Random random;
    private final ScandalCounter counter = new ScandalCounter();
    private final Model model = new Model();
    private final int run;
    private int calls = 0;
    private int told = 0;

    private ModelTest(int run) {
        this.run = run;
        this.random = new Random(run);
    }

    public static void main(String[] args) throws Exception {
        List<String[]> drawn = new ArrayList<>();
        for (String line : CALLS_AND_RANGES) {
            String[] parts = line.split(" ");
            for (int i = 0; i < Integer.parseInt(parts[1]); i++) {
                drawn.add(parts);
            }
        }
        int told = 0;
        for (int run = 0; run < RUNS && told < MOST_TOLD; run++) {
            ModelTest test = new ModelTest(run);
            while (test.calls < CALLS && test.told == 0) {
                test.step(drawn);
            }
            told += test.told;
        }
        Due.due("runs that were not as the model's", told, 0);
        Due.end();
    }

    private void step(List<String[]> drawn) throws Exception {
        int dice = random.nextInt(60);
        if (dice == 0) {
            feedText(drawnText());
        } else if (dice == 1) {
            borneAsItWillBe();
        } else {
            String[] call = drawn.get(random.nextInt(drawn.size()));
            int[] arguments = new int[call.length / 2 - 1];
            for (int i = 0; i < arguments.length; i++) {
                arguments[i] = argument(Integer.parseInt(call[2 + 2 * i]), Integer.parseInt(call[3 + 2 * i]));
            }
            ask(call[0], arguments);
        }
    }

    private int argument(int least, int most) {
        int[] wild = {least - 1, most + 1, -1, Integer.MIN_VALUE, Integer.MAX_VALUE, random.nextInt()};
        return random.nextInt(40) == 0 ? wild[random.nextInt(wild.length)] : least + random.nextInt(most - least + 1);
    }

    private long ask(String name, int... arguments) throws Exception {
        Class<?>[] types = new Class<?>[arguments.length];
        Object[] values = new Object[arguments.length];
        StringBuilder call = new StringBuilder("run " + run + ", call " + calls + ": " + name);
        for (int i = 0; i < arguments.length; i++) {
            types[i] = int.class;
            values[i] = arguments[i];
            call.append(' ').append(arguments[i]);
        }
        calls++;
        Method ours = ScandalCounter.class.getMethod(name, types);
        Method theirs = Model.class.getMethod(name, types);
        long got = ((Number) ours.invoke(counter, values)).longValue();
        long want = ((Number) theirs.invoke(model, values)).longValue();
        Due.due(call.toString(), got, want);
        told += got == want ? 0 : 1;
        return got;
    }

    private String drawnText() {
        StringBuilder text = new StringBuilder();
        int items = 1 + random.nextInt(4);
        for (int i = 0; i < items; i++) {
            text.append(i == 0 ? "" : ";").append(drawnItem());
        }
        if (random.nextInt(3) == 0) {
            int from = random.nextInt(text.length() + 1);
            text.insert(from, WORDS[random.nextInt(WORDS.length)]);
        }
        if (random.nextInt(6) == 0) {
            text.setLength(random.nextInt(text.length() + 1));
        }
        return text.length() > 120 ? text.substring(0, 120) : text.toString();
    }

    private String drawnItem() {
        switch (random.nextInt(4)) {
            case 0: return "said " + argument(0, 5) + " " + argument(0, 7) + " " + argument(0, 20);
            case 1: return "hints " + argument(0, 9999);
            default: return WORDS[random.nextInt(7)]
                + (random.nextBoolean() ? " build " + argument(0, 99) : "")
                + (random.nextBoolean() ? " owed " + argument(0, 80) : "")
                + (random.nextBoolean() ? "bore" + argument(0, 40) : "");
        }
    }

    private void feedText(String text) throws Exception {
        ask("wipe");
        for (int i = 0; i < text.length(); i += 4) {
            int n = Math.min(4, text.length() - i);
            int bytes = 0;
            for (int k = 0; k < n; k++) {
                bytes = bytes << 8 | text.charAt(i + k);
            }
            ask("feed", bytes, n);
        }
        ask("text");
    }

    /** A sheet that tells, for some days, what really will be: without it few weights and kinds would fit. */
    private void borneAsItWillBe() throws Exception {
        int people = (int) ask("count", 1);
        if (people > 0) {
            int person = random.nextInt(people);
            int what = random.nextBoolean() ? 1 : 3;
            int days = 1 + random.nextInt(9);
            ask("sheet", 0, 16, days);
            for (int i = 0; i < days; i++) {
                boolean any = random.nextInt(3) == 0;
                ask("write", 0, i, any ? -1 : (int) ask("ahead", person, what, i));
            }
            ask("fits", 0, person);
            ask("weighed", 0, person);
            ask("kinds", 0, person);
        }
    }
}
