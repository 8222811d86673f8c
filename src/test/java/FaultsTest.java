import java.util.Random;

/**
 * The FAULT of every short text, and of many deep ones, must be the one that the model tells; a text
 * without a FAULT is taken as a RULE (the TAPE is empty then), one with a FAULT is not.
 */
public final class FaultsTest {
    private static final String SIGNS = "hw19!({)},&| x";
    private static final int LONGEST = 4;
    private static final int DEEP_TEXTS = 20_000;
    private static final int TEXTS_AN_OBJECT = 30;
    private static final String[] OPENERS = {"!", "(", "1{", "2 { ", "3{h1,", " (h1&", "! ", "0{w5|"};
    private static final String[] CORES = {"h1", "", "5", "5{", "5 {h1}", "!", "!n2", "(h1)", "w1|h2", "h 11", "h12", "h 1234", "1234{"};
    private static final String[] BREAKS = {"", " ", "h", "1", "!", ")", "}", ",", "{", "&"};

    private static LifeKeys x = new LifeKeys();
    private static int texts = 0;
    private static int wrong = 0;

    private static void ask(String text) {
        if (texts % TEXTS_AN_OBJECT == 0) {
            x = new LifeKeys();
        }
        texts++;
        int due = Model.faultOf(text);
        Texts.tape(x, text);
        int rules = x.count(5);
        boolean hasRoom = rules < 20;
        int fault = x.fault();
        int rule = x.rule();
        int dueRule = due == LifeKeys.NONE && hasRoom ? rules : LifeKeys.NONE;
        int dueBytes = dueRule == LifeKeys.NONE ? text.length() : 0;
        if (fault != due || rule != dueRule || x.count(11) != dueBytes) {
            wrong++;
            System.out.println("'" + text + "': fault " + fault + ", due is " + due + "; rule " + rule + ", due is "
                + dueRule + "; bytes left " + x.count(11) + ", due is " + dueBytes);
        }
    }

    private static void askAll(String start) {
        ask(start);
        for (int i = 0; start.length() < LONGEST && i < SIGNS.length(); i++) {
            askAll(start + SIGNS.charAt(i));
        }
    }

    private static String closer(String opener) {
        return opener.contains("{") ? "}" : opener.contains("(") ? ")" : "";
    }

    /** Six to ten openers within one another: some are a ninth; some texts have a sign that breaks them. */
    private static String deep(Random random) {
        StringBuilder start = new StringBuilder();
        StringBuilder end = new StringBuilder();
        for (int i = 6 + random.nextInt(5); i > 0; i--) {
            String opener = OPENERS[random.nextInt(OPENERS.length)];
            start.append(opener);
            end.insert(0, closer(opener));
        }
        String text = start + CORES[random.nextInt(CORES.length)] + end;
        if (random.nextInt(3) == 0) {
            int at = random.nextInt(text.length());
            text = text.substring(0, at) + BREAKS[random.nextInt(BREAKS.length)] + text.substring(at + 1);
        }
        return text;
    }

    public static void main(String[] args) {
        askAll("");
        Random random = new Random(9);
        for (int i = 0; i < DEEP_TEXTS; i++) {
            ask(deep(random));
        }
        System.out.println(texts + " texts asked for, " + wrong + " not as due");
        if (wrong != 0) {
            System.exit(1);
        }
    }
}
