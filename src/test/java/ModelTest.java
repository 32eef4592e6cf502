import java.util.Random;

/** Runs of calls, drawn from fixed seeds, on the class and on the model: all answers must be alike. */
public final class ModelTest {
    private static final int RUNS = 600;
    private static final int CALLS = 500;

    private final Due due;
    private final int run;
    private final Random random;
    private final UniverseLevels real = new UniverseLevels();
    private final Model model = new Model();
    private int calls;

    private ModelTest(Due due, int run) {
        this.due = due;
        this.run = run;
        this.random = new Random(run);
    }

    public static void main(String[] args) {
        Due due = new Due();
        for (int run = 0; run < RUNS && due.isSpotless(); run++) {
            new ModelTest(due, run).go();
        }
        due.end();
    }

    private void go() {
        if (random.nextInt(4) > 0) {
            layText();
        }
        while (calls < CALLS && due.isSpotless()) {
            int drawn = random.nextInt(100);
            if (drawn < 30) {
                act();
            } else if (drawn < 31 && calls < 250) {
                layText();
            } else {
                look();
            }
        }
    }

    private void say(String call, int got, int want) {
        calls++;
        due.is("run " + run + " call " + calls + " " + call, got, want);
    }

    private void layText() {
        say("wipe", real.wipe(), model.wipe());
        String text = random.nextInt(10) == 0 ? manyLevels() : someText();
        for (char letter : text.toCharArray()) {
            say("write " + letter, real.write(letter), model.write(letter));
        }
        say("fault of " + text, real.fault(), model.fault());
        say("lay " + text, real.lay(), model.lay());
    }

    private String someText() {
        StringBuilder text = new StringBuilder();
        int levels = 0;
        int items = 3 + random.nextInt(26);
        boolean clean = random.nextInt(3) > 0;
        for (int i = 0; i < items; i++) {
            if (levels < 2 || levels < 10 && random.nextInt(3) == 0) {
                text.append('v').append(figures(random.nextInt(clean ? 4 : 5))).append(';');
                levels++;
            } else {
                int u = random.nextInt(levels);
                int v = (u + 1 + random.nextInt(clean ? levels - 1 : levels)) % levels;
                int k = Math.min(clean ? 9 : 11, random.nextInt(4) * random.nextInt(4));
                text.append(random.nextBoolean() ? "c" + u + "," + figures(k) + "," + v + ";"
                        : "d" + u + "," + v + "," + figures(k) + ";");
            }
        }
        if (!clean && random.nextInt(3) == 0) {
            text.setCharAt(random.nextInt(text.length()), "vcd019,; x".charAt(random.nextInt(10)));
        }
        if (!clean && random.nextInt(3) == 0) {
            text.deleteCharAt(random.nextInt(text.length()));
        }
        return text.substring(0, Math.min(203, text.length()));
    }

    private String figures(int number) {
        return random.nextInt(8) == 0 && number < 10 ? "0" + number : "" + number;
    }

    private String manyLevels() {
        return "v1;v0;v2;v3;".repeat(2) + "v1;v1;" + (random.nextBoolean() ? "v0;" : "c0,1,9;");
    }

    private void act() {
        int u = number();
        int v = number();
        int k = small();
        int b = random.nextInt(18) - 1;
        switch (random.nextInt(12)) {
            case 0:
                say("retract " + b, real.retract(b), model.retract(b));
                break;
            case 1:
                int kind = random.nextInt(6) - 1;
                say("rename " + u + " " + kind, real.rename(u, kind), model.rename(u, kind));
                break;
            case 2:
                say("undo", real.undo(), model.undo());
                break;
            case 3:
                if (random.nextInt(3) == 0) {
                    say("keep", real.keep(), model.keep());
                } else if (random.nextInt(3) == 0) {
                    say("back", real.back(), model.back());
                }
                break;
            case 4:
            case 5:
                say("term " + u + " " + k, real.term(u, k), model.term(u, k));
                break;
            case 6:
                if (random.nextInt(3) == 0) {
                    say("empty", real.empty(), model.empty());
                }
                break;
            default:
                say("ask " + u + " " + k + " " + v, real.ask(u, k, v), model.ask(u, k, v));
                lookAtRound();
        }
    }

    private void lookAtRound() {
        if (random.nextInt(4) == 0) {
            for (int i = -2; i <= 11; i++) {
                say("round " + i, real.round(i), model.round(i));
            }
        }
    }

    private void look() {
        int u = number();
        int v = number();
        int k = small();
        int x = random.nextInt(4) == 0 ? random.nextInt(103) - 2 : random.nextInt(20);
        int what = random.nextInt(7) - 1;
        int b = random.nextInt(18) - 1;
        switch (random.nextInt(16)) {
            case 0:
                say("level " + u + " " + what, real.level(u, what), model.level(u, what));
                break;
            case 1:
            case 2:
                say("bound " + b + " " + what, real.bound(b, what), model.bound(b, what));
                break;
            case 3:
                say("reach " + u + " " + v, real.reach(u, v), model.reach(u, v));
                break;
            case 4:
                say("follows " + u + " " + k + " " + v, real.follows(u, k, v), model.follows(u, k, v));
                break;
            case 5:
                say("raised " + u + " " + x + " " + v, real.raised(u, x, v), model.raised(u, x, v));
                break;
            case 6:
                say("top " + u + " " + x + " " + v, real.top(u, x, v), model.top(u, x, v));
                break;
            case 7:
                lookAtStands(u, k, v);
                break;
            case 8:
                say("brief", real.brief(), model.brief());
                break;
            case 9:
                say("below " + v + " " + k, real.below(v, k), model.below(v, k));
                break;
            case 10:
                say("worth", real.worth(), model.worth());
                break;
            case 11:
            case 12:
                say("roots " + u, real.roots(u), model.roots(u));
                break;
            case 13:
                what = random.nextInt(4) - 1;
                say("loose " + u + " " + what, real.loose(u, what), model.loose(u, what));
                break;
            case 14:
                say("fault", real.fault(), model.fault());
                break;
            default:
                what = random.nextInt(12) - 1;
                say("count " + what, real.count(what), model.count(what));
        }
    }

    private void lookAtStands(int u, int k, int v) {
        if (random.nextInt(3) == 0) {
            int more = random.nextBoolean() ? k : 9;
            for (int i = -2; i <= 3; i++) {
                String call = "stands " + u + " " + more + " " + v + " " + i;
                say(call, real.stands(u, more, v, i), model.stands(u, more, v, i));
            }
        }
    }

    /** A LEVEL mostly, now and then one that there isn't. */
    private int number() {
        int levels = model.count(0);
        return random.nextInt(20) == 0 ? random.nextInt(14) - 2 : random.nextInt(levels);
    }

    /** Mostly near 0, so that many WAYS are of one LENGTH; now and then out of bounds. */
    private int small() {
        return random.nextInt(3) == 0 ? random.nextInt(23) - 11 : random.nextInt(4) - 2;
    }
}
