import java.util.Random;

/** Random calls on LandBoard and on Model, side by side: every answer, and now and then every question. */
final class ModelTest {
    private static final int RUNS = 1500;
    private static final int CALLS = 512;
    private static final int[] STRANGE = {-1, 6, 7, -4, 8, 64, 65, 100, 101, -5, -9, 99,
        Integer.MAX_VALUE, Integer.MIN_VALUE, Integer.MIN_VALUE + 1};

    private final Random random;
    private final LandBoard board = new LandBoard();
    private final Model model = new Model();
    private final String run;
    private int calls = 0;

    private ModelTest(int seed) {
        random = new Random(seed);
        run = "seed " + seed + ", call ";
    }

    public static void main(String[] args) {
        for (int seed = 0; seed < RUNS; seed++) {
            new ModelTest(seed).run();
        }
        Check.end("ModelTest");
    }

    private void due(String call, long got, long want) {
        calls++;
        Check.due(run + calls + " " + call, got, want);
    }

    private void run() {
        if (random.nextInt(10) > 0) {
            lay();
        }
        while (calls < CALLS - 100) {
            for (int k = 0; k < 10; k++) {
                call();
            }
            look();
        }
    }

    /** Lands around random cells; some cells sea. */
    private void lay() {
        int w = 1 + random.nextInt(8);
        int h = 1 + random.nextInt(8);
        due("board", board.board(w, h), model.board(w, h));
        int lands = 1 + random.nextInt(6);
        int sea = random.nextInt(3) == 0 ? random.nextInt(4) : 0;
        int[] sx = new int[lands];
        int[] sy = new int[lands];
        for (int land = 0; land < lands; land++) {
            sx[land] = random.nextInt(w);
            sy[land] = random.nextInt(h);
        }
        for (int y = 0; y < h; y++) {
            for (int x = 0; x < w; x++) {
                int best = 0;
                for (int land = 1; land < lands; land++) {
                    int far = Math.abs(x - sx[land]) + Math.abs(y - sy[land]);
                    best = far < Math.abs(x - sx[best]) + Math.abs(y - sy[best]) ? land : best;
                }
                if (random.nextInt(20) >= sea) {
                    due("set", board.set(x, y, best), model.set(x, y, best));
                }
            }
        }
    }

    /** Mostly 0 .. most, now and then something else. */
    private int number(int most) {
        return random.nextInt(40) == 0 ? STRANGE[random.nextInt(STRANGE.length)] : random.nextInt(most + 1);
    }

    private int x() {
        return number(model.count(0) - 1);
    }

    private int y() {
        return number(model.count(1) - 1);
    }

    private int landOrSea() {
        return random.nextInt(6) == 0 ? LandBoard.SEA : number(5);
    }

    /** A cell that may go, if one of some tries finds it. */
    private int[] going() {
        int[] tried = {x(), y(), number(5)};
        for (int k = 0; k < 60 && model.may(tried[0], tried[1], tried[2]) != 1; k++) {
            tried = new int[] {x(), y(), number(5)};
        }
        return tried;
    }

    private void call() {
        int kind = random.nextInt(24);
        if (kind < 12) {
            change(kind);
        } else {
            ask(kind);
        }
    }

    private void change(int kind) {
        int x = x();
        int y = y();
        int land = number(5);
        switch (kind) {
            case 0:
                boolean rarely = random.nextInt(12) == 0;
                int w = rarely ? 1 + number(7) : number(0) * 9;
                int h = rarely ? 1 + number(7) : 9;
                due("board(" + w + ", " + h + ")", board.board(w, h), model.board(w, h));
                break;
            case 1:
                int to = landOrSea();
                if (random.nextInt(4) == 0) {
                    due("set(" + x + ", " + y + ", " + to + ")", board.set(x, y, to), model.set(x, y, to));
                }
                break;
            case 2:
                int own = random.nextInt(5) == 0 ? land : model.at(x, y);
                int its = number(2);
                due("kind(" + own + ", " + its + ", " + x + ", " + y + ")",
                    board.kind(own, its, x, y), model.kind(own, its, x, y));
                break;
            case 3:
            case 4:
            case 5:
                int[] go = going();
                due("move(" + go[0] + ", " + go[1] + ", " + go[2] + ")",
                    board.move(go[0], go[1], go[2]), model.move(go[0], go[1], go[2]));
                break;
            case 6:
                due("move(" + x + ", " + y + ", " + land + ")", board.move(x, y, land), model.move(x, y, land));
                break;
            case 7:
                int wanted = number(random.nextInt(3) == 0 ? 64 : 20);
                due("want(" + land + ", " + wanted + ")", board.want(land, wanted), model.want(land, wanted));
                break;
            case 8:
                int n = number(random.nextInt(4) == 0 ? 64 : 4);
                due("steps(" + n + ")", board.steps(n), model.steps(n));
                break;
            case 9:
                int back = number(random.nextInt(8) == 0 ? 101 : 3);
                due("undo(" + back + ")", board.undo(back), model.undo(back));
                break;
            case 10:
                int year = number(3);
                due("keep(" + year + ")", board.keep(year), model.keep(year));
                break;
            default:
                int kept = number(3);
                if (random.nextInt(6) == 0) {
                    due("back(" + kept + ")", board.back(kept), model.back(kept));
                }
                break;
        }
    }

    private void ask(int kind) {
        int x = x();
        int y = y();
        int land = number(5);
        int other = landOrSea();
        int what = number(4);
        int cuts = number(31);
        switch (kind) {
            case 12:
                due("at(" + x + ", " + y + ")", board.at(x, y), model.at(x, y));
                break;
            case 13:
                due("size(" + other + ")", board.size(other), model.size(other));
                break;
            case 14:
                due("whole(" + other + ")", board.whole(other), model.whole(other));
                break;
            case 15:
                due("touch(" + other + ", " + land + ")", board.touch(other, land), model.touch(other, land));
                due("touch(" + land + ", " + other + ")", board.touch(land, other), model.touch(land, other));
                break;
            case 16:
                due("about(" + land + ", " + what + ")", board.about(land, what), model.about(land, what));
                break;
            case 17:
                due("leaves(" + x + ", " + y + ")", board.leaves(x, y), model.leaves(x, y));
                break;
            case 18:
                due("may(" + x + ", " + y + ", " + other + ")", board.may(x, y, other), model.may(x, y, other));
                break;
            case 19:
                due("label(" + land + ", " + what + ")", board.label(land, what), model.label(land, what));
                break;
            case 20:
                due("longer(" + cuts + ", " + land + ", " + what + ")",
                    board.longer(cuts, land, what), model.longer(cuts, land, what));
                break;
            case 21:
                due("box(" + cuts + ", " + land + ", " + what + ")",
                    board.box(cuts, land, what), model.box(cuts, land, what));
                break;
            case 22:
                due("best()", board.best(), model.best());
                break;
            default:
                due("moved(" + land + ", " + what + ")", board.moved(land, what), model.moved(land, what));
                break;
        }
    }

    private void look() {
        due("miss()", board.miss(), model.miss());
        due("trace()", board.trace(), model.trace());
        for (int what = -1; what <= 5; what++) {
            due("count(" + what + ")", board.count(what), model.count(what));
        }
    }
}
