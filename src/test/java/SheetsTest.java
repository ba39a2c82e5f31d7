/** Promises 32 to 38: keep, back, sheet, lay, read, torn, count. */
public final class SheetsTest {
    public static void main(String[] args) {
        images();
        lanes();
        sheetsAndCells();
        readings();
        tornLast();
        counts();
        Check.finish();
    }

    private static void images() {
        SeesawPairs x = Check.told(Check.EXAMPLE);
        Check.due("back, none", x.back(0), -2);
        Check.due("back 2", x.back(2), -1);
        Check.due("back -1", x.back(-1), -1);
        Check.due("keep 2", x.keep(2), -1);
        Check.due("keep -1", x.keep(-1), -1);
        Check.due("keep 1", x.keep(1), 0);
        x.cross(0, 4, 2, 0, 2);
        x.weigh(0, 1);
        x.play(1, 1);
        x.heap(2, 2);
        x.send(5, 1, 1);
        Check.due("keep 0", x.keep(0), 0);
        Check.due("keep 0 again", x.keep(0), 1);
        Check.due("images", x.count(2), 2);
        Check.due("back 1", x.back(1), 0);
        int[] due = {x.one(0, 1), x.one(4, 2), x.one(5, 2), x.one(5, 3), x.bridge(1, 2), x.stones(0), x.stones(1), x.stones(2), x.rule(4)};
        int[] was = {40, 0, 2, 0, 8, 5, 9, 0, 0};
        for (int i = 0; i < was.length; i++) Check.due("as it was " + i, due[i], was[i]);
        Check.due("back 0", x.back(0), 1);
        Check.due("stones(0)", x.stones(0), 7);
        Check.due("play", x.bridge(1, 2), 1);
        x.heap(0, 1);
        Check.due("back 0 again", x.back(0), 1);
        Check.due("an image stays as it is", x.stones(0), 7);
        Check.tell(x, "banks 4;");
        Check.due("images are gone", x.count(2), 0);
        Check.due("images are gone", x.back(0), -2);
        Check.due("keep anew", x.keep(0), 0);
    }

    private static SeesawPairs twoPeople() {
        return Check.told("bridge 0 1 9;one plain 5 0 1;one plain 5 1 0;");
    }

    private static void layAll(SeesawPairs x, int k, int... cells) {
        for (int i = 0; i < cells.length; i++) Check.due("lay", x.lay(k, i, cells[i]), 1);
    }

    /** Numbers that are 0, 0, 1 in their lowest bits alone. */
    private static void lanes() {
        int[][] numbers = {{256, -512, 257}, {65536, -131072, 65537}, {0, 0, 1}};
        for (int lane = 0; lane < 3; lane++) {
            SeesawPairs x = twoPeople();
            x.sheet(2, lane, 3);
            layAll(x, 2, numbers[lane]);
            Check.due("read lane " + lane, x.read(2, lane, 0, 1), 1);
            Check.due("torn", x.torn(), 0);
            x.back(0);
            x.send(0, 0, 0);
            x.send(1, 1, 1);
            layAll(x, 2, 0, 0, lane == 0 ? 255 : lane == 1 ? 65535 : -1);
            Check.due("no one", x.read(2, lane, 0, 1), -20);
            for (int other = 0; other < 3; other++) {
                if (other == lane) continue;
                Check.due("another lane", x.read(2, other, 0, 1), 0);
                Check.due("torn", x.torn(), 3);
            }
        }
        SeesawPairs x = twoPeople();
        x.sheet(0, 2, 3);
        layAll(x, 0, 65536, 0, 1);
        Check.due("an int is whole", x.read(0, 2, 0, 1), -20);
        x.sheet(0, 1, 3);
        layAll(x, 0, 256, 0, 1);
        Check.due("a short is whole", x.read(0, 1, 0, 1), -20);
    }

    private static void sheetsAndCells() {
        SeesawPairs x = new SeesawPairs();
        Check.due("sheet 4", x.sheet(4, 0, 1), -1);
        Check.due("sheet -1", x.sheet(-1, 0, 1), -1);
        Check.due("lane 3", x.sheet(0, 3, 1), -1);
        Check.due("lane -1", x.sheet(0, -1, 1), -1);
        Check.due("n 41", x.sheet(0, 0, 41), -1);
        Check.due("n -1", x.sheet(0, 0, -1), -14);
        Check.due("n least", x.sheet(0, 0, Integer.MIN_VALUE), -14);
        Check.due("lane 3, n -1", x.sheet(0, 3, -1), -1);
        Check.due("still nothing", x.count(4), -4);
        Check.due("n 0", x.sheet(0, 0, 0), 1);
        Check.due("no cells", x.count(4), 0);
        Check.due("lay 0", x.lay(0, 0, 1), -12);
        Check.due("n 40", x.sheet(0, 2, 40), 1);
        Check.due("cells", x.count(4), 40);
        Check.due("lay 39", x.lay(0, 39, 1), 1);
        Check.due("lay 40", x.lay(0, 40, 1), -12);
        Check.due("lay -1", x.lay(0, -1, 1), -12);
        Check.due("lay least", x.lay(0, Integer.MIN_VALUE, 1), -12);
        Check.due("n -1 changes nothing", x.sheet(0, 0, -1), -14);
        Check.due("cells", x.count(4), 40);
        Check.due("lay of sheet 3", x.lay(3, -1, 1), -11);
        Check.due("lay of sheet 4", x.lay(4, 0, 1), -1);
        Check.due("lay of sheet -1", x.lay(-1, 0, 1), -1);
        renewed();
    }

    private static void renewed() {
        SeesawPairs x = twoPeople();
        x.sheet(1, 0, 6);
        layAll(x, 1, 0, 0, 1, 0, 1, 0);
        Check.due("there and back", x.read(1, 0, 0, 2), 2);
        x.sheet(1, 0, 6);
        Check.due("cells are 0 anew: one and himself", x.read(1, 0, 0, 1), -20);
        x.lay(1, 0, 1);
        x.sheet(1, 0, 6);
        x.lay(1, 2, 1);
        Check.due("cell 0 is 0 anew", x.read(1, 0, 0, 1), 1);
        x.sheet(2, 0, 3);
        x.lay(2, 1, 1);
        x.lay(2, 0, 1);
        x.sheet(1, 0, 40);
        x.sheet(3, 0, 40);
        Check.due("cell 0 of another sheet stays", x.read(2, 0, 0, 1), -20);
        x.lay(2, 0, 0);
        Check.due("cell 1 of another sheet stays", x.read(2, 0, 0, 1), 1);
    }

    private static void readings() {
        SeesawPairs x = twoPeople();
        x.sheet(1, 1, 8);
        layAll(x, 1, 0, 0, 1, 0, 1, 0, 0, 0);
        Check.due("those ahead crossed", x.read(1, 1, 0, 3), 2);
        Check.due("index", x.torn(), 2);
        Check.due("crossings", x.rule(4), 2);
        Check.due("the second first", x.read(1, 1, 3, 1), -20);
        Check.due("one, and off the sheet", x.read(1, 1, 0, 1), 1);
        Check.due("none", x.torn(), 0);
        Check.due("then the second, and off the sheet", x.read(1, 1, 3, 13), 1);
        Check.due("index", x.torn(), 2);
        int[] offs = {-1, Integer.MIN_VALUE, 6, 8, Integer.MAX_VALUE, Integer.MAX_VALUE - 3};
        for (int f : offs) {
            Check.due("from " + f, x.read(1, 1, f, 2), 0);
            Check.due("index", x.torn(), 2);
        }
        Check.due("crossings", x.rule(4), 4);
        layAll(x, 1, 0, 0, 1, 0, 0, 1);
        Check.due("the second is refused", x.read(1, 1, 0, 2), -21);
        Check.due("then none crossed", x.rule(4), 4);
        Check.due("then none crossed", x.one(0, 2), 0);
        layAll(x, 1, 0, 0, 1, 9, 0, 1);
        Check.due("no bridge", x.read(1, 1, 0, 2), -21);
        layAll(x, 1, -1, 0, 1);
        Check.due("no bridge", x.read(1, 1, 0, 2), -20);
    }

    private static void tornLast() {
        SeesawPairs x = twoPeople();
        x.sheet(0, 0, 3);
        layAll(x, 0, 0, 0, 1);
        Check.due("nothing", x.read(3, 0, 0, 1), 0);
        Check.due("null", x.torn(), 1);
        Check.due("sheet 4", x.read(4, 0, 0, 1), -1);
        Check.due("sheet -1", x.read(-1, 0, 0, 1), -1);
        Check.due("lane 3", x.read(0, 3, 0, 1), -1);
        Check.due("lane -1", x.read(0, -1, 0, 1), -1);
        Check.due("n 14", x.read(0, 0, 0, 14), -1);
        Check.due("n -1", x.read(0, 0, 0, -1), -1);
        Check.due("what is refused tears nothing", x.torn(), 1);
        x.lay(0, 1, 1);
        Check.due("refused", x.read(0, 0, 0, 1), -20);
        Check.due("what is refused tears nothing", x.torn(), 1);
        Check.due("none", x.read(0, 0, 0, 0), 0);
        Check.due("whole", x.torn(), 0);
        Check.due("another lane, index too", x.read(0, 1, -1, 1), 0);
        Check.due("cast", x.torn(), 3);
        x.lay(0, 1, 0);
        Check.due("crossed", x.read(0, 0, 0, 1), 1);
        Check.due("whole", x.torn(), 0);
    }

    private static void counts() {
        SeesawPairs x = Check.told(Check.EXAMPLE);
        x.feed(0L);
        x.sheet(0, 1, 7);
        x.keep(1);
        int[] due = {0, 4, 1, 8, 7, 14};
        for (int what = 0; what < 6; what++) Check.due("count " + what, x.count(what), due[what]);
        x.send(0, 2, 2);
        Check.due("at his goal", x.count(0), 1);
        int[] wrong = {Integer.MIN_VALUE, -1, 6, Integer.MAX_VALUE};
        for (int what : wrong) Check.due("count " + what, x.count(what), -1);
    }
}
