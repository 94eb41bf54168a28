import java.util.ArrayList;
import java.util.List;

/**
 * All that an object can be asked of what it holds. Some of these questions change it, and it has but 512
 * calls: so there are several looks, each for an object made anew.
 */
enum Look {
    TOWN, SEEN, IMAGES, SHEETS, TAPE;

    List<Long> at(Asked x, boolean faultToo) {
        List<Long> found = new ArrayList<>();
        switch (this) {
            case TOWN: town(x, faultToo, found); break;
            case SEEN: seen(x, found); break;
            case IMAGES: images(x, faultToo, found); break;
            case SHEETS: sheets(x, found); break;
            default: tape(x, found);
        }
        return found;
    }

    private static void rows(Asked x, List<Long> found, String name, int first, int second) {
        for (int i = 0; i < first; i++) {
            for (int j = 0; j < second; j++) {
                found.add(x.ask(name, i, j));
            }
        }
    }

    private static void town(Asked x, boolean faultToo, List<Long> found) {
        for (int what = 0; what < 6; what++) {
            found.add(x.ask("rule", what));
            found.add(x.ask("count", what));
        }
        rows(x, found, "man", 4, 2);
        rows(x, found, "walk", 4, 4);
        rows(x, found, "street", 9, 2);
        rows(x, found, "reader", 4, 3);
        found.add(x.ask("torn"));
        if (faultToo) {
            found.add(x.ask("fault"));
        }
    }

    /** One is forgotten behind another, so that each of them tells of itself. */
    private static void seen(Asked x, List<Long> found) {
        for (long n = x.ask("count", 0); n >= 0; n--) {
            for (int m = 0; m < 4; m++) {
                found.add(x.ask("kinds", m));
                found.add(x.ask("news", m));
            }
            found.add(x.ask("forget", (int) Math.max(0, n - 1)));
        }
    }

    private static void images(Asked x, boolean faultToo, List<Long> found) {
        for (int k = 0; k < 2; k++) {
            found.add(x.ask("back", k));
            town(x, faultToo, found);
        }
    }

    /** Of which lane each is; the readers and corners in the first six CELLS. */
    private static void sheets(Asked x, List<Long> found) {
        for (int k = 0; k < 4; k++) {
            int laneOf = 0;
            for (int lane = 0; lane < 3; lane++) {
                x.ask("read", k, lane, -1, 1);
                long fault = x.ask("torn");
                found.add(fault);
                laneOf = fault == 2 ? lane : laneOf;
            }
            for (int i = 0; i < 5; i++) {
                found.add(x.ask("read", k, laneOf, i, 1));
                for (int r = 0; r < 4; r++) {
                    found.add(x.ask("reader", r, 0));
                }
            }
        }
    }

    private static void tape(Asked x, List<Long> found) {
        found.add(x.ask("text"));
        town(x, true, found);
    }
}
