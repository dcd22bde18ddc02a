import java.util.ArrayList;
import java.util.HashSet;
import java.util.List;
import java.util.Set;
import java.util.TreeSet;

/** Long made-up runs of calls, each answer compared with a second, slower reading of the document. */
public final class LoopClashesModel {
    private record Reference(int a, int b, int c, int d, int e, int f, boolean writes) {
        List<Integer> touches(int i, int j) {
            return List.of(a * i + b * j + c, d * i + e * j + f);
        }

        Reference withWrites(boolean now) {
            return new Reference(a, b, c, d, e, f, now);
        }
    }

    private record Clash(int ti, int tj, int ui, int uj) {
        int outerGap() {
            return ui - ti;
        }

        int innerGap() {
            return uj - tj;
        }
    }

    private static int wrong = 0;
    private static long seed = 1;

    private final String run;
    private final int m;
    private final int n;
    private final List<Reference> list = new ArrayList<>();
    private final LoopClashes x;

    private LoopClashesModel(int number, int outer, int inner) {
        run = "run " + number + ", new (" + outer + ", " + inner + "): ";
        m = Math.max(1, Math.min(8, outer));
        n = Math.max(1, Math.min(8, inner));
        x = new LoopClashes(outer, inner);
    }

    public static void main(String[] args) {
        for (int number = 0; number < 500; number++) {
            int outer = from(-1, 10);
            int inner = from(-1, 10);
            LoopClashesModel model = new LoopClashesModel(number, outer, inner);
            int span = number % 3 == 0 ? 4 : 1;
            // At most 20 calls each time, so that no run goes beyond the 512 calls of the document.
            for (int k = 0; k < 22; k++) {
                model.change(span);
                model.questions();
            }
        }
        theMostCalls();
        if (wrong != 0) {
            System.out.println(wrong + " answers are not as due");
            System.exit(1);
        }
        System.out.println("all answers are as due");
    }

    /** The last of the 512 calls that the document allows still answers as the first. */
    private static void theMostCalls() {
        LoopClashesModel model = new LoopClashesModel(-1, 8, 8);
        for (int k = 0; k < 6; k++) {
            model.put(1);
        }
        int due = model.depth();
        for (int call = 7; call <= 512; call++) {
            model.due("depth() as call " + call, model.x.depth(), due);
        }
    }

    /** A made-up number that is the same on every machine and in every run. */
    private static int from(int least, int greatest) {
        seed = seed * 6364136223846793005L + 1442695040888963407L;
        return least + (int) ((seed >>> 33) % (greatest - least + 1));
    }

    private void due(String call, int got, int want) {
        if (got != want) {
            wrong++;
            if (wrong <= 50) {
                System.out.println(run + list + " " + call + " answered " + got + ", due is " + want);
            }
        }
    }

    private void change(int span) {
        int kind = from(0, 9);
        if (kind <= 5) {
            put(span);
        } else if (kind <= 7) {
            takeOut(from(-1, 6));
        } else {
            setMode(from(-1, 6), from(-1, 1));
        }
    }

    private void put(int span) {
        Reference made = new Reference(from(-span, span), from(-span, span), from(-5 * span, 5 * span) / 2,
            from(-span, span), from(-span, span), from(-5 * span, 5 * span) / 2, from(0, 1) == 1);
        int row = 2048 * (made.a + 4) + 128 * (made.b + 4) + made.c + 20;
        int column = 2048 * (made.d + 4) + 128 * (made.e + 4) + made.f + 20;
        int want = list.size() == 6 ? -3 : list.size();
        due("refer(" + made + ")", x.refer(row, column, made.writes ? from(1, 9) : 0), want);
        if (want >= 0) {
            list.add(made);
        }
    }

    private void takeOut(int r) {
        boolean good = r >= 0 && r < list.size();
        due("drop(" + r + ")", x.drop(r), good ? list.size() - 1 : -1);
        if (good) {
            list.remove(r);
        }
    }

    private void setMode(int r, int flag) {
        boolean good = r >= 0 && r < list.size();
        due("mode(" + r + ", " + flag + ")", x.mode(r, flag), !good ? -1 : list.get(r).writes ? 1 : 0);
        if (good) {
            list.set(r, list.get(r).withWrites(flag != 0));
        }
    }

    private List<Clash> clashes(int r, int s) {
        List<Clash> found = new ArrayList<>();
        Reference one = list.get(r);
        Reference other = list.get(s);
        if (!one.writes && !other.writes) {
            return found;
        }
        for (int ti = 0; ti < m; ti++) {
            for (int tj = 0; tj < n; tj++) {
                for (int ui = 0; ui < m; ui++) {
                    for (int uj = 0; uj < n; uj++) {
                        boolean same = ti == ui && tj == uj;
                        boolean before = ti < ui || ti == ui && tj < uj || same && r < s;
                        if (before && one.touches(ti, tj).equals(other.touches(ui, uj))) {
                            found.add(new Clash(ti, tj, ui, uj));
                        }
                    }
                }
            }
        }
        return found;
    }

    private void questions() {
        due("references()", x.references(), list.size());
        boolean outerFree = true;
        boolean innerFree = true;
        boolean exchangeable = true;
        for (int r = 0; r < list.size(); r++) {
            for (int s = 0; s < list.size(); s++) {
                for (Clash clash : clashes(r, s)) {
                    outerFree &= clash.ti == clash.ui;
                    innerFree &= clash.ti != clash.ui || clash.tj == clash.uj;
                    exchangeable &= !(clash.ti < clash.ui && clash.tj > clash.uj);
                }
            }
        }
        due("outerFree()", x.outerFree(), outerFree ? 1 : 0);
        due("innerFree()", x.innerFree(), innerFree ? 1 : 0);
        due("exchangeable()", x.exchangeable(), exchangeable ? 1 : 0);
        due("depth()", x.depth(), depth());
        if (!list.isEmpty()) {
            int last = list.size() - 1;
            placesOf(from(0, last));
            pair(from(0, last), from(0, last));
            pair(from(0, last), from(0, last));
        }
    }

    private void placesOf(int r) {
        Set<List<Integer>> places = new HashSet<>();
        for (int i = 0; i < m; i++) {
            for (int j = 0; j < n; j++) {
                places.add(list.get(r).touches(i, j));
            }
        }
        due("footprint(" + r + ")", x.footprint(r), places.size());
        int i = from(0, m - 1);
        int j = from(0, n - 1);
        List<Integer> place = list.get(r).touches(i, j);
        due("place(" + r + ", " + (n * i + j) + ")", x.place(r, n * i + j), 1000 * place.get(0) + place.get(1));
    }

    private void pair(int r, int s) {
        List<Clash> found = clashes(r, s);
        TreeSet<Integer> spans = new TreeSet<>();
        TreeSet<Integer> starts = new TreeSet<>();
        Set<List<Integer>> gaps = new HashSet<>();
        Set<Integer> directions = new HashSet<>();
        for (Clash clash : found) {
            spans.add(n * clash.outerGap() + clash.innerGap());
            starts.add(n * clash.ti + clash.tj);
            gaps.add(List.of(clash.outerGap(), clash.innerGap()));
            directions.add(3 * side(clash.outerGap()) + side(clash.innerGap()));
        }
        int set = directions.stream().mapToInt(direction -> (int) Math.pow(2, direction)).sum();
        String of = "(" + r + ", " + s + ")";
        due("clashes" + of, x.clashes(r, s), found.size());
        due("directions" + of, x.directions(r, s), set);
        due("nearest" + of, x.nearest(r, s), spans.isEmpty() ? -2 : spans.first());
        due("farthest" + of, x.farthest(r, s), spans.isEmpty() ? -2 : spans.last());
        due("first" + of, x.first(r, s), starts.isEmpty() ? -2 : starts.first());
        due("uniform" + of, x.uniform(r, s), gaps.size() <= 1 ? 1 : 0);
    }

    private static int side(int gap) {
        return gap == 0 ? 0 : gap > 0 ? 1 : 2;
    }

    /** Plays the steps one by one: in each, all turns run that wait for no turn. */
    private int depth() {
        boolean[][] waits = new boolean[m * n][m * n];
        for (int r = 0; r < list.size(); r++) {
            for (int s = 0; s < list.size(); s++) {
                for (Clash clash : clashes(r, s)) {
                    int t = n * clash.ti + clash.tj;
                    int u = n * clash.ui + clash.uj;
                    waits[u][t] |= t < u;
                }
            }
        }
        Set<Integer> left = new TreeSet<>();
        for (int turn = 0; turn < m * n; turn++) {
            left.add(turn);
        }
        int played = 0;
        while (!left.isEmpty()) {
            Set<Integer> now = new HashSet<>();
            for (int u : left) {
                if (left.stream().noneMatch(t -> waits[u][t])) {
                    now.add(u);
                }
            }
            left.removeAll(now);
            played++;
        }
        return played;
    }
}
