import java.util.ArrayList;
import java.util.List;

/** The tree once more, by its words: pieces are pairs of exact places, trees are made by calls of themselves. */
final class NaiveTree {
    /** A part of a wall, from one exact place to another. */
    record Piece(int wall, Ratio ax, Ratio ay, Ratio bx, Ratio by) {
    }

    private final MapMaker map;
    final List<int[]> nodes = new ArrayList<>();
    int leaves;
    int pieces;

    NaiveTree(MapMaker map) {
        this.map = map;
        List<Piece> all = new ArrayList<>();
        for (int w = 0; w < map.walls.size(); w++) {
            int[] a = map.vertices.get(map.walls.get(w)[0]);
            int[] b = map.vertices.get(map.walls.get(w)[1]);
            all.add(new Piece(w, Ratio.of(a[0]), Ratio.of(a[1]), Ratio.of(b[0]), Ratio.of(b[1])));
        }
        grow(all, 0);
    }

    /** What stands for a tree: a node's number, or -1 - a leaf's. */
    private int grow(List<Piece> list, int depth) {
        if (list.isEmpty()) {
            leaves++;
            return -leaves;
        }
        int line = choose(list);
        int number = nodes.size();
        int[] node = {line, 0, 0, 0, 0, depth};
        nodes.add(node);
        List<Piece> left = new ArrayList<>();
        List<Piece> right = new ArrayList<>();
        for (Piece p : list) {
            Ratio from = side(line, p.ax, p.ay);
            Ratio to = side(line, p.bx, p.by);
            if (from.sign() == 0 && to.sign() == 0) {
                node[3]++;
                pieces++;
            } else if (from.sign() * to.sign() < 0) {
                Ratio q = from.by(from.minus(to));
                Ratio mx = p.ax.plus(q.times(p.bx.minus(p.ax)));
                Ratio my = p.ay.plus(q.times(p.by.minus(p.ay)));
                (from.sign() > 0 ? left : right).add(new Piece(p.wall, p.ax, p.ay, mx, my));
                (from.sign() > 0 ? right : left).add(new Piece(p.wall, mx, my, p.bx, p.by));
            } else {
                (from.sign() + to.sign() > 0 ? left : right).add(p);
            }
        }
        node[1] = grow(left, depth + 1);
        node[2] = grow(right, depth + 1);
        node[4] = nodes.size() - number;
        return number;
    }

    private int choose(List<Piece> list) {
        int best = -1;
        int least = 0;
        for (int i = 0; i < 16 && i < list.size(); i++) {
            int line = list.get(i).wall;
            int cut = 0;
            int left = 0;
            int right = 0;
            for (Piece p : list) {
                int from = side(line, p.ax, p.ay).sign();
                int to = side(line, p.bx, p.by).sign();
                cut += from * to < 0 ? 1 : 0;
                left += from > 0 || to > 0 ? 1 : 0;
                right += from < 0 || to < 0 ? 1 : 0;
            }
            int cost = 4 * cut + Math.abs(left - right);
            if (best < 0 || cost < least) {
                best = line;
                least = cost;
            }
        }
        return best;
    }

    private Ratio side(int wall, Ratio x, Ratio y) {
        int[] a = map.vertices.get(map.walls.get(wall)[0]);
        int[] b = map.vertices.get(map.walls.get(wall)[1]);
        return y.minus(Ratio.of(a[1])).times(b[0] - a[0]).minus(x.minus(Ratio.of(a[0])).times(b[1] - a[1]));
    }

    int leaf(int x, int y) {
        int tree = nodes.isEmpty() ? -1 : 0;
        while (tree >= 0) {
            int[] node = nodes.get(tree);
            tree = side(node[0], Ratio.of(x), Ratio.of(y)).sign() > 0 ? node[1] : node[2];
        }
        return -1 - tree;
    }
}
