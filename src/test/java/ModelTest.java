import java.util.ArrayList;
import java.util.LinkedHashMap;
import java.util.List;
import java.util.Map;
import java.util.Random;

/**
 * Long runs of calls, the same ones each time, against a second implementation of the document: it
 * works on nodes and Strings, and follows the document's sentences without a thought of cost.
 */
public final class ModelTest {
    private static final int RUNS = 6000;
    private static final int CALLS = 512;

    private static int wrong = 0;

    public static void main(String[] args) {
        int[] seen = new int[12];
        for (int run = 0; run < RUNS && wrong < 10; run++) {
            new Run(run, seen).go();
        }
        for (int k = 1; k < seen.length; k++) {
            if (seen[k] == 0) {
                wrong++;
                System.out.println("no call answered " + -k + ": the runs are too tame");
            }
        }
        System.out.println(wrong == 0 ? "the model agrees" : wrong + " answers are not the model's");
        if (wrong != 0) {
            System.exit(1);
        }
    }

    /** One object and its model, for 512 calls. */
    private static final class Run {
        final int number;
        final int[] seen;
        final Random random;
        final MountedPaths x = new MountedPaths();
        final Model m = new Model();
        final List<String> log = new ArrayList<>();
        final int taste;

        Run(int number, int[] seen) {
            this.number = number;
            this.seen = seen;
            random = new Random(number);
            taste = random.nextInt(4);
        }

        void go() {
            for (int v = random.nextInt(4); v > 0; v--) {
                same("volume", x.volume(), m.volume());
            }
            while (log.size() < CALLS - 16 && wrong < 10) {
                if (!step(random.nextInt(100))) {
                    wrong++;
                    System.out.println("run " + number + ": " + log.subList(Math.max(0, log.size() - 12), log.size()));
                    return;
                }
            }
        }

        boolean same(String call, int got, int want) {
            log.add(call + " = " + got + (got == want ? "" : ", due is " + want));
            if (got < 0 && got >= -11 && got == want) {
                seen[-got]++;
            }
            return got == want;
        }

        boolean same(String call, boolean got, boolean want) {
            return same(call, got ? 1 : 0, want ? 1 : 0);
        }

        boolean step(int dice) {
            if (dice < 3) {
                return text(path()) && same("keep", keepBoth(), 0);
            }
            if (dice < 9) {
                return text(target()) && same("keep", keepBoth(), 0) && make(3, path());
            }
            if (dice < 26) {
                return make(1 + random.nextInt(random.nextInt(9) == 0 ? 4 : 2), path());
            }
            if (dice < 42) {
                boolean follow = random.nextBoolean();
                return text(path()) && same("resolve(" + follow + ")", x.resolve(follow), m.resolve(follow));
            }
            if (dice < 52) {
                return text(pathTo(2 + random.nextInt(2))) && same("keep", keepBoth(), 0)
                    && text(path()) && same("link", x.link(), m.link());
            }
            if (dice < 60) {
                String path = random.nextBoolean() ? path() : pathTo(1 + random.nextInt(3));
                return text(path) && same("remove", x.remove(), m.remove());
            }
            if (dice < 62) {
                return same("volume", x.volume(), m.volume());
            }
            if (dice < 69) {
                int v = random.nextInt(6) == 0 ? random.nextInt(6) - 1 : random.nextInt(3) + 1;
                return text(pathOrDirectory()) && same("mount(" + v + ")", x.mount(v), m.mount(v));
            }
            if (dice < 72) {
                return text(pathOrDirectory()) && same("unmount", x.unmount(), m.unmount());
            }
            if (dice < 79) {
                boolean jail = random.nextInt(16) == 0;
                return text(pathOrDirectory()) && same("enter(" + jail + ")", x.enter(jail), m.enter(jail));
            }
            if (dice < 82) {
                int u = random.nextInt(3) == 0 ? random.nextInt(6) - 1 : 0;
                return same("user(" + u + ")", x.user(u), m.user(u));
            }
            if (dice < 86) {
                int mode = random.nextInt(18) - 1;
                return text(path()) && same("change(" + mode + ")", x.change(mode), m.change(mode));
            }
            if (dice < 89) {
                return same("path", x.path(), m.path()) && textIsSame();
            }
            if (dice < 92) {
                return deepen();
            }
            return dice < 93 && taste == 3 ? fill() : look();
        }

        boolean look() {
            int i = random.nextInt(4) == 0 ? random.nextInt(42) - 1 : random.nextInt(12);
            int what = random.nextInt(8) - 1;
            int k = random.nextInt(6) - 1;
            return same("kind(" + i + ")", x.kind(i), m.kind(i))
                && same("about(" + i + ", " + what + ")", x.about(i, what), m.about(i, what))
                && same("entry(" + i + ", " + k + ")", x.entry(i, k), m.entry(i, k));
        }

        /** Down and down from the present directory, till its path is too long. */
        boolean deepen() {
            for (int k = random.nextInt(4); k >= 0 && log.size() < CALLS - 8; k--) {
                if (!make(1, random.nextBoolean() ? "abcdef" : name()) || !same("enter", x.enter(false), m.enter(false))) {
                    return false;
                }
            }
            return same("path", x.path(), m.path()) && textIsSame();
        }

        /** Many entries at once, till there are no more. */
        boolean fill() {
            boolean objects = random.nextBoolean();
            if (!text(pathTo(2)) || !same("keep", keepBoth(), 0)) {
                return false;
            }
            for (int k = random.nextInt(80); k >= 0 && log.size() < CALLS - 40; k--) {
                String name = "" + (char) ('a' + random.nextInt(20)) + (char) ('0' + random.nextInt(10));
                if (objects ? !make(2, name) : !text(name) || !same("link", x.link(), m.link())) {
                    return false;
                }
            }
            return true;
        }

        boolean make(int kind, String path) {
            int mode = random.nextInt(20) == 0 ? random.nextInt(20) - 2 : random.nextInt(3) == 0 ? random.nextInt(16) : 15;
            return text(path) && same("make(" + kind + ", " + mode + ")", x.make(kind, mode), m.make(kind, mode));
        }

        int keepBoth() {
            x.keep();
            m.second = m.text;
            return 0;
        }

        boolean textIsSame() {
            int k = random.nextInt(m.text.length() + 1);
            return same("length", x.length(), m.text.length()) && same("at(" + k + ")", x.at(k), m.at(k));
        }

        boolean text(String s) {
            x.wipe();
            m.text = "";
            log.add("wipe");
            int k = 0;
            while (k < s.length()) {
                int w = 0;
                for (int n = 0; n < 4 && k < s.length(); n++) {
                    w = w << 8 | s.charAt(k);
                    k++;
                }
                if (!same("type(" + w + ")", x.type(w), m.type(w))) {
                    return false;
                }
            }
            return true;
        }

        /** Half of the paths lead to a directory that is there, or to a name in it. */
        String path() {
            if (random.nextBoolean()) {
                return anyPath();
            }
            String s = pathTo(1);
            return random.nextInt(3) == 0 ? s : cut(new StringBuilder(s).append("/").append(name()));
        }

        String pathOrDirectory() {
            return random.nextInt(3) == 0 ? path() : pathTo(1);
        }

        /** From the root to some object of this kind, if there is one that can be come to. */
        String pathTo(int kind) {
            List<String> found = new ArrayList<>();
            collect(m.root, "", kind, found, 0);
            if (found.isEmpty()) {
                return "/";
            }
            return cut(new StringBuilder(found.get(random.nextInt(found.size()))));
        }

        void collect(Node directory, String path, int kind, List<String> found, int depth) {
            if (kind == 1 && depth > 0) {
                found.add(path);
            }
            for (Map.Entry<String, Node> e : directory.entries.entrySet()) {
                Node n = m.top(e.getValue());
                if (n.kind == 1) {
                    collect(n, path + "/" + e.getKey(), kind, found, depth + 1);
                } else if (n.kind == kind) {
                    found.add(path + "/" + e.getKey());
                }
            }
        }

        String anyPath() {
            StringBuilder s = new StringBuilder(random.nextInt(3) == 0 ? "/" : "");
            int names = random.nextInt(12) == 0 ? random.nextInt(20) : random.nextInt(4);
            for (int k = 0; k < names; k++) {
                s.append(k == 0 ? "" : "/").append(name());
                if (random.nextInt(14) == 0) {
                    s.append("/");
                }
            }
            return cut(s);
        }

        String target() {
            if (random.nextInt(6) == 0) {
                return cut(new StringBuilder(name()).append("/./././././././././././././././././.").append(name()));
            }
            return path();
        }

        String cut(StringBuilder s) {
            return s.substring(0, Math.min(s.length(), 40 + random.nextInt(3)));
        }

        /** Few names make paths that meet, many of them fill the object; each run has its taste. */
        String name() {
            switch (random.nextInt(10)) {
                case 0:
                    return ".";
                case 1:
                    return random.nextInt(3) == 0 ? "..." : "..";
                case 2:
                    return "abcdefgh".substring(0, 5 + random.nextInt(3));
                default:
                    return String.valueOf((char) ('a' + random.nextInt(3 + 7 * taste)));
            }
        }
    }

    private static final class Node {
        int number;
        int kind;
        int mode;
        int owner;
        int volume;
        String target;
        Node parent;
        Map<String, Node> entries = new LinkedHashMap<>();
    }

    /** What coming to a last name tells. */
    private static final class Place {
        int end;
        Node at;
        String name;
        boolean slashed;
    }

    /** The document in other words. */
    private static final class Model {
        final Node[] nodes = new Node[40];
        final List<Node> roots = new ArrayList<>();
        final Map<Integer, Node> covered = new LinkedHashMap<>();
        String text = "";
        String second = "";
        int user = 0;
        Node root;
        Node present;

        Model() {
            volume();
            root = nodes[0];
            present = root;
        }

        boolean type(int w) {
            String more = "";
            for (byte b : new byte[] {(byte) (w >> 24), (byte) (w >> 16), (byte) (w >> 8), (byte) w}) {
                if (b != 0) {
                    more += (char) (b & 255);
                }
            }
            boolean good = more.matches("[!-~]*") && (text + more).length() <= 40;
            text = good ? text + more : text;
            return good;
        }

        int at(int k) {
            return k >= 0 && k < text.length() ? text.charAt(k) : -11;
        }

        Integer coverer(Node n) {
            for (Map.Entry<Integer, Node> e : covered.entrySet()) {
                if (e.getValue() == n) {
                    return e.getKey();
                }
            }
            return null;
        }

        Node top(Node n) {
            return coverer(n) == null ? n : top(roots.get(coverer(n)));
        }

        Node ground(Node n) {
            return roots.get(n.volume) == n && covered.containsKey(n.volume) ? ground(covered.get(n.volume)) : n;
        }

        Node above(Node n, Node ceiling) {
            return n == ceiling ? n : top(ground(n).parent);
        }

        boolean may(int bit, Node n) {
            int rights = n.owner == user ? n.mode >> 2 : n.mode & 3;
            return user == 0 || (rights >> bit & 1) == 1;
        }

        Place come(String path, boolean follow, boolean toLast) {
            Place p = new Place();
            if (path.isEmpty()) {
                p.end = -1;
                return p;
            }
            p.at = path.startsWith("/") ? root : present;
            String rest = path;
            int hops = 0;
            while (true) {
                rest = rest.replaceFirst("^/+", "");
                if (rest.isEmpty()) {
                    return p;
                }
                p.name = rest.replaceFirst("/.*", "");
                rest = rest.substring(p.name.length());
                boolean last = rest.matches("/*");
                p.slashed = !rest.isEmpty();
                if (p.at.kind != 1) {
                    p.end = -2;
                } else if (!may(0, p.at)) {
                    p.end = -3;
                } else if (p.name.length() > 6) {
                    p.end = -5;
                }
                if (p.end != 0 || toLast && last) {
                    return p;
                }
                Node next = p.name.equals(".") ? p.at : p.name.equals("..") ? above(p.at, root) : p.at.entries.get(p.name);
                if (next == null) {
                    p.end = -1;
                    return p;
                }
                next = top(next);
                if (next.kind == 3 && (!last || p.slashed || follow)) {
                    hops++;
                    rest = next.target + rest;
                    if (hops > 8 || rest.length() > 60) {
                        p.end = hops > 8 ? -4 : -5;
                        return p;
                    }
                    p.at = next.target.startsWith("/") ? root : p.at;
                } else {
                    p.at = next;
                    if (p.slashed && next.kind != 1) {
                        p.end = -2;
                        return p;
                    }
                }
            }
        }

        int resolve(boolean follow) {
            Place p = come(text, follow, false);
            return p.end != 0 ? p.end : p.at.number;
        }

        Place newPlace(boolean mayBeSlashed) {
            Place p = new Place();
            if (text.matches("/*")) {
                p.end = text.isEmpty() ? -1 : -6;
                return p;
            }
            p = come(text, false, true);
            if (p.end != 0) {
                return p;
            }
            if (p.name.matches("[.][.]?") || p.at.entries.containsKey(p.name)) {
                p.end = -6;
            } else if (p.slashed && !mayBeSlashed) {
                p.end = -2;
            } else if (!may(1, p.at)) {
                p.end = -3;
            }
            return p;
        }

        int allEntries() {
            int sum = 0;
            for (Node n : nodes) {
                sum += n == null ? 0 : n.entries.size();
            }
            return sum;
        }

        Node create(int kind, int mode, int owner, int volume) {
            for (int i = 0; i < 40; i++) {
                if (nodes[i] == null) {
                    Node n = new Node();
                    n.number = i;
                    n.kind = kind;
                    n.mode = mode;
                    n.owner = owner;
                    n.volume = volume;
                    n.parent = n;
                    nodes[i] = n;
                    return n;
                }
            }
            return null;
        }

        int make(int kind, int mode) {
            boolean good = kind == 3 ? !second.isEmpty() : kind > 0 && kind < 3 && mode >= 0 && mode <= 15;
            if (!good) {
                return -11;
            }
            Place p = newPlace(kind == 1);
            if (p.end != 0) {
                return p.end;
            }
            if (allEntries() == 80) {
                return -10;
            }
            Node n = create(kind, kind == 3 ? 15 : mode, user, p.at.volume);
            if (n == null) {
                return -10;
            }
            n.target = second;
            n.parent = p.at;
            p.at.entries.put(p.name, n);
            return n.number;
        }

        int link() {
            Place old = come(second, false, false);
            if (old.end != 0) {
                return old.end;
            }
            if (old.at.kind == 1) {
                return -11;
            }
            Place p = newPlace(false);
            if (p.end != 0) {
                return p.end;
            }
            if (p.at.volume != old.at.volume) {
                return -9;
            }
            if (allEntries() == 80) {
                return -10;
            }
            p.at.entries.put(p.name, old.at);
            return old.at.number;
        }

        int remove() {
            if (text.matches("/*")) {
                return text.isEmpty() ? -1 : -7;
            }
            Place p = come(text, false, true);
            if (p.end != 0) {
                return p.end;
            }
            if (p.name.equals(".") || p.name.equals("..")) {
                return -11;
            }
            Node n = p.at.entries.get(p.name);
            if (n == null) {
                return -1;
            }
            if (p.slashed && n.kind != 1) {
                return -2;
            }
            if (!may(1, p.at)) {
                return -3;
            }
            if (covered.containsValue(n) || n == root || n == present) {
                return -7;
            }
            if (!n.entries.isEmpty()) {
                return -8;
            }
            p.at.entries.remove(p.name);
            if (about(n.number, 3) == 0) {
                nodes[n.number] = null;
            }
            return n.number;
        }

        int volume() {
            Node n = roots.size() == 4 ? null : create(1, 15, 0, roots.size());
            if (n == null) {
                return -10;
            }
            roots.add(n);
            return n.volume;
        }

        boolean isUnder(Node low, Node high) {
            return low == high || low != nodes[0] && isUnder(above(low, nodes[0]), high);
        }

        int mount(int v) {
            if (v < 1 || v >= roots.size()) {
                return -11;
            }
            if (user != 0) {
                return -3;
            }
            if (covered.containsKey(v)) {
                return -7;
            }
            Place p = come(text, true, false);
            if (p.end != 0) {
                return p.end;
            }
            if (p.at.kind != 1) {
                return -2;
            }
            if (isUnder(root, p.at) || isUnder(present, p.at)) {
                return -7;
            }
            covered.put(v, p.at);
            return p.at.number;
        }

        int unmount() {
            if (user != 0) {
                return -3;
            }
            Place p = come(text, true, false);
            if (p.end != 0) {
                return p.end;
            }
            int v = p.at.volume;
            if (roots.get(v) != p.at || !covered.containsKey(v)) {
                return -11;
            }
            boolean busy = root.volume == v || present.volume == v;
            for (Node n : covered.values()) {
                busy |= n.volume == v;
            }
            if (busy) {
                return -7;
            }
            covered.remove(v);
            return v;
        }

        int enter(boolean jail) {
            Place p = come(text, true, false);
            if (p.end != 0) {
                return p.end;
            }
            if (p.at.kind != 1) {
                return -2;
            }
            if (!may(0, p.at)) {
                return -3;
            }
            present = p.at;
            root = jail ? p.at : root;
            return p.at.number;
        }

        boolean user(int u) {
            boolean good = u >= 0 && u <= 3;
            user = good ? u : user;
            return good;
        }

        int change(int mode) {
            if (mode < 0 || mode > 15) {
                return -11;
            }
            Place p = come(text, true, false);
            if (p.end != 0) {
                return p.end;
            }
            if (user != 0 && user != p.at.owner) {
                return -3;
            }
            int old = p.at.mode;
            p.at.mode = mode;
            return old;
        }

        int path() {
            String whole = "";
            for (Node n = present; n != root; n = above(n, root)) {
                Node named = ground(n);
                for (Map.Entry<String, Node> e : named.parent.entries.entrySet()) {
                    if (e.getValue() == named) {
                        whole = "/" + e.getKey() + whole;
                    }
                }
            }
            whole = whole.isEmpty() ? "/" : whole;
            if (whole.length() > 40) {
                return -5;
            }
            text = whole;
            return whole.length();
        }

        int kind(int i) {
            return i < 0 || i > 39 || nodes[i] == null ? 0 : nodes[i].kind;
        }

        int about(int i, int what) {
            if (kind(i) == 0) {
                return -11;
            }
            Node n = nodes[i];
            int links = 0;
            for (Node d : nodes) {
                if (d != null) {
                    for (Node e : d.entries.values()) {
                        links += e == n ? 1 : 0;
                    }
                }
            }
            int cover = coverer(n) == null ? 0 : coverer(n);
            int[] all = {n.mode, n.owner, n.volume, links, n.entries.size(), cover};
            return what < 0 || what > 5 ? -11 : all[what];
        }

        int entry(int i, int k) {
            if (kind(i) != 1 || k < 0 || k >= nodes[i].entries.size()) {
                return -1;
            }
            return new ArrayList<>(nodes[i].entries.values()).get(k).number;
        }
    }
}
