import java.util.ArrayList;
import java.util.Collections;
import java.util.LinkedHashSet;
import java.util.List;
import java.util.Set;

/**
 * Each sentence of the document that names a boundary: at it, one below it and one above it; and each
 * call that is refused: what it answers, which reason goes first, and that it changes nothing.
 */
public final class BoundariesTest {
    private static final int NOENT = MountedPaths.NOENT;
    private static final int NOTDIR = MountedPaths.NOTDIR;
    private static final int ACCES = MountedPaths.ACCES;
    private static final int LOOP = MountedPaths.LOOP;
    private static final int LONG = MountedPaths.LONG;
    private static final int EXIST = MountedPaths.EXIST;
    private static final int BUSY = MountedPaths.BUSY;
    private static final int NOTEMPTY = MountedPaths.NOTEMPTY;
    private static final int XDEV = MountedPaths.XDEV;
    private static final int FULL = MountedPaths.FULL;
    private static final int BAD = MountedPaths.BAD;

    private static final int CALLS = 512;
    private static final int MIN = Integer.MIN_VALUE;
    private static final int MAX = Integer.MAX_VALUE;

    private static final Call RESOLVE = x -> x.resolve(true);
    private static final Call UNFOLLOWED = x -> x.resolve(false);
    private static final Call DIRECTORY = x -> x.make(1, 15);
    private static final Call FILE = x -> x.make(2, 15);
    private static final Call SYMLINK = x -> x.make(3, 15);
    private static final Call HARD = x -> x.link();
    private static final Call REMOVE = x -> x.remove();
    private static final Call VOLUME = x -> x.volume();
    private static final Call UNMOUNT = x -> x.unmount();
    private static final Call ENTER = x -> x.enter(false);
    private static final Call JAIL = x -> x.enter(true);
    private static final Call PATH = x -> x.path();
    private static final Call[] MAKES = {DIRECTORY, FILE, SYMLINK};

    private static int wrong = 0;
    private static int checks = 0;
    private static String sentence = "";

    public static void main(String[] args) {
        used512Times();
        objectNumbers();
        leastFreeNumber();
        entriesOfAll();
        linkTexts();
        rights();
        textCharacters();
        textRoom();
        wipeAndKeep();
        characters();
        emptyTexts();
        slashesAlone();
        nameLengths();
        dots();
        lastAndSlashed();
        hops();
        restLengths();
        walkOrder();
        aboveTheRoot();
        tops();
        comingToLastName();
        textsAreLetBe();
        makeArguments();
        makeOrder();
        linkOrder();
        removeEntries();
        removeOrder();
        volumeNumbers();
        mountNumbers();
        mountBelow();
        mountOrder();
        unmountOrder();
        unmountBusy();
        enterOrder();
        users();
        changeOrder();
        pathLengths();
        lookedUpNumbers();
        entryNumbers();
        System.out.println(wrong == 0 ? "all " + checks + " boundaries hold" : wrong + " of " + checks + " are wrong");
        if (wrong != 0) {
            System.exit(1);
        }
    }

    // ---- how a boundary is told

    /** Calls that bring a new object to where a test begins: they can be made again and again. */
    private interface Way {
        Bench on(Bench b);
    }

    /** The one call that is tested; a boolean counts 1 or 0. */
    private interface Call {
        int on(MountedPaths x);
    }

    /** Answers that tell something of an object's state. */
    private interface Sight {
        void of(Bench b, List<Integer> row);
    }

    private static void says(String promise, String words) {
        sentence = promise + ": \"" + words + "\"";
    }

    private static void is(String what, int got, int want) {
        checks++;
        if (got != want) {
            wrong++;
            System.out.println(sentence + ": " + what + " answered " + got + ", due is " + want);
        }
    }

    private static void answers(Way way, String text, Call call, int due) {
        Bench b = way.on(new Bench()).text(text);
        is("the call after " + b + "'" + text + "'", call.on(b.x()), due);
    }

    /** The call fails as is due, and an object on which it was made is as one on which it was not. */
    private static void refuses(Way way, String text, Call call, int due) {
        answers(way, text, call, due);
        for (Sight sight : sights(way.on(new Bench()).text(text).typed)) {
            List<Integer> without = new ArrayList<>();
            sight.of(way.on(new Bench()).text(text), without);
            List<Integer> with = new ArrayList<>();
            Bench b = way.on(new Bench()).text(text);
            call.on(b.x());
            sight.of(b, with);
            if (!without.equals(with)) {
                wrong++;
                System.out.println(sentence + ": refused with '" + text + "', but changed " + without + " to " + with);
            }
        }
    }

    /** Each sight has an object of its own, lest one needs more than 512 calls. */
    private static List<Sight> sights(Set<String> typed) {
        List<Sight> all = new ArrayList<>();
        all.add(BoundariesTest::seeText);
        all.add(BoundariesTest::seeKindsAndVolumes);
        all.add((b, row) -> seeAbout(b, row, 0));
        all.add((b, row) -> seeAbout(b, row, 20));
        all.add(BoundariesTest::seeEntries);
        all.add(BoundariesTest::seeUser);
        all.add(BoundariesTest::seePlaces);
        all.add(BoundariesTest::seeSecondText);
        List<String> paths = new ArrayList<>(typed);
        for (int k = 0; k < paths.size(); k += 20) {
            List<String> some = paths.subList(k, Math.min(k + 20, paths.size()));
            all.add((b, row) -> seePaths(b, row, some));
        }
        return all;
    }

    private static void seeText(Bench b, List<Integer> row) {
        row.add(b.x().length());
        for (int k = 0; k <= 40; k++) {
            row.add(b.x().at(k));
        }
    }

    private static void seeKindsAndVolumes(Bench b, List<Integer> row) {
        for (int i = 0; i < 40; i++) {
            row.add(b.x().kind(i));
        }
        for (int k = 0; k < 4; k++) {
            row.add(b.x().volume());
        }
    }

    private static void seeAbout(Bench b, List<Integer> row, int from) {
        for (int i = from; i < from + 20; i++) {
            for (int what = 0; what <= 5; what++) {
                row.add(b.x().about(i, what));
            }
        }
    }

    private static void seeEntries(Bench b, List<Integer> row) {
        for (int i = 0; i < 40; i++) {
            int object = b.x().entry(i, 0);
            for (int k = 1; k <= 80 && object >= 0; k++) {
                row.add(object);
                object = b.x().entry(i, k);
            }
            row.add(object);
        }
    }

    private static void seeUser(Bench b, List<Integer> row) {
        b.text("/");
        row.add(b.x().unmount());
        b.text("/zz");
        int made = b.x().make(2, 0);
        row.add(made);
        row.add(b.x().about(made, 1));
    }

    private static void seePlaces(Bench b, List<Integer> row) {
        b.user(0);
        b.text("/");
        row.add(b.x().resolve(true));
        b.text(".");
        row.add(b.x().resolve(true));
        row.add(b.x().path());
        seeText(b, row);
    }

    private static void seeSecondText(Bench b, List<Integer> row) {
        b.user(0);
        b.text("/zy");
        row.add(b.x().link());
        b.text("/zz");
        row.add(b.x().make(3, 0));
        row.add(b.x().resolve(true));
        row.add(b.x().resolve(false));
    }

    private static void seePaths(Bench b, List<Integer> row, List<String> paths) {
        b.user(0);
        for (String path : paths) {
            b.text(path);
            row.add(b.x().resolve(true));
            row.add(b.x().resolve(false));
        }
    }

    /** A new object with its calls counted, and with calls that are to succeed. */
    private static final class Bench {
        final Set<String> typed = new LinkedHashSet<>();
        private final MountedPaths object = new MountedPaths();
        private final StringBuilder told = new StringBuilder();
        private int calls = 0;
        private int objects = 1;
        private int entries = 0;

        MountedPaths x() {
            calls++;
            if (calls == CALLS + 1) {
                is("the number of a test's calls", calls, CALLS);
            }
            return object;
        }

        @Override
        public String toString() {
            return told.toString();
        }

        private Bench must(String call, int got) {
            told.append(call).append(", ");
            if (got < 0) {
                is("the way to the test, at " + call, got, 0);
            }
            return this;
        }

        Bench text(String s) {
            x().wipe();
            for (int k = 0; k < s.length(); k += 4) {
                if (!x().type(word(s.substring(k, Math.min(k + 4, s.length()))))) {
                    is("type, at " + k + " of " + s, 0, 1);
                }
            }
            typed.add(s);
            return this;
        }

        Bench second(String s) {
            text(s);
            x().keep();
            told.append("second ").append(s).append(", ");
            return this;
        }

        private Bench make(int kind, int mode, String path) {
            objects++;
            entries++;
            return text(path).must("make " + kind + " " + path, x().make(kind, mode));
        }

        Bench dir(String path) {
            return make(1, 15, path);
        }

        Bench dir(int mode, String path) {
            return make(1, mode, path);
        }

        Bench file(String path) {
            return make(2, 15, path);
        }

        Bench file(int mode, String path) {
            return make(2, mode, path);
        }

        Bench symlink(String target, String path) {
            return second(target).make(3, 15, path);
        }

        Bench hard(String old, String path) {
            entries++;
            return second(old).text(path).must("link " + path, x().link());
        }

        Bench gone(String path) {
            return text(path).must("remove " + path, x().remove());
        }

        Bench volumes(int n) {
            for (int k = 0; k < n; k++) {
                objects++;
                must("volume", x().volume());
            }
            return this;
        }

        Bench mount(int v, String path) {
            return text(path).must("mount " + v + " " + path, x().mount(v));
        }

        Bench unmount(String path) {
            return text(path).must("unmount " + path, x().unmount());
        }

        Bench enter(String path) {
            return text(path).must("enter " + path, x().enter(false));
        }

        Bench jail(String path) {
            return text(path).must("jail " + path, x().enter(true));
        }

        Bench change(int mode, String path) {
            return text(path).must("change " + mode + " " + path, x().change(mode));
        }

        Bench user(int u) {
            return must("user " + u, x().user(u) ? 1 : -1);
        }

        /** Files till there are so many objects. */
        Bench objectsTo(int n) {
            for (int k = objects; k < n; k++) {
                file("/o" + k);
            }
            return this;
        }

        /** Entries of one file till there are so many in all; the second text leads to that file. */
        Bench entriesTo(int n) {
            file("/z").second("/z");
            for (int k = entries; k < n; k++) {
                entries++;
                text("/e" + k).must("link /e" + k, x().link());
            }
            return this;
        }
    }

    private static int word(String s) {
        int w = 0;
        for (int k = 0; k < s.length(); k++) {
            w = w << 8 | s.charAt(k);
        }
        return w;
    }

    private static String times(int n, String s) {
        return String.join("", Collections.nCopies(n, s));
    }

    private static Bench nothing(Bench b) {
        return b;
    }

    // ---- what it is, and the terms

    private static void used512Times() {
        says("What it is", "an object is used for at most 512 calls");
        MountedPaths x = new MountedPaths();
        for (int call = 4; call <= CALLS; call += 4) {
            x.wipe();
            is("type before call " + call, x.type(word("/a")) ? 1 : 0, 1);
            is("make before call " + call, x.make(1 + call / 4 % 2, 15), 1);
            is("remove, call " + call, x.remove(), 1);
        }
        x = new MountedPaths();
        is("type", x.type(word("/l")) ? 1 : 0, 1);
        x.keep();
        for (int call = 4; call <= CALLS; call += 2) {
            is("make of a link before call " + call, x.make(3, 0), 1);
            is("remove, call " + call, x.remove(), 1);
        }
        x = new MountedPaths();
        for (int call = 1; call <= CALLS; call++) {
            is("volume, call " + call, x.volume(), call <= 3 ? call : FULL);
        }
        x = new MountedPaths();
        for (int call = 1; call <= CALLS; call++) {
            is("type, call " + call, x.type(word("/")) ? 1 : 0, call <= 40 ? 1 : 0);
        }
        says("What it is", "what later calls answer is free: but none throws");
        x = new MountedPaths();
        for (int k = 0; k < 1000; k++) {
            x.wipe();
            x.type(word("/") << 24 | '0' + k % 50 << 16 | '0' + k / 50 << 8);
            x.keep();
            x.make(1 + k % 3, 15);
            x.resolve(true);
            x.link();
            x.volume();
            x.mount(k % 4);
            x.enter(k % 7 == 0);
            x.path();
            x.unmount();
            x.remove();
        }
    }

    private static void objectNumbers() {
        says("Terms", "objects are numbered 0 .. 39");
        answers(b -> b.objectsTo(38), "/x", FILE, 38);
        for (int kind = 1; kind <= 3; kind++) {
            int k = kind;
            answers(b -> b.objectsTo(39).second("/o1"), "/x", x -> x.make(k, 15), 39);
            refuses(b -> b.objectsTo(40).second("/o1"), "/x", x -> x.make(k, 15), FULL);
            answers(b -> b.objectsTo(40).second("/o1"), "/x", x -> x.kind(39), 2);
        }
        answers(b -> b.objectsTo(40), "/o39", RESOLVE, 39);
        answers(b -> b.objectsTo(40), "", x -> x.kind(40), 0);
        answers(b -> b.objectsTo(40).gone("/o39"), "/x", DIRECTORY, 39);
        answers(b -> b.objectsTo(40).gone("/o1"), "/x", DIRECTORY, 1);
        answers(b -> b.objectsTo(39), "", VOLUME, 1);
        refuses(b -> b.objectsTo(40), "", VOLUME, FULL);
        answers(b -> b.objectsTo(40).second("/o1"), "/x", HARD, 1);
    }

    private static void leastFreeNumber() {
        says("Terms", "a new one gets the least number that is free");
        Way holes = b -> b.objectsTo(9).gone("/o5").gone("/o3").gone("/o7");
        answers(holes, "/x", FILE, 3);
        answers(b -> holes.on(b).file("/x"), "/y", DIRECTORY, 5);
        answers(b -> holes.on(b).file("/x").second("x"), "/y", SYMLINK, 5);
        answers(b -> holes.on(b).file("/x").file("/y"), "/w", FILE, 7);
        answers(b -> holes.on(b).file("/x").file("/y").file("/w"), "/v", FILE, 9);
        answers(b -> holes.on(b).volumes(1), "", x -> x.about(3, 2), 1);
        answers(b -> holes.on(b).volumes(2), "", x -> x.about(5, 2), 2);
        answers(b -> b.file("/a").gone("/a"), "/b", FILE, 1);
    }

    private static void entriesOfAll() {
        says("Terms", "all directories together have at most 80 entries");
        Way apart = b -> b.dir("/d").volumes(2).mount(1, "/d").file("/d/g").hard("/d/g", "/d/h").dir("/d/i")
            .dir("/m").mount(2, "/m").file("/m/g").dir("/m/i").unmount("/m");
        answers(b -> b.entriesTo(78), "/x", DIRECTORY, 2);
        answers(b -> b.entriesTo(79), "/x", DIRECTORY, 2);
        answers(b -> b.entriesTo(79).dir("/x"), "", x -> x.about(0, 4), 80);
        answers(b -> b.entriesTo(79), "/x", HARD, 1);
        answers(b -> b.entriesTo(80), "/e79", RESOLVE, 1);
        for (Call make : MAKES) {
            answers(b -> b.entriesTo(79), "/x", make, 2);
            answers(b -> apart.on(b).entriesTo(79), "/d/i/x", make, 10);
            refuses(b -> b.entriesTo(80), "/x", make, FULL);
            refuses(b -> apart.on(b).entriesTo(80), "/x", make, FULL);
            refuses(b -> apart.on(b).entriesTo(80), "/d/x", make, FULL);
            refuses(b -> apart.on(b).entriesTo(80), "/d/i/x", make, FULL);
            refuses(b -> apart.on(b).entriesTo(80), "/m/x", make, FULL);
        }
        refuses(b -> b.entriesTo(80), "/x", HARD, FULL);
        refuses(b -> b.dir("/d").entriesTo(80), "/d/x", HARD, FULL);
        refuses(b -> apart.on(b).entriesTo(80).second("/d/g"), "/d/x", HARD, FULL);
        answers(b -> b.entriesTo(80).gone("/e40").second("/z"), "/x", HARD, 1);
        answers(b -> b.entriesTo(80).gone("/z"), "/x", FILE, 2);
        refuses(b -> b.entriesTo(80).gone("/z").file("/x"), "/y", FILE, FULL);
        answers(b -> b.entriesTo(80), "", VOLUME, 1);
        says("Terms", "no two entries of a directory with the same name");
        refuses(b -> b.dir("/a").file("/a/a"), "/a", FILE, EXIST);
        refuses(b -> b.dir("/a").file("/a/a"), "/a/a", FILE, EXIST);
        answers(b -> b.dir("/a").file("/a/a"), "/a/b", FILE, 3);
        answers(b -> b.dir("/a").dir("/b").file("/a/a"), "/b/a", FILE, 4);
    }

    private static void linkTexts() {
        says("Terms", "a link has a text of 1 .. 40 characters");
        refuses(b -> b.file("/a").second(""), "/l", SYMLINK, BAD);
        answers(b -> b.file("/a").symlink("a", "/l"), "/l", RESOLVE, 1);
        String row = "/aaaaaa/bbbbbb/cccccc/dddddd/eeeeee/";
        Way deep = b -> b.dir("/aaaaaa").dir("/aaaaaa/bbbbbb").dir("/aaaaaa/bbbbbb/cccccc")
            .dir("/aaaaaa/bbbbbb/cccccc/dddddd").dir("/aaaaaa/bbbbbb/cccccc/dddddd/eeeeee")
            .file(row + "fgh").file(row + "fghi").file(row + "fgi");
        answers(b -> deep.on(b).symlink(row + "fgh", "/l"), "/l", RESOLVE, 6);
        answers(b -> deep.on(b).symlink(row + "fghi", "/l"), "/l", RESOLVE, 7);
        answers(b -> deep.on(b).symlink("a", "/k").symlink(row + "fghi", "/l"), "/l", RESOLVE, 7);
        answers(b -> deep.on(b).symlink(row + "fghi", "/k").gone("/k").symlink("aaaaaa", "/l"), "/l", RESOLVE, 1);
        answers(b -> deep.on(b).symlink(row + "fghi", "/k").second("x"), "/k", RESOLVE, 7);
        answers(b -> deep.on(b).symlink(row + "fghi", "/k").symlink(row + "fgi", "/l"), "/k", RESOLVE, 7);
    }

    /** Rights 0 .. 3 of a mode: bit 0 to search, bit 1 to write. */
    private static void rights() {
        says("Terms", "mode / 4 if the user is the owner, else mode % 4; user 0 may always");
        for (int mode = 0; mode < 16; mode++) {
            int m = mode;
            Way d = b -> b.user(1).dir("/d").user(0).file("/d/f").dir("/d/e").change(m, "/d");
            int[] rights = {3, mode / 4, mode % 4, mode % 4};
            for (int u = 0; u <= 3; u++) {
                int user = u;
                boolean search = rights[u] % 2 == 1;
                boolean write = rights[u] / 2 == 1;
                Way way = b -> d.on(b).second("/o").file("/o").user(user);
                answers(way, "/d/f", RESOLVE, search ? 2 : ACCES);
                answers(way, "/d/.", RESOLVE, search ? 1 : ACCES);
                answers(way, "/d/..", RESOLVE, search ? 0 : ACCES);
                answers(way, "/d", RESOLVE, 1);
                answers(way, "/d", ENTER, search ? 1 : ACCES);
                answers(way, "/d/e", ENTER, search ? 3 : ACCES);
                for (Call make : MAKES) {
                    answers(way, "/d/g", make, search && write ? 5 : ACCES);
                }
                answers(way, "/d/g", HARD, search && write ? 4 : ACCES);
                answers(way, "/d/f", REMOVE, search && write ? 2 : ACCES);
                answers(way, "/d", x -> x.change(0), u <= 1 ? mode : ACCES);
            }
        }
        says("Terms", "user 0 may search and write every directory, its own too");
        answers(b -> b.dir(0, "/d").file("/d/f"), "/d/f", RESOLVE, 2);
        answers(b -> b.dir(0, "/d"), "/d", ENTER, 1);
        answers(b -> b.dir(0, "/d").file("/d/f"), "/d/f", REMOVE, 2);
    }

    private static void textCharacters() {
        says("2 type", "the bytes of w other than 0, the highest first; false when one is not 33 .. 126");
        for (int c = 0; c <= 255; c++) {
            int character = c;
            boolean good = c == 0 || c >= 33 && c <= 126;
            for (int shift = 0; shift <= 24; shift += 8) {
                int alone = character << shift;
                int among = 0x61626364 & ~(255 << shift) | alone;
                answers(BoundariesTest::nothing, "x", x -> x.type(alone) ? 1 : 0, good ? 1 : 0);
                answers(BoundariesTest::nothing, "x", x -> x.type(among) ? 1 : 0, good ? 1 : 0);
                typed("x", alone, good && c != 0 ? "x" + (char) c : "x");
                String others = "abcd";
                String mixed = others.substring(0, 3 - shift / 8) + (c == 0 ? "" : (char) c) + others.substring(4 - shift / 8);
                typed("x", among, good ? "x" + mixed : "x");
            }
        }
        for (int w : new int[] {MIN, -1, MAX, 32, 127, 0x20202020, 0x7f7f7f7f, 0x21212120, 0x2021217e, 0x61616180}) {
            refuses(BoundariesTest::nothing, "x", x -> x.type(w) ? 1 : 0, 0);
        }
        typed("", 0x21212121, "!!!!");
        typed("", 0x7e7e7e7e, "~~~~");
        typed("", 0x61000062, "ab");
        typed("", 0x00610062, "ab");
        typed("", 0, "");
    }

    private static void typed(String before, int w, String after) {
        Bench b = new Bench().text(before);
        b.x().type(w);
        textIs(b, after);
    }

    private static void textIs(Bench b, String s) {
        is("length of " + s, b.x().length(), s.length());
        for (int k = 0; k <= 40; k++) {
            is("at(" + k + ") of " + s, b.x().at(k), k < s.length() ? s.charAt(k) : BAD);
        }
    }

    private static void textRoom() {
        says("2 type", "false, changing nothing, when there is no room for all");
        int[][] words = {{0, 0x0000}, {1, 0x61000000}, {1, 0x61}, {2, 0x61620000}, {2, 0x61000062}, {3, 0x61620063}, {4, 0x61626364}};
        for (int length = 35; length <= 40; length++) {
            String text = times(length, "x");
            for (int[] word : words) {
                Call type = x -> x.type(word[1]) ? 1 : 0;
                if (length + word[0] <= 40) {
                    answers(BoundariesTest::nothing, text, type, 1);
                    typed(text, word[1], text + "abcd".substring(0, word[0]));
                } else {
                    refuses(BoundariesTest::nothing, text, type, 0);
                }
            }
        }
        says("2 type", "none for w = 0: true");
        answers(BoundariesTest::nothing, "", x -> x.type(0) ? 1 : 0, 1);
        answers(BoundariesTest::nothing, times(40, "x"), x -> x.type(0) ? 1 : 0, 1);
        says("2 type", "after a wipe there is room again");
        Bench b = new Bench().text(times(40, "x")).text("abc");
        textIs(b, "abc");
    }

    private static void wipeAndKeep() {
        for (int length : new int[] {0, 1, 39, 40}) {
            says("3 wipe", "the text becomes empty");
            Bench b = new Bench().text(times(length, "/"));
            b.x().wipe();
            textIs(b, "");
            says("4 keep", "it stays the text");
            b = new Bench().text(times(length, "/"));
            b.x().keep();
            textIs(b, times(length, "/"));
            says("4 keep", "the text becomes the second text as well");
            answers(c -> c.second(times(length, "/")), "/l", SYMLINK, length == 0 ? BAD : 1);
            answers(c -> c.second("/x").second(times(length, "/")), "/l", HARD, length == 0 ? NOENT : BAD);
        }
        says("4 keep", "a later text is not the second one");
        answers(b -> b.file("/f").second("/f").text("/x"), "/l", HARD, 1);
        answers(b -> b.file("/f").file("/g").second("/f").second("/g"), "/l", HARD, 2);
        answers(b -> b.file("/f").second("/f").second(""), "/l", HARD, NOENT);
    }

    private static void characters() {
        says("6 at", "character k of the text; BAD if there is none");
        for (int length : new int[] {0, 1, 2, 39, 40}) {
            String text = times(length, "x");
            for (int k : new int[] {MIN, MIN + 1, -256, -40, -1, 0, 1, 38, 39, 40, 41, 255, 256, 65536, MAX - 1, MAX}) {
                refusesUnless(k >= 0 && k < length, text, x -> x.at(k), 'x', BAD);
            }
            says("5 length", "the number of characters of the text");
            answers(BoundariesTest::nothing, text, x -> x.length(), length);
        }
    }

    private static void refusesUnless(boolean good, String text, Call call, int answer, int refusal) {
        if (good) {
            answers(BoundariesTest::nothing, text, call, answer);
        } else {
            refuses(BoundariesTest::nothing, text, call, refusal);
        }
    }

    // ---- walking

    /** Objects that end walks: what each path leads to is told by the tests that use them. */
    private static Bench places(Bench b) {
        return b.dir("/a").file("/a/f").dir("/a/d").symlink("p", "/p").dir(13, "/w").file("/w/f").dir(14, "/s")
            .file("/s/f").symlink("a/f", "/l").symlink("a", "/k").file("/g");
    }

    private static void emptyTexts() {
        says("Terms", "NOENT if the text is empty");
        Way way = b -> places(b).volumes(1).second("/g");
        Call[] calls = {RESOLVE, UNFOLLOWED, DIRECTORY, FILE, SYMLINK, HARD, REMOVE, UNMOUNT, ENTER, JAIL,
            x -> x.mount(1), x -> x.change(0)};
        for (Call call : calls) {
            refuses(way, "", call, NOENT);
        }
        refuses(b -> places(b).second(""), "/x", HARD, NOENT);
    }

    private static void slashesAlone() {
        for (int n : new int[] {1, 2, 39, 40}) {
            String text = times(n, "/");
            Way jail = b -> places(b).volumes(1).jail("/a").enter("d").second("../f");
            says("7 resolve", "/ at the beginning of REST are taken off; if REST is empty, AT is what was come to");
            answers(jail, text, RESOLVE, 1);
            answers(jail, text, UNFOLLOWED, 1);
            answers(jail, text, ENTER, 1);
            answers(jail, text, x -> x.change(7), 15);
            says("8 make", "EXIST when it has characters / alone");
            for (Call make : MAKES) {
                refuses(jail, text, make, EXIST);
            }
            says("9 link", "EXIST as for make");
            refuses(jail, text, HARD, EXIST);
            says("10 remove", "BUSY when it has characters / alone");
            refuses(jail, text, REMOVE, BUSY);
            says("12 mount", "BUSY when the root is that directory");
            refuses(jail, text, x -> x.mount(1), BUSY);
            says("13 unmount", "BAD when it is not the root directory of a volume that is mounted");
            refuses(jail, text, UNMOUNT, BAD);
        }
        says("Terms", "one character other than / makes a name");
        answers(b -> b.dir("/a"), times(39, "/") + "a", RESOLVE, 1);
        answers(b -> b.dir("/a"), "a" + times(39, "/"), RESOLVE, 1);
        answers(BoundariesTest::nothing, times(39, "/") + "a", FILE, 1);
        answers(BoundariesTest::nothing, "a" + times(39, "/"), DIRECTORY, 1);
        answers(b -> b.dir("/a"), "a" + times(39, "/"), REMOVE, 1);
    }

    private static void nameLengths() {
        says("Terms", "LONG, the name has more than 6 characters");
        Way way = b -> b.dir("/abcde").dir("/abcdef").dir("/abcdef/abcdef").file("/g").volumes(1).second("/g");
        Call[] walks = {RESOLVE, UNFOLLOWED, UNMOUNT, ENTER, JAIL, x -> x.mount(1), x -> x.change(0)};
        answers(way, "/abcde", RESOLVE, 1);
        answers(way, "/abcdef", RESOLVE, 2);
        answers(way, "/abcdef/abcdef", RESOLVE, 3);
        for (Call walk : walks) {
            refuses(way, "/abcdefg", walk, LONG);
            refuses(way, "/abcdef/abcdefg", walk, LONG);
            refuses(way, "abcdefg/abcdef", walk, LONG);
            refuses(way, "abcdefg/..", walk, LONG);
        }
        for (Call call : new Call[] {DIRECTORY, FILE, SYMLINK, HARD, REMOVE}) {
            refuses(way, "/abcdefg", call, LONG);
            refuses(way, "abcdef/abcdefg", call, LONG);
            refuses(way, "abcdefg/x", call, LONG);
        }
        answers(way, "/bcdef", FILE, 6);
        answers(way, "/bcdefg", FILE, 6);
        answers(way, "/abcdef", REMOVE, NOTEMPTY);
        answers(way, "/abcde", REMOVE, 1);
        answers(way, "/bcdefg", HARD, 4);
        for (int length = 7; length <= 40; length++) {
            answers(way, times(length, "a"), RESOLVE, LONG);
            answers(way, times(length, "."), RESOLVE, LONG);
        }
        for (int length = 3; length <= 6; length++) {
            answers(way, times(length, "."), RESOLVE, NOENT);
        }
        says("Terms", "a long name whose end or beginning is that of another");
        answers(b -> b.dir("/a").dir("/aaaaaa"), "/aaaaaaaaaaaaaa", RESOLVE, LONG);
        answers(b -> b.symlink("abcdefg", "/l"), "/l", RESOLVE, LONG);
        answers(b -> b.symlink("abcdefg", "/l"), "/l", UNFOLLOWED, 1);
        answers(b -> b.dir("/bcdefg").symlink("bcdefg", "/l"), "/l", RESOLVE, 1);
    }

    private static void dots() {
        says("Terms", "the dots are the names . and .. (of one and two points)");
        Way way = b -> b.dir("/a").dir("/a/b").dir("/a/...").file("/g").second("/g").enter("/a/b");
        answers(way, ".", RESOLVE, 2);
        answers(way, "..", RESOLVE, 1);
        answers(way, "...", RESOLVE, NOENT);
        answers(way, "../...", RESOLVE, 3);
        answers(way, "./", UNFOLLOWED, 2);
        answers(way, "../", UNFOLLOWED, 1);
        for (String dot : new String[] {".", "..", "./", "..//", "/a/.", "/a/..", "/.", "/..", "/a/b/../"}) {
            for (Call make : MAKES) {
                refuses(way, dot, make, EXIST);
            }
            refuses(way, dot, HARD, EXIST);
            refuses(way, dot, REMOVE, BAD);
        }
        answers(way, "...", DIRECTORY, 5);
        answers(way, "...", HARD, 4);
        answers(way, "/a/...", REMOVE, 3);
        answers(way, ".a", FILE, 5);
        answers(way, "..a", FILE, 5);
        answers(way, "a.", FILE, 5);
    }

    private static void lastAndSlashed() {
        says("Terms", "NOTDIR if the name is slashed and X is no directory");
        for (Call walk : new Call[] {RESOLVE, UNFOLLOWED}) {
            answers(BoundariesTest::places, "/a/f", walk, 2);
            refuses(BoundariesTest::places, "/a/f/", walk, NOTDIR);
            refuses(BoundariesTest::places, "/a/f///", walk, NOTDIR);
            refuses(BoundariesTest::places, "/a/f/.", walk, NOTDIR);
            refuses(BoundariesTest::places, "/a/f/..", walk, NOTDIR);
            refuses(BoundariesTest::places, "/a/f/x", walk, NOTDIR);
            refuses(BoundariesTest::places, "/a/f/abcdefg", walk, NOTDIR);
            refuses(BoundariesTest::places, "/l/", walk, NOTDIR);
            answers(BoundariesTest::places, "/a/d", walk, 3);
            answers(BoundariesTest::places, "/a/d/", walk, 3);
        }
        says("Terms", "if X is a link, and the name is not last, or is slashed, or links are to be followed");
        answers(BoundariesTest::places, "/k", UNFOLLOWED, 10);
        answers(BoundariesTest::places, "/k", RESOLVE, 1);
        answers(BoundariesTest::places, "/k/", UNFOLLOWED, 1);
        answers(BoundariesTest::places, "/k//", UNFOLLOWED, 1);
        answers(BoundariesTest::places, "/k/.", UNFOLLOWED, 1);
        answers(BoundariesTest::places, "/k/f", UNFOLLOWED, 2);
        answers(b -> places(b).symlink("k", "/kk"), "/kk", UNFOLLOWED, 12);
        answers(b -> places(b).symlink("k", "/kk"), "/kk/", UNFOLLOWED, 1);
        answers(b -> places(b).symlink("k/", "/kk"), "/kk", RESOLVE, 1);
        answers(b -> places(b).symlink("l/", "/ll"), "/ll", RESOLVE, NOTDIR);
        answers(b -> places(b).symlink("../l", "/a/ll"), "/k/ll", UNFOLLOWED, 12);
        answers(b -> places(b).symlink("../l", "/a/ll"), "/k/ll", RESOLVE, 2);
        says("Terms", "AT is the root if the link's text begins with /, else it stays");
        Way both = b -> places(b).file("/f").symlink("f", "/a/r").symlink("/f", "/a/s").enter("/a/d");
        answers(both, "/a/r", RESOLVE, 2);
        answers(both, "../r", RESOLVE, 2);
        answers(both, "/a/s", RESOLVE, 12);
        answers(both, "../s", RESOLVE, 12);
        answers(b -> both.on(b).jail("/a"), "/r", RESOLVE, 2);
        answers(b -> both.on(b).jail("/a"), "/s", RESOLVE, 2);
        says("Terms", "AT is the root if the text begins with /, else the present directory");
        answers(both, "d", RESOLVE, NOENT);
        answers(both, "../d", RESOLVE, 3);
        answers(both, "/a/d", RESOLVE, 3);
        answers(both, "/../d", RESOLVE, NOENT);
    }

    /** /1 leads to /d, and each later number to the one before it; h leads to where it is. */
    private static Bench chain(Bench b) {
        b.dir("/d").file("/d/f").symlink("d", "/1");
        for (int k = 2; k <= 10; k++) {
            b.symlink("" + (k - 1), "/" + k);
        }
        return b.symlink(".", "/h").volumes(1);
    }

    private static void hops() {
        says("Terms", "LOOP if there are more than 8 hops");
        Call[] walks = {RESOLVE, UNMOUNT, ENTER, JAIL, x -> x.mount(1), x -> x.change(0)};
        int[] found = {1, BAD, 1, 1, 1, 15};
        for (int k = 0; k < walks.length; k++) {
            answers(BoundariesTest::chain, "/7", walks[k], found[k]);
            answers(BoundariesTest::chain, "/8", walks[k], found[k]);
            refuses(BoundariesTest::chain, "/9", walks[k], LOOP);
            refuses(BoundariesTest::chain, "/10", walks[k], LOOP);
            answers(BoundariesTest::chain, times(8, "h/") + "d", walks[k], found[k]);
            refuses(BoundariesTest::chain, times(9, "h/") + "d", walks[k], LOOP);
        }
        answers(BoundariesTest::chain, "/9", UNFOLLOWED, 11);
        answers(BoundariesTest::chain, "/8/", UNFOLLOWED, 1);
        answers(BoundariesTest::chain, "/9/", UNFOLLOWED, LOOP);
        answers(BoundariesTest::chain, "/8/f", UNFOLLOWED, 2);
        answers(BoundariesTest::chain, "/9/f", UNFOLLOWED, LOOP);
        answers(BoundariesTest::chain, "h/h/6", RESOLVE, 1);
        answers(BoundariesTest::chain, "h/h/7", RESOLVE, LOOP);
        answers(BoundariesTest::chain, times(8, "h/") + "h", UNFOLLOWED, 13);
        answers(BoundariesTest::chain, times(8, "h/") + "h", RESOLVE, LOOP);
        says("Terms", "coming to the last name: hops are counted in the same way");
        Way second = b -> chain(b).second("/d/f");
        for (Call make : MAKES) {
            answers(second, "/8/x", make, 15);
            refuses(second, "/9/x", make, LOOP);
        }
        answers(second, "/8/x", HARD, 2);
        refuses(second, "/9/x", HARD, LOOP);
        answers(second, "/8/f", REMOVE, 2);
        refuses(second, "/9/f", REMOVE, LOOP);
        answers(second, times(8, "h/") + "h", REMOVE, 13);
        refuses(second, times(9, "h/") + "h", REMOVE, LOOP);
        says("9 link", "the second text is walked with hops of its own");
        answers(b -> chain(b).second("/8/f"), "/8/x", HARD, 2);
        refuses(b -> chain(b).second("/9/f"), "/x", HARD, LOOP);
        answers(b -> chain(b).second(times(8, "h/") + "h"), times(8, "h/") + "i", HARD, 13);
        says("Terms", "LOOP: a link that leads to itself");
        refuses(BoundariesTest::places, "/p", RESOLVE, LOOP);
        refuses(BoundariesTest::places, "/p/", UNFOLLOWED, LOOP);
        refuses(BoundariesTest::places, "/p/x", FILE, LOOP);
        answers(BoundariesTest::places, "/p", UNFOLLOWED, 4);
        answers(BoundariesTest::places, "/p", REMOVE, 4);
    }

    private static void restLengths() {
        says("Terms", "LONG if REST has more than 60 characters then");
        for (int t = 22; t <= 40; t++) {
            for (String target : new String[] {times(t - 1, "/") + "a", "a" + times(t - 1, "/")}) {
                Way way = b -> b.dir("/a").file("/g").volumes(1).symlink(target, "/l").second("/g");
                for (int all = 59; all <= 60; all++) {
                    answers(way, "l" + times(all - t, "/"), RESOLVE, 1);
                    answers(way, "l" + times(all - t - 1, "/") + "x", FILE, 5);
                    answers(way, "l" + times(all - t - 1, "/") + "x", HARD, 2);
                }
                String beyond = "l" + times(61 - t, "/");
                String name = "l" + times(60 - t, "/") + "x";
                refuses(way, beyond, RESOLVE, LONG);
                answers(way, beyond, UNFOLLOWED, LONG);
                answers(way, name, FILE, LONG);
                answers(way, name, HARD, LONG);
                answers(way, name, REMOVE, LONG);
            }
        }
        Way forty = b -> b.dir("/a").volumes(1).symlink(times(39, "/") + "a", "/l").symlink("l", "/m").second("l");
        for (Call call : new Call[] {RESOLVE, UNFOLLOWED, ENTER, JAIL, UNMOUNT, x -> x.mount(1), x -> x.change(0)}) {
            refuses(forty, "l" + times(21, "/"), call, LONG);
            refuses(forty, "m" + times(21, "/"), call, LONG);
            refuses(forty, "./././l" + times(21, "/"), call, LONG);
        }
        for (Call call : new Call[] {DIRECTORY, FILE, SYMLINK, HARD, REMOVE}) {
            refuses(forty, "l" + times(20, "/") + "x", call, LONG);
            refuses(forty, "m" + times(20, "/") + "x", call, LONG);
        }
        says("Terms", "REST is counted without what was taken off it");
        answers(forty, "./././././././././m" + times(20, "/"), RESOLVE, 1);
        answers(forty, times(19, "/") + "l" + times(20, "/"), RESOLVE, 1);
        answers(forty, "l/" + times(18, "/") + "l", RESOLVE, NOENT);
        says("9 link", "what ends the walk of the second text: LONG");
        refuses(b -> forty.on(b).second("l" + times(21, "/")), "/x", HARD, LONG);
        answers(b -> forty.on(b).second("l" + times(20, "/")), "/x", HARD, BAD);
    }

    private static void walkOrder() {
        says("Terms", "the first of these that holds ends the walk: ACCES before LONG");
        Way other = b -> places(b).user(1);
        for (Call call : new Call[] {RESOLVE, UNFOLLOWED, ENTER, x -> x.change(0), FILE, REMOVE}) {
            refuses(other, "/s/abcdefg", call, ACCES);
            refuses(other, "/s/abcdefg/x", call, ACCES);
        }
        says("Terms", "ACCES before NOENT, for the dots too");
        for (Call call : new Call[] {RESOLVE, UNFOLLOWED, ENTER, x -> x.change(0), REMOVE}) {
            refuses(other, "/s/x", call, ACCES);
            refuses(other, "/s/.", call, ACCES);
            refuses(other, "/s/..", call, ACCES);
            refuses(other, "/s/f/", call, ACCES);
        }
        says("Terms", "LONG before NOENT");
        refuses(other, "/w/abcdefg", RESOLVE, LONG);
        says("Terms", "an earlier name ends the walk before a later one");
        answers(other, "/x/abcdefg", RESOLVE, NOENT);
        answers(other, "/abcdefg/x", RESOLVE, LONG);
        answers(other, "/p/abcdefg", RESOLVE, LOOP);
        answers(other, "/a/f/abcdefg", RESOLVE, NOTDIR);
        answers(other, "/s/x/abcdefg", RESOLVE, ACCES);
        answers(other, "/w/x/../../s/f", RESOLVE, NOENT);
        says("Terms", "the hop is counted before REST: LOOP before LONG");
        Way both = b -> b.dir("/d").symlink(times(40, "./").substring(0, 38) + "/d", "/l").symlink(".", "/h");
        answers(both, times(8, "h/") + "l" + times(20, "/"), RESOLVE, LOOP);
        answers(both, times(8, "h/") + "l" + times(21, "/"), RESOLVE, LOOP);
        answers(both, times(7, "h/") + "l" + times(20, "/"), RESOLVE, 1);
        answers(both, times(7, "h/") + "l" + times(21, "/"), RESOLVE, LONG);
        answers(both, times(8, "h/") + "l" + times(20, "/") + "x", FILE, LOOP);
        answers(both, times(7, "h/") + "l" + times(20, "/") + "x", FILE, LONG);
        says("Terms", "LONG of REST before what the link's text would end with");
        answers(b -> b.symlink(times(39, "/") + "x", "/l"), "l" + times(20, "/"), RESOLVE, NOENT);
        answers(b -> b.symlink(times(39, "/") + "x", "/l"), "l" + times(21, "/"), RESOLVE, LONG);
        says("Terms", "a search right is needed for each name, none for what is come to");
        answers(other, "/s", RESOLVE, 7);
        answers(other, "/s/", RESOLVE, 7);
        answers(b -> places(b).change(12, "/").user(1), "/", RESOLVE, 0);
        answers(b -> places(b).change(12, "/").user(1), ".", RESOLVE, ACCES);
        answers(b -> places(b).change(12, "/").user(1), "/a", RESOLVE, ACCES);
        answers(b -> places(b).enter("/a").change(12, "/").user(1), "f", RESOLVE, 2);
        answers(b -> places(b).enter("/a").change(12, "/").user(1), "..", RESOLVE, 0);
        answers(b -> places(b).enter("/a").change(12, "/").user(1), "../a", RESOLVE, ACCES);
        answers(b -> places(b).symlink("/a/f", "/a/m").enter("/a").change(12, "/").user(1), "m", RESOLVE, ACCES);
    }

    private static void aboveTheRoot() {
        says("Terms", "above a directory: itself, if it is the root");
        Way deep = b -> b.dir("/a").dir("/a/b").dir("/a/b/c").dir("/a/b/c/d");
        answers(deep, "..", RESOLVE, 0);
        answers(deep, "/..", RESOLVE, 0);
        answers(deep, times(13, "../") + ".", RESOLVE, 0);
        answers(deep, "/../../a/../..", RESOLVE, 0);
        Way jail = b -> deep.on(b).jail("/a/b").enter("c/d");
        answers(jail, "..", RESOLVE, 3);
        answers(jail, "../..", RESOLVE, 2);
        answers(jail, "../../..", RESOLVE, 2);
        answers(jail, times(13, "../") + ".", RESOLVE, 2);
        answers(jail, "/..", RESOLVE, 2);
        answers(jail, "/../..", JAIL, 2);
        answers(b -> jail.on(b).symlink("/../..", "/u"), "/u", RESOLVE, 2);
        answers(b -> jail.on(b).symlink("../../..", "u"), "u", RESOLVE, 2);
        answers(b -> jail.on(b).jail("/c"), "/..", RESOLVE, 3);
        answers(b -> jail.on(b).jail("/c"), "..", RESOLVE, 3);
        says("Terms", "above the root of a mounted volume that is the root: itself");
        Way volume = b -> deep.on(b).volumes(1).mount(1, "/a/b").dir("/a/b/e").jail("/a/b");
        answers(volume, "..", RESOLVE, 5);
        answers(volume, "/e/..", RESOLVE, 5);
        answers(volume, "/e/../..", RESOLVE, 5);
        says("Terms", "above a volume's root: the top of the parent of what it covers");
        Way outside = b -> deep.on(b).volumes(3).mount(1, "/a/b").dir("/a/b/e").mount(2, "/a/b/e").mount(3, "/a/b/e");
        answers(outside, "/a/b/e", RESOLVE, 7);
        answers(outside, "/a/b/e/..", RESOLVE, 5);
        answers(outside, "/a/b/e/../..", RESOLVE, 1);
        answers(outside, "/a/b/e/../../..", RESOLVE, 0);
        answers(b -> outside.on(b).jail("/a"), "/b/e/../../..", RESOLVE, 1);
        answers(b -> outside.on(b).jail("/a/b"), "/e/../..", RESOLVE, 5);
    }

    private static void tops() {
        says("Terms", "the top of a covered directory is the top of the root directory of the volume that covers it");
        Way way = b -> b.dir("/d").dir("/d/x").volumes(3);
        answers(way, "/d", RESOLVE, 1);
        answers(b -> way.on(b).mount(1, "/d"), "/d", RESOLVE, 3);
        answers(b -> way.on(b).mount(1, "/d").mount(2, "/d"), "/d", RESOLVE, 4);
        answers(b -> way.on(b).mount(1, "/d").mount(2, "/d").mount(3, "/d"), "/d", RESOLVE, 5);
        answers(b -> way.on(b).mount(3, "/d").mount(2, "/d").mount(1, "/d"), "/d", RESOLVE, 3);
        answers(b -> way.on(b).mount(3, "/d").mount(2, "/d").mount(1, "/d"), "/d", UNFOLLOWED, 3);
        answers(b -> way.on(b).mount(3, "/d").mount(2, "/d").mount(1, "/d"), "/d/..", RESOLVE, 0);
        answers(b -> way.on(b).mount(3, "/d").mount(2, "/d").unmount("/d"), "/d", RESOLVE, 5);
        answers(b -> way.on(b).mount(3, "/d").unmount("/d"), "/d", RESOLVE, 1);
        answers(b -> way.on(b).mount(3, "/d").unmount("/d"), "/d/x", RESOLVE, 2);
        answers(b -> way.on(b).mount(3, "/d"), "/d/x", RESOLVE, NOENT);
        says("Terms", "a directory is covered by at most one");
        for (int v = 1; v <= 3; v++) {
            int volume = v;
            answers(b -> way.on(b).mount(1, "/d").mount(2, "/d").mount(3, "/d"), "",
                x -> x.about(new int[] {0, 1, 3, 4}[volume], 5), volume);
        }
        answers(b -> way.on(b).mount(1, "/d"), "/d", x -> x.mount(2), 3);
    }

    private static void comingToLastName() {
        says("Terms", "the walk ends at the first name that is last: it is not followed");
        answers(b -> places(b).symlink("none", "/n"), "/n", REMOVE, 12);
        answers(b -> places(b).symlink("none", "/n"), "/n", FILE, EXIST);
        answers(b -> places(b).symlink("none", "/n"), "/n/", DIRECTORY, EXIST);
        answers(b -> places(b).symlink("none", "/n"), "/n/x", DIRECTORY, NOENT);
        answers(BoundariesTest::places, "/k/f", REMOVE, 2);
        answers(BoundariesTest::places, "/k/", REMOVE, NOTDIR);
        answers(BoundariesTest::places, "/l", REMOVE, 9);
        says("Terms", "after NOTDIR, ACCES and LONG were looked at for it");
        refuses(BoundariesTest::places, "/a/f/x", FILE, NOTDIR);
        refuses(b -> places(b).user(1), "/s/x", FILE, ACCES);
        refuses(b -> places(b).user(1), "/s/f", REMOVE, ACCES);
        refuses(BoundariesTest::places, "/abcdefg", REMOVE, LONG);
        says("Terms", "AT is the top of what the names before lead to");
        Way way = b -> b.dir("/d").file("/d/f").volumes(1).mount(1, "/d");
        answers(b -> way.on(b).file("/d/g"), "", x -> x.entry(3, 0), 4);
        answers(b -> way.on(b).file("/d/f"), "", x -> x.about(4, 2), 1);
        answers(way, "/d/f", REMOVE, NOENT);
    }

    private static void textsAreLetBe() {
        says("Terms", "calls that take the text let it be");
        Way way = b -> places(b).volumes(2).mount(2, "/a/d").second("/g");
        String[] texts = {"/a/f", "/k/f", "/x", "/x/", "/x", "/x", "/l", "/s", "/a/d", "/a", "/w", "/a"};
        Call[] calls = {RESOLVE, UNFOLLOWED, FILE, DIRECTORY, SYMLINK, HARD, REMOVE, x -> x.mount(1), UNMOUNT,
            ENTER, JAIL, x -> x.change(15)};
        int[] due = {2, 2, 14, 14, 14, 11, 9, 7, 2, 1, 5, 15};
        for (int k = 0; k < calls.length; k++) {
            answers(way, texts[k], calls[k], due[k]);
            Bench b = way.on(new Bench()).text(texts[k]);
            calls[k].on(b.x());
            textIs(b, texts[k]);
        }
        says("Terms", "and the second text");
        for (int k = 0; k < calls.length; k++) {
            // The second text leads to /g, which a jail leaves behind.
            int g = calls[k] == JAIL ? NOENT : 11;
            Bench b = way.on(new Bench()).text(texts[k]);
            calls[k].on(b.x());
            is("link after call " + k, b.text("/y").x().link(), g);
            b = way.on(new Bench()).text(texts[k]);
            calls[k].on(b.x());
            is("kind of what is made after call " + k, b.x().kind(b.text("/y").x().make(3, 0)), 3);
            is("where it leads after call " + k, b.x().resolve(true), g);
        }
        says("Terms", "calls that take neither let the text be");
        Bench b = way.on(new Bench());
        b.x().volume();
        b.x().user(1);
        b.x().kind(0);
        b.x().about(0, 0);
        b.x().entry(0, 0);
        b.x().length();
        b.x().at(0);
        b.x().keep();
        textIs(b, "/g");
    }

    // ---- promises 8 to 10

    private static void makeArguments() {
        says("8 make", "BAD when kind is not 1 .. 3");
        Way way = b -> places(b).second("/g");
        for (int kind : new int[] {MIN, MIN + 1, -255, -3, -1, 0, 4, 5, 255, 256, 257, 65537, MAX}) {
            refuses(way, "/x", x -> x.make(kind, 15), BAD);
        }
        for (int kind = 1; kind <= 3; kind++) {
            int k = kind;
            answers(way, "/x", x -> x.make(k, 15), 12);
        }
        says("8 make", "BAD when mode is not 0 .. 15");
        for (int mode : new int[] {MIN, MIN + 15, -16, -2, -1, 16, 17, 31, 32, 256, 65536, MAX}) {
            refuses(way, "/x", x -> x.make(1, mode), BAD);
            refuses(way, "/x", x -> x.make(2, mode), BAD);
            says("8 make", "of no matter for kind 3; a link with mode 15");
            answers(way, "/x", x -> x.make(3, mode), 12);
            answers(way, "/x", x -> x.make(3, mode) == 12 ? x.about(12, 0) : BAD, 15);
        }
        for (int mode = 0; mode <= 15; mode++) {
            int m = mode;
            answers(b -> way.on(b).dir(m, "/x"), "", x -> x.about(12, 0), m);
            answers(b -> way.on(b).file(m, "/x"), "", x -> x.about(12, 0), m);
            answers(way, "/x", x -> x.make(3, m) == 12 ? x.about(12, 0) : BAD, 15);
        }
        says("8 make", "BAD when, for kind 3, the second text is empty");
        refuses(b -> places(b).second(""), "/x", SYMLINK, BAD);
        refuses(BoundariesTest::nothing, "/x", SYMLINK, BAD);
        answers(b -> places(b).second("x"), "/x", SYMLINK, 12);
        answers(b -> places(b).second(""), "/x", FILE, 12);
        answers(b -> places(b).second(""), "/x", DIRECTORY, 12);
        says("8 make", "its owner is the user");
        for (int u = 0; u <= 3; u++) {
            int user = u;
            answers(b -> places(b).user(user).file("/x"), "", x -> x.about(12, 1), u);
            answers(b -> places(b).user(user).symlink("x", "/x"), "", x -> x.about(12, 1), u);
            answers(b -> places(b).user(user).dir("/x"), "", x -> x.about(12, 1), u);
        }
    }

    private static void makeOrder() {
        Way mine = b -> places(b).second("/g");
        Way other = b -> mine.on(b).user(1);
        Way closed = b -> mine.on(b).change(12, "/").user(1);
        Way full = b -> mine.on(b).objectsTo(40).second("/g").user(1);
        Way crowded = b -> mine.on(b).entriesTo(80).user(1);
        says("8 make", "the first of these that holds: BAD");
        Call[] bad = {x -> x.make(0, 15), x -> x.make(4, 15), x -> x.make(1, 16), x -> x.make(2, -1)};
        for (String text : new String[] {"", "/", "/x/y", "/a/f/x", "/p/x", "/abcdefg", "/s/x", "/a/f", "/a/.", "/x/", "/w/x"}) {
            for (Call call : bad) {
                answers(other, text, call, BAD);
                answers(full, text, call, BAD);
                answers(crowded, text, call, BAD);
            }
            refuses(b -> other.on(b).second(""), text, SYMLINK, BAD);
        }
        for (Way way : new Way[] {mine, other, closed, full, crowded}) {
            for (Call make : MAKES) {
                says("8 make", "then NOENT when the text is empty, EXIST when it has characters / alone");
                refuses(way, "", make, NOENT);
                refuses(way, "/", make, EXIST);
                refuses(way, "//", make, EXIST);
            }
        }
        for (Way way : new Way[] {other, full, crowded}) {
            for (Call make : MAKES) {
                says("8 make", "then what ends the coming to its last name");
                refuses(way, "/x/y", make, NOENT);
                refuses(way, "/a/f/y", make, NOTDIR);
                refuses(way, "/p/y", make, LOOP);
                refuses(way, "/abcdefg", make, LONG);
                refuses(way, "/abcdefg/", make, LONG);
                refuses(way, "/w/abcdefg", make, LONG);
                refuses(way, "/s/f", make, ACCES);
                refuses(way, "/s/.", make, ACCES);
                refuses(way, "/s/x/", make, ACCES);
                says("8 make", "then EXIST when that is one of the dots or AT has it");
                refuses(way, "/a/f", make, EXIST);
                refuses(way, "/a/f/", make, EXIST);
                refuses(way, "/a/./", make, EXIST);
                refuses(way, "/a/../", make, EXIST);
                refuses(way, "/w/f", make, EXIST);
                refuses(way, "/w/f/", make, EXIST);
                refuses(way, "/w/.", make, EXIST);
                refuses(way, "/w/..", make, EXIST);
                says("8 make", "then NOTDIR when it is slashed and kind is not 1");
                refuses(way, "/w/x/", make, make == DIRECTORY ? ACCES : NOTDIR);
                says("8 make", "then ACCES when the user may not write AT");
                refuses(way, "/w/x", make, ACCES);
            }
        }
        for (Way way : new Way[] {full, crowded}) {
            for (Call make : MAKES) {
                says("8 make", "then FULL when no object or no entry is free");
                refuses(way, "/x", make, FULL);
                refuses(way, "/a/x", make, FULL);
                refuses(way, "/x//", make, make == DIRECTORY ? FULL : NOTDIR);
            }
        }
        says("8 make", "closed to the user, the root may not be searched");
        refuses(closed, "/x", FILE, ACCES);
        refuses(closed, "/.", FILE, ACCES);
        says("8 make", "none of these holds");
        answers(other, "/x", DIRECTORY, 12);
        answers(other, "/x/", DIRECTORY, 12);
        answers(other, "/x", FILE, 12);
        answers(mine, "/w/x", FILE, 12);
        answers(mine, "/s/x", FILE, 12);
    }

    private static void linkOrder() {
        Way volume = b -> places(b).volumes(1).dir("/v").mount(1, "/v").file("/v/f").change(13, "/v");
        Way crowd = b -> volume.on(b).entriesTo(80);
        for (Way base : new Way[] {volume, crowd}) {
            says("9 link", "the first of these that holds: what ends the walk of the second text");
            String[] seconds = {"", "/x", "/a/f/", "/a/f/x", "/s/f", "/p/", "/abcdefg", "/s/abcdefg"};
            int[] ends = {NOENT, NOENT, NOTDIR, NOTDIR, ACCES, LOOP, LONG, ACCES};
            for (String text : new String[] {"", "/", "/x/y", "/p/x", "/a/f", "/x/", "/w/x", "/v/x", "/n"}) {
                for (int k = 0; k < seconds.length; k++) {
                    String second = seconds[k];
                    answers(b -> base.on(b).second(second).user(1), text, HARD, ends[k]);
                }
                says("9 link", "then BAD when it is a directory");
                for (String second : new String[] {"/", ".", "..", "/a", "/k/", "/v", "/a/d/"}) {
                    answers(b -> base.on(b).second(second).user(1), text, HARD, BAD);
                }
                refuses(b -> base.on(b).second("/a").user(1), text, HARD, BAD);
                refuses(b -> base.on(b).second("/x").user(1), text, HARD, NOENT);
            }
            Way way = b -> base.on(b).second("/g").user(1);
            says("9 link", "then NOENT, EXIST");
            refuses(way, "", HARD, NOENT);
            refuses(way, "/", HARD, EXIST);
            refuses(way, "///", HARD, EXIST);
            refuses(b -> base.on(b).second("g").change(13, "/").user(1), "/", HARD, EXIST);
            says("9 link", "then what ends the coming to the last name");
            refuses(way, "/x/y", HARD, NOENT);
            refuses(way, "/a/f/y", HARD, NOTDIR);
            refuses(way, "/p/y", HARD, LOOP);
            refuses(way, "/abcdefg", HARD, LONG);
            refuses(way, "/abcdefg/", HARD, LONG);
            refuses(way, "/w/abcdefg", HARD, LONG);
            refuses(way, "/v/abcdefg", HARD, LONG);
            refuses(way, "/s/f", HARD, ACCES);
            refuses(way, "/s/..", HARD, ACCES);
            refuses(way, "/s/x/", HARD, ACCES);
            says("9 link", "then EXIST");
            refuses(way, "/g", HARD, EXIST);
            refuses(way, "/a/f/", HARD, EXIST);
            refuses(way, "/a/./", HARD, EXIST);
            refuses(way, "/w/f", HARD, EXIST);
            refuses(way, "/w/..", HARD, EXIST);
            refuses(way, "/v/f", HARD, EXIST);
            refuses(way, "/v/.", HARD, EXIST);
            refuses(way, "/v/f/", HARD, EXIST);
            says("9 link", "then NOTDIR when it is slashed");
            refuses(way, "/x/", HARD, NOTDIR);
            refuses(way, "/w/x/", HARD, NOTDIR);
            refuses(way, "/v/x//", HARD, NOTDIR);
            refuses(b -> base.on(b).second("/g"), "/v/x/", HARD, NOTDIR);
            says("9 link", "then ACCES");
            refuses(way, "/w/x", HARD, ACCES);
            refuses(way, "/v/x", HARD, ACCES);
            says("9 link", "then XDEV when AT is of another volume");
            refuses(b -> base.on(b).second("/g"), "/v/x", HARD, XDEV);
            refuses(b -> base.on(b).second("/v/f"), "/x", HARD, XDEV);
            refuses(b -> base.on(b).second("/l"), "/v/x", HARD, XDEV);
        }
        says("9 link", "then FULL when no entry is free");
        refuses(b -> crowd.on(b).second("/g"), "/x", HARD, FULL);
        refuses(b -> crowd.on(b).second("/v/f"), "/v/x", HARD, FULL);
        refuses(b -> crowd.on(b).second("/p"), "/a/x", HARD, FULL);
        says("9 link", "none of these holds; no object need be free");
        answers(b -> volume.on(b).second("/g").user(1), "/x", HARD, 11);
        answers(b -> volume.on(b).second("/v/f"), "/v/x", HARD, 14);
        answers(b -> volume.on(b).second("/p"), "/a/x", HARD, 4);
        answers(b -> volume.on(b).objectsTo(40).second("/p"), "/a/x", HARD, 4);
        answers(b -> volume.on(b).second("/w/f"), "/w/x", HARD, 6);
        says("9 link", "volumes other than 0 are told apart too");
        Way two = b -> b.dir("/1").dir("/2").volumes(2).mount(1, "/1").mount(2, "/2").file("/1/f").file("/2/f");
        refuses(b -> two.on(b).second("/1/f"), "/2/x", HARD, XDEV);
        refuses(b -> two.on(b).second("/2/f"), "/1/x", HARD, XDEV);
        answers(b -> two.on(b).second("/2/f"), "/2/x", HARD, 6);
    }

    private static void removeEntries() {
        says("10 remove", "with its last entry the object is free");
        Way three = b -> b.file("/f").hard("/f", "/g").dir("/d").hard("/f", "/d/h");
        answers(three, "/f", REMOVE, 1);
        answers(b -> three.on(b).gone("/f"), "", x -> x.about(1, 3), 2);
        answers(b -> three.on(b).gone("/f").gone("/d/h"), "", x -> x.about(1, 3), 1);
        answers(b -> three.on(b).gone("/f").gone("/d/h"), "", x -> x.kind(1), 2);
        answers(b -> three.on(b).gone("/f").gone("/d/h").gone("/g"), "", x -> x.kind(1), 0);
        answers(b -> three.on(b).gone("/f").gone("/d/h").gone("/g"), "/x", FILE, 1);
        answers(b -> three.on(b).gone("/f").gone("/d/h"), "/x", FILE, 3);
        answers(b -> b.symlink("x", "/l").hard("/l", "/m").gone("/l"), "/m", UNFOLLOWED, 1);
        answers(b -> b.symlink("x", "/l").hard("/l", "/m").gone("/l").gone("/m"), "", x -> x.kind(1), 0);
        says("10 remove", "NOTEMPTY when it is a directory with entries");
        answers(b -> b.dir("/d"), "/d", REMOVE, 1);
        refuses(b -> b.dir("/d").file("/d/1"), "/d", REMOVE, NOTEMPTY);
        refuses(b -> b.dir("/d").file("/d/1").file("/d/2"), "/d/", REMOVE, NOTEMPTY);
        refuses(b -> b.dir("/d").file("/d/1").file("/d/2").gone("/d/1"), "/d", REMOVE, NOTEMPTY);
        answers(b -> b.dir("/d").file("/d/1").gone("/d/1"), "/d", REMOVE, 1);
        answers(b -> b.dir("/d").file("/d/1").file("/d/2").gone("/d/1").gone("/d/2"), "/d/", REMOVE, 1);
        says("10 remove", "what is removed leaves no trace for its number's next object");
        Way again = b -> b.dir(5, "/d").file("/d/f").gone("/d/f").gone("/d").user(2).dir(9, "/e");
        int[] due = {9, 2, 0, 1, 0, 0};
        for (int what = 0; what <= 5; what++) {
            int w = what;
            answers(again, "", x -> x.about(1, w), due[what]);
        }
        answers(b -> b.dir("/a").dir("/a/b").gone("/a/b").dir("/c"), "/c/..", RESOLVE, 0);
        answers(b -> b.dir("/a").dir("/a/b").gone("/a/b").volumes(1).dir("/c").mount(1, "/c"), "/c/..", RESOLVE, 0);
    }

    private static void removeOrder() {
        Way way = b -> places(b).dir("/w/c").dir("/w/d").file("/w/d/f").dir("/w/e").file("/w/e/f").volumes(1);
        Way mine = b -> way.on(b).mount(1, "/w/c");
        Way other = b -> way.on(b).mount(1, "/w/c").user(1);
        says("10 remove", "the first of these that holds: NOENT when the text is empty, BUSY when it has / alone");
        for (Way from : new Way[] {mine, other, b -> way.on(b).change(12, "/").user(1)}) {
            refuses(from, "", REMOVE, NOENT);
            refuses(from, "/", REMOVE, BUSY);
            refuses(from, "///", REMOVE, BUSY);
        }
        says("10 remove", "then what ends the coming to its last name");
        refuses(other, "/x/y", REMOVE, NOENT);
        refuses(other, "/x/.", REMOVE, NOENT);
        refuses(other, "/a/f/x", REMOVE, NOTDIR);
        refuses(other, "/a/f/.", REMOVE, NOTDIR);
        refuses(other, "/p/x", REMOVE, LOOP);
        refuses(other, "/abcdefg", REMOVE, LONG);
        refuses(other, "/w/abcdefg", REMOVE, LONG);
        refuses(other, "/s/f", REMOVE, ACCES);
        refuses(other, "/s/.", REMOVE, ACCES);
        refuses(other, "/s/..", REMOVE, ACCES);
        refuses(other, "/s/x", REMOVE, ACCES);
        refuses(other, "/s/f/", REMOVE, ACCES);
        refuses(b -> way.on(b).change(12, "/").user(1), ".", REMOVE, ACCES);
        says("10 remove", "then BAD when that is one of the dots");
        refuses(other, "/w/.", REMOVE, BAD);
        refuses(other, "/w/..", REMOVE, BAD);
        refuses(other, "/w/d/./", REMOVE, BAD);
        refuses(mine, "/w/d/.", REMOVE, BAD);
        refuses(mine, "/w/c/.", REMOVE, BAD);
        refuses(mine, "/w/c/..", REMOVE, BAD);
        refuses(mine, ".", REMOVE, BAD);
        refuses(mine, "..", REMOVE, BAD);
        refuses(b -> mine.on(b).jail("/w/e"), "/.", REMOVE, BAD);
        says("10 remove", "then NOENT when AT has it not");
        refuses(mine, "/x", REMOVE, NOENT);
        refuses(mine, "/x/", REMOVE, NOENT);
        refuses(other, "/w/x", REMOVE, NOENT);
        refuses(other, "/w/x//", REMOVE, NOENT);
        says("10 remove", "then NOTDIR when it is slashed and the object is no directory");
        refuses(mine, "/a/f/", REMOVE, NOTDIR);
        refuses(mine, "/k/", REMOVE, NOTDIR);
        refuses(other, "/w/f/", REMOVE, NOTDIR);
        says("10 remove", "then ACCES when the user may not write AT");
        refuses(other, "/w/f", REMOVE, ACCES);
        refuses(other, "/w/c", REMOVE, ACCES);
        refuses(other, "/w/c/", REMOVE, ACCES);
        refuses(other, "/w/d", REMOVE, ACCES);
        refuses(b -> way.on(b).enter("/w/e").user(1), "/w/e", REMOVE, ACCES);
        says("10 remove", "then BUSY when the object is covered or the present directory");
        refuses(mine, "/w/c", REMOVE, BUSY);
        refuses(mine, "/w/c/", REMOVE, BUSY);
        refuses(b -> way.on(b).dir("/w/c/x").mount(1, "/w/c"), "/w/c", REMOVE, BUSY);
        refuses(b -> way.on(b).mount(1, "/w/d"), "/w/d", REMOVE, BUSY);
        refuses(b -> way.on(b).enter("/w/c"), "/w/c", REMOVE, BUSY);
        refuses(b -> way.on(b).enter("/w/c"), "../c/", REMOVE, BUSY);
        refuses(b -> way.on(b).enter("/w/e"), "/w/e", REMOVE, BUSY);
        refuses(b -> way.on(b).jail("/w").enter("c"), "/c", REMOVE, BUSY);
        answers(b -> way.on(b).mount(1, "/w/c").unmount("/w/c"), "/w/c", REMOVE, 12);
        answers(b -> way.on(b).enter("/w/c").enter("/"), "/w/c", REMOVE, 12);
        says("10 remove", "BUSY is for the object, not for what is mounted on it or in it");
        answers(b -> mine.on(b).dir("/w/c/x"), "/w/c/x", REMOVE, 18);
        refuses(b -> mine.on(b).dir("/w/c/x").enter("/w/c/x"), "/w/c/x", REMOVE, BUSY);
        refuses(b -> mine.on(b).enter("/w/c"), "/w/c", REMOVE, BUSY);
        says("10 remove", "then NOTEMPTY");
        refuses(mine, "/w/d", REMOVE, NOTEMPTY);
        refuses(mine, "/w/d/", REMOVE, NOTEMPTY);
        refuses(b -> mine.on(b).enter("/a/d"), "/a", REMOVE, NOTEMPTY);
        says("10 remove", "none of these holds");
        answers(mine, "/w/f", REMOVE, 6);
        answers(mine, "/a/d/", REMOVE, 3);
        answers(other, "/a/d", REMOVE, 3);
        answers(other, "/p", REMOVE, 4);
    }

    // ---- promises 11 to 13

    private static void volumeNumbers() {
        says("11 volume", "FULL when there are four, or no object is free");
        answers(BoundariesTest::nothing, "", VOLUME, 1);
        answers(b -> b.volumes(1), "", VOLUME, 2);
        answers(b -> b.volumes(2), "", VOLUME, 3);
        refuses(b -> b.volumes(3), "", VOLUME, FULL);
        refuses(b -> b.volumes(3).objectsTo(40), "", VOLUME, FULL);
        answers(b -> b.objectsTo(38).volumes(1), "", VOLUME, 2);
        refuses(b -> b.objectsTo(39).volumes(1), "", VOLUME, FULL);
        refuses(b -> b.volumes(2).objectsTo(40), "", VOLUME, FULL);
        answers(b -> b.volumes(2).objectsTo(39), "", VOLUME, 3);
        refuses(b -> b.dir("/d").volumes(3).mount(2, "/d"), "/d", VOLUME, FULL);
        refuses(b -> b.volumes(3).user(3), "/x", VOLUME, FULL);
        refuses(b -> b.objectsTo(40).user(3), "/o1", VOLUME, FULL);
        says("11 volume", "a refused one takes no number");
        for (int n = 0; n <= 2; n++) {
            Bench b = new Bench().volumes(n).objectsTo(40);
            is("volume without an object", b.x().volume(), FULL);
            is("mount of what was not made", b.text("/").x().mount(n + 1), BAD);
            is("volume with an object", b.gone("/o9").x().volume(), n + 1);
        }
        says("11 volume", "its root directory is of owner 0, with mode 15");
        int[] due = {15, 0, 1, 0, 0, 0};
        for (int what = 0; what <= 5; what++) {
            int w = what;
            answers(b -> b.user(3).volumes(1), "", x -> x.about(1, w), due[what]);
            answers(b -> b.user(3).dir(4, "/d").gone("/d").volumes(1), "", x -> x.about(1, w), due[what]);
        }
    }

    private static void mountNumbers() {
        int[] wrongOnes = {MIN, MIN + 1, -256, -4, -3, -2, -1, 0, 4, 5, 40, 255, 256, 257, 65537, MAX};
        for (int made = 0; made <= 3; made++) {
            int n = made;
            Way way = b -> b.dir("/d").volumes(n);
            says("12 mount", "BAD when v is not the number of a volume other than 0");
            for (int v : wrongOnes) {
                refuses(way, "/d", x -> x.mount(v), BAD);
            }
            for (int v = 1; v <= 3; v++) {
                int volume = v;
                if (v <= n) {
                    answers(way, "/d", x -> x.mount(volume), 1);
                } else {
                    refuses(way, "/d", x -> x.mount(volume), BAD);
                }
            }
        }
    }

    private static void mountBelow() {
        Way way = b -> b.dir("/a").dir("/a/b").dir("/a/b/c").dir("/a/b/c/d").dir("/a/x").dir("/a/b/c/x").volumes(3);
        says("12 mount", "BUSY when the present directory is that directory or below it");
        Way inside = b -> way.on(b).enter("/a/b/c");
        refuses(inside, ".", x -> x.mount(1), BUSY);
        refuses(inside, "..", x -> x.mount(1), BUSY);
        refuses(inside, "../..", x -> x.mount(1), BUSY);
        refuses(inside, "/", x -> x.mount(1), BUSY);
        answers(inside, "d", x -> x.mount(1), 4);
        answers(inside, "../../x", x -> x.mount(1), 5);
        answers(way, "/a", x -> x.mount(1), 1);
        says("12 mount", "BUSY when the root is that directory or below it");
        Way jail = b -> way.on(b).jail("/a/b");
        refuses(jail, "/", x -> x.mount(1), BUSY);
        refuses(jail, "..", x -> x.mount(1), BUSY);
        answers(jail, "c", x -> x.mount(1), 3);
        answers(jail, "c/x", x -> x.mount(1), 6);
        refuses(b -> jail.on(b).enter("c/d"), "/", x -> x.mount(1), BUSY);
        refuses(b -> jail.on(b).enter("c/d"), "/c", x -> x.mount(1), BUSY);
        refuses(b -> jail.on(b).enter("c/d"), "/c/d", x -> x.mount(1), BUSY);
        answers(b -> jail.on(b).enter("c/d"), "/c/x", x -> x.mount(1), 6);
        says("12 mount", "by going above again and again: over volumes");
        Way over = b -> way.on(b).mount(3, "/a/b/c").dir("/a/b/c/v").mount(2, "/a/b/c/v").dir("/a/b/c/v/w").dir("/a/b/c/y");
        for (String present : new String[] {"/a/b/c/v/w", "/a/b/c/v"}) {
            Way there = b -> over.on(b).enter(present);
            for (String text : new String[] {present, "/a/b/c/v", "/a/b/c", "/a/b", "/a", "/"}) {
                refuses(there, text, x -> x.mount(1), BUSY);
            }
            answers(there, "/a/x", x -> x.mount(1), 5);
            answers(there, "/a/b/c/y", x -> x.mount(1), 12);
        }
        answers(b -> over.on(b).enter("/a/b/c/v"), "w", x -> x.mount(1), 11);
        says("12 mount", "as if object 0 were the root");
        refuses(b -> over.on(b).jail("/a/b/c/v").enter("w"), "/", x -> x.mount(1), BUSY);
        refuses(b -> over.on(b).jail("/a/b/c").enter("v/w"), "/", x -> x.mount(1), BUSY);
        refuses(b -> over.on(b).jail("/a/b/c").enter("v/w"), "/v", x -> x.mount(1), BUSY);
        answers(b -> over.on(b).jail("/a/b/c").enter("v/w"), "/y", x -> x.mount(1), 12);
        says("12 mount", "whatever numbers the directories between have");
        Way falling = b -> b.file("/x").dir("/a").dir("/a/b").gone("/x").dir("/a/b/c").dir("/a/b/c/d").volumes(1)
            .jail("/a").enter("b/c/d");
        refuses(falling, "/b/c/d", x -> x.mount(1), BUSY);
        refuses(falling, "/b/c", x -> x.mount(1), BUSY);
        refuses(falling, "/b", x -> x.mount(1), BUSY);
        says("12 mount", "the depth of all objects");
        Way deep = b -> {
            b.volumes(1);
            for (int k = 0; k < 38; k++) {
                b.dir("d").enter("d");
            }
            return b;
        };
        refuses(b -> deep.on(b), "/d", x -> x.mount(1), BUSY);
        refuses(b -> deep.on(b), ".", x -> x.mount(1), BUSY);
        refuses(b -> deep.on(b), "/", x -> x.mount(1), BUSY);
        answers(b -> deep.on(b).enter(".."), "d", x -> x.mount(1), 39);
    }

    private static void mountOrder() {
        Way way = b -> places(b).volumes(2).mount(1, "/a/d").enter("/w");
        Way other = b -> way.on(b).user(1);
        String[] texts = {"", "/x", "/a/f/", "/p", "/abcdefg", "/a/f", "/", ".", "/a"};
        for (String text : texts) {
            says("12 mount", "the first of these that holds: BAD");
            refuses(way, text, x -> x.mount(3), BAD);
            refuses(other, text, x -> x.mount(3), BAD);
            refuses(other, text, x -> x.mount(0), BAD);
            says("12 mount", "then ACCES when the user is not 0");
            refuses(other, text, x -> x.mount(1), ACCES);
            refuses(other, text, x -> x.mount(2), ACCES);
            refuses(b -> way.on(b).user(2), text, x -> x.mount(2), ACCES);
            refuses(b -> way.on(b).user(3), text, x -> x.mount(2), ACCES);
            says("12 mount", "then BUSY when v is mounted");
            refuses(way, text, x -> x.mount(1), BUSY);
        }
        says("12 mount", "then what ends the walk; NOTDIR; BUSY");
        int[] ends = {NOENT, NOENT, NOTDIR, LOOP, LONG, NOTDIR, BUSY, BUSY};
        for (int k = 0; k < ends.length; k++) {
            refuses(way, texts[k], x -> x.mount(2), ends[k]);
        }
        refuses(way, "/l", x -> x.mount(2), NOTDIR);
        says("12 mount", "none of these holds");
        answers(way, "/a", x -> x.mount(2), 1);
        answers(way, "/k/", x -> x.mount(2), 1);
        answers(b -> way.on(b).unmount("/a/d"), "/a", x -> x.mount(1), 1);
        says("12 mount", "a volume whose mount is covered is mounted still");
        refuses(b -> way.on(b).mount(2, "/a"), "/s", x -> x.mount(1), BUSY);
    }

    private static void unmountOrder() {
        Way way = b -> places(b).volumes(2).mount(2, "/a/d").dir("/a/d/e").file("/a/d/f");
        Way busy = b -> way.on(b).enter("/a/d/e");
        String[] texts = {"", "/x", "/a/f/", "/p", "/abcdefg", "/a/f", "/", "/a", "/a/d", "/a/d/e", "."};
        says("13 unmount", "the first of these that holds: ACCES when the user is not 0");
        for (int u = 1; u <= 3; u++) {
            int user = u;
            for (String text : texts) {
                refuses(b -> way.on(b).user(user), text, UNMOUNT, ACCES);
                refuses(b -> busy.on(b).user(user), text, UNMOUNT, ACCES);
            }
        }
        says("13 unmount", "then what ends the walk; BAD; BUSY");
        int[] ends = {NOENT, NOENT, NOTDIR, LOOP, LONG, BAD, BAD, BAD, BUSY, BAD, BAD};
        for (int k = 0; k < texts.length; k++) {
            refuses(busy, texts[k], UNMOUNT, ends[k]);
        }
        says("13 unmount", "BAD when it is not the root directory of a volume that is mounted");
        refuses(way, "/a/d/e", UNMOUNT, BAD);
        refuses(way, "/a/d/f", UNMOUNT, BAD);
        refuses(b -> way.on(b).unmount("/a/d"), "/a/d", UNMOUNT, BAD);
        refuses(way, "/", UNMOUNT, BAD);
        refuses(b -> way.on(b).jail("/a"), "/", UNMOUNT, BAD);
        refuses(b -> way.on(b).jail("/a/d/e"), "/", UNMOUNT, BAD);
        says("13 unmount", "none of these holds: answers the number of the volume");
        answers(way, "/a/d", UNMOUNT, 2);
        answers(b -> way.on(b).enter("/a"), "d/", UNMOUNT, 2);
        answers(b -> way.on(b).jail("/a"), "/d", UNMOUNT, 2);
        answers(b -> way.on(b).symlink("/a/d", "/m"), "/m", UNMOUNT, 2);
        answers(b -> way.on(b).mount(1, "/a/d"), "/a/d", UNMOUNT, 1);
        answers(b -> busy.on(b).enter("/"), "/a/d", UNMOUNT, 2);
    }

    private static void unmountBusy() {
        Way way = b -> b.dir("/a").volumes(3).mount(1, "/a").dir("/a/b").dir("/a/b/c");
        says("13 unmount", "BUSY when the present directory is of this volume");
        refuses(b -> way.on(b).enter("/a"), "/a", UNMOUNT, BUSY);
        refuses(b -> way.on(b).enter("/a/b"), "/a", UNMOUNT, BUSY);
        refuses(b -> way.on(b).enter("/a/b/c"), "../..", UNMOUNT, BUSY);
        answers(b -> way.on(b).enter("/a/b/c").enter("../../.."), "/a", UNMOUNT, 1);
        says("13 unmount", "BUSY when the root is of this volume");
        refuses(b -> way.on(b).jail("/a"), "/", UNMOUNT, BUSY);
        refuses(b -> way.on(b).mount(2, "/a/b").jail("/a").enter("b"), "/", UNMOUNT, BUSY);
        says("13 unmount", "BUSY when a directory that is covered is of this volume");
        refuses(b -> way.on(b).mount(2, "/a/b"), "/a", UNMOUNT, BUSY);
        refuses(b -> way.on(b).mount(3, "/a/b/c"), "/a", UNMOUNT, BUSY);
        refuses(b -> way.on(b).mount(2, "/a/b").dir("/a/b/d").mount(3, "/a/b/d"), "/a/b", UNMOUNT, BUSY);
        refuses(b -> b.dir("/a").volumes(2).mount(2, "/a").dir("/a/b").mount(1, "/a/b"), "/a", UNMOUNT, BUSY);
        answers(b -> way.on(b).mount(2, "/a/b").unmount("/a/b"), "/a", UNMOUNT, 1);
        answers(b -> way.on(b).mount(2, "/a/b"), "/a/b", UNMOUNT, 2);
        says("13 unmount", "of this volume alone: one upon it, and one beside it, are free to go");
        answers(b -> way.on(b).mount(2, "/a"), "/a", UNMOUNT, 2);
        answers(b -> way.on(b).dir("/d").mount(2, "/d"), "/a", UNMOUNT, 1);
        answers(b -> way.on(b).dir("/d").mount(2, "/d").dir("/d/e").mount(3, "/d/e"), "/a", UNMOUNT, 1);
        refuses(b -> way.on(b).dir("/d").mount(2, "/d").dir("/d/e").mount(3, "/d/e"), "/d", UNMOUNT, BUSY);
        answers(b -> way.on(b).dir("/d").mount(2, "/d").enter("/d"), "/a", UNMOUNT, 1);
    }

    // ---- promises 14 to 20

    private static void enterOrder() {
        Way way = b -> places(b).file(0, "/n").dir(14, "/a/e").dir("/a/e/x");
        Way other = b -> way.on(b).user(1);
        for (Call enter : new Call[] {ENTER, JAIL}) {
            says("14 enter", "the first of these that holds: what ends the walk");
            refuses(other, "", enter, NOENT);
            refuses(other, "/x", enter, NOENT);
            refuses(other, "/n/", enter, NOTDIR);
            refuses(other, "/n/.", enter, NOTDIR);
            refuses(other, "/s/f", enter, ACCES);
            refuses(other, "/a/e/x", enter, ACCES);
            refuses(other, "/s/.", enter, ACCES);
            refuses(other, "/p", enter, LOOP);
            refuses(other, "/abcdefg", enter, LONG);
            says("14 enter", "then NOTDIR");
            refuses(other, "/n", enter, NOTDIR);
            refuses(other, "/l", enter, NOTDIR);
            refuses(way, "/g", enter, NOTDIR);
            says("14 enter", "then ACCES when the user may not search it");
            refuses(other, "/s", enter, ACCES);
            refuses(other, "/s/", enter, ACCES);
            refuses(other, "/a/e", enter, ACCES);
            refuses(b -> way.on(b).change(14, "/").user(1), "/", enter, ACCES);
            says("14 enter", "none of these holds");
            answers(other, "/w", enter, 5);
            answers(other, "/k", enter, 1);
            answers(way, "/s", enter, 7);
        }
        says("14 enter", "with jail it becomes the root too, without it does not");
        answers(b -> way.on(b).enter("/a/e"), "/", RESOLVE, 0);
        answers(b -> way.on(b).enter("/a/e"), ".", RESOLVE, 13);
        answers(b -> way.on(b).jail("/a/e"), "/", RESOLVE, 13);
        answers(b -> way.on(b).jail("/a/e"), ".", RESOLVE, 13);
        answers(b -> way.on(b).jail("/a").enter("e"), "/", RESOLVE, 1);
        answers(b -> way.on(b).jail("/a").jail("e"), "/", RESOLVE, 13);
    }

    private static void users() {
        says("15 user", "false when u is not 0 .. 3");
        for (int from = 0; from <= 3; from++) {
            int before = from;
            Way way = b -> b.dir("/d").user(before);
            for (int u : new int[] {MIN, MIN + 1, -256, -4, -1, 4, 5, 255, 256, 257, 65536, MAX}) {
                refuses(way, "/x", x -> x.user(u) ? 1 : 0, 0);
            }
            for (int u = 0; u <= 3; u++) {
                int user = u;
                answers(way, "/x", x -> x.user(user) ? 1 : 0, 1);
                answers(b -> way.on(b).user(user).file("/x"), "", x -> x.about(2, 1), u);
            }
        }
    }

    private static void changeOrder() {
        Way way = b -> places(b).user(2).file(6, "/m").dir(9, "/n").user(0);
        Way other = b -> way.on(b).user(1);
        Way owner = b -> way.on(b).user(2);
        for (int mode : new int[] {MIN, MIN + 1, -256, -16, -1, 16, 17, 31, 255, 256, 65536, MAX}) {
            says("16 change", "the first of these that holds: BAD when mode is not 0 .. 15");
            for (String text : new String[] {"", "/x", "/a/f/", "/p", "/abcdefg", "/s/f", "/m"}) {
                answers(other, text, x -> x.change(mode), BAD);
                answers(owner, text, x -> x.change(mode), BAD);
            }
            refuses(way, "/m", x -> x.change(mode), BAD);
            refuses(owner, "/n", x -> x.change(mode), BAD);
        }
        says("16 change", "then what ends the walk");
        String[] texts = {"", "/x", "/a/f/", "/p", "/abcdefg", "/s/f", "/s/.", "/s/abcdefg"};
        int[] ends = {NOENT, NOENT, NOTDIR, LOOP, LONG, ACCES, ACCES, ACCES};
        for (int k = 0; k < texts.length; k++) {
            refuses(other, texts[k], x -> x.change(0), ends[k]);
        }
        says("16 change", "then ACCES when the user is neither 0 nor its owner");
        for (int mode = 0; mode <= 15; mode++) {
            int m = mode;
            refuses(other, "/m", x -> x.change(m), ACCES);
            answers(owner, "/m", x -> x.change(m), 6);
            answers(b -> owner.on(b).change(m, "/m"), "/m", x -> x.about(12, 0), m);
            answers(way, "/n", x -> x.change(m), 9);
            answers(b -> way.on(b).change(m, "/n"), "/n", x -> x.about(13, 0), m);
        }
        refuses(b -> way.on(b).user(3), "/n", x -> x.change(15), ACCES);
        refuses(owner, "/", x -> x.change(15), ACCES);
        refuses(owner, "/l", x -> x.change(0), ACCES);
        answers(way, "/l", x -> x.change(0), 15);
        answers(b -> way.on(b).change(0, "/l"), "", x -> x.about(2, 0), 0);
        answers(b -> way.on(b).change(0, "/l"), "", x -> x.about(9, 0), 15);
    }

    private static void pathLengths() {
        says("17 path", "/ if that is the root");
        pathIs(BoundariesTest::nothing, "/");
        pathIs(b -> b.dir("/a").jail("/a"), "/");
        pathIs(b -> b.dir("/a").enter("/a"), "/a");
        pathIs(b -> b.dir("/a").volumes(1).mount(1, "/a").jail("/a"), "/");
        pathIs(b -> b.dir("/a").volumes(1).mount(1, "/a").enter("/a"), "/a");
        says("17 path", "answers its length; LONG when that is more than 40");
        Way five = b -> b.dir("/aaaaaa").enter("/aaaaaa").dir("bbbbbb").enter("bbbbbb").dir("cccccc").enter("cccccc")
            .dir("dddddd").enter("dddddd").dir("eeeeee").enter("eeeeee");
        String row = "/aaaaaa/bbbbbb/cccccc/dddddd/eeeeee";
        for (int n = 1; n <= 6; n++) {
            String name = "fghijk".substring(0, n);
            Way way = b -> five.on(b).dir(name).enter(name);
            Way mounted = b -> five.on(b).dir(name).volumes(2).mount(1, name).mount(2, name).enter(name);
            if (n <= 4) {
                pathIs(way, row + "/" + name);
                pathIs(mounted, row + "/" + name);
            } else {
                refuses(way, "x", PATH, LONG);
                refuses(way, times(40, "x"), PATH, LONG);
                refuses(way, "", PATH, LONG);
                refuses(mounted, "x", PATH, LONG);
            }
        }
        for (int n = 1; n <= 38; n++) {
            int depth = n;
            Way way = b -> {
                for (int k = 0; k < depth; k++) {
                    b.dir("d").enter("d");
                }
                return b;
            };
            if (n <= 20) {
                pathIs(way, times(n, "/d"));
            } else {
                answers(way, "x", PATH, LONG);
            }
            answers(b -> way.on(b).jail("."), "x", PATH, 1);
        }
        says("17 path", "from the root (without it) to the present one");
        pathIs(b -> five.on(b).dir("fghijk").jail("/aaaaaa").enter("bbbbbb/cccccc/dddddd/eeeeee").enter("fghijk"),
            "/bbbbbb/cccccc/dddddd/eeeeee/fghijk");
        says("17 path", "a call that fails changes nothing: the text is the old one after LONG");
        Bench b = five.on(new Bench()).dir("fghijk").enter("fghijk").text("old");
        is("path", b.x().path(), LONG);
        textIs(b, "old");
        is("path of a directory above, after LONG", b.enter("..").x().path(), row.length());
        textIs(b, row);
        says("17 path", "no rights are needed");
        pathIs(c -> c.dir("/a").dir("/a/b").enter("/a/b").change(0, ".").change(0, "/a").change(0, "/").user(1), "/a/b");
    }

    private static void pathIs(Way way, String due) {
        for (String old : new String[] {"", "old", times(40, "x")}) {
            answers(way, old, PATH, due.length());
            Bench b = way.on(new Bench()).text(old);
            b.x().path();
            textIs(b, due);
        }
    }

    private static void lookedUpNumbers() {
        int[] none = {MIN, MIN + 1, -40, -1, 13, 38, 39, 40, 41, 255, 256, 65536, MAX - 1, MAX};
        Way way = b -> places(b).file("/x").gone("/x").volumes(1);
        says("18 kind", "0 when there is no object i");
        for (int i : none) {
            refuses(way, "/a", x -> x.kind(i), 0);
            says("19 about", "BAD when there is no object i");
            for (int what = -1; what <= 6; what++) {
                int w = what;
                answers(way, "/a", x -> x.about(i, w), BAD);
            }
            refuses(way, "/a", x -> x.about(i, 0), BAD);
        }
        says("18 kind", "1 for a directory, 2 a file, 3 a link");
        int[] kinds = {1, 1, 2, 1, 3, 1, 2, 1, 2, 3, 3, 2, 1};
        for (int i = 0; i < kinds.length; i++) {
            int number = i;
            answers(way, "", x -> x.kind(number), kinds[i]);
        }
        says("18 kind", "the first and the last object");
        answers(b -> b.objectsTo(40), "", x -> x.kind(0), 1);
        answers(b -> b.objectsTo(40), "", x -> x.kind(39), 2);
        answers(b -> b.objectsTo(40), "", x -> x.about(39, 3), 1);
        answers(b -> b.objectsTo(40), "", x -> x.about(40, 3), BAD);
        answers(b -> b.objectsTo(39), "", x -> x.kind(39), 0);
        answers(b -> b.objectsTo(39), "", x -> x.about(39, 3), BAD);
        says("19 about", "BAD when what is not 0 .. 5");
        for (int what : new int[] {MIN, MIN + 1, -256, -2, -1, 6, 7, 255, 256, 261, 65536, MAX}) {
            refuses(way, "/a", x -> x.about(0, what), BAD);
            answers(way, "/a", x -> x.about(2, what), BAD);
            answers(way, "/a", x -> x.about(4, what), BAD);
        }
        says("19 about", "3 how many entries are for it, 4 how many entries it has, 5 what covers it");
        Way counts = b -> b.dir("/d").file("/f").hard("/f", "/d/g").volumes(3).mount(3, "/d").symlink("f", "/d/l");
        int[][] due = {{15, 0, 0, 0, 2, 0}, {15, 0, 0, 1, 1, 3}, {15, 0, 0, 2, 0, 0}, {15, 0, 1, 0, 0, 0},
            {15, 0, 2, 0, 0, 0}, {15, 0, 3, 0, 1, 0}, {15, 0, 3, 1, 0, 0}};
        for (int i = 0; i < due.length; i++) {
            for (int what = 0; what <= 5; what++) {
                int number = i;
                int w = what;
                answers(counts, "", x -> x.about(number, w), due[i][what]);
            }
        }
        answers(b -> b.entriesTo(80), "", x -> x.about(1, 3), 80);
        answers(b -> b.entriesTo(80), "", x -> x.about(0, 4), 80);
    }

    private static void entryNumbers() {
        says("20 entry", "NOENT when there is none");
        Way way = b -> b.dir("/d").file("/d/1").file("/d/2").file("/d/3").symlink("d", "/l");
        for (int k : new int[] {MIN, MIN + 1, -256, -1, 3, 4, 79, 80, 256, 65536, MAX}) {
            refuses(way, "/d", x -> x.entry(1, k), NOENT);
        }
        for (int k = 0; k <= 2; k++) {
            int number = k;
            answers(way, "/d", x -> x.entry(1, number), 2 + k);
        }
        for (int i : new int[] {MIN, MIN + 1, -1, 2, 4, 5, 6, 39, 40, 41, 256, MAX}) {
            for (int k : new int[] {MIN, -1, 0, 1, MAX}) {
                answers(way, "/d", x -> x.entry(i, k), NOENT);
            }
            refuses(way, "/d", x -> x.entry(i, 0), NOENT);
        }
        refuses(BoundariesTest::nothing, "", x -> x.entry(0, 0), NOENT);
        answers(b -> way.on(b).gone("/d/1").gone("/d/2").gone("/d/3").gone("/d"), "", x -> x.entry(1, 0), NOENT);
        says("20 entry", "from 0, in the order in which they came");
        answers(b -> b.entriesTo(80), "", x -> x.entry(0, 79), 1);
        answers(b -> b.entriesTo(80), "", x -> x.entry(0, 80), NOENT);
        answers(b -> b.entriesTo(79), "", x -> x.entry(0, 79), NOENT);
        int[][] due = {{3, 4, 2}, {2, 4, 2}, {2, 3, 2}};
        for (int gone = 1; gone <= 3; gone++) {
            String name = "/d/" + gone;
            for (int k = 0; k <= 3; k++) {
                int number = k;
                int object = k == 3 ? NOENT : k == 2 ? gone + 1 : due[gone - 1][k];
                answers(b -> way.on(b).gone(name).file("/d/0"), "", x -> x.entry(1, number), object);
            }
        }
        says("20 entry", "the object of the entry, though it be covered");
        answers(b -> way.on(b).volumes(1).mount(1, "/d"), "", x -> x.entry(0, 0), 1);
        answers(b -> way.on(b).volumes(1).mount(1, "/d"), "", x -> x.entry(1, 2), 4);
        answers(b -> way.on(b).volumes(1).mount(1, "/d"), "", x -> x.entry(6, 0), NOENT);
    }
}
