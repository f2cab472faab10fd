/** Each promise of the document by itself: ordinary inputs, the edges that it names, wrong inputs. */
public final class PromisesTest {
    private static final int NOENT = MountedPaths.NOENT;
    private static final int NOTDIR = MountedPaths.NOTDIR;
    private static final int ACCES = MountedPaths.ACCES;
    private static final int LOOP = MountedPaths.LOOP;
    private static final int LONG = MountedPaths.LONG;
    private static final int EXIST = MountedPaths.EXIST;
    private static final int BUSY = MountedPaths.BUSY;
    private static final int NOTEMPTY = MountedPaths.NOTEMPTY;
    private static final int XDEV = MountedPaths.XDEV;
    private static final int FULL = MountedPaths.FULL;
    private static final int BAD = MountedPaths.BAD;

    private static int wrong = 0;
    private static String promise = "";
    private static MountedPaths x;
    private static int calls;

    public static void main(String[] args) {
        constants();
        newObject();
        type();
        wipe();
        keep();
        length();
        at();
        resolveNames();
        resolveRights();
        resolveDots();
        resolveLinks();
        resolveLoops();
        resolveLongRest();
        resolveMounts();
        make();
        makeOrder();
        makeFullObjects();
        makeFullEntries();
        link();
        linkOrder();
        linkFull();
        remove();
        removeOrder();
        removeOrderOfEntries();
        volume();
        volumeFull();
        mount();
        mountOrder();
        mountBelow();
        mountBelowByOtherNumbers();
        unmount();
        unmountBusy();
        enter();
        enterJail();
        user();
        change();
        path();
        pathOverVolumes();
        pathLong();
        kind();
        about();
        entry();
        failuresChangeNothing();
        System.out.println(wrong == 0 ? "all promises hold" : wrong + " answers are not as due");
        if (wrong != 0) {
            System.exit(1);
        }
    }

    // ---- helpers: every call is counted, for an object is promised for 512 alone

    private static void fresh(String of) {
        promise = of;
        x = new MountedPaths();
        calls = 0;
    }

    private static MountedPaths x() {
        calls++;
        if (calls == 513) {
            wrong++;
            System.out.println(promise + ": the test itself makes more than 512 calls");
        }
        return x;
    }

    private static void is(String what, int got, int want) {
        if (got != want) {
            wrong++;
            System.out.println(promise + ": " + what + " answered " + got + ", due is " + want);
        }
    }

    private static void is(String what, boolean got, boolean want) {
        is(what, got ? 1 : 0, want ? 1 : 0);
    }

    private static int word(String s) {
        int w = 0;
        for (int k = 0; k < s.length(); k++) {
            w = w << 8 | s.charAt(k);
        }
        return w;
    }

    private static void text(String s) {
        x().wipe();
        for (int k = 0; k < s.length(); k += 4) {
            is("type of " + s, x().type(word(s.substring(k, Math.min(k + 4, s.length())))), true);
        }
    }

    private static void second(String s) {
        text(s);
        x().keep();
    }

    private static void textIs(String s) {
        is("length of " + s, x().length(), s.length());
        for (int k = 0; k < s.length(); k++) {
            is("at(" + k + ") of " + s, x().at(k), s.charAt(k));
        }
    }

    private static int make(int kind, int mode, String path) {
        text(path);
        return x().make(kind, mode);
    }

    private static int dir(String path) {
        return make(1, 15, path);
    }

    private static int file(String path) {
        return make(2, 15, path);
    }

    private static int symlink(String target, String path) {
        second(target);
        return make(3, 0, path);
    }

    private static int hard(String old, String path) {
        second(old);
        text(path);
        return x().link();
    }

    private static int remove(String path) {
        text(path);
        return x().remove();
    }

    private static int resolve(String path) {
        text(path);
        return x().resolve(true);
    }

    private static int unfollowed(String path) {
        text(path);
        return x().resolve(false);
    }

    private static int mount(int v, String path) {
        text(path);
        return x().mount(v);
    }

    private static int unmount(String path) {
        text(path);
        return x().unmount();
    }

    private static int enter(String path) {
        text(path);
        return x().enter(false);
    }

    private static int jail(String path) {
        text(path);
        return x().enter(true);
    }

    private static int change(int mode, String path) {
        text(path);
        return x().change(mode);
    }

    private static void become(int u) {
        is("user " + u, x().user(u), true);
    }

    // ---- the constants and promises 1 to 6

    private static void constants() {
        promise = "constants";
        is("NOENT", NOENT, -1);
        is("NOTDIR", NOTDIR, -2);
        is("ACCES", ACCES, -3);
        is("LOOP", LOOP, -4);
        is("LONG", LONG, -5);
        is("EXIST", EXIST, -6);
        is("BUSY", BUSY, -7);
        is("NOTEMPTY", NOTEMPTY, -8);
        is("XDEV", XDEV, -9);
        is("FULL", FULL, -10);
        is("BAD", BAD, -11);
    }

    private static void newObject() {
        fresh("1 a new object");
        is("length", x().length(), 0);
        is("make of a link with the second text empty", make(3, 0, "/l"), BAD);
        x().wipe();
        is("kind(0)", x().kind(0), 1);
        is("mode", x().about(0, 0), 15);
        is("owner", x().about(0, 1), 0);
        is("volume", x().about(0, 2), 0);
        is("entries for it", x().about(0, 3), 0);
        is("entries of it", x().about(0, 4), 0);
        is("covered by", x().about(0, 5), 0);
        is("entry(0, 0)", x().entry(0, 0), NOENT);
        for (int i = 1; i < 40; i++) {
            is("kind(" + i + ")", x().kind(i), 0);
        }
        is("path", x().path(), 1);
        textIs("/");
        is("root", resolve("/"), 0);
        is("present", resolve("."), 0);
        is("above", resolve(".."), 0);
        is("no volume 1", mount(1, "/"), BAD);
        is("first volume", x().volume(), 1);
        is("made by user 0", dir("/d"), 2);
        is("owner of it", x().about(2, 1), 0);
        MountedPaths other = new MountedPaths();
        is("nothing is shared by two objects", other.about(0, 4), 0);
    }

    private static void type() {
        fresh("2 type");
        is("no character", x().type(0), true);
        is("length", x().length(), 0);
        is("one", x().type('a'), true);
        is("two, highest first", x().type('b' << 8 | 'c'), true);
        is("with noughts between", x().type('d' << 24 | 'e' << 8), true);
        is("lowest that may be", x().type(33), true);
        is("highest that may be", x().type(126 << 24), true);
        textIs("abcde!~");
        is("32", x().type(32), false);
        is("127", x().type(127), false);
        is("1", x().type(1), false);
        is("255", x().type(255), false);
        is("128 on top", x().type(128 << 24 | 'a'), false);
        is("-1", x().type(-1), false);
        is("the least int", x().type(Integer.MIN_VALUE), false);
        is("a bad one last", x().type('f' << 24 | 'g' << 16 | 'h' << 8 | 10), false);
        is("a bad one first", x().type(10 << 24 | 'g' << 16 | 'h' << 8 | 'i'), false);
        is("a bad one second", x().type('g' << 24 | 32 << 16 | 'h' << 8 | 'i'), false);
        is("a bad one third", x().type('g' << 24 | 'f' << 16 | 127 << 8 | 'i'), false);
        textIs("abcde!~");
        text("0123456789012345678901234567890123456");
        is("four with room for three", x().type(word("wxyz")), false);
        is("length", x().length(), 37);
        is("three with room for three", x().type(word("xyz")), true);
        is("one with room for none", x().type('a'), false);
        is("none with room for none", x().type(0), true);
        textIs("0123456789012345678901234567890123456xyz");
    }

    private static void wipe() {
        fresh("3 wipe");
        x().wipe();
        is("of an empty text", x().length(), 0);
        second("/abc");
        x().wipe();
        is("length", x().length(), 0);
        is("at(0)", x().at(0), BAD);
        is("resolve", x().resolve(true), NOENT);
        is("the second text stays", make(3, 0, "/l"), 1);
        is("and is /abc", dir("/abc"), 2);
        is("so the link leads there", resolve("/l"), 2);
    }

    private static void keep() {
        fresh("4 keep");
        is("a", dir("/a"), 1);
        is("f", file("/a/f"), 2);
        text("/a/f");
        x().keep();
        textIs("/a/f");
        text("/g");
        is("link to the second text", x().link(), 2);
        textIs("/g");
        text("/h");
        is("the second text is let be", x().link(), 2);
        second("a");
        is("a shorter one instead", make(3, 0, "/l"), 3);
        is("leads to a alone", resolve("/l"), 1);
        second("/a/f");
        is("typed on after keep", x().type(word("/g")), true);
        is("type is not seen by the second text", make(3, 0, "/m"), 4);
        is("leads to f", resolve("/m"), 2);
        x().wipe();
        x().keep();
        text("/n");
        is("an empty second text", x().make(3, 0), BAD);
        is("an empty second text leads nowhere", x().link(), NOENT);
    }

    private static void length() {
        fresh("5 length");
        is("empty", x().length(), 0);
        text("a");
        is("one", x().length(), 1);
        text("/");
        is("slashes count", x().length(), 1);
        text("0123456789012345678901234567890123456789");
        is("forty", x().length(), 40);
        is("resolve lets the text be", x().resolve(true), LONG);
        is("forty still", x().length(), 40);
    }

    private static void at() {
        fresh("6 at");
        is("at(0) of none", x().at(0), BAD);
        text("/x~");
        is("at(0)", x().at(0), '/');
        is("at(1)", x().at(1), 'x');
        is("at(2)", x().at(2), '~');
        is("at(3)", x().at(3), BAD);
        is("at(-1)", x().at(-1), BAD);
        is("at(greatest)", x().at(Integer.MAX_VALUE), BAD);
        is("at(least)", x().at(Integer.MIN_VALUE), BAD);
        text("0123456789012345678901234567890123456789");
        is("at(39)", x().at(39), '9');
        is("at(40)", x().at(40), BAD);
        text("ab");
        is("at(2) after a longer text", x().at(2), BAD);
    }

    // ---- promise 7

    private static void resolveNames() {
        fresh("7 resolve: names");
        is("empty text", x().resolve(true), NOENT);
        is("empty text", x().resolve(false), NOENT);
        is("/a", dir("/a"), 1);
        is("/a/b", dir("/a/b"), 2);
        is("/a/b/f", file("/a/b/f"), 3);
        is("six characters", dir("/abcdef"), 4);
        is("...", dir("/..."), 5);
        is("slash", resolve("/"), 0);
        is("slashes", resolve("////"), 0);
        is("from the present one", resolve("a/b"), 2);
        is("with slashes", resolve("//a///b////f"), 3);
        is("a directory slashed", resolve("/a/b//"), 2);
        is("a file slashed", resolve("/a/b/f/"), NOTDIR);
        is("a file in the middle", resolve("/a/b/f/g"), NOTDIR);
        is("a dot after a file", resolve("/a/b/f/."), NOTDIR);
        is("a long name after a file", resolve("/a/b/f/abcdefg"), NOTDIR);
        is("none", resolve("/a/c"), NOENT);
        is("none in the middle", resolve("/a/c/b"), NOENT);
        is("six characters", resolve("/abcdef"), 4);
        is("six others", resolve("/abcdeg"), NOENT);
        is("five", resolve("/abcde"), NOENT);
        is("seven", resolve("/abcdefg"), LONG);
        is("seven in the middle", resolve("/abcdefg/a"), LONG);
        is("seven after none", resolve("/c/abcdefg"), NOENT);
        is("three points are a name", resolve("/..."), 5);
        is("four points too", resolve("/...."), NOENT);
        is("case is told apart", resolve("/A"), NOENT);
        is("b is not in the root", resolve("/b"), NOENT);
        is("enter", enter("/a"), 1);
        is("from the present one", resolve("b"), 2);
        is("not from the root", resolve("a"), NOENT);
        is("from the root", resolve("/a"), 1);
        textIs("/a");
    }

    private static void resolveRights() {
        fresh("7 resolve: rights");
        become(1);
        is("of 1, owner alone", make(1, 12, "/own"), 1);
        is("d", dir("/own/d"), 2);
        is("of 1, others alone", make(1, 3, "/oth"), 3);
        become(2);
        is("of 2, search for others", make(1, 1, "/s"), 4);
        is("of 2, write for others", make(1, 2, "/w"), 5);
        is("owner without search", make(1, 8, "/ow"), 6);
        is("owner without write", make(1, 4, "/os"), 7);
        is("d in the others'", dir("/oth/d"), 8);
        is("others may search", resolve("/oth/d"), 8);
        is("others may not search", resolve("/own/d"), ACCES);
        is("not even for .", resolve("/own/."), ACCES);
        is("nor for ..", resolve("/own/.."), ACCES);
        is("nor for what is not there", resolve("/own/x"), ACCES);
        is("ACCES before LONG", resolve("/own/abcdefg"), ACCES);
        is("it can be come to", resolve("/own"), 1);
        is("slashed too", resolve("/own/"), 1);
        is("the owner needs bit 2: mode 1", resolve("/s/x"), ACCES);
        is("the owner needs bit 2: mode 8", resolve("/ow/x"), ACCES);
        is("the owner may search with mode 4", resolve("/os/x"), NOENT);
        become(1);
        is("the owner may search", resolve("/own/d"), 2);
        is("the owner may not, though others may", resolve("/oth/d"), ACCES);
        is("others may search with mode 1", resolve("/s/x"), NOENT);
        is("others may not with mode 2", resolve("/w/x"), ACCES);
        is("others may not with mode 4", resolve("/os/x"), ACCES);
        become(0);
        is("user 0 may always", resolve("/own/d"), 2);
        is("user 0 may always", resolve("/os/x"), NOENT);
        is("mode 0", make(1, 0, "/no"), 9);
        is("user 0 may in its own too", file("/no/f"), 10);
        is("user 0 may in its own too", resolve("/no/f"), 10);
        is("root without rights for others", change(12, "/"), 15);
        become(3);
        is("the root itself needs none", resolve("/"), 0);
        is("a name in it does", resolve("/no"), ACCES);
        is("a dot does", resolve("."), ACCES);
    }

    private static void resolveDots() {
        fresh("7 resolve: dots");
        is("a", dir("/a"), 1);
        is("b", dir("/a/b"), 2);
        is("c", dir("/c"), 3);
        is(". alone", resolve("."), 0);
        is("./a", resolve("./a"), 1);
        is("/a/./b/.", resolve("/a/./b/."), 2);
        is("/a/b/..", resolve("/a/b/.."), 1);
        is("/a/b/../", unfollowed("/a/b/../"), 1);
        is("/a/b/../..", resolve("/a/b/../.."), 0);
        is("above the root", resolve("/../../c"), 3);
        is("/a/../c", resolve("/a/../c"), 3);
        is("after what is not there", resolve("/x/.."), NOENT);
        is("enter", enter("a/b"), 2);
        is("..", resolve(".."), 1);
        is("../../c", resolve("../../c"), 3);
        is("../../../../c", resolve("../../../../c"), 3);
    }

    private static void resolveLinks() {
        fresh("7 resolve: links");
        is("a", dir("/a"), 1);
        is("f", file("/a/f"), 2);
        is("f in the root", file("/f"), 3);
        is("relative", symlink("f", "/a/l"), 4);
        is("from the root", symlink("/f", "/a/m"), 5);
        is("to a directory", symlink("a", "/d"), 6);
        is("to a directory, slashed", symlink("a/", "/e"), 7);
        is("dangling", symlink("none", "/n"), 8);
        is("to the root", symlink("/", "/r"), 9);
        is("upwards", symlink("..", "/a/u"), 10);
        is("to a link", symlink("d", "/dd"), 11);
        is("to a file, slashed", symlink("a/f/", "/fs"), 12);
        is("to a link, unfollowed at its end", symlink("a/l", "/al"), 13);
        is("a link is relative to its own directory", resolve("/a/l"), 2);
        is("a link with / begins at the root", resolve("/a/m"), 3);
        is("not followed", unfollowed("/a/l"), 4);
        is("followed in the middle", unfollowed("/d/l"), 4);
        is("followed at the end too", resolve("/d/l"), 2);
        is("slashed", unfollowed("/d/"), 1);
        is("slashed twice", unfollowed("/d//"), 1);
        is("not slashed", unfollowed("/d"), 6);
        is("a link's text that ends with /", resolve("/e"), 1);
        is("a name after it", resolve("/e/f"), 2);
        is("dangling", resolve("/n"), NOENT);
        is("dangling, not followed", unfollowed("/n"), 8);
        is("dangling, slashed", unfollowed("/n/"), NOENT);
        is("to the root", resolve("/r"), 0);
        is("to the root and down", resolve("/a/../r/a/f"), 2);
        is("to the root, not followed", unfollowed("/r"), 9);
        is("to the root, slashed", unfollowed("/r/"), 0);
        is("upwards", resolve("/a/u"), 0);
        is("upwards and down", resolve("/a/u/f"), 3);
        is("two links", resolve("/dd/f"), 2);
        is("two links, slashed", unfollowed("/dd/"), 1);
        is("a dot after a link", unfollowed("/dd/."), 1);
        is("above what the link leads to", resolve("/d/.."), 0);
        is("a link to a file, slashed", resolve("/a/l/"), NOTDIR);
        is("a link to a file in the middle", resolve("/a/l/x"), NOTDIR);
        is("a link's text to a file, slashed", resolve("/fs"), NOTDIR);
        is("a link's text to a file, slashed, not followed", unfollowed("/fs"), 12);
        is("a link to a link, followed to the end", resolve("/al"), 2);
        is("from a present directory", enter("/a"), 1);
        is("relative in it", resolve("l"), 2);
        is("from the root in it", resolve("m"), 3);
        is("../d/l", resolve("../d/l"), 2);
    }

    private static void resolveLoops() {
        fresh("7 resolve: loops");
        is("itself", symlink("/self", "/self"), 1);
        is("LOOP", resolve("/self"), LOOP);
        is("LOOP in the middle", unfollowed("/self/x"), LOOP);
        is("LOOP slashed", unfollowed("/self/"), LOOP);
        is("the link itself", unfollowed("/self"), 1);
        is("d", dir("/d"), 2);
        is("1", symlink("d", "/1"), 3);
        for (int k = 2; k <= 9; k++) {
            is("link " + k, symlink("" + (k - 1), "/" + k), k + 2);
        }
        is("eight hops", resolve("/8"), 2);
        is("nine hops", resolve("/9"), LOOP);
        is("nine, the first not followed", unfollowed("/9"), 11);
        is("here", symlink(".", "/h"), 12);
        is("eight in one path", resolve("h/h/h/h/h/h/h/h/d"), 2);
        is("nine in one path", resolve("h/h/h/h/h/h/h/h/h/d"), LOOP);
        is("eight and the last not followed", unfollowed("h/h/h/h/h/h/h/h/h"), 12);
        is("the hops begin anew", resolve("h/h/h/h/h/h/h/h"), 0);
        is("to itself below", symlink("sub/x", "/sub"), 13);
        is("LOOP before LONG", resolve("/sub"), LOOP);
    }

    private static void resolveLongRest() {
        fresh("7 resolve: long");
        is("a", dir("/a"), 1);
        String forty = "//////////////////////////////////////a/";
        is("a link of forty characters", symlink(forty, "/l"), 2);
        String twenty = "/./././././././././.";
        is("sixty in all", resolve("l" + twenty), 1);
        is("sixty-one", resolve("l" + twenty + "/"), LONG);
        is("sixty-one with the link later", resolve("/a/../l" + twenty + "/"), LONG);
        is("none after the link is seen", resolve("l/x" + twenty), LONG);
        is("LONG is told of the link's own place", resolve("x/l" + twenty + "/"), NOENT);
        is("forty and forty one after the other", resolve("l/../l"), 1);
        is("13 characters, of which 12 stay", symlink("g/./././././.", "/g"), 3);
        is("61 characters at the fifth hop", resolve("g"), LONG);
        is("8 characters, of which 7 stay", symlink("k/......", "/k"), 4);
        is("60 characters at the eighth hop, LOOP before LONG at the ninth", resolve("k/.."), LOOP);
        is("61 characters at the eighth hop", resolve("k/..."), LONG);
    }

    private static void resolveMounts() {
        fresh("7 resolve: mounts");
        is("a", dir("/a"), 1);
        is("b", dir("/a/b"), 2);
        is("hidden", file("/a/b/h"), 3);
        is("volume", x().volume(), 1);
        is("mount", mount(1, "/a/b"), 2);
        is("the top", resolve("/a/b"), 4);
        is("not followed", unfollowed("/a/b"), 4);
        is("what was there is hidden", resolve("/a/b/h"), NOENT);
        is("c", dir("/a/b/c"), 5);
        is("in the volume", resolve("/a/b/c"), 5);
        is("above", resolve("/a/b/c/.."), 4);
        is("above the volume", resolve("/a/b/.."), 1);
        is("twice above", resolve("/a/b/c/../.."), 1);
        is("link to it", symlink("a/b", "/l"), 6);
        is("by the link", resolve("/l/c"), 5);
        is("second volume", x().volume(), 2);
        is("on the first", mount(2, "/a/b"), 4);
        is("the top of two", resolve("/a/b"), 7);
        is("above two", resolve("/a/b/.."), 1);
        is("what was there is hidden", resolve("/a/b/c"), NOENT);
        is("third volume", x().volume(), 3);
        is("d", dir("/a/b/d"), 9);
        is("within the second", mount(3, "/a/b/d"), 9);
        is("top", resolve("/a/b/d"), 8);
        is("above the third", resolve("/a/b/d/.."), 7);
        is("rights are those of the top", change(12, "/a/b"), 15);
        is("of the top", x().about(7, 0), 12);
        become(1);
        is("ACCES", resolve("/a/b/d"), ACCES);
        become(0);
        is("enter", enter("/a/b/d"), 8);
        is("..", resolve(".."), 7);
        is("../..", resolve("../.."), 1);
    }

    // ---- promises 8 to 10

    private static void make() {
        fresh("8 make");
        is("directory", make(1, 7, "/a"), 1);
        is("kind", x().kind(1), 1);
        is("mode", x().about(1, 0), 7);
        is("entries for it", x().about(1, 3), 1);
        is("file", make(2, 0, "/a/f"), 2);
        is("kind", x().kind(2), 2);
        is("mode", x().about(2, 0), 0);
        second("f");
        is("link, of whatever mode", make(3, 99, "/a/l"), 3);
        is("kind", x().kind(3), 3);
        is("mode of a link", x().about(3, 0), 15);
        is("another, of a mode that could be", make(3, 2, "/a/m"), 4);
        is("mode of a link", x().about(4, 0), 15);
        is("the link leads", resolve("/a/l"), 2);
        is("a directory may be slashed", dir("/a/d///"), 5);
        is("under its name", resolve("/a/d"), 5);
        is("parent", resolve("/a/d/.."), 1);
        is("through a link", symlink("a/d", "/ad"), 6);
        is("through a link", file("/ad/g"), 7);
        is("is there", resolve("/a/d/g"), 7);
        is("from the present one", enter("/a/d"), 5);
        is("from the present one", file("h"), 8);
        is("is there", resolve("/a/d/h"), 8);
        is("above the present one", file("../i"), 9);
        is("is there", resolve("/a/i"), 9);
        is("six characters", file("abcdef"), 10);
        is("order", x().entry(5, 2), 10);
        become(3);
        is("by another", make(1, 15, "/u"), 11);
        is("owner", x().about(11, 1), 3);
        is("link by another", symlink("u", "/v"), 12);
        is("owner", x().about(12, 1), 3);
        is("mode of a link", x().about(12, 0), 15);
        is("volume by another", x().volume(), 1);
        become(0);
        is("mount", mount(1, "/u"), 11);
        is("in the volume", dir("/u/w"), 14);
        is("volume", x().about(14, 2), 1);
        is("in that", symlink("x", "/u/w/x"), 15);
        is("volume", x().about(15, 2), 1);
        is("volume of the first", x().about(1, 2), 0);
        is("least number that is free", remove("/a/f"), 2);
        is("least number that is free", remove("/a/i"), 9);
        is("is taken", dir("/n"), 2);
        is("then the next", dir("/o"), 9);
        is("then a new one", dir("/p"), 16);
        textIs("/p");
    }

    private static void makeOrder() {
        fresh("8 make: what fails");
        is("kind 0", make(0, 0, "/a"), BAD);
        is("kind 4", make(4, 0, "/a"), BAD);
        is("kind -1", make(-1, 0, "/a"), BAD);
        is("mode 16", make(1, 16, "/a"), BAD);
        is("mode -1", make(2, -1, "/a"), BAD);
        is("link with no second text", make(3, 0, "/a"), BAD);
        x().wipe();
        is("BAD before NOENT", x().make(0, 0), BAD);
        is("BAD before NOENT", x().make(1, 16), BAD);
        is("BAD before NOENT", x().make(3, 0), BAD);
        is("empty", x().make(1, 0), NOENT);
        is("slash", dir("/"), EXIST);
        is("slashes", file("///"), EXIST);
        is("a", dir("/a"), 1);
        is("f", file("/a/f"), 2);
        is("l", symlink("none", "/l"), 3);
        is("there", dir("/a"), EXIST);
        is("there, slashed", dir("/a/"), EXIST);
        is("there, a file slashed: EXIST first", file("/a/f/"), EXIST);
        is("a dangling link is there", file("/l"), EXIST);
        is("a dangling link is there, slashed", dir("/l/"), EXIST);
        is("dot", dir("/a/."), EXIST);
        is("dots", dir("/a/.."), EXIST);
        is("dot of a file", file("./"), EXIST);
        is("a name of seven", dir("/abcdefg"), LONG);
        is("none before", dir("/x/y"), NOENT);
        is("through a dangling link", dir("/l/y"), NOENT);
        is("a file before", dir("/a/f/y"), NOTDIR);
        is("file slashed", file("/g/"), NOTDIR);
        is("link slashed", make(3, 0, "/g/"), NOTDIR);
        is("loop", symlink("p", "/p"), 4);
        is("through a loop", dir("/p/y"), LOOP);
        is("of others: search alone", change(13, "/a"), 15);
        become(1);
        is("EXIST before ACCES", dir("/a/f"), EXIST);
        is("EXIST before ACCES", dir("/a/."), EXIST);
        is("NOTDIR before ACCES", file("/a/g/"), NOTDIR);
        is("may not write", file("/a/g"), ACCES);
        become(0);
        is("of others: write alone", change(14, "/a"), 13);
        become(1);
        is("may not search", file("/a/g"), ACCES);
        is("ACCES of the walk before EXIST", file("/a/f"), ACCES);
        is("ACCES of the walk before LONG", file("/a/abcdefg"), ACCES);
        become(0);
        is("write and search", change(3, "/a"), 14);
        become(1);
        is("may write", file("/a/g"), 5);
        is("own, search alone", make(1, 4, "/b"), 6);
        is("may not write its own", file("/b/g"), ACCES);
        is("own, both", change(12, "/b"), 4);
        is("may write its own", file("/b/g"), 7);
        is("nothing else was made", x().kind(8), 0);
    }

    private static void makeFullObjects() {
        fresh("8 make: no object free");
        is("only others", make(1, 1, "/no"), 1);
        for (int i = 2; i < 40; i++) {
            is("object " + i, make(2, i % 16, "/f" + i), i);
        }
        is("no object", file("/g"), FULL);
        is("no object", dir("/g"), FULL);
        is("no object for a link", symlink("a", "/g"), FULL);
        is("EXIST first", file("/f3"), EXIST);
        is("NOTDIR first", file("/g/"), NOTDIR);
        is("no volume", x().volume(), FULL);
        become(1);
        is("ACCES first", file("/no/g"), ACCES);
        become(0);
        is("a link makes no object", hard("/f7", "/g"), 7);
        is("nothing came of them", x().about(0, 4), 40);
        is("kind(40)", x().kind(40), 0);
        is("one free", remove("/f20"), 20);
        is("one made", dir("/h"), 20);
        is("no object", dir("/i"), FULL);
    }

    private static void fillEntries(int from, int to) {
        second("/f");
        for (int k = from; k <= to; k++) {
            text("/" + k);
            is("entry " + k, x().link(), 1);
        }
    }

    private static void makeFullEntries() {
        fresh("8 make: no entry free");
        is("f", file("/f"), 1);
        fillEntries(2, 79);
        is("the eightieth", dir("/d"), 2);
        is("no entry", file("/g"), FULL);
        is("no entry in another directory", dir("/d/g"), FULL);
        is("no entry for a link", make(3, 0, "/g"), FULL);
        is("EXIST first", file("/79"), EXIST);
        is("no object was made", x().kind(3), 0);
        is("a volume needs none", x().volume(), 1);
        is("one free", remove("/33"), 1);
        is("one made", dir("/d/g"), 4);
        is("no entry", file("/h"), FULL);
        is("entries in all", x().about(0, 4), 79);
    }

    private static void link() {
        fresh("9 link");
        is("a", dir("/a"), 1);
        is("f", file("/f"), 2);
        is("link to f", hard("/f", "/a/g"), 2);
        textIs("/a/g");
        is("entries for it", x().about(2, 3), 2);
        is("both", resolve("/f"), 2);
        is("both", resolve("/a/g"), 2);
        is("none was made", x().kind(3), 0);
        is("s", symlink("f", "/s"), 3);
        is("a link is not followed", hard("/s", "/a/s"), 3);
        is("and leads from its new place", resolve("/a/s"), NOENT);
        is("from its old one too", resolve("/s"), 2);
        is("f beside it", hard("f", "a/f"), 2);
        is("leads there now", resolve("/a/s"), 2);
        is("three", x().about(2, 3), 3);
        is("order", x().entry(1, 0), 2);
        is("order", x().entry(1, 1), 3);
        is("order", x().entry(1, 2), 2);
        become(2);
        is("by another user", hard("/f", "/h"), 2);
        is("owner stays", x().about(2, 1), 0);
        is("in a mounted volume", x().volume(), 1);
        become(0);
        is("mount", mount(1, "/a"), 1);
        is("of that volume", file("/a/x"), 5);
        is("within it", hard("/a/x", "/a/y"), 5);
        is("of another", hard("/a/x", "/y"), XDEV);
        is("of another", hard("/f", "/a/z"), XDEV);
        is("through a followed link", symlink("a", "/l"), 6);
        is("through a followed link", hard("/l/x", "/l/z"), 5);
        is("four names", x().about(5, 3), 3);
    }

    private static void linkOrder() {
        fresh("9 link: what fails");
        is("a", dir("/a"), 1);
        is("f", file("/a/f"), 2);
        is("p", symlink("p", "/p"), 3);
        is("l", symlink("a", "/l"), 4);
        is("volume", x().volume(), 1);
        is("v", dir("/v"), 6);
        is("others may search v alone", x().about(6, 0), 15);
        is("mount", mount(1, "/v"), 6);
        x().wipe();
        x().keep();
        text("/g");
        is("no second text", x().link(), NOENT);
        is("second text: none", hard("/x", "/g"), NOENT);
        is("second text: none, before all else", hard("/x", "/"), NOENT);
        is("second text: loop", hard("/p/x", "/g"), LOOP);
        is("second text: slashed loop", hard("/p/", "/g"), LOOP);
        is("second text: long", hard("/abcdefg", "/g"), LONG);
        is("second text: file slashed", hard("/a/f/", "/g"), NOTDIR);
        is("directory", hard("/a", "/g"), BAD);
        is("root", hard("/", "/g"), BAD);
        is("a link to a directory, slashed", hard("/l/", "/g"), BAD);
        second("/a");
        x().wipe();
        is("BAD before NOENT", x().link(), BAD);
        second("/a/f");
        x().wipe();
        is("no text", x().link(), NOENT);
        is("slashes alone", hard("/a/f", "//"), EXIST);
        is("none before", hard("/a/f", "/x/g"), NOENT);
        is("long", hard("/a/f", "/abcdefg"), LONG);
        is("loop", hard("/a/f", "/p/g"), LOOP);
        is("under a file", hard("/a/f", "/a/f/g"), NOTDIR);
        is("dots", hard("/a/f", "/a/.."), EXIST);
        is("dot", hard("/a/f", "."), EXIST);
        is("there", hard("/a/f", "/a/f"), EXIST);
        is("there, slashed", hard("/a/f", "/a/f/"), EXIST);
        is("there: a directory", hard("/a/f", "/a"), EXIST);
        is("slashed", hard("/a/f", "/g/"), NOTDIR);
        is("NOTDIR before XDEV", hard("/a/f", "/v/g/"), NOTDIR);
        is("other volume", hard("/a/f", "/v/g"), XDEV);
        is("g on it", file("/v/g"), 7);
        is("EXIST before XDEV", hard("/a/f", "/v/g"), EXIST);
        is("no writing for others", change(13, "/v"), 15);
        become(1);
        is("ACCES before XDEV", hard("/a/f", "/v/h"), ACCES);
        is("EXIST before ACCES", hard("/a/f", "/v/g"), EXIST);
        is("NOTDIR before ACCES", hard("/a/f", "/v/h/"), NOTDIR);
        become(0);
        is("no searching for others", change(14, "/a"), 15);
        become(1);
        is("second text: ACCES", hard("/a/f", "/h"), ACCES);
        is("ACCES of the text", hard("/p", "/a/h"), ACCES);
        is("links for f", x().about(2, 3), 1);
        is("links for p", x().about(3, 3), 1);
    }

    private static void linkFull() {
        fresh("9 link: no entry free");
        is("f", file("/f"), 1);
        is("v", make(1, 13, "/v"), 2);
        is("volume", x().volume(), 1);
        is("w", dir("/w"), 4);
        is("mount", mount(1, "/w"), 4);
        fillEntries(4, 80);
        is("no entry", hard("/f", "/g"), FULL);
        is("XDEV first", hard("/f", "/w/g"), XDEV);
        is("EXIST first", hard("/f", "/w"), EXIST);
        become(1);
        is("ACCES first", hard("/f", "/v/g"), ACCES);
        become(0);
        is("one free", remove("/f"), 1);
        is("one made", hard("/80", "/v/g"), 1);
        is("entries for it", x().about(1, 3), 78);
        is("no entry", hard("/80", "/v/h"), FULL);
    }

    private static void remove() {
        fresh("10 remove");
        is("a", dir("/a"), 1);
        is("b", dir("/a/b"), 2);
        is("f", file("/a/f"), 3);
        is("g", hard("/a/f", "/g"), 3);
        is("l", symlink("a", "/l"), 4);
        is("one of two entries", remove("/a/f"), 3);
        textIs("/a/f");
        is("still there", x().kind(3), 2);
        is("entries for it", x().about(3, 3), 1);
        is("gone from there", resolve("/a/f"), NOENT);
        is("the other one", resolve("/g"), 3);
        is("the last one", remove("/g"), 3);
        is("free", x().kind(3), 0);
        is("about", x().about(3, 3), BAD);
        is("gone", resolve("/g"), NOENT);
        is("with entries", remove("/a"), NOTEMPTY);
        is("still there", resolve("/a/b"), 2);
        is("through a link, slashed", remove("/l/b/"), 2);
        is("free", x().kind(2), 0);
        is("entries", x().about(1, 4), 0);
        is("a link slashed is no directory", remove("/l/"), NOTDIR);
        is("a link itself", remove("/l"), 4);
        is("what it led to stays", resolve("/a"), 1);
        is("a directory", remove("/a///"), 1);
        is("all gone", x().about(0, 4), 0);
        is("a dangling link", symlink("x", "/d"), 1);
        is("a dangling link", remove("d"), 1);
        is("numbers begin anew", dir("/e"), 1);
        is("it has no entries", x().about(1, 4), 0);
        is("link where a longer one was", symlink("e", "/m"), 2);
        is("leads to e", resolve("/m"), 1);
    }

    private static void removeOrder() {
        fresh("10 remove: what fails");
        is("empty", x().remove(), NOENT);
        is("slash", remove("/"), BUSY);
        is("slashes", remove("//"), BUSY);
        is("a", dir("/a"), 1);
        is("b", dir("/a/b"), 2);
        is("f", file("/a/f"), 3);
        is("p", symlink("p", "/p"), 4);
        is("dot", remove("/a/."), BAD);
        is("dots", remove("/a/b/.."), BAD);
        is("dots slashed", remove("../"), BAD);
        is("three points are no dots", remove("/..."), NOENT);
        is("none", remove("/x"), NOENT);
        is("none, slashed", remove("/x/"), NOENT);
        is("none before", remove("/x/y"), NOENT);
        is("dots after none", remove("/x/.."), NOENT);
        is("long", remove("/abcdefg"), LONG);
        is("loop", remove("/p/x"), LOOP);
        is("under a file", remove("/a/f/x"), NOTDIR);
        is("file slashed", remove("/a/f/"), NOTDIR);
        is("volume", x().volume(), 1);
        is("mount", mount(1, "/a/b"), 2);
        is("covered", remove("/a/b"), BUSY);
        is("covered, slashed", remove("/a/b/"), BUSY);
        is("in the volume", dir("/a/b/c"), 6);
        is("covered, whatever is above", remove("/a/b"), BUSY);
        is("enter", enter("/a/b/c"), 6);
        is("present", remove("/a/b/c"), BUSY);
        is("present", remove("../c"), BUSY);
        is("d", dir("d"), 7);
        is("BUSY before NOTEMPTY", remove("../c"), BUSY);
        is("enter d", enter("d"), 7);
        is("a file is not the present one", file("../e"), 8);
        is("one above the present one has entries", remove("/a/b/c"), NOTEMPTY);
        is("others may search alone", change(13, "/a"), 15);
        become(1);
        is("may not write", remove("/a/f"), ACCES);
        is("NOENT before ACCES", remove("/a/x"), NOENT);
        is("BAD before ACCES", remove("/a/."), BAD);
        is("NOTDIR before ACCES", remove("/a/f/"), NOTDIR);
        is("ACCES before BUSY", remove("/a/b"), ACCES);
        become(0);
        is("others may write alone", change(14, "/a"), 13);
        become(1);
        is("may not search", remove("/a/f"), ACCES);
        is("ACCES before BAD", remove("/a/.."), ACCES);
        become(0);
        is("others may both", change(3, "/a"), 14);
        become(1);
        is("may, whoever owns it", remove("/a/f"), 3);
        become(0);
        is("back", enter("/"), 0);
        is("c can go then, in time", remove("/a/b/c/d"), 7);
        is("e", remove("/a/b/c/e"), 8);
        is("c", remove("/a/b/c"), 6);
        is("covered still", remove("/a/b"), BUSY);
        is("unmount", unmount("/a/b"), 1);
        is("b", remove("/a/b"), 2);
        is("q", dir("/q"), 2);
        is("s", dir("/q/s"), 3);
        is("jail", jail("/q"), 2);
        is("t", dir("/s/t"), 6);
        is("dots of the jail", remove(".."), BAD);
        is("below the jail", remove("../s/t"), 6);
        is("below the jail", remove("/s"), 3);
    }

    private static void removeOrderOfEntries() {
        fresh("10 remove: the order of entries");
        is("a", dir("/a"), 1);
        is("1", file("/1"), 2);
        is("a/1", file("/a/1"), 3);
        is("2", file("/2"), 4);
        is("a/2", file("/a/2"), 5);
        is("3", file("/3"), 6);
        is("remove from the middle", remove("/2"), 4);
        is("new one", file("/4"), 4);
        is("0", x().entry(0, 0), 1);
        is("1", x().entry(0, 1), 2);
        is("2", x().entry(0, 2), 6);
        is("3", x().entry(0, 3), 4);
        is("4", x().entry(0, 4), NOENT);
        is("other 0", x().entry(1, 0), 3);
        is("other 1", x().entry(1, 1), 5);
        is("other 2", x().entry(1, 2), NOENT);
        is("remove the first", remove("/a/1"), 3);
        is("other 0", x().entry(1, 0), 5);
        is("other 1", x().entry(1, 1), NOENT);
        is("names moved too", resolve("/4"), 4);
        is("names moved too", resolve("/3"), 6);
        is("names moved too", resolve("/a/2"), 5);
        is("name is gone", resolve("/2"), NOENT);
    }

    // ---- promises 11 to 13

    private static void volume() {
        fresh("11 volume");
        is("f", file("/f"), 1);
        is("g", file("/g"), 2);
        is("remove", remove("/f"), 1);
        become(2);
        is("first", x().volume(), 1);
        is("its root is the least that is free", x().kind(1), 1);
        is("mode", x().about(1, 0), 15);
        is("owner", x().about(1, 1), 0);
        is("volume", x().about(1, 2), 1);
        is("entries for it", x().about(1, 3), 0);
        is("entries of it", x().about(1, 4), 0);
        is("not covered", x().about(1, 5), 0);
        is("second", x().volume(), 2);
        is("its root", x().about(3, 2), 2);
        is("third", x().volume(), 3);
        is("its root", x().about(4, 2), 3);
        is("a fifth", x().volume(), FULL);
        is("nothing made", x().kind(5), 0);
        is("no entries", x().about(0, 4), 1);
        become(0);
        is("d", dir("/d"), 5);
        is("mount", mount(2, "/d"), 5);
        is("in it", resolve("/d"), 3);
        is("parent of its root is itself, with its volume mounted above it", resolve("/d/.."), 0);
    }

    private static void volumeFull() {
        fresh("11 volume: no object free");
        for (int i = 1; i < 39; i++) {
            is("object " + i, file("/f" + i), i);
        }
        is("with the last object", x().volume(), 1);
        is("its root", x().about(39, 2), 1);
        is("no object", x().volume(), FULL);
        is("remove", remove("/f9"), 9);
        is("there is one", x().volume(), 2);
        is("its root", x().about(9, 2), 2);
    }

    private static void mount() {
        fresh("12 mount");
        is("a", dir("/a"), 1);
        is("b", dir("/a/b"), 2);
        is("l", symlink("a/b", "/l"), 3);
        is("volume", x().volume(), 1);
        is("volume", x().volume(), 2);
        is("volume", x().volume(), 3);
        is("a link is followed", mount(1, "/l"), 2);
        textIs("/l");
        is("covers", x().about(2, 5), 1);
        is("covers nothing else", x().about(1, 5), 0);
        is("the volume is not covered", x().about(4, 5), 0);
        is("on the volume", mount(3, "/a/b"), 4);
        is("covers", x().about(4, 5), 3);
        is("the first still", x().about(2, 5), 1);
        is("on the topmost", mount(2, "/a/b/"), 6);
        is("covers", x().about(6, 5), 2);
        is("the top", resolve("/l"), 5);
        is("unmount", unmount("/a/b"), 2);
        is("mounted again", mount(2, "/a"), 1);
        is("covers", x().about(1, 5), 2);
        is("elsewhere no more", x().about(6, 5), 0);
        is("b is hidden", resolve("/a/b"), NOENT);
        is("the volumes on it stay", x().about(2, 5), 1);
    }

    private static void mountOrder() {
        fresh("12 mount: what fails");
        is("a", dir("/a"), 1);
        is("f", file("/f"), 2);
        is("p", symlink("p", "/p"), 3);
        is("volume", x().volume(), 1);
        is("no such volume", mount(2, "/a"), BAD);
        is("volume 0", mount(0, "/a"), BAD);
        is("volume -1", mount(-1, "/a"), BAD);
        is("volume 4", mount(4, "/a"), BAD);
        is("volume 40", mount(40, "/a"), BAD);
        is("greatest", mount(Integer.MAX_VALUE, "/a"), BAD);
        is("least", mount(Integer.MIN_VALUE, "/a"), BAD);
        is("volume 2", x().volume(), 2);
        become(1);
        is("BAD before ACCES", mount(3, "/a"), BAD);
        is("not user 0", mount(1, "/a"), ACCES);
        is("ACCES before what ends the walk", mount(1, "/x"), ACCES);
        become(0);
        x().wipe();
        is("empty", x().mount(1), NOENT);
        is("none", mount(1, "/x"), NOENT);
        is("file", mount(1, "/f"), NOTDIR);
        is("under a file", mount(1, "/f/x"), NOTDIR);
        is("loop", mount(1, "/p"), LOOP);
        is("long", mount(1, "/abcdefg"), LONG);
        is("root", mount(1, "/"), BUSY);
        is("nothing was mounted", x().about(0, 5), 0);
        is("mount", mount(1, "/a"), 1);
        is("is mounted", mount(1, "/a"), BUSY);
        is("BUSY before what ends the walk", mount(1, "/x"), BUSY);
        is("BUSY before NOTDIR", mount(1, "/f"), BUSY);
        become(1);
        is("ACCES before BUSY", mount(1, "/a"), ACCES);
        is("BAD before all", mount(0, "/a"), BAD);
    }

    private static void mountBelow() {
        fresh("12 mount: above the root or the present directory");
        is("a", dir("/a"), 1);
        is("b", dir("/a/b"), 2);
        is("c", dir("/a/b/c"), 3);
        is("d", dir("/a/d"), 4);
        is("volume", x().volume(), 1);
        is("volume", x().volume(), 2);
        is("volume", x().volume(), 3);
        is("mount", mount(1, "/a/b/c"), 3);
        is("e", dir("/a/b/c/e"), 8);
        is("g", dir("/a/b/c/g"), 9);
        is("enter", enter("/a/b/c/e"), 8);
        is("the present one", mount(2, "."), BUSY);
        is("above it", mount(2, ".."), BUSY);
        is("above the volume", mount(2, "../.."), BUSY);
        is("above that", mount(2, "/a"), BUSY);
        is("root", mount(2, "/"), BUSY);
        is("beside it", mount(2, "../g"), 9);
        is("beside, in the volume below", mount(3, "/a/d"), 4);
        is("unmount", unmount("/a/d"), 3);
        is("jail", jail("/a/b"), 2);
        is("the root", mount(3, "/"), BUSY);
        is("enter", enter("/c/g"), 6);
        is("the present one, a volume's root", mount(3, "/c/g"), BUSY);
        is("above it", mount(3, "/c"), BUSY);
        is("the present one is elsewhere", mount(3, "/c/e"), 8);
        is("path", x().path(), 4);
        textIs("/c/g");
        is("unmount", unmount("/c/e"), 3);
        is("back", enter("/"), 2);
        is("above none of them", mount(3, "/c"), 5);
        is("covers what volumes are mounted in", x().about(5, 5), 3);
    }

    private static void mountBelowByOtherNumbers() {
        fresh("12 mount: numbers that do not rise with the depth");
        is("a", dir("/a"), 1);
        is("b", dir("/b"), 2);
        is("volume", x().volume(), 1);
        is("volume", x().volume(), 2);
        is("remove", remove("/a"), 1);
        is("b/c", dir("/b/c"), 1);
        is("b/c/d", dir("/b/c/d"), 5);
        is("mount", mount(2, "/b/c/d"), 5);
        is("enter", enter("/b/c/d"), 4);
        is("above", mount(1, "/b/c"), BUSY);
        is("above that", mount(1, "/b"), BUSY);
        is("path", x().path(), 6);
        textIs("/b/c/d");
        is("leave", enter("/"), 0);
        is("e in the volume", dir("/b/c/d/e"), 6);
        is("the first volume in the second", mount(1, "/b/c/d/e"), 6);
        is("keeps it", unmount("/b/c/d"), BUSY);
        is("the inner one", unmount("/b/c/d/e"), 1);
        is("the outer one", unmount("/b/c/d"), 2);
    }

    private static void unmount() {
        fresh("13 unmount");
        is("a", dir("/a"), 1);
        is("f", file("/f"), 2);
        is("l", symlink("a", "/l"), 3);
        is("volume", x().volume(), 1);
        is("volume", x().volume(), 2);
        x().wipe();
        is("empty", x().unmount(), NOENT);
        is("none", unmount("/x"), NOENT);
        is("long", unmount("/abcdefg"), LONG);
        is("under a file", unmount("/f/"), NOTDIR);
        is("file", unmount("/f"), BAD);
        is("not mounted", unmount("/a"), BAD);
        is("volume 0", unmount("/"), BAD);
        is("mount", mount(2, "/a"), 1);
        is("kept", file("/a/k"), 6);
        is("not its root", unmount("/a/k"), BAD);
        become(3);
        is("not user 0", unmount("/a"), ACCES);
        is("ACCES before all", unmount("/x"), ACCES);
        become(0);
        is("still covered", x().about(1, 5), 2);
        is("by a link", unmount("/l"), 2);
        textIs("/l");
        is("not covered", x().about(1, 5), 0);
        is("what was there", resolve("/a"), 1);
        is("not twice", unmount("/a"), BAD);
        is("the volume's things stay", x().kind(6), 2);
        is("not to be come to", resolve("/a/k"), NOENT);
        is("mounted again", mount(2, "/a"), 1);
        is("they are there", resolve("/a/k"), 6);
    }

    private static void unmountBusy() {
        fresh("13 unmount: in use");
        is("a", dir("/a"), 1);
        is("volume", x().volume(), 1);
        is("volume", x().volume(), 2);
        is("volume", x().volume(), 3);
        is("mount", mount(1, "/a"), 1);
        is("b", dir("/a/b"), 5);
        is("a directory of it is covered", mount(2, "/a/b"), 5);
        is("BUSY", unmount("/a"), BUSY);
        is("the upper one may", unmount("/a/b"), 2);
        is("its root is covered", mount(2, "/a"), 2);
        is("the upper one", unmount("/a"), 2);
        is("enter", enter("/a/b"), 5);
        is("the present one is in it", unmount("/a"), BUSY);
        is("another volume elsewhere", mount(3, "/a/b/.."), BUSY);
        is("enter", enter("/a"), 2);
        is("the present one is its root", unmount("."), BUSY);
        is("leave", enter("/"), 0);
        is("may now", unmount("/a"), 1);
        is("again", mount(1, "/a"), 1);
        is("c", dir("/a/b/c"), 6);
        is("mount", mount(2, "/a/b/c"), 6);
        is("jail", jail("/a/b"), 5);
        is("within the jail", enter("/c"), 3);
        is("the present one alone is in it", unmount("/c"), BUSY);
        is("the root is not a volume's", unmount("/"), BAD);
        is("leave", enter("/"), 5);
        is("neither", unmount("/c"), 2);
        is("again", mount(2, "/c"), 6);
        is("d", dir("/c/d"), 7);
        is("third", mount(3, "/c/d"), 7);
        is("jail in it", jail("/c"), 3);
        is("the present one is in the third", enter("/d"), 4);
        is("the root's volume", unmount("/"), BUSY);
        is("leave", enter("/"), 3);
        is("third", unmount("/d"), 3);
        is("the root alone keeps it, and the present one", unmount("/"), BUSY);
    }

    // ---- promises 14 to 17

    private static void enter() {
        fresh("14 enter");
        is("a", dir("/a"), 1);
        is("b", dir("/a/b"), 2);
        is("f", file("/a/f"), 3);
        is("l", symlink("a/b", "/l"), 4);
        is("p", symlink("p", "/p"), 5);
        is("enter", enter("/a"), 1);
        textIs("/a");
        is("present", resolve("."), 1);
        is("root stays", resolve("/"), 0);
        is("down", enter("b"), 2);
        is("present", resolve("."), 2);
        is("up", enter(".."), 1);
        is("a link is followed", enter("/l"), 2);
        is("path", x().path(), 4);
        x().wipe();
        is("empty", x().enter(false), NOENT);
        is("none", enter("/x"), NOENT);
        is("file", enter("/a/f"), NOTDIR);
        is("file slashed", enter("/a/f/"), NOTDIR);
        is("loop", enter("/p"), LOOP);
        is("long", enter("/abcdefg"), LONG);
        is("file, jailed", jail("/a/f"), NOTDIR);
        is("none, jailed", jail("/x"), NOENT);
        is("root stays", resolve("/"), 0);
        is("present stays", resolve("."), 2);
        is("owner may search alone", change(4, "/a/b"), 15);
        is("others may write alone", change(2, "/a"), 15);
        become(1);
        is("may not search", enter("/a"), ACCES);
        is("may not search, jailed", jail("/a"), ACCES);
        is("may not search on the way", enter("/a/b"), ACCES);
        is("root stays", resolve("/"), 0);
        become(0);
        is("present stays", resolve("."), 2);
        is("others may search", change(1, "/a"), 2);
        become(1);
        is("searching is enough", enter("/a"), 1);
        is("not this one", enter("b"), ACCES);
        is("/", enter("/"), 0);
        is("own", make(1, 4, "/o"), 6);
        is("own", enter("/o"), 6);
        is("own without search", change(11, "."), 4);
        is("own without search", enter("/o"), ACCES);
        is("not from it: no search in it", enter("."), ACCES);
        is("from the root", enter("/"), 0);
    }

    private static void enterJail() {
        fresh("14 enter: jail");
        is("a", dir("/a"), 1);
        is("b", dir("/a/b"), 2);
        is("c", dir("/a/b/c"), 3);
        is("to the root", symlink("/", "/a/b/r"), 4);
        is("to b", symlink("/b", "/a/b/c/l"), 5);
        is("up and up", symlink("../../..", "/a/b/c/u"), 6);
        is("from elsewhere", enter("/a/b/c"), 3);
        is("jail", jail("/a"), 1);
        is("root", resolve("/"), 1);
        is("present", resolve("."), 1);
        is("above", resolve(".."), 1);
        is("above and down", resolve("/../../b"), 2);
        is("what was is no more", resolve("/a"), NOENT);
        is("path", x().path(), 1);
        textIs("/");
        is("a link to the root", resolve("/b/r"), 1);
        is("a link from the root", resolve("b/c/l"), 2);
        is("a link upwards", resolve("b/c/u"), 1);
        is("enter", enter("b/c"), 3);
        is("path", x().path(), 4);
        textIs("/b/c");
        is("deeper jail", jail(".."), 2);
        is("root", resolve("/"), 2);
        is("present", resolve("."), 2);
        is("no way out", jail("/.."), 2);
        is("without jail", enter("c"), 3);
        is("root stays", resolve("/"), 2);
        is("c/..", resolve(".."), 2);
        is("c/../..", resolve("../.."), 2);
    }

    private static void user() {
        fresh("15 user");
        is("none", make(1, 12, "/n"), 1);
        is("-1", x().user(-1), false);
        is("4", x().user(4), false);
        is("greatest", x().user(Integer.MAX_VALUE), false);
        is("least", x().user(Integer.MIN_VALUE), false);
        is("still 0", resolve("/n/x"), NOENT);
        for (int u = 3; u >= 1; u--) {
            is("user " + u, x().user(u), true);
            is("may not", resolve("/n/x"), ACCES);
            is("owns", file("/f" + u), 5 - u);
            is("owner", x().about(5 - u, 1), u);
        }
        is("4", x().user(4), false);
        is("still 1", file("/g"), 5);
        is("owner", x().about(5, 1), 1);
        is("0 again", x().user(0), true);
        is("may", resolve("/n/x"), NOENT);
    }

    private static void change() {
        fresh("16 change");
        is("f", make(2, 5, "/f"), 1);
        is("l", symlink("f", "/l"), 2);
        is("p", symlink("p", "/p"), 3);
        is("d", make(1, 6, "/d"), 4);
        is("mode 16", change(16, "/f"), BAD);
        is("mode -1", change(-1, "/f"), BAD);
        x().wipe();
        is("BAD before NOENT", x().change(16), BAD);
        is("empty", x().change(0), NOENT);
        is("none", change(1, "/x"), NOENT);
        is("loop", change(1, "/p"), LOOP);
        is("long", change(1, "/abcdefg"), LONG);
        is("under a file", change(1, "/f/"), NOTDIR);
        is("mode stays", x().about(1, 0), 5);
        is("change", change(15, "/f"), 5);
        textIs("/f");
        is("mode", x().about(1, 0), 15);
        is("a link is followed", change(0, "/l"), 15);
        is("of the file", x().about(1, 0), 0);
        is("of the link", x().about(2, 0), 15);
        is("a directory", change(3, "/d"), 6);
        is("its mode", x().about(4, 0), 3);
        is("the root", change(7, "/"), 15);
        is("its mode", x().about(0, 0), 7);
        become(1);
        is("not the owner", change(3, "/f"), ACCES);
        is("BAD before ACCES", change(16, "/f"), BAD);
        is("NOENT before ACCES", change(1, "/x"), NOENT);
        is("mode stays", x().about(1, 0), 0);
        is("own", make(2, 9, "/g"), 5);
        is("the owner may", change(1, "/g"), 9);
        is("whatever the mode is", change(0, "/g"), 1);
        is("whatever the mode is", change(8, "/g"), 0);
        become(2);
        is("another may not", change(15, "/g"), ACCES);
        become(0);
        is("user 0 may", change(15, "/g"), 8);
        is("owner stays", x().about(5, 1), 1);
        is("volume", x().volume(), 1);
        is("mount", mount(1, "/d"), 4);
        is("of the top", change(4, "/d"), 15);
        is("its mode", x().about(6, 0), 4);
        is("of the covered one", x().about(4, 0), 3);
    }

    private static void path() {
        fresh("17 path");
        is("root", x().path(), 1);
        textIs("/");
        is("a", dir("/a"), 1);
        is("b", dir("/a/bcdefg"), 2);
        is("c", dir("/a/bcdefg/hi"), 3);
        is("l", symlink("a/bcdefg/hi", "/l"), 4);
        is("f before it", file("/a/bcdefg/f"), 5);
        is("enter", enter("/l"), 3);
        text("/long/text/that/is/there");
        is("path", x().path(), 12);
        textIs("/a/bcdefg/hi");
        is("leads there", x().resolve(true), 3);
        is("typed on", x().type(word("/..")), true);
        is("typed on", x().resolve(true), 2);
        is("enter", x().enter(false), 2);
        is("path", x().path(), 9);
        textIs("/a/bcdefg");
        second("/q");
        is("path", x().path(), 9);
        is("the second text is let be", make(3, 0, "/m"), 6);
        is("as it was", dir("/q"), 7);
        is("leads to q", resolve("/m"), 7);
        is("no rights for others", change(0, "/"), 15);
        is("no rights for others", change(0, "/a"), 15);
        become(2);
        is("no rights are needed", x().path(), 9);
        textIs("/a/bcdefg");
        become(0);
        is("jail", jail("/a"), 1);
        is("path", x().path(), 1);
        textIs("/");
        is("enter", enter("/bcdefg/hi"), 3);
        is("path", x().path(), 10);
        textIs("/bcdefg/hi");
    }

    private static void pathOverVolumes() {
        fresh("17 path: over volumes");
        is("a", dir("/a"), 1);
        is("b", dir("/a/b"), 2);
        is("volume", x().volume(), 1);
        is("volume", x().volume(), 2);
        is("volume", x().volume(), 3);
        is("mount", mount(1, "/a/b"), 2);
        is("mount", mount(2, "/a/b"), 3);
        is("c", dir("/a/b/cc"), 6);
        is("mount", mount(3, "/a/b/cc"), 6);
        is("d", dir("/a/b/cc/d"), 7);
        is("enter", enter("/a/b"), 4);
        is("path", x().path(), 4);
        textIs("/a/b");
        is("enter", enter("cc"), 5);
        is("path", x().path(), 7);
        textIs("/a/b/cc");
        is("enter", enter("d"), 7);
        is("path", x().path(), 9);
        textIs("/a/b/cc/d");
        is("jail in a volume's root", jail("/a/b"), 4);
        is("path", x().path(), 1);
        textIs("/");
        is("enter", enter("cc/d"), 7);
        is("path", x().path(), 5);
        textIs("/cc/d");
    }

    private static void pathLong() {
        fresh("17 path: long");
        for (int k = 1; k <= 5; k++) {
            is("dir " + k, dir("abcde" + k), k);
            is("enter", enter("abcde" + k), k);
        }
        is("path", x().path(), 35);
        is("abcd", dir("abcd"), 6);
        is("abcde", dir("abcde"), 7);
        is("enter", enter("abcd"), 6);
        is("forty", x().path(), 40);
        textIs("/abcde1/abcde2/abcde3/abcde4/abcde5/abcd");
        is("enter", enter("../abcde"), 7);
        text("was");
        is("forty-one", x().path(), LONG);
        textIs("was");
        is("deeper", dir("a"), 8);
        is("deeper", enter("a"), 8);
        is("forty-three", x().path(), LONG);
        for (int i = 9; i < 18; i++) {
            is("deeper", dir("abcdef"), i);
            is("deeper", enter("abcdef"), i);
        }
        text("is");
        is("very long", x().path(), LONG);
        textIs("is");
        is("jail", jail("../../../../../.."), 11);
        is("enter", enter("abcdef/abcdef"), 13);
        is("from the jail", x().path(), 14);
        textIs("/abcdef/abcdef");
    }

    // ---- promises 18 to 20, and failures

    private static void kind() {
        fresh("18 kind");
        is("a", dir("/a"), 1);
        is("f", file("/f"), 2);
        is("l", symlink("a", "/l"), 3);
        is("volume", x().volume(), 1);
        is("0", x().kind(0), 1);
        is("1", x().kind(1), 1);
        is("2", x().kind(2), 2);
        is("3", x().kind(3), 3);
        is("4", x().kind(4), 1);
        is("5", x().kind(5), 0);
        is("39", x().kind(39), 0);
        is("40", x().kind(40), 0);
        is("-1", x().kind(-1), 0);
        is("greatest", x().kind(Integer.MAX_VALUE), 0);
        is("least", x().kind(Integer.MIN_VALUE), 0);
        is("remove", remove("/l"), 3);
        is("removed", x().kind(3), 0);
        is("taken again", file("/m"), 3);
        is("by a file", x().kind(3), 2);
    }

    private static void about() {
        fresh("19 about");
        become(2);
        is("a", make(1, 13, "/a"), 1);
        is("f", make(2, 3, "/a/f"), 2);
        is("g", hard("/a/f", "/a/g"), 2);
        become(0);
        is("volume", x().volume(), 1);
        is("volume", x().volume(), 2);
        is("mount", mount(2, "/a"), 1);
        is("h", file("/a/h"), 5);
        is("i", file("/a/i"), 6);
        is("l", symlink("a", "/a/l"), 7);
        int[][] due = {{15, 0, 0, 0, 1, 0}, {13, 2, 0, 1, 2, 2}, {3, 2, 0, 2, 0, 0}, {15, 0, 1, 0, 0, 0},
            {15, 0, 2, 0, 3, 0}, {15, 0, 2, 1, 0, 0}, {15, 0, 2, 1, 0, 0}, {15, 0, 2, 1, 0, 0}};
        for (int i = 0; i < due.length; i++) {
            for (int what = 0; what <= 5; what++) {
                is("about(" + i + ", " + what + ")", x().about(i, what), due[i][what]);
            }
        }
        is("what 6", x().about(0, 6), BAD);
        is("what -1", x().about(0, -1), BAD);
        is("what greatest", x().about(0, Integer.MAX_VALUE), BAD);
        for (int what = 0; what <= 5; what++) {
            is("none", x().about(8, what), BAD);
            is("40", x().about(40, what), BAD);
            is("-1", x().about(-1, what), BAD);
        }
        is("least", x().about(Integer.MIN_VALUE, 0), BAD);
        is("remove", remove("/a/h"), 5);
        is("removed", x().about(5, 0), BAD);
        is("entries of it", x().about(4, 4), 2);
        is("unmount", unmount("/a"), 2);
        is("not covered", x().about(1, 5), 0);
    }

    private static void entry() {
        fresh("20 entry");
        is("a", dir("/a"), 1);
        is("f", file("/f"), 2);
        is("g", file("/a/g"), 3);
        is("h", hard("/f", "/a/h"), 2);
        is("l", symlink("f", "/l"), 4);
        is("volume", x().volume(), 1);
        is("mount", mount(1, "/a"), 1);
        is("in the volume", file("/a/v"), 6);
        is("0 0: what is covered, not the top", x().entry(0, 0), 1);
        is("0 1", x().entry(0, 1), 2);
        is("0 2: the link", x().entry(0, 2), 4);
        is("0 3", x().entry(0, 3), NOENT);
        is("1 0", x().entry(1, 0), 3);
        is("1 1", x().entry(1, 1), 2);
        is("1 2", x().entry(1, 2), NOENT);
        is("5 0", x().entry(5, 0), 6);
        is("5 1", x().entry(5, 1), NOENT);
        is("k -1", x().entry(0, -1), NOENT);
        is("k greatest", x().entry(0, Integer.MAX_VALUE), NOENT);
        is("k least", x().entry(0, Integer.MIN_VALUE), NOENT);
        is("a file", x().entry(2, 0), NOENT);
        is("a link", x().entry(4, 0), NOENT);
        is("none", x().entry(7, 0), NOENT);
        is("40", x().entry(40, 0), NOENT);
        is("-1", x().entry(-1, 0), NOENT);
        is("least", x().entry(Integer.MIN_VALUE, 0), NOENT);
    }

    private static void failuresChangeNothing() {
        fresh("a call that fails changes nothing");
        is("a", make(1, 13, "/a"), 1);
        is("f", file("/a/f"), 2);
        is("volume", x().volume(), 1);
        is("mount", mount(1, "/a"), 1);
        is("g", file("/a/g"), 4);
        is("enter", enter("/a"), 3);
        int[] before = state();
        is("make", make(1, 0, "/a/g"), EXIST);
        is("make", make(1, 0, "/x/g"), NOENT);
        is("link", hard("/a/g", "/h"), XDEV);
        is("remove", remove("/a"), BUSY);
        is("mount", mount(1, "/"), BUSY);
        is("unmount", unmount("/a"), BUSY);
        is("enter", jail("/a/g"), NOTDIR);
        is("change", change(16, "/a"), BAD);
        become(1);
        is("change", change(0, "/a/g"), ACCES);
        is("mount", mount(1, "/"), ACCES);
        become(0);
        textIs("/");
        int[] after = state();
        for (int k = 0; k < before.length; k++) {
            is("state " + k, after[k], before[k]);
        }
        is("present", resolve("."), 3);
        is("root", resolve("/"), 0);
    }

    private static int[] state() {
        int[] row = new int[6 * 9];
        for (int i = 0; i < 6; i++) {
            row[9 * i] = x().kind(i);
            for (int what = 0; what <= 5; what++) {
                row[9 * i + 1 + what] = x().about(i, what);
            }
            row[9 * i + 7] = x().entry(i, 0);
            row[9 * i + 8] = x().entry(i, 1);
        }
        return row;
    }
}
