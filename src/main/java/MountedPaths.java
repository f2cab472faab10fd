import java.util.Arrays;

/**
 * Paths over directories, links and mounted volumes, walked for a user below a root that cannot be
 * left. The numbers of objects are 0 or more and every failure is below 0, so one int tells both.
 */
public final class MountedPaths {
    public static final int NOENT = -1;
    public static final int NOTDIR = -2;
    public static final int ACCES = -3;
    public static final int LOOP = -4;
    public static final int LONG = -5;
    public static final int EXIST = -6;
    public static final int BUSY = -7;
    public static final int NOTEMPTY = -8;
    public static final int XDEV = -9;
    public static final int FULL = -10;
    public static final int BAD = -11;

    private static final int OBJECTS = 40;
    private static final int ENTRIES = 80;
    private static final int VOLUMES = 4;
    private static final int USERS = 4;
    private static final int MODES = 16;
    private static final int TEXT_LIMIT = 40;
    private static final int REST_LIMIT = 60;
    private static final int NAME_LIMIT = 6;
    private static final int HOP_LIMIT = 8;
    // A text and eight links' texts have 360 characters, and each step of a walk takes one at least.
    private static final int STEP_LIMIT = 1000;

    private static final int NOTHING = 0;
    private static final int DIRECTORY = 1;
    private static final int FILE = 2;
    private static final int LINK = 3;

    private static final int SEARCH = 1;
    private static final int WRITE = 2;
    private static final int ALL_RIGHTS = 15;

    private static final int FINE = 0;
    private static final int NONE = -1;

    // A name of at most six characters is held in one long, a byte for each, the first one highest.
    private static final long DOT = '.';
    private static final long DOT_DOT = '.' << 8 | '.';

    private final Line text = new Line();
    private final Line second = new Line();
    private final Rest trail = new Rest();
    private final Things things = new Things();
    private final Entries entries = new Entries();
    private final Volumes volumes = new Volumes(things);
    private final Session session = new Session(things);
    private final Walk walk = new Walk(things, entries, volumes, session);

    public MountedPaths() {
        things.put(0, DIRECTORY, ALL_RIGHTS, 0, volumes.add(0));
    }

    public boolean type(int w) {
        int more = 0;
        for (int shift = 24; shift >= 0; shift -= 8) {
            int c = w >>> shift & 255;
            if (c != 0 && (c < 33 || c > 126)) {
                return false;
            }
            more += c != 0 ? 1 : 0;
        }
        if (!text.hasRoom(more)) {
            return false;
        }
        for (int shift = 24; shift >= 0; shift -= 8) {
            int c = w >>> shift & 255;
            if (c != 0) {
                text.append((char) c);
            }
        }
        return true;
    }

    public void wipe() {
        text.clear();
    }

    public void keep() {
        second.copy(text);
    }

    public int length() {
        return text.size();
    }

    public int at(int k) {
        return k >= 0 && k < text.size() ? text.mark(k) : BAD;
    }

    public int resolve(boolean follow) {
        return walk.through(text, follow);
    }

    public int make(int kind, int mode) {
        if (!mayBeMade(kind, mode)) {
            return BAD;
        }
        int end = comeToNewName(kind == DIRECTORY);
        if (end != FINE) {
            return end;
        }
        int made = things.leastFree();
        if (made == NONE || entries.isFull()) {
            return FULL;
        }
        int place = walk.place();
        things.put(made, kind, kind == LINK ? ALL_RIGHTS : mode, session.user, things.volumeOf(place));
        if (kind == DIRECTORY) {
            things.setParent(made, place);
        }
        if (kind == LINK) {
            things.setTarget(made, second);
        }
        entries.add(place, walk.name(), made);
        return made;
    }

    private boolean mayBeMade(int kind, int mode) {
        if (kind == LINK) {
            return !second.isEmpty();
        }
        return (kind == DIRECTORY || kind == FILE) && isMode(mode);
    }

    private static boolean isMode(int mode) {
        return mode >= 0 && mode < MODES;
    }

    /** FINE if a new entry may come under the last name of the text, to which the walk has come then. */
    private int comeToNewName(boolean mayBeSlashed) {
        if (text.isEmpty()) {
            return NOENT;
        }
        if (text.hasSlashesAlone()) {
            return EXIST;
        }
        int end = walk.toLastName(text);
        if (end != FINE) {
            return end;
        }
        if (walk.isOnDots() || entries.find(walk.place(), walk.name()) != NONE) {
            return EXIST;
        }
        if (walk.isSlashed() && !mayBeSlashed) {
            return NOTDIR;
        }
        return session.may(WRITE, walk.place()) ? FINE : ACCES;
    }

    public int link() {
        int object = walk.through(second, false);
        if (object < 0) {
            return object;
        }
        if (things.isDirectory(object)) {
            return BAD;
        }
        int end = comeToNewName(false);
        if (end != FINE) {
            return end;
        }
        if (things.volumeOf(walk.place()) != things.volumeOf(object)) {
            return XDEV;
        }
        if (entries.isFull()) {
            return FULL;
        }
        entries.add(walk.place(), walk.name(), object);
        return object;
    }

    public int remove() {
        if (text.isEmpty()) {
            return NOENT;
        }
        if (text.hasSlashesAlone()) {
            return BUSY;
        }
        int end = walk.toLastName(text);
        if (end != FINE) {
            return end;
        }
        if (walk.isOnDots()) {
            return BAD;
        }
        int found = entries.find(walk.place(), walk.name());
        if (found == NONE) {
            return NOENT;
        }
        int object = entries.object(found);
        end = whyNotRemove(object);
        if (end != FINE) {
            return end;
        }
        entries.drop(found);
        if (entries.countFor(object) == 0) {
            things.free(object);
        }
        return object;
    }

    private int whyNotRemove(int object) {
        if (walk.isSlashed() && !things.isDirectory(object)) {
            return NOTDIR;
        }
        if (!session.may(WRITE, walk.place())) {
            return ACCES;
        }
        if (volumes.covering(object) != 0 || object == session.root || object == session.present) {
            return BUSY;
        }
        return entries.countIn(object) == 0 ? FINE : NOTEMPTY;
    }

    public int volume() {
        int made = things.leastFree();
        if (made == NONE || volumes.isFull()) {
            return FULL;
        }
        int number = volumes.add(made);
        things.put(made, DIRECTORY, ALL_RIGHTS, 0, number);
        return number;
    }

    public int mount(int v) {
        if (!volumes.mayBeMounted(v)) {
            return BAD;
        }
        if (session.user != 0) {
            return ACCES;
        }
        if (volumes.isMounted(v)) {
            return BUSY;
        }
        int directory = walk.through(text, true);
        if (directory < 0) {
            return directory;
        }
        if (!things.isDirectory(directory)) {
            return NOTDIR;
        }
        if (isAtOrBelow(session.root, directory) || isAtOrBelow(session.present, directory)) {
            return BUSY;
        }
        volumes.cover(v, directory);
        return directory;
    }

    private boolean isAtOrBelow(int low, int high) {
        int directory = low;
        for (int step = 0; step < OBJECTS && directory != high && directory != 0; step++) {
            directory = volumes.above(directory, 0);
        }
        return directory == high;
    }

    public int unmount() {
        if (session.user != 0) {
            return ACCES;
        }
        int directory = walk.through(text, true);
        if (directory < 0) {
            return directory;
        }
        int v = volumes.mountedWithRoot(directory);
        if (v == NONE) {
            return BAD;
        }
        if (things.volumeOf(session.root) == v || things.volumeOf(session.present) == v || volumes.hasCovered(v)) {
            return BUSY;
        }
        volumes.uncover(v);
        return v;
    }

    public int enter(boolean jail) {
        int directory = walk.through(text, true);
        if (directory < 0) {
            return directory;
        }
        if (!things.isDirectory(directory)) {
            return NOTDIR;
        }
        if (!session.may(SEARCH, directory)) {
            return ACCES;
        }
        session.present = directory;
        if (jail) {
            session.root = directory;
        }
        return directory;
    }

    public boolean user(int u) {
        if (u < 0 || u >= USERS) {
            return false;
        }
        session.user = u;
        return true;
    }

    public int change(int mode) {
        if (!isMode(mode)) {
            return BAD;
        }
        int object = walk.through(text, true);
        if (object < 0) {
            return object;
        }
        if (session.user != 0 && session.user != things.owner(object)) {
            return ACCES;
        }
        int before = things.mode(object);
        things.setMode(object, mode);
        return before;
    }

    public int path() {
        trail.clear();
        int directory = session.present;
        for (int step = 0; step < OBJECTS && directory != session.root; step++) {
            trail.putNameBefore(entries.nameFor(volumes.ground(directory)));
            if (trail.size() > TEXT_LIMIT) {
                return LONG;
            }
            directory = volumes.above(directory, session.root);
        }
        if (trail.isEmpty()) {
            trail.putBefore('/');
        }
        text.clear();
        for (int k = 0; k < TEXT_LIMIT && !trail.isEmpty(); k++) {
            text.append(trail.take());
        }
        return text.size();
    }

    public int kind(int i) {
        return i >= 0 && i < OBJECTS ? things.sort(i) : NOTHING;
    }

    public int about(int i, int what) {
        if (kind(i) == NOTHING) {
            return BAD;
        }
        switch (what) {
            case 0:
                return things.mode(i);
            case 1:
                return things.owner(i);
            case 2:
                return things.volumeOf(i);
            case 3:
                return entries.countFor(i);
            case 4:
                return entries.countIn(i);
            case 5:
                return volumes.covering(i);
            default:
                return BAD;
        }
    }

    public int entry(int i, int k) {
        int found = entries.findNth(i, k);
        return found == NONE ? NOENT : entries.object(found);
    }

    /** A text: characters that come at its end. */
    private static final class Line {
        private final char[] marks = new char[TEXT_LIMIT];
        private int count;

        void clear() {
            count = 0;
        }

        int size() {
            return count;
        }

        boolean isEmpty() {
            return count == 0;
        }

        boolean hasRoom(int more) {
            return more <= TEXT_LIMIT - count;
        }

        void append(char c) {
            if (count < TEXT_LIMIT) {
                marks[count] = c;
                count++;
            }
        }

        char mark(int k) {
            return k >= 0 && k < count ? marks[k] : 0;
        }

        void copy(Line other) {
            System.arraycopy(other.marks, 0, marks, 0, other.count);
            count = other.count;
        }

        boolean hasSlashesAlone() {
            for (int k = 0; k < count; k++) {
                if (marks[k] != '/') {
                    return false;
                }
            }
            return true;
        }
    }

    /** What a walk has before it: characters that come, and are taken off, at its beginning. */
    private static final class Rest {
        private final char[] marks = new char[REST_LIMIT];
        private int start = REST_LIMIT;

        void clear() {
            start = REST_LIMIT;
        }

        int size() {
            return REST_LIMIT - start;
        }

        boolean isEmpty() {
            return start >= REST_LIMIT;
        }

        boolean beginsWithSlash() {
            return start < REST_LIMIT && marks[start] == '/';
        }

        boolean hasSlashesAlone() {
            for (int k = start; k < REST_LIMIT; k++) {
                if (marks[k] != '/') {
                    return false;
                }
            }
            return true;
        }

        char take() {
            if (start >= REST_LIMIT) {
                return 0;
            }
            char c = marks[start];
            start++;
            return c;
        }

        void putBefore(char c) {
            if (start > 0) {
                start--;
                marks[start] = c;
            }
        }

        /** False, changing nothing, when there would be more characters than REST may have. */
        boolean putLineBefore(Line line) {
            if (line.size() > start) {
                return false;
            }
            for (int k = line.size() - 1; k >= 0; k--) {
                putBefore(line.mark(k));
            }
            return true;
        }

        void putNameBefore(long name) {
            long left = name;
            for (int k = 0; k < NAME_LIMIT && left != 0; k++) {
                putBefore((char) (left & 255));
                left >>>= 8;
            }
            putBefore('/');
        }
    }

    /** The objects by their numbers. */
    private static final class Things {
        private final int[] sorts = new int[OBJECTS];
        private final int[] modes = new int[OBJECTS];
        private final int[] owners = new int[OBJECTS];
        private final int[] volumes = new int[OBJECTS];
        private final int[] parents = new int[OBJECTS];
        // Made when a number first becomes a link, and used again by the later links of that number.
        private final Line[] targets = new Line[OBJECTS];

        int leastFree() {
            for (int i = 0; i < OBJECTS; i++) {
                if (sorts[i] == NOTHING) {
                    return i;
                }
            }
            return NONE;
        }

        /** Its parent is itself, as that of a volume's root directory is, until setParent. */
        void put(int i, int sort, int mode, int owner, int volume) {
            sorts[i] = sort;
            modes[i] = mode;
            owners[i] = owner;
            volumes[i] = volume;
            parents[i] = i;
        }

        void free(int i) {
            sorts[i] = NOTHING;
        }

        int sort(int i) {
            return sorts[i];
        }

        boolean isDirectory(int i) {
            return sorts[i] == DIRECTORY;
        }

        boolean isLink(int i) {
            return sorts[i] == LINK;
        }

        int mode(int i) {
            return modes[i];
        }

        void setMode(int i, int mode) {
            modes[i] = mode;
        }

        int owner(int i) {
            return owners[i];
        }

        int volumeOf(int i) {
            return volumes[i];
        }

        int parent(int i) {
            return parents[i];
        }

        void setParent(int i, int parent) {
            parents[i] = parent;
        }

        Line target(int i) {
            return targets[i];
        }

        void setTarget(int i, Line line) {
            if (targets[i] == null) {
                targets[i] = new Line();
            }
            targets[i].copy(line);
        }
    }

    /** The entries of all directories, in the order in which they came. */
    private static final class Entries {
        private final int[] directories = new int[ENTRIES];
        private final long[] names = new long[ENTRIES];
        private final int[] objects = new int[ENTRIES];
        private int count;

        boolean isFull() {
            return count >= ENTRIES;
        }

        void add(int directory, long name, int object) {
            if (count < ENTRIES) {
                directories[count] = directory;
                names[count] = name;
                objects[count] = object;
                count++;
            }
        }

        /** The later ones move down, for their order is told by their places. */
        void drop(int place) {
            if (place < 0 || place >= count) {
                return;
            }
            count--;
            for (int k = place; k < count; k++) {
                directories[k] = directories[k + 1];
                names[k] = names[k + 1];
                objects[k] = objects[k + 1];
            }
        }

        int object(int place) {
            return objects[place];
        }

        int find(int directory, long name) {
            for (int k = 0; k < count; k++) {
                if (directories[k] == directory && names[k] == name) {
                    return k;
                }
            }
            return NONE;
        }

        int findNth(int directory, int n) {
            int before = 0;
            for (int k = 0; k < count; k++) {
                if (directories[k] == directory) {
                    if (before == n) {
                        return k;
                    }
                    before++;
                }
            }
            return NONE;
        }

        /** The name of the one entry that a directory has above it; 0 if there is none. */
        long nameFor(int object) {
            for (int k = 0; k < count; k++) {
                if (objects[k] == object) {
                    return names[k];
                }
            }
            return 0;
        }

        int countFor(int object) {
            int found = 0;
            for (int k = 0; k < count; k++) {
                found += objects[k] == object ? 1 : 0;
            }
            return found;
        }

        int countIn(int directory) {
            int found = 0;
            for (int k = 0; k < count; k++) {
                found += directories[k] == directory ? 1 : 0;
            }
            return found;
        }
    }

    /** The volumes, what they cover, and the ways up and down through them. */
    private static final class Volumes {
        private final Things things;
        private final int[] roots = new int[VOLUMES];
        private final int[] covered = new int[VOLUMES];
        private int count;

        Volumes(Things things) {
            this.things = things;
            Arrays.fill(covered, NONE);
        }

        boolean isFull() {
            return count >= VOLUMES;
        }

        int add(int root) {
            if (count >= VOLUMES) {
                return NONE;
            }
            roots[count] = root;
            count++;
            return count - 1;
        }

        boolean mayBeMounted(int v) {
            return v > 0 && v < count;
        }

        boolean isMounted(int v) {
            return covered[v] != NONE;
        }

        void cover(int v, int directory) {
            covered[v] = directory;
        }

        void uncover(int v) {
            covered[v] = NONE;
        }

        /** The volume that covers this object; 0 if none does, for volume 0 is never mounted. */
        int covering(int object) {
            for (int v = 1; v < count; v++) {
                if (covered[v] == object) {
                    return v;
                }
            }
            return 0;
        }

        int mountedWithRoot(int object) {
            for (int v = 1; v < count; v++) {
                if (roots[v] == object && covered[v] != NONE) {
                    return v;
                }
            }
            return NONE;
        }

        boolean hasCovered(int volume) {
            for (int v = 1; v < count; v++) {
                if (covered[v] != NONE && things.volumeOf(covered[v]) == volume) {
                    return true;
                }
            }
            return false;
        }

        int top(int object) {
            int high = object;
            for (int step = 0; step < VOLUMES; step++) {
                int v = covering(high);
                if (v == 0) {
                    return high;
                }
                high = roots[v];
            }
            return high;
        }

        /** The directory that bears this one's name: below all the volumes mounted over it. */
        int ground(int directory) {
            int low = directory;
            for (int step = 0; step < VOLUMES; step++) {
                int v = mountedWithRoot(low);
                if (v == NONE) {
                    return low;
                }
                low = covered[v];
            }
            return low;
        }

        int above(int directory, int root) {
            return directory == root ? root : top(things.parent(ground(directory)));
        }
    }

    /** For whom and from where paths are walked. */
    private static final class Session {
        private final Things things;
        private int user;
        private int root;
        private int present;

        Session(Things things) {
            this.things = things;
        }

        boolean may(int right, int directory) {
            int mode = things.mode(directory);
            int rights = user == things.owner(directory) ? mode / 4 : mode % 4;
            return user == 0 || (rights & right) != 0;
        }
    }

    /** The walking of a text, and where it has come to. */
    private static final class Walk {
        private final Things things;
        private final Entries entries;
        private final Volumes volumes;
        private final Session session;
        private final Rest rest = new Rest();
        private int at;
        private int hops;
        private long name;
        private boolean last;
        private boolean slashed;

        Walk(Things things, Entries entries, Volumes volumes, Session session) {
            this.things = things;
            this.entries = entries;
            this.volumes = volumes;
            this.session = session;
        }

        int place() {
            return at;
        }

        long name() {
            return name;
        }

        boolean isSlashed() {
            return slashed;
        }

        boolean isOnDots() {
            return name == DOT || name == DOT_DOT;
        }

        /** The object to which the text leads, or what ended the walk. */
        int through(Line text, boolean follow) {
            if (text.isEmpty()) {
                return NOENT;
            }
            begin(text);
            for (int step = 0; step < STEP_LIMIT && hasName(); step++) {
                int end = takeName();
                if (end == FINE) {
                    end = passName(follow);
                }
                if (end != FINE) {
                    return end;
                }
            }
            return at;
        }

        /** FINE when place, name and isSlashed tell the last name; or what ended the walk. */
        int toLastName(Line text) {
            begin(text);
            for (int step = 0; step < STEP_LIMIT && hasName(); step++) {
                int end = takeName();
                if (end != FINE || last) {
                    return end;
                }
                end = passName(true);
                if (end != FINE) {
                    return end;
                }
            }
            return NOENT;
        }

        private void begin(Line text) {
            rest.clear();
            rest.putLineBefore(text);
            at = rest.beginsWithSlash() ? session.root : session.present;
            hops = 0;
        }

        private boolean hasName() {
            for (int k = 0; k < REST_LIMIT && rest.beginsWithSlash(); k++) {
                rest.take();
            }
            return !rest.isEmpty();
        }

        private int takeName() {
            name = 0;
            int before = rest.size();
            for (int k = 0; k < REST_LIMIT && !rest.isEmpty() && !rest.beginsWithSlash(); k++) {
                name = name << 8 | rest.take();
            }
            int nameLength = before - rest.size();
            last = rest.hasSlashesAlone();
            slashed = !rest.isEmpty();
            if (!things.isDirectory(at)) {
                return NOTDIR;
            }
            if (!session.may(SEARCH, at)) {
                return ACCES;
            }
            return nameLength > NAME_LIMIT ? LONG : FINE;
        }

        private int passName(boolean follow) {
            int next = at;
            if (name == DOT_DOT) {
                next = volumes.above(at, session.root);
            } else if (name != DOT) {
                next = topUnder(at, name);
            }
            if (next == NONE) {
                return NOENT;
            }
            if (things.isLink(next) && (!last || slashed || follow)) {
                return passLink(things.target(next));
            }
            at = next;
            return slashed && !things.isDirectory(next) ? NOTDIR : FINE;
        }

        private int topUnder(int directory, long child) {
            int found = entries.find(directory, child);
            return found == NONE ? NONE : volumes.top(entries.object(found));
        }

        private int passLink(Line target) {
            hops++;
            if (hops > HOP_LIMIT) {
                return LOOP;
            }
            if (target == null || !rest.putLineBefore(target)) {
                return LONG;
            }
            if (rest.beginsWithSlash()) {
                at = session.root;
            }
            return FINE;
        }
    }
}
