import java.util.Arrays;

/** Views of a map of rooms, a walker in it, and runs that are played again: see the document's promises. */
public final class SectorView {
    public static final int NONE = -1;

    private static final int MOST_BYTES = 8192;
    private static final int MOST_INPUTS = 1024;
    private static final int MOST_VERTICES = 128;
    private static final int MOST_TEXTURES = 16;
    private static final int MOST_SECTORS = 32;
    private static final int MOST_WALLS = 128;
    private static final int COLUMNS = 64;
    private static final int ROWS = 48;
    private static final int NO_ANSWER = 100000;
    private static final int NO_BYTE = 255;
    private static final int ANGLES = 64;
    private static final int LEAST_PLACE = -32768;
    private static final int MOST_PLACE = 32767;
    private static final int DOOR = 0;
    private static final int LIFT = 1;
    private static final int RISER = 2;
    private static final int ROOM_TO_STAND = 56;

    private static final int[] QUARTER = {
        256, 255, 251, 245, 237, 226, 213, 198, 181, 162, 142, 121, 98, 74, 50, 25, 0
    };

    private final ByteRow given;
    private final ByteRow written;
    private final Reader reader;
    private final Tree tree;
    private final Walk walk;
    private final View view;
    private Plan plan;
    private Plan sparePlan;
    private Run run;
    private Run spareRun;
    private int mapsRead;

    public SectorView() {
        given = new ByteRow();
        written = new ByteRow();
        reader = new Reader(given);
        tree = new Tree();
        plan = new Plan();
        sparePlan = new Plan();
        Rays rays = new Rays();
        walk = new Walk(rays, plan);
        view = new View(rays);
        run = new Run();
        spareRun = new Run();
    }

    public boolean giveBytes(long v, int n) {
        if (n < 1 || n > 8 || given.size + n > MOST_BYTES) {
            return false;
        }
        for (int i = n - 1; i >= 0; i--) {
            given.put((int) (v >>> (8 * i)) & 255);
        }
        return true;
    }

    public boolean cutBytes(int n) {
        if (n < 0 || n > given.size) {
            return false;
        }
        given.size = n;
        return true;
    }

    public boolean pokeByte(int k, int b) {
        if (k < 0 || k >= given.size) {
            return false;
        }
        given.cells[k] = b & 255;
        return true;
    }

    public int loadMap() {
        reader.begin();
        sparePlan.read(reader);
        if (reader.well()) {
            swapPlans();
            mapsRead++;
            plan.bytes.become(given);
            tree.grow(plan);
            run.count = 0;
            run.start.become(plan.start);
            walk.begin(plan, run.start);
        }
        return reader.fault;
    }

    public int loadDemo() {
        reader.begin();
        spareRun.read(reader);
        if (!hasMap() || spareRun.start.sector >= plan.sectorCount) {
            reader.blame(8, 8);
        }
        if (reader.well()) {
            swapRuns();
            walk.begin(plan, run.start);
        }
        return reader.fault;
    }

    public int saveMap() {
        if (!hasMap()) {
            return NONE;
        }
        written.become(plan.bytes);
        return written.size;
    }

    public int saveDemo() {
        if (!hasMap()) {
            return NONE;
        }
        run.write(written);
        return written.size;
    }

    public void turnBytes() {
        given.become(written);
    }

    public boolean startAt(int x, int y, int angle, int sector) {
        if (!hasMap() || !isPlace(x, y) || angle < 0 || angle >= ANGLES || !isSector(sector)) {
            return false;
        }
        run.start.put(x, y, angle, sector);
        walk.begin(plan, run.start);
        return true;
    }

    public int addInput(int ahead, int aside, int turn, boolean uses) {
        if (!hasMap() || !Run.isInput(ahead, aside, turn) || run.count >= MOST_INPUTS) {
            return NONE;
        }
        run.add(Run.inputOf(ahead, aside, turn, uses));
        return run.count;
    }

    public boolean dropInputs(int n) {
        if (n < 0 || n > run.count) {
            return false;
        }
        run.count -= n;
        return true;
    }

    public int playTo(int k) {
        if (!hasMap() || k < 0 || k > run.count) {
            return NONE;
        }
        walk.begin(plan, run.start);
        int stopped = 0;
        for (int i = 0; i < k; i++) {
            if (walk.step(run.inputs[i]) == Walk.STOPPED) {
                stopped++;
            }
        }
        return stopped;
    }

    public int stepBy(int ahead, int aside, int turn, boolean uses) {
        if (!hasMap() || !Run.isInput(ahead, aside, turn)) {
            return NONE;
        }
        return walk.step(Run.inputOf(ahead, aside, turn, uses));
    }

    public int walkerOf(int what) {
        if (!hasMap()) {
            return NO_ANSWER;
        }
        switch (what) {
            case 0: return walk.x;
            case 1: return walk.y;
            case 2: return walk.angle;
            case 3: return walk.sector;
            case 4: return walk.eye();
            case 5: return walk.ticks;
            default: return NO_ANSWER;
        }
    }

    public int sectorOf(int sector, int what) {
        if (!hasMap() || !isSector(sector)) {
            return NO_ANSWER;
        }
        Sector s = plan.sectors[sector];
        switch (what) {
            case 0: return s.floor;
            case 1: return s.ceiling;
            case 2: return plan.lightIn(s, walk.ticks);
            case 3: return s.mover;
            case 4: return s.heading;
            default: return NO_ANSWER;
        }
    }

    public int pixelAt(int column, int row) {
        if (!isSeen(column) || row < 0 || row >= ROWS) {
            return NONE;
        }
        view.look(walk, column);
        return view.pixels[row];
    }

    public int surfaceAt(int column, int row) {
        if (!isSeen(column) || row < 0 || row >= ROWS) {
            return NONE;
        }
        view.look(walk, column);
        return view.surfaces[row];
    }

    public int metAt(int column, int i) {
        if (!isSeen(column) || i < 0) {
            return NONE;
        }
        view.look(walk, column);
        return i < view.metCount ? view.met[i] : NONE;
    }

    public long frameOf() {
        if (!hasMap()) {
            return 0;
        }
        long rowFactor = 1;
        for (int column = 0; column < COLUMNS; column++) {
            rowFactor *= 31;
        }
        // A pixel one row further up counts rowFactor times as much, one a column further left 31 times:
        // so columns can be summed up one by one, and no frame is kept.
        long sum = 0;
        for (int column = 0; column < COLUMNS; column++) {
            view.look(walk, column);
            long columnSum = 0;
            for (int row = 0; row < ROWS; row++) {
                columnSum = rowFactor * columnSum + view.pixels[row];
            }
            sum = 31 * sum + columnSum;
        }
        return sum;
    }

    public int nodeOf(int k, int what) {
        if (!hasMap() || k < 0 || k >= tree.nodeCount) {
            return NONE;
        }
        switch (what) {
            case 0: return tree.lines[k];
            case 1: return Math.max(tree.lefts[k], NONE);
            case 2: return Math.max(tree.rights[k], NONE);
            case 3: return tree.owns[k];
            case 4: return tree.sizes[k];
            case 5: return tree.depths[k];
            default: return NONE;
        }
    }

    public int leafOf(int x, int y) {
        if (!hasMap() || !isPlace(x, y)) {
            return NONE;
        }
        return tree.leafAround(plan, x, y);
    }

    public int byteOf(int k, boolean into) {
        ByteRow row = into ? given : written;
        return k >= 0 && k < row.size ? row.cells[k] : NONE;
    }

    public int lookAt(int which) {
        switch (which) {
            case 0: return hasMap() ? plan.vertexCount : NONE;
            case 1: return hasMap() ? plan.textureCount : NONE;
            case 2: return hasMap() ? plan.sectorCount : NONE;
            case 3: return hasMap() ? plan.wallCount : NONE;
            case 4: return run.count;
            case 5: return given.size;
            case 6: return written.size;
            case 7: return reader.fault;
            case 8: return reader.place;
            case 9: return hasMap() ? tree.nodeCount : NONE;
            case 10: return hasMap() ? tree.ownCount : NONE;
            case 11: return hasMap() ? plan.moverCount() : 0;
            case 12: return mapsRead;
            default: return NONE;
        }
    }

    private boolean hasMap() {
        return mapsRead > 0;
    }

    private boolean isSector(int sector) {
        return sector >= 0 && sector < plan.sectorCount;
    }

    private boolean isSeen(int column) {
        return hasMap() && column >= 0 && column < COLUMNS;
    }

    private static boolean isPlace(int x, int y) {
        return x >= LEAST_PLACE && x <= MOST_PLACE && y >= LEAST_PLACE && y <= MOST_PLACE;
    }

    // What was read into is taken, and the old one is what the next is read into: so a fault leaves
    // what there was as it is, and no new rows are needed.
    private void swapPlans() {
        Plan old = plan;
        plan = sparePlan;
        sparePlan = old;
    }

    private void swapRuns() {
        Run old = run;
        run = spareRun;
        spareRun = old;
    }

    private static int cosine(int angle) {
        if (angle <= 16) {
            return QUARTER[angle];
        }
        if (angle <= 32) {
            return -QUARTER[32 - angle];
        }
        if (angle <= 48) {
            return -QUARTER[angle - 32];
        }
        return QUARTER[ANGLES - angle];
    }

    private static int sine(int angle) {
        return cosine(Math.floorMod(angle - 16, ANGLES));
    }

    private static long cross(long px, long py, long qx, long qy) {
        return px * qy - py * qx;
    }

    // Below 0, 0 or above 0 as n / d is less than, as great as or greater than m / e (n, m not below 0,
    // d, e above 0). Whole parts first, then the rests turned over: the products n * e and m * d
    // would not always fit a long.
    private static int compareQuotients(long n, long d, long m, long e) {
        long over = n;
        long under = d;
        long otherOver = m;
        long otherUnder = e;
        for (int i = 0; i < 200 && under > 0 && otherUnder > 0; i++) {
            long whole = over / under;
            long otherWhole = otherOver / otherUnder;
            if (whole != otherWhole) {
                return whole < otherWhole ? -1 : 1;
            }
            long rest = over - whole * under;
            long otherRest = otherOver - otherWhole * otherUnder;
            if (rest == 0 && otherRest == 0) {
                return 0;
            }
            if (rest == 0 || otherRest == 0) {
                return rest == 0 ? -1 : 1;
            }
            over = otherUnder;
            otherOver = under;
            under = otherRest;
            otherUnder = rest;
        }
        return 0;
    }

    /** Bytes, 0 .. 255 each; the cells grow by doubling, so a new object needs little room. */
    private static final class ByteRow {
        int[] cells = new int[64];
        int size;

        void put(int b) {
            if (size < MOST_BYTES) {
                makeRoom(size + 1);
                cells[size] = b & 255;
                size++;
            }
        }

        void putPair(int v) {
            put(v >> 8);
            put(v);
        }

        void become(ByteRow other) {
            makeRoom(other.size);
            System.arraycopy(other.cells, 0, cells, 0, other.size);
            size = other.size;
        }

        private void makeRoom(int room) {
            int length = cells.length;
            for (int i = 0; i < 16 && length < room; i++) {
                length *= 2;
            }
            if (length > cells.length) {
                cells = Arrays.copyOf(cells, length);
            }
        }
    }

    /** Where a run begins. */
    private static final class Start {
        int x;
        int y;
        int angle;
        int sector;

        void put(int newX, int newY, int newAngle, int newSector) {
            x = newX;
            y = newY;
            angle = newAngle;
            sector = newSector;
        }

        void become(Start other) {
            put(other.x, other.y, other.angle, other.sector);
        }
    }

    /**
     * Reads bytes in their order and keeps the first fault. Behind a fault every byte reads as 0, no place is
     * gone on to, and later faults are not kept: so a form can be read straight on, and only loops look at well().
     */
    private static final class Reader {
        final ByteRow row;
        int next;
        int fault;
        int place = NONE;

        Reader(ByteRow bytes) {
            row = bytes;
        }

        void begin() {
            next = 0;
            fault = 0;
            place = NONE;
        }

        boolean well() {
            return fault == 0;
        }

        void blame(int newFault, int newPlace) {
            if (fault == 0) {
                fault = newFault;
                place = newPlace;
            }
        }

        int one() {
            if (fault != 0) {
                return 0;
            }
            if (next >= row.size) {
                blame(1, row.size);
                return 0;
            }
            int b = row.cells[next];
            next++;
            return b;
        }

        int pair() {
            int high = one();
            int low = one();
            return (short) (256 * high + low);
        }

        void expect(int due, int faultElse) {
            int at = next;
            if (one() != due) {
                blame(faultElse, at);
            }
        }

        // The least one stands for what can not be there, so that it can be used as an index all the same.
        int within(int least, int most) {
            int at = next;
            return bounded(one(), least, most, at);
        }

        int pairWithin(int least, int most) {
            int at = next;
            return bounded(pair(), least, most, at);
        }

        private int bounded(int v, int least, int most, int at) {
            if (v < least || v > most) {
                blame(3, at);
            }
            return fault == 0 ? v : least;
        }

        int numberOrNone(int count) {
            int at = next;
            int b = one();
            if (b == NO_BYTE) {
                return NONE;
            }
            return bounded(b, 0, count - 1, at);
        }

        void readStart(Start start, int sectorCount) {
            start.x = pair();
            start.y = pair();
            start.angle = within(0, ANGLES - 1);
            start.sector = within(0, sectorCount - 1);
        }

        void expectEnd(int faultElse) {
            if (next < row.size) {
                blame(faultElse, next);
            }
        }
    }

    /** A sector, as the map says and as it is now, and its mover. */
    private static final class Sector {
        int mapFloor;
        int mapCeiling;
        int floorTexture;
        int ceilingTexture;
        int light;
        int kind;
        int tag;
        int floor;
        int ceiling;
        int mover = NONE;
        int heading;
        int ticksLeft;
        int goal;
        int home;

        void settle() {
            floor = mapFloor;
            ceiling = mapCeiling;
            endMover();
        }

        void startMover(int newMover, int newHeading, int newGoal) {
            mover = newMover;
            heading = newHeading;
            goal = newGoal;
            home = floor;
            ticksLeft = 0;
        }

        void tick(boolean walkerIn) {
            if (mover == NONE) {
                return;
            }
            if (heading == 0) {
                waitOn();
            } else if (mover == DOOR && heading > 0) {
                openDoor();
            } else if (mover == DOOR) {
                closeDoor(walkerIn);
            } else if (heading < 0) {
                sinkLift();
            } else if (mover == LIFT) {
                raiseFloor(4, home, walkerIn);
            } else {
                raiseFloor(2, goal, walkerIn);
            }
        }

        private void waitOn() {
            ticksLeft--;
            if (ticksLeft <= 0) {
                heading = mover == DOOR ? -1 : 1;
            }
        }

        private void waitFor(int ticks) {
            heading = 0;
            ticksLeft = ticks;
        }

        private void endMover() {
            mover = NONE;
            heading = 0;
            ticksLeft = 0;
        }

        private void openDoor() {
            ceiling = Math.min(ceiling + 8, goal);
            if (ceiling == goal) {
                waitFor(20);
            }
        }

        private void closeDoor(boolean walkerIn) {
            int lower = Math.max(ceiling - 8, floor);
            if (walkerIn && lower - floor < ROOM_TO_STAND) {
                heading = 1;
                return;
            }
            ceiling = lower;
            if (ceiling == floor) {
                endMover();
            }
        }

        private void sinkLift() {
            floor = Math.max(floor - 4, goal);
            if (floor == goal) {
                waitFor(30);
            }
        }

        private void raiseFloor(int way, int top, boolean walkerIn) {
            int higher = Math.min(floor + way, top);
            if (walkerIn && ceiling - higher < ROOM_TO_STAND) {
                return;
            }
            floor = higher;
            if (floor == top) {
                endMover();
            }
        }
    }

    /** A wall; its vertices are kept as their places, which are as good as their numbers: no two are alike. */
    private static final class Wall {
        int ax;
        int ay;
        int bx;
        int by;
        int front;
        int back;
        int across;
        int down;
        int pegs;
        int kind;
        int tag;
        final int[] textures = new int[6];

        // Above 0 on the left of the line, below 0 on the right.
        long sideOf(int x, int y) {
            return (long) (bx - ax) * (y - ay) - (long) (by - ay) * (x - ax);
        }

        int sectorOn(boolean frontSide) {
            return frontSide ? front : back;
        }

        int length() {
            return Math.max(Math.abs(bx - ax), Math.abs(by - ay));
        }

        boolean reachesBox(int leastX, int leastY, int mostX, int mostY) {
            return Math.min(ax, bx) <= mostX && Math.max(ax, bx) >= leastX
                && Math.min(ay, by) <= mostY && Math.max(ay, by) >= leastY;
        }

        boolean overlaps(Wall other) {
            if (ax == other.ax && ay == other.ay) {
                return goesAlong(ax, ay, bx, by, other.bx, other.by);
            }
            if (ax == other.bx && ay == other.by) {
                return goesAlong(ax, ay, bx, by, other.ax, other.ay);
            }
            if (bx == other.ax && by == other.ay) {
                return goesAlong(bx, by, ax, ay, other.bx, other.by);
            }
            if (bx == other.bx && by == other.by) {
                return goesAlong(bx, by, ax, ay, other.ax, other.ay);
            }
            return touches(other);
        }

        // Two walls from the same vertex have more than that in common if they go the same way.
        private static boolean goesAlong(long x, long y, long px, long py, long qx, long qy) {
            return cross(px - x, py - y, qx - x, qy - y) == 0 && (px - x) * (qx - x) + (py - y) * (qy - y) > 0;
        }

        private boolean touches(Wall other) {
            return reachesBox(Math.min(other.ax, other.bx), Math.min(other.ay, other.by),
                    Math.max(other.ax, other.bx), Math.max(other.ay, other.by))
                && lineParts(other) && other.lineParts(this);
        }

        private boolean lineParts(Wall other) {
            return Long.signum(sideOf(other.ax, other.ay)) * Long.signum(sideOf(other.bx, other.by)) <= 0;
        }
    }

    /** A map: what was read, and its sectors as they are now. */
    private static final class Plan {
        private static final int WALL_BYTES = 14;

        final ByteRow bytes = new ByteRow();
        final Start start = new Start();
        final int[] xs = new int[MOST_VERTICES];
        final int[] ys = new int[MOST_VERTICES];
        final int[] wides = new int[MOST_TEXTURES];
        final int[] highs = new int[MOST_TEXTURES];
        final int[] texelPlaces = new int[MOST_TEXTURES];
        final Sector[] sectors = new Sector[MOST_SECTORS];
        final Wall[] walls = new Wall[MOST_WALLS];
        int vertexCount;
        int textureCount;
        int sectorCount;
        int wallCount;

        Plan() {
            for (int i = 0; i < MOST_SECTORS; i++) {
                sectors[i] = new Sector();
            }
            for (int i = 0; i < MOST_WALLS; i++) {
                walls[i] = new Wall();
            }
        }

        void read(Reader in) {
            in.expect(77, 2);
            in.expect(72, 2);
            in.expect(1, 2);
            vertexCount = in.within(0, MOST_VERTICES);
            textureCount = in.within(0, MOST_TEXTURES);
            sectorCount = in.within(1, MOST_SECTORS);
            wallCount = in.within(0, MOST_WALLS);
            for (int i = 0; i < vertexCount && in.well(); i++) {
                readVertex(in, i);
            }
            for (int i = 0; i < textureCount && in.well(); i++) {
                readTexture(in, i);
            }
            for (int i = 0; i < sectorCount && in.well(); i++) {
                readSector(in, sectors[i]);
            }
            int wallsPlace = in.next;
            for (int i = 0; i < wallCount && in.well(); i++) {
                readWall(in, walls[i]);
            }
            in.readStart(start, sectorCount);
            readCheck(in);
            in.expectEnd(5);
            findOverlap(in, wallsPlace);
        }

        private void readVertex(Reader in, int i) {
            int x = in.pair();
            int at = in.next;
            int y = in.pair();
            for (int j = 0; j < i; j++) {
                if (xs[j] == x && ys[j] == y) {
                    in.blame(3, at);
                }
            }
            xs[i] = x;
            ys[i] = y;
        }

        private void readTexture(Reader in, int i) {
            wides[i] = 1 << in.within(0, 4);
            highs[i] = 1 << in.within(0, 4);
            texelPlaces[i] = in.next;
            for (int k = 0; k < wides[i] * highs[i] && in.well(); k++) {
                in.within(0, 15);
            }
        }

        private void readSector(Reader in, Sector sector) {
            sector.mapFloor = in.pairWithin(-1024, 1024);
            int at = in.next;
            sector.mapCeiling = in.pairWithin(-1024, 1024);
            if (sector.mapCeiling <= sector.mapFloor) {
                in.blame(3, at);
            }
            sector.floorTexture = in.within(0, textureCount - 1);
            sector.ceilingTexture = in.numberOrNone(textureCount);
            sector.light = in.within(0, 15);
            sector.kind = in.within(0, 3);
            sector.tag = in.one();
        }

        private void readWall(Reader in, Wall wall) {
            int a = in.within(0, vertexCount - 1);
            int at = in.next;
            int b = in.within(0, vertexCount - 1);
            if (a == b) {
                in.blame(3, at);
            }
            wall.ax = xs[a];
            wall.ay = ys[a];
            wall.bx = xs[b];
            wall.by = ys[b];
            wall.front = in.within(0, sectorCount - 1);
            wall.back = in.numberOrNone(sectorCount);
            for (int i = 0; i < 6; i++) {
                boolean there = i < 3 || wall.back != NONE;
                wall.textures[i] = in.numberOrNone(there ? textureCount : 0);
            }
            int offsets = in.one();
            wall.across = offsets >> 4;
            wall.down = offsets & 15;
            wall.pegs = in.within(0, 3);
            wall.kind = in.within(0, 5);
            wall.tag = in.one();
        }

        private void readCheck(Reader in) {
            int first = 0;
            int second = 0;
            for (int i = 0; i < in.next; i++) {
                first = (first + in.row.cells[i]) % 251;
                second = (second + first) % 251;
            }
            in.expect(first, 4);
            in.expect(second, 4);
        }

        private void findOverlap(Reader in, int wallsPlace) {
            for (int w = 1; w < wallCount && in.well(); w++) {
                for (int v = 0; v < w && in.well(); v++) {
                    if (walls[w].overlaps(walls[v])) {
                        in.blame(6, wallsPlace + WALL_BYTES * w);
                    }
                }
            }
        }

        int texel(int texture, long column, long row) {
            if (texture == NONE) {
                return 0;
            }
            int u = (int) (column & (wides[texture] - 1));
            int v = (int) (row & (highs[texture] - 1));
            return bytes.cells[texelPlaces[texture] + v * wides[texture] + u];
        }

        int heightOf(int texture) {
            return texture == NONE ? 0 : highs[texture];
        }

        int moverCount() {
            int count = 0;
            for (int i = 0; i < sectorCount; i++) {
                if (sectors[i].mover != NONE) {
                    count++;
                }
            }
            return count;
        }

        int lightIn(Sector sector, int ticks) {
            switch (sector.kind) {
                case 1: return ticks % 16 < 4 ? sector.light : sector.light / 2;
                case 2: return ticks / 32 % 2 == 0 ? sector.light : 0;
                case 3: return Math.max(sector.light - moverCount(), 0);
                default: return sector.light;
            }
        }

        void settle() {
            for (int i = 0; i < sectorCount; i++) {
                sectors[i].settle();
            }
        }

        void tick(int walkerSector) {
            for (int i = 0; i < sectorCount; i++) {
                sectors[i].tick(i == walkerSector);
            }
        }

        void startAll(int mover, int tag) {
            for (int i = 0; i < sectorCount && mover != NONE; i++) {
                if (sectors[i].tag == tag) {
                    startOne(mover, i);
                }
            }
        }

        void startOne(int mover, int number) {
            Sector sector = sectors[number];
            if (sector.mover != NONE) {
                if (mover == DOOR && sector.mover == DOOR) {
                    sector.heading = 1;
                }
            } else if (mover == DOOR) {
                sector.startMover(DOOR, 1, Math.max(lowCeiling(number) - 4, sector.ceiling));
            } else if (mover == LIFT) {
                sector.startMover(LIFT, -1, lowFloor(number));
            } else if (mover == RISER) {
                sector.startMover(RISER, 1, Math.min(highFloor(number), sector.ceiling));
            }
        }

        // The sector beyond a wall, seen from another one; NONE if they are no neighbours by it.
        private int neighbourBy(Wall wall, int number) {
            if (wall.back == NONE || wall.front == wall.back) {
                return NONE;
            }
            if (wall.front == number) {
                return wall.back;
            }
            return wall.back == number ? wall.front : NONE;
        }

        private int lowCeiling(int number) {
            int lowest = NO_ANSWER;
            for (int i = 0; i < wallCount; i++) {
                int other = neighbourBy(walls[i], number);
                if (other != NONE) {
                    lowest = Math.min(lowest, sectors[other].ceiling);
                }
            }
            return lowest == NO_ANSWER ? sectors[number].ceiling : lowest;
        }

        private int lowFloor(int number) {
            int lowest = sectors[number].floor;
            for (int i = 0; i < wallCount; i++) {
                int other = neighbourBy(walls[i], number);
                if (other != NONE) {
                    lowest = Math.min(lowest, sectors[other].floor);
                }
            }
            return lowest;
        }

        private int highFloor(int number) {
            int highest = sectors[number].floor;
            for (int i = 0; i < wallCount; i++) {
                int other = neighbourBy(walls[i], number);
                if (other != NONE) {
                    highest = Math.max(highest, sectors[other].floor);
                }
            }
            return highest;
        }
    }

    /** A run: where it begins, and its inputs, each as one number, so that equal inputs are equal numbers. */
    private static final class Run {
        private static final int LONGEST_GROUP = 63;

        final Start start = new Start();
        int[] inputs = new int[64];
        int count;

        static boolean isInput(int ahead, int aside, int turn) {
            return ahead >= -64 && ahead <= 64 && aside >= -64 && aside <= 64 && turn >= -16 && turn <= 16;
        }

        static int inputOf(int ahead, int aside, int turn, boolean uses) {
            return ((uses ? 1 : 0) << 24) + ((ahead + 64) << 16) + ((aside + 64) << 8) + turn + 16;
        }

        static int aheadOf(int input) {
            return (input >> 16 & 255) - 64;
        }

        static int asideOf(int input) {
            return (input >> 8 & 255) - 64;
        }

        static int turnOf(int input) {
            return (input & 255) - 16;
        }

        static boolean usesOf(int input) {
            return input >> 24 != 0;
        }

        void add(int input) {
            if (count >= MOST_INPUTS) {
                return;
            }
            if (count == inputs.length) {
                inputs = Arrays.copyOf(inputs, 2 * count);
            }
            inputs[count] = input;
            count++;
        }

        void read(Reader in) {
            in.expect(77, 2);
            in.expect(68, 2);
            in.expect(1, 2);
            in.readStart(start, 256);
            count = 0;
            int times = LONGEST_GROUP;
            for (int i = 0; i <= MOST_INPUTS && times > 0; i++) {
                times = readGroup(in, times);
            }
            readCheck(in);
            in.expectEnd(7);
        }

        // How often the group's input comes, 0 at the end or behind a fault.
        private int readGroup(Reader in, int timesAhead) {
            int at = in.next;
            int head = in.one();
            if (head == 0) {
                return 0;
            }
            int times = head & 63;
            if (times == 0) {
                in.blame(3, at);
            }
            if (count + times > MOST_INPUTS) {
                in.blame(5, at);
            }
            int input = readInput(in, (head & 64) != 0, (head & 128) != 0);
            if (count > 0 && inputs[count - 1] == input && timesAhead < LONGEST_GROUP) {
                in.blame(4, at);
            }
            for (int i = 0; i < times && in.well(); i++) {
                add(input);
            }
            return in.well() ? times : 0;
        }

        private int readInput(Reader in, boolean uses, boolean whole) {
            int ahead = in.within(0, 128) - 64;
            int aside = 0;
            int turn = 0;
            if (whole) {
                aside = in.within(0, 128) - 64;
                int at = in.next;
                turn = in.within(0, 32) - 16;
                if (aside == 0 && turn == 0) {
                    in.blame(3, at);
                }
            }
            return inputOf(ahead, aside, turn, uses);
        }

        private void readCheck(Reader in) {
            if (!in.well()) {
                return;
            }
            long check = checkOf(in.row, in.next);
            for (int shift = 24; shift >= 0; shift -= 8) {
                in.expect((int) (check >> shift) & 255, 6);
            }
        }

        private static long checkOf(ByteRow row, int size) {
            long a = 1;
            long b = 0;
            for (int i = 0; i < size; i++) {
                a = (a + row.cells[i]) % 65521;
                b = (b + a) % 65521;
            }
            return 65536 * b + a;
        }

        void write(ByteRow out) {
            out.size = 0;
            out.put(77);
            out.put(68);
            out.put(1);
            out.putPair(start.x);
            out.putPair(start.y);
            out.put(start.angle);
            out.put(start.sector);
            int times = 0;
            for (int i = 0; i < count; i++) {
                times++;
                if (times == LONGEST_GROUP || i + 1 == count || inputs[i + 1] != inputs[i]) {
                    writeGroup(out, inputs[i], times);
                    times = 0;
                }
            }
            out.put(0);
            long check = checkOf(out, out.size);
            for (int shift = 24; shift >= 0; shift -= 8) {
                out.put((int) (check >> shift) & 255);
            }
        }

        private static void writeGroup(ByteRow out, int input, int times) {
            boolean whole = asideOf(input) != 0 || turnOf(input) != 0;
            out.put(times + (usesOf(input) ? 64 : 0) + (whole ? 128 : 0));
            out.put(aheadOf(input) + 64);
            if (whole) {
                out.put(asideOf(input) + 64);
                out.put(turnOf(input) + 16);
            }
        }
    }

    /**
     * The pieces of walls that a tree is grown from, in chains by their numbers. A wall's pieces part at places where
     * lines of other walls meet it, so there are never more than walls times walls.
     */
    private static final class Pieces {
        static final int MOST = MOST_WALLS * MOST_WALLS;
        static final int ON = 0;
        static final int LEFT = 1;
        static final int CUT = 2;

        int[] walls = new int[MOST_WALLS];
        int[] nexts = new int[MOST_WALLS];
        long[] fromOvers = new long[MOST_WALLS];
        long[] fromUnders = new long[MOST_WALLS];
        long[] toOvers = new long[MOST_WALLS];
        long[] toUnders = new long[MOST_WALLS];
        int count;

        // All walls, whole; the answer is the first one's number.
        int chainWhole(int wallCount) {
            count = 0;
            for (int i = 0; i < wallCount; i++) {
                int piece = add(i);
                nexts[piece] = i + 1 < wallCount ? piece + 1 : NONE;
            }
            return wallCount > 0 ? 0 : NONE;
        }

        private int add(int wall) {
            if (count == walls.length) {
                makeRoom(2 * count);
            }
            int piece = count;
            walls[piece] = wall;
            nexts[piece] = NONE;
            fromOvers[piece] = 0;
            fromUnders[piece] = 1;
            toOvers[piece] = 1;
            toUnders[piece] = 1;
            count++;
            return piece;
        }

        private void makeRoom(int room) {
            walls = Arrays.copyOf(walls, room);
            nexts = Arrays.copyOf(nexts, room);
            fromOvers = Arrays.copyOf(fromOvers, room);
            fromUnders = Arrays.copyOf(fromUnders, room);
            toOvers = Arrays.copyOf(toOvers, room);
            toUnders = Arrays.copyOf(toUnders, room);
        }

        int lieOf(Plan plan, int piece, Wall line) {
            Wall wall = plan.walls[walls[piece]];
            long a = line.sideOf(wall.ax, wall.ay);
            long b = line.sideOf(wall.bx, wall.by);
            int from = sideAt(a, b, fromOvers[piece], fromUnders[piece]);
            int to = sideAt(a, b, toOvers[piece], toUnders[piece]);
            return from * to < 0 ? CUT : Integer.signum(from + to);
        }

        // The side of the place over / under of the way from A to B, whose own sides are a and b.
        private static int sideAt(long a, long b, long over, long under) {
            if (over == 0) {
                return Long.signum(a);
            }
            if (over == under) {
                return Long.signum(b);
            }
            if (Long.signum(a) * Long.signum(b) >= 0) {
                return Long.signum(a + b);
            }
            int order = compareQuotients(over, under, Math.abs(a), Math.abs(a - b));
            return order == 0 ? 0 : Long.signum(order < 0 ? a : b);
        }

        // Leaves the part up to the line; the answer is the piece behind it.
        int cut(Plan plan, int piece, Wall line) {
            Wall wall = plan.walls[walls[piece]];
            long a = line.sideOf(wall.ax, wall.ay);
            long b = line.sideOf(wall.bx, wall.by);
            int rest = add(walls[piece]);
            fromOvers[rest] = Math.abs(a);
            fromUnders[rest] = Math.abs(a - b);
            toOvers[rest] = toOvers[piece];
            toUnders[rest] = toUnders[piece];
            toOvers[piece] = fromOvers[rest];
            toUnders[piece] = fromUnders[rest];
            return rest;
        }
    }

    /** The tree of a map's walls; a left or right one below 0 is a leaf: -1 - its number. */
    private static final class Tree {
        private static final int CANDIDATES = 16;
        // No line comes twice on a way down, so no more lists than lines, and one, stand open at once.
        private static final int MOST_OPEN = MOST_WALLS + 2;

        final Pieces pieces = new Pieces();
        int[] lines = new int[MOST_WALLS];
        int[] lefts = new int[MOST_WALLS];
        int[] rights = new int[MOST_WALLS];
        int[] owns = new int[MOST_WALLS];
        int[] sizes = new int[MOST_WALLS];
        int[] depths = new int[MOST_WALLS];
        final int[] openChains = new int[MOST_OPEN];
        final int[] openParents = new int[MOST_OPEN];
        final boolean[] openLefts = new boolean[MOST_OPEN];
        int openCount;
        int nodeCount;
        int leafCount;
        int ownCount;
        int leftFirst;
        int leftLast;
        int rightFirst;
        int rightLast;

        void grow(Plan plan) {
            nodeCount = 0;
            leafCount = 0;
            ownCount = 0;
            openCount = 0;
            open(pieces.chainWhole(plan.wallCount), NONE, true);
            for (int i = 0; i <= 2 * Pieces.MOST && openCount > 0; i++) {
                openCount--;
                int chain = openChains[openCount];
                int parent = openParents[openCount];
                boolean left = openLefts[openCount];
                if (chain == NONE) {
                    hang(-1 - leafCount, parent, left);
                    leafCount++;
                } else {
                    int node = addNode(bestLine(plan, chain), parent);
                    hang(node, parent, left);
                    split(plan, chain, node);
                    // The left one lies on top, as all of it is numbered ahead of the right one.
                    open(rightFirst, node, false);
                    open(leftFirst, node, true);
                }
            }
            countSizes();
        }

        // Those below a node have higher numbers, so they are ready when it is come to.
        private void countSizes() {
            for (int k = nodeCount - 1; k >= 0; k--) {
                sizes[k] = 1 + sizeOf(lefts[k]) + sizeOf(rights[k]);
            }
        }

        private int sizeOf(int tree) {
            return tree < 0 ? 0 : sizes[tree];
        }

        private void open(int chain, int parent, boolean left) {
            if (openCount < MOST_OPEN) {
                openChains[openCount] = chain;
                openParents[openCount] = parent;
                openLefts[openCount] = left;
                openCount++;
            }
        }

        private void hang(int tree, int parent, boolean left) {
            if (parent == NONE) {
                return;
            }
            if (left) {
                lefts[parent] = tree;
            } else {
                rights[parent] = tree;
            }
        }

        private int addNode(int line, int parent) {
            if (nodeCount == lines.length) {
                makeRoom(2 * nodeCount);
            }
            int node = nodeCount;
            lines[node] = line;
            owns[node] = 0;
            depths[node] = parent == NONE ? 0 : depths[parent] + 1;
            nodeCount++;
            return node;
        }

        private void makeRoom(int room) {
            lines = Arrays.copyOf(lines, room);
            lefts = Arrays.copyOf(lefts, room);
            rights = Arrays.copyOf(rights, room);
            owns = Arrays.copyOf(owns, room);
            sizes = Arrays.copyOf(sizes, room);
            depths = Arrays.copyOf(depths, room);
        }

        private int bestLine(Plan plan, int chain) {
            int best = pieces.walls[chain];
            int least = 5 * Pieces.MOST;
            int piece = chain;
            for (int i = 0; i < CANDIDATES && piece != NONE; i++) {
                int cost = costOf(plan, chain, plan.walls[pieces.walls[piece]]);
                if (cost < least) {
                    least = cost;
                    best = pieces.walls[piece];
                }
                piece = pieces.nexts[piece];
            }
            return best;
        }

        private int costOf(Plan plan, int chain, Wall line) {
            int cuts = 0;
            int balance = 0;
            int piece = chain;
            for (int i = 0; i < Pieces.MOST && piece != NONE; i++) {
                int lie = pieces.lieOf(plan, piece, line);
                if (lie == Pieces.CUT) {
                    cuts++;
                } else {
                    balance += lie;
                }
                piece = pieces.nexts[piece];
            }
            return 4 * cuts + Math.abs(balance);
        }

        private void split(Plan plan, int chain, int node) {
            leftFirst = NONE;
            rightFirst = NONE;
            Wall line = plan.walls[lines[node]];
            int piece = chain;
            for (int i = 0; i < Pieces.MOST && piece != NONE; i++) {
                int next = pieces.nexts[piece];
                int lie = pieces.lieOf(plan, piece, line);
                if (lie == Pieces.ON) {
                    owns[node]++;
                    ownCount++;
                } else if (lie == Pieces.CUT) {
                    int rest = pieces.cut(plan, piece, line);
                    append(piece, pieces.lieOf(plan, piece, line));
                    append(rest, pieces.lieOf(plan, rest, line));
                } else {
                    append(piece, lie);
                }
                piece = next;
            }
        }

        private void append(int piece, int side) {
            pieces.nexts[piece] = NONE;
            if (side == Pieces.LEFT) {
                if (leftFirst == NONE) {
                    leftFirst = piece;
                } else {
                    pieces.nexts[leftLast] = piece;
                }
                leftLast = piece;
            } else {
                if (rightFirst == NONE) {
                    rightFirst = piece;
                } else {
                    pieces.nexts[rightLast] = piece;
                }
                rightLast = piece;
            }
        }

        int leafAround(Plan plan, int x, int y) {
            int tree = nodeCount > 0 ? 0 : -1;
            for (int i = 0; i < nodeCount && tree >= 0; i++) {
                boolean left = plan.walls[lines[tree]].sideOf(x, y) > 0;
                tree = left ? lefts[tree] : rights[tree];
            }
            return -1 - tree;
        }
    }

    /** The walls that a ray meets, in their order. */
    private static final class Rays {
        final int[] walls = new int[MOST_WALLS];
        final boolean[] fronts = new boolean[MOST_WALLS];
        // R is over / under, both above 0; a and b are the sides of the wall's ends.
        final long[] overs = new long[MOST_WALLS];
        final long[] unders = new long[MOST_WALLS];
        final long[] as = new long[MOST_WALLS];
        final long[] bs = new long[MOST_WALLS];
        int count;
        int ex;
        int ey;
        int dx;
        int dy;

        void aim(int fromX, int fromY, int alongX, int alongY) {
            ex = fromX;
            ey = fromY;
            dx = alongX;
            dy = alongY;
        }

        void meetAll(Plan plan) {
            count = 0;
            for (int w = 0; w < plan.wallCount; w++) {
                meet(plan.walls[w], w, 0);
            }
        }

        // Those alone whose R is up to 1 / share. Most walls are too far off, which their places tell at once.
        void meetClose(Plan plan, int share) {
            count = 0;
            int reach = Math.max(Math.abs(dx), Math.abs(dy)) / share + 1;
            for (int w = 0; w < plan.wallCount; w++) {
                Wall wall = plan.walls[w];
                if (wall.reachesBox(ex - reach, ey - reach, ex + reach, ey + reach)) {
                    meet(wall, w, share);
                }
            }
        }

        private void meet(Wall wall, int number, int share) {
            long a = cross(dx, dy, wall.ax - ex, wall.ay - ey);
            long b = cross(dx, dy, wall.bx - ex, wall.by - ey);
            if ((a < 0) == (b < 0)) {
                return;
            }
            long p = cross(wall.ax - ex, wall.ay - ey, wall.bx - wall.ax, wall.by - wall.ay);
            long over = b > a ? p : -p;
            long under = Math.abs(b - a);
            if (over <= 0 || over * share > under) {
                return;
            }
            int at = makeGap(over, under);
            walls[at] = number;
            fronts[at] = p < 0;
            overs[at] = over;
            unders[at] = under;
            as[at] = a;
            bs[at] = b;
        }

        // Behind those of the same R: walls come by their numbers.
        private int makeGap(long over, long under) {
            int at = count;
            count++;
            for (int i = count; i > 0 && at > 0; i--) {
                if (compareQuotients(overs[at - 1], unders[at - 1], over, under) <= 0) {
                    return at;
                }
                walls[at] = walls[at - 1];
                fronts[at] = fronts[at - 1];
                overs[at] = overs[at - 1];
                unders[at] = unders[at - 1];
                as[at] = as[at - 1];
                bs[at] = bs[at - 1];
                at--;
            }
            return at;
        }
    }

    /** What the walker sees in one column. */
    private static final class View {
        private static final int CEILING = 1;
        private static final int FLOOR = 2;
        private static final int SOLID = 3;
        private static final int UPPER = 4;
        private static final int LOWER = 5;
        private static final int SKY = 6;

        final Rays rays;
        final int[] surfaces = new int[ROWS];
        final int[] pixels = new int[ROWS];
        final int[] met = new int[MOST_WALLS];
        int metCount;
        int eye;
        int top;
        int bottom;

        View(Rays newRays) {
            rays = newRays;
        }

        void look(Walk walk, int column) {
            int c = cosine(walk.angle);
            int s = sine(walk.angle);
            int aside = 2 * column - 63;
            rays.aim(walk.x, walk.y, 64 * c + aside * s, 64 * s - aside * c);
            rays.meetAll(walk.plan);
            Arrays.fill(surfaces, 0);
            Arrays.fill(pixels, 0);
            eye = walk.eye();
            top = 0;
            bottom = ROWS;
            metCount = 0;
            for (int i = 0; i < rays.count && top < bottom; i++) {
                int near = walk.plan.walls[rays.walls[i]].sectorOn(rays.fronts[i]);
                if (near != NONE) {
                    met[metCount] = rays.walls[i];
                    metCount++;
                    paintUpTo(walk.plan, i, near, walk.plan.lightIn(walk.plan.sectors[near], walk.ticks));
                }
            }
        }

        private void paintUpTo(Plan plan, int i, int nearNumber, int light) {
            Sector near = plan.sectors[nearNumber];
            int c = between(rowOf(near.ceiling, i), top, bottom);
            int f = between(rowOf(near.floor, i), c, bottom);
            paintCeiling(plan, c, nearNumber, light);
            paintPlane(plan, f, bottom, near.floor, near.floorTexture, light);
            markRows(f, bottom, 256 * FLOOR + nearNumber);
            int farNumber = plan.walls[rays.walls[i]].sectorOn(!rays.fronts[i]);
            if (farNumber == NONE) {
                paintWall(plan, c, f, SOLID, i, light);
                top = bottom;
                return;
            }
            Sector far = plan.sectors[farNumber];
            int u = far.ceiling < near.ceiling ? between(rowOf(far.ceiling, i), c, f) : c;
            paintWall(plan, c, u, UPPER, i, light);
            int l = far.floor > near.floor ? between(rowOf(far.floor, i), u, f) : f;
            paintWall(plan, l, f, LOWER, i, light);
            top = u;
            bottom = l;
        }

        private long rowOf(int z, int i) {
            return 24 - Math.floorDiv((z - eye) * rays.unders[i], 512 * rays.overs[i]);
        }

        private static int between(long v, int least, int most) {
            return (int) Math.min(Math.max(v, least), most);
        }

        private void markRows(int from, int to, int surface) {
            for (int y = from; y < to; y++) {
                surfaces[y] = surface;
            }
        }

        private void paintCeiling(Plan plan, int to, int number, int light) {
            Sector sector = plan.sectors[number];
            if (sector.ceilingTexture != NONE) {
                paintPlane(plan, top, to, sector.ceiling, sector.ceilingTexture, light);
                markRows(top, to, 256 * CEILING + number);
                return;
            }
            for (int y = top; y < to; y++) {
                pixels[y] = 16 * (15 - y / 4) + 15;
            }
            markRows(top, to, 256 * SKY + number);
        }

        private void paintPlane(Plan plan, int from, int to, int z, int texture, int light) {
            for (int y = from; y < to; y++) {
                long over = z - eye;
                long under = (47 - 2 * y) * 256;
                if (over * under <= 0) {
                    over = 0;
                }
                long x = rays.ex + Math.floorDiv(rays.dx * over, under);
                long row = rays.ey + Math.floorDiv(rays.dy * over, under);
                long shade = Math.max(light - Math.floorDiv(64 * over, under), 0);
                pixels[y] = 16 * plan.texel(texture, x, row) + (int) shade;
            }
        }

        private void paintWall(Plan plan, int from, int to, int kind, int i, int light) {
            if (from >= to) {
                return;
            }
            Wall wall = plan.walls[rays.walls[i]];
            int part = kind == UPPER ? 0 : kind == SOLID ? 1 : 2;
            int texture = wall.textures[rays.fronts[i] ? part : part + 3];
            long u = acrossAt(wall, i) + wall.across;
            long v = anchorOf(plan, wall, kind, i, plan.heightOf(texture)) - 1 + wall.down;
            long shade = Math.max(light - 64 * rays.overs[i] / rays.unders[i], 0);
            for (int y = from; y < to; y++) {
                long z = eye + Math.floorDiv((47 - 2 * y) * 256 * rays.overs[i], rays.unders[i]);
                pixels[y] = 16 * plan.texel(texture, u, v - z) + (int) shade;
            }
            markRows(from, to, 256 * kind + rays.walls[i]);
        }

        private long acrossAt(Wall wall, int i) {
            long side = rays.fronts[i] ? rays.as[i] : rays.bs[i];
            return wall.length() * Math.abs(side) / rays.unders[i];
        }

        private int anchorOf(Plan plan, Wall wall, int kind, int i, int height) {
            Sector near = plan.sectors[wall.sectorOn(rays.fronts[i])];
            boolean lowerPegged = (wall.pegs & 2) != 0;
            if (kind == SOLID) {
                return lowerPegged ? near.floor + height : near.ceiling;
            }
            Sector far = plan.sectors[wall.sectorOn(!rays.fronts[i])];
            if (kind == UPPER) {
                return (wall.pegs & 1) != 0 ? near.ceiling : far.ceiling + height;
            }
            return lowerPegged ? near.ceiling : far.floor;
        }
    }

    /** The walker, and the time that goes on with each step. */
    private static final class Walk {
        static final int STAYED = 0;
        static final int WENT = 1;
        static final int STOPPED = 2;
        private static final int FARTHEST = 40000;
        private static final int HIGHEST_STEP = 24;
        private static final int EYE_ABOVE_FLOOR = 41;

        final Rays rays;
        Plan plan;
        int x;
        int y;
        int angle;
        int sector;
        int ticks;

        Walk(Rays newRays, Plan newPlan) {
            rays = newRays;
            plan = newPlan;
        }

        void begin(Plan newPlan, Start start) {
            plan = newPlan;
            plan.settle();
            x = start.x;
            y = start.y;
            angle = start.angle;
            sector = start.sector;
            ticks = 0;
        }

        int eye() {
            return plan.sectors[sector].floor + EYE_ABOVE_FLOOR;
        }

        int step(int input) {
            angle = Math.floorMod(angle + Run.turnOf(input), ANGLES);
            int c = cosine(angle);
            int s = sine(angle);
            int ahead = Run.aheadOf(input);
            int aside = Run.asideOf(input);
            int mx = Math.floorDiv(c * ahead + s * aside, 256);
            int my = Math.floorDiv(s * ahead - c * aside, 256);
            int answer = STAYED;
            if (mx != 0 || my != 0) {
                answer = go(mx, my) ? WENT : STOPPED;
            }
            if (Run.usesOf(input)) {
                use(c, s);
            }
            ticks++;
            plan.tick(sector);
            return answer;
        }

        private boolean go(int mx, int my) {
            rays.aim(x, y, mx, my);
            rays.meetClose(plan, 1);
            if (Math.abs(x + mx) > FARTHEST || Math.abs(y + my) > FARTHEST) {
                return false;
            }
            for (int i = 0; i < rays.count; i++) {
                if (stops(plan.walls[rays.walls[i]], rays.fronts[i])) {
                    return false;
                }
            }
            x += mx;
            y += my;
            for (int i = 0; i < rays.count; i++) {
                Wall wall = plan.walls[rays.walls[i]];
                sector = wall.sectorOn(!rays.fronts[i]);
                plan.startAll(moverByCrossing(wall.kind), wall.tag);
            }
            return true;
        }

        private boolean stops(Wall wall, boolean fromFront) {
            if (wall.back == NONE) {
                return true;
            }
            Sector near = plan.sectors[wall.sectorOn(fromFront)];
            Sector far = plan.sectors[wall.sectorOn(!fromFront)];
            int room = Math.min(near.ceiling, far.ceiling) - Math.max(near.floor, far.floor);
            return far.floor - near.floor > HIGHEST_STEP || room < ROOM_TO_STAND;
        }

        private static int moverByCrossing(int wallKind) {
            switch (wallKind) {
                case 2: return LIFT;
                case 3: return DOOR;
                case 5: return RISER;
                default: return NONE;
            }
        }

        private void use(int c, int s) {
            rays.aim(x, y, c, s);
            rays.meetClose(plan, 4);
            if (rays.count == 0 || !rays.fronts[0]) {
                return;
            }
            Wall wall = plan.walls[rays.walls[0]];
            if (wall.kind == 1 && wall.back != NONE) {
                plan.startOne(DOOR, wall.back);
            } else if (wall.kind == 4) {
                plan.startAll(LIFT, wall.tag);
            }
        }
    }
}
