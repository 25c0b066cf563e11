import java.util.ArrayList;
import java.util.NoSuchElementException;

/** A chip that sleeps and wakes. The document's promises are kept by the public methods, in its order. */
public final class Powerwell {
    private static final int NONE = -1;
    private static final int MAX_RAILS = 3;
    private static final int MAX_RAMP = 9;
    private static final int MAX_PAIRS = 5;
    private static final int MAX_SPEED = 99;
    private static final int MAX_LEVEL = 99;
    private static final int USERS = 6;
    private static final int MAX_DOMAINS = 8;
    private static final int MIN_TRIP = 11;
    private static final int MAX_TRIP = 9999;
    private static final int TRIP_MARGIN = 10;
    private static final int MAX_BUDGET = 99999;
    private static final int MAX_WINDOW = 20;
    private static final int MAX_DEVICES = 10;
    private static final int MAX_DELAY = 20;
    private static final int MAX_TOLERANCE = 99;
    private static final int MAX_DEPTHS = 4;
    private static final int MAX_COST = 99;
    private static final int MAX_LEAST = 999;
    private static final int STAYS = 4;
    private static final int MAX_UNITS = 9999;
    private static final int MAX_TICKS = 200;
    private static final int MAX_SOURCES = 6;

    private final ArrayList<Rail> rails = new ArrayList<>();
    private final ArrayList<Domain> domains = new ArrayList<>();
    private final ArrayList<Device> devices = new ArrayList<>();
    private final ArrayList<Depth> depths = new ArrayList<>();
    private final ArrayList<Source> sources = new ArrayList<>();
    private final long[] userClaims = new long[USERS];
    private long houseClaim;
    private int time;
    private boolean isAsleep;
    private int lastCause = NONE;

    public Powerwell() {
    }

    public int rail(int ramp, char rule) throws IllegalArgumentException, IllegalStateException {
        if (rule != 'g' && rule != 's') {
            throw new IllegalArgumentException("no such rule");
        }
        if (isOutside(ramp, 1, MAX_RAMP)) {
            throw new IllegalArgumentException("the ramp is out of range");
        }
        if (rails.size() >= MAX_RAILS) {
            throw new IllegalStateException("no more rails");
        }
        rails.add(new Rail(ramp, rule == 's'));
        return rails.size() - 1;
    }

    public int pair(int rail, int speed, int level)
            throws IndexOutOfBoundsException, IllegalArgumentException, IllegalStateException {
        Rail owner = railAt(rail);
        if (isOutside(speed, 1, MAX_SPEED) || isOutside(level, 1, MAX_LEVEL)) {
            throw new IllegalArgumentException("a number is out of range");
        }
        if (!owner.isBeyondLastPair(speed, level)) {
            throw new IllegalArgumentException("not greater than the pair ahead");
        }
        if (owner.pairs.size() >= MAX_PAIRS) {
            throw new IllegalStateException("no more pairs");
        }
        owner.pairs.add(new Pair(speed, level));
        return owner.pairs.size();
    }

    public int vote(int rail, int user, int speed) throws IndexOutOfBoundsException, IllegalArgumentException {
        Rail voted = railAt(rail);
        if (user < 0 || user >= USERS) {
            throw new IndexOutOfBoundsException("no such user");
        }
        if (isOutside(speed, 0, MAX_SPEED)) {
            throw new IllegalArgumentException("a number is out of range");
        }
        voted.votes[user] = speed;
        return voted.wish();
    }

    public int aim(int rail) throws IndexOutOfBoundsException {
        return railAt(rail).aimedPair();
    }

    public int level(int rail) throws IndexOutOfBoundsException {
        return railAt(rail).level;
    }

    public int speed(int rail) throws IndexOutOfBoundsException {
        return railAt(rail).speed;
    }

    public int domain(int under, int rail, boolean isKept) throws IndexOutOfBoundsException, IllegalStateException {
        Domain above = under == NONE ? null : domainAt(under);
        Rail feeding = railAt(rail);
        if (domains.size() >= MAX_DOMAINS) {
            throw new IllegalStateException("no more domains");
        }
        Domain added = new Domain(above, feeding, isKept);
        domains.add(added);
        feeding.domains.add(added);
        return domains.size() - 1;
    }

    public boolean isOn(int domain) throws IndexOutOfBoundsException {
        return domainAt(domain).isUsed();
    }

    public int warmth(int domain) throws IndexOutOfBoundsException {
        return domainAt(domain).warmth;
    }

    public long energy(int domain) throws IndexOutOfBoundsException {
        return domainAt(domain).energy;
    }

    public int trip(int domain, int warmth) throws IndexOutOfBoundsException, IllegalArgumentException {
        Domain tripped = domainAt(domain);
        if (isOutside(warmth, MIN_TRIP, MAX_TRIP)) {
            throw new IllegalArgumentException("a number is out of range");
        }
        int before = tripped.trip;
        tripped.trip = warmth;
        return before;
    }

    public boolean isThrottled(int rail) throws IndexOutOfBoundsException {
        return railAt(rail).isThrottled;
    }

    public boolean budget(int rail, int energy, int ticks)
            throws IndexOutOfBoundsException, IllegalArgumentException {
        Rail bounded = railAt(rail);
        if (isOutside(energy, 1, MAX_BUDGET) || isOutside(ticks, 1, MAX_WINDOW)) {
            throw new IllegalArgumentException("a number is out of range");
        }
        bounded.budget = energy;
        bounded.window = ticks;
        return bounded.isOverBudget();
    }

    public int device(int domain, int delay, int tolerance)
            throws IndexOutOfBoundsException, IllegalArgumentException, IllegalStateException {
        Domain home = domainAt(domain);
        if (isOutside(delay, 0, MAX_DELAY) || isOutside(tolerance, 0, MAX_TOLERANCE)) {
            throw new IllegalArgumentException("a number is out of range");
        }
        if (devices.size() >= MAX_DEVICES) {
            throw new IllegalStateException("no more devices");
        }
        Device added = new Device(devices.size(), home, delay, tolerance);
        devices.add(added);
        home.devices.add(added);
        return added.number;
    }

    public int need(int device, int supplier)
            throws IndexOutOfBoundsException, IllegalArgumentException, UnsupportedOperationException {
        Device needing = deviceAt(device);
        Device needed = deviceAt(supplier);
        if (supplier >= device) {
            throw new IllegalArgumentException("the supplier is not earlier");
        }
        if (needing.hasSupplier(needed)) {
            throw new UnsupportedOperationException("it needs it already");
        }
        if (needing.isAwake || needing.count != 0) {
            throw new UnsupportedOperationException("it is not asleep with the count 0");
        }
        needing.addSupplier(needed);
        return needing.suppliers.size();
    }

    public int get(int device) throws IndexOutOfBoundsException, IllegalStateException {
        Device wanted = deviceAt(device);
        refuseAsleep();
        take(wanted);
        return wanted.count;
    }

    public int put(int device) throws IndexOutOfBoundsException, IllegalStateException, UnsupportedOperationException {
        Device unwanted = deviceAt(device);
        refuseAsleep();
        if (unwanted.count == 0) {
            throw new UnsupportedOperationException("its count is 0");
        }
        giveBack(unwanted);
        return unwanted.count;
    }

    public boolean isAwake(int device) throws IndexOutOfBoundsException {
        return deviceAt(device).isAwake;
    }

    public int write(int device, int value)
            throws IndexOutOfBoundsException, IllegalStateException, UnsupportedOperationException {
        Device written = reachableAt(device);
        int before = written.register;
        written.register = value;
        written.lastWritten = value;
        return before;
    }

    public int read(int device)
            throws IndexOutOfBoundsException, IllegalStateException, UnsupportedOperationException {
        return reachableAt(device).register;
    }

    public int raw(int device) throws IndexOutOfBoundsException {
        return deviceAt(device).register;
    }

    public int depth(int cost, int least) throws IllegalArgumentException, IllegalStateException {
        if (isOutside(cost, 0, MAX_COST) || isOutside(least, 0, MAX_LEAST)) {
            throw new IllegalArgumentException("a number is out of range");
        }
        int number = depths.size();
        if (number > 0 && depths.get(number - 1).isBeyond(cost, least)) {
            throw new IllegalArgumentException("less than the depth ahead");
        }
        if (number >= MAX_DEPTHS) {
            throw new IllegalStateException("no more depths");
        }
        depths.add(new Depth(number, cost, least));
        return number;
    }

    public int depthOf(int device) throws IndexOutOfBoundsException {
        Depth chosen = deviceAt(device).idleness.depth;
        return chosen == null ? NONE : chosen.number;
    }

    public int misses(int device) throws IndexOutOfBoundsException {
        return deviceAt(device).idleness.misses;
    }

    public int guess(int device) throws IndexOutOfBoundsException {
        return deviceAt(device).idleness.meanStay();
    }

    public int work(int device, int units)
            throws IndexOutOfBoundsException, IllegalArgumentException, IllegalStateException {
        Device worker = deviceAt(device);
        if (isOutside(units, 1, MAX_UNITS)) {
            throw new IllegalArgumentException("a number is out of range");
        }
        refuseAsleep();
        worker.unitsLeft += units;
        return worker.unitsLeft;
    }

    public int left(int device) throws IndexOutOfBoundsException {
        return deviceAt(device).unitsLeft;
    }

    public int tick(int ticks) throws IllegalArgumentException {
        if (isOutside(ticks, 1, MAX_TICKS)) {
            throw new IllegalArgumentException("a number is out of range");
        }
        for (int i = 0; i < ticks; i++) {
            passTick();
        }
        return time;
    }

    public long claimed(int user) throws IndexOutOfBoundsException {
        if (user == NONE) {
            return houseClaim;
        }
        if (user < 0 || user >= USERS) {
            throw new IndexOutOfBoundsException("no such user");
        }
        return userClaims[user];
    }

    public int source() throws IllegalStateException {
        if (sources.size() >= MAX_SOURCES) {
            throw new IllegalStateException("no more sources");
        }
        sources.add(new Source());
        return sources.size() - 1;
    }

    public boolean arm(int source, boolean is) throws IndexOutOfBoundsException {
        Source armed = sourceAt(source);
        boolean was = armed.isArmed;
        armed.isArmed = is;
        if (!is) {
            armed.hasWake = false;
        }
        return was;
    }

    public boolean mask(int source, boolean is) throws IndexOutOfBoundsException {
        Source masked = sourceAt(source);
        masked.isMasked = is;
        return wakeChipBy(masked, source);
    }

    public boolean wake(int source) throws IndexOutOfBoundsException {
        Source waking = sourceAt(source);
        if (waking.isArmed) {
            waking.hasWake = true;
        }
        return wakeChipBy(waking, source);
    }

    public int sleep() throws IllegalStateException {
        refuseAsleep();
        for (int i = 0; i < sources.size(); i++) {
            Source source = sources.get(i);
            if (source.isPending()) {
                source.hasWake = false;
                return i;
            }
        }
        isAsleep = true;
        for (int i = devices.size() - 1; i >= 0; i--) {
            Device device = devices.get(i);
            if (device.isAwake) {
                device.sleepsByChip = true;
                device.fallAsleep(time, depths);
            }
        }
        return NONE;
    }

    public boolean sleeps() {
        return isAsleep;
    }

    public int cause() throws NoSuchElementException {
        if (lastCause == NONE) {
            throw new NoSuchElementException("the chip never woke");
        }
        return lastCause;
    }

    public float onShare() throws ArithmeticException {
        int all = domains.size();
        if (all == 0) {
            throw new ArithmeticException("no domains");
        }
        int on = 0;
        for (int i = 0; i < all; i++) {
            if (domains.get(i).isUsed()) {
                on++;
            }
        }
        return (float) on / (float) all;
    }

    public double meanWarmth() throws ArithmeticException {
        int all = domains.size();
        if (all == 0) {
            throw new ArithmeticException("no domains");
        }
        long sum = 0;
        for (int i = 0; i < all; i++) {
            sum += domains.get(i).warmth;
        }
        return (double) sum / (double) all;
    }

    public long checksum() {
        long sum = 7;
        for (int i = 0; i < rails.size(); i++) {
            sum = 31 * sum + rails.get(i).level;
        }
        for (int i = 0; i < domains.size(); i++) {
            Domain domain = domains.get(i);
            sum = 31 * sum + domain.warmth + (domain.isUsed() ? 10000 : 0);
        }
        for (int i = 0; i < devices.size(); i++) {
            Device device = devices.get(i);
            sum = 31 * sum + device.count + (device.isAwake ? 100 : 0) + 1000L * device.unitsLeft;
        }
        return sum;
    }

    public boolean isTrue() {
        return areRegistersKept() && areUsedDomainsOn() && areClaimsAllEnergy() && areLevelsBounded();
    }

    private static boolean isOutside(int number, int least, int greatest) {
        return number < least || number > greatest;
    }

    /** All in the row go one place on, and the last one is gone. */
    private static void putFirst(long[] row, long first) {
        for (int i = row.length - 1; i > 0; i--) {
            row[i] = row[i - 1];
        }
        if (row.length > 0) {
            row[0] = first;
        }
    }

    private Rail railAt(int number) throws IndexOutOfBoundsException {
        if (number < 0 || number >= rails.size()) {
            throw new IndexOutOfBoundsException("no such rail");
        }
        return rails.get(number);
    }

    private Domain domainAt(int number) throws IndexOutOfBoundsException {
        if (number < 0 || number >= domains.size()) {
            throw new IndexOutOfBoundsException("no such domain");
        }
        return domains.get(number);
    }

    private Device deviceAt(int number) throws IndexOutOfBoundsException {
        if (number < 0 || number >= devices.size()) {
            throw new IndexOutOfBoundsException("no such device");
        }
        return devices.get(number);
    }

    private Source sourceAt(int number) throws IndexOutOfBoundsException {
        if (number < 0 || number >= sources.size()) {
            throw new IndexOutOfBoundsException("no such source");
        }
        return sources.get(number);
    }

    private void refuseAsleep() throws IllegalStateException {
        if (isAsleep) {
            throw new IllegalStateException("the chip sleeps");
        }
    }

    private Device reachableAt(int number)
            throws IndexOutOfBoundsException, IllegalStateException, UnsupportedOperationException {
        Device reached = deviceAt(number);
        refuseAsleep();
        if (!reached.isAwake) {
            throw new UnsupportedOperationException("it is asleep");
        }
        return reached;
    }

    // The recursion here and in giveBack is at most as deep as there are devices:
    // need() refuses every supplier that is not earlier than the device itself.
    private void take(Device device) {
        if (!device.isAwake) {
            for (int i = 0; i < device.suppliers.size(); i++) {
                take(device.suppliers.get(i));
            }
            device.wakeUp(time);
        }
        device.count++;
    }

    // A supplier may have been put by others to 0 before; its count goes below 0 then,
    // because the document has no floor for it.
    private void giveBack(Device device) {
        device.count--;
        if (device.count != 0) {
            return;
        }
        device.delayLeft = device.delay;
        if (device.delay == 0) {
            releaseToSleep(device);
        }
    }

    private void releaseToSleep(Device device) {
        device.fallAsleep(time, depths);
        for (int i = device.suppliers.size() - 1; i >= 0; i--) {
            giveBack(device.suppliers.get(i));
        }
    }

    private boolean wakeChipBy(Source source, int number) {
        if (!isAsleep || !source.isPending()) {
            return false;
        }
        source.hasWake = false;
        isAsleep = false;
        lastCause = number;
        for (int i = 0; i < devices.size(); i++) {
            Device device = devices.get(i);
            if (device.sleepsByChip) {
                device.sleepsByChip = false;
                device.wakeUp(time);
            }
        }
        return true;
    }

    private void passTick() {
        for (int i = 0; i < rails.size(); i++) {
            rails.get(i).riseAndSpeed(isAsleep);
        }
        for (int i = 0; i < devices.size(); i++) {
            devices.get(i).doWork();
        }
        reckonEnergy();
        letWarmthFlow();
        for (int i = 0; i < rails.size(); i++) {
            Rail rail = rails.get(i);
            rail.lookAtTrips();
            rail.fall(isAsleep);
        }
        passDelays();
        time++;
    }

    private void reckonEnergy() {
        for (int i = 0; i < domains.size(); i++) {
            domains.get(i).gainEnergy();
        }
        for (int i = 0; i < rails.size(); i++) {
            Rail rail = rails.get(i);
            long energy = rail.energyOfTick();
            rail.remember(energy);
            claimEnergy(rail, energy);
        }
    }

    private void claimEnergy(Rail rail, long energy) {
        int allVotes = rail.sumOfVotes();
        if (allVotes <= 0) {
            houseClaim += energy;
            return;
        }
        long rest = energy;
        int lowest = 0;
        for (int user = USERS - 1; user >= 0; user--) {
            int vote = rail.votes[user];
            if (vote > 0) {
                long share = energy * vote / allVotes;
                userClaims[user] += share;
                rest -= share;
                lowest = user;
            }
        }
        userClaims[lowest] += rest;
    }

    // All flows are reckoned before the first one is let go, since all go by the same warmths.
    private void letWarmthFlow() {
        for (int i = 0; i < domains.size(); i++) {
            domains.get(i).reckonFlow();
        }
        for (int i = 0; i < domains.size(); i++) {
            domains.get(i).flowOut();
        }
    }

    private void passDelays() {
        if (isAsleep) {
            return;
        }
        for (int i = 0; i < devices.size(); i++) {
            Device device = devices.get(i);
            if (device.isIdling()) {
                device.delayLeft--;
            }
        }
        for (int i = devices.size() - 1; i >= 0; i--) {
            Device device = devices.get(i);
            if (device.isIdling() && device.delayLeft <= 0) {
                releaseToSleep(device);
            }
        }
    }

    private boolean areRegistersKept() {
        for (int i = 0; i < devices.size(); i++) {
            Device device = devices.get(i);
            if (device.isAwake && device.register != device.lastWritten) {
                return false;
            }
        }
        return true;
    }

    private boolean areUsedDomainsOn() {
        for (int i = 0; i < devices.size(); i++) {
            Device device = devices.get(i);
            if (device.isAwake && !device.home.isUsedUpward()) {
                return false;
            }
        }
        return true;
    }

    private boolean areClaimsAllEnergy() {
        long rest = -houseClaim;
        for (int user = 0; user < USERS; user++) {
            rest -= userClaims[user];
        }
        for (int i = 0; i < domains.size(); i++) {
            rest += domains.get(i).energy;
        }
        return rest == 0;
    }

    private boolean areLevelsBounded() {
        for (int i = 0; i < rails.size(); i++) {
            Rail rail = rails.get(i);
            if (rail.level > rail.greatestLevel()) {
                return false;
            }
        }
        return true;
    }

    /** A speed that a rail can have once its level is high enough. */
    private static final class Pair {
        private final int speed;
        private final int level;

        private Pair(int speed, int level) {
            this.speed = speed;
            this.level = level;
        }
    }

    /** A supply with a level that follows votes, and a speed that follows the level. */
    private static final class Rail {
        private final int ramp;
        private final boolean isSum;
        private final ArrayList<Pair> pairs = new ArrayList<>();
        private final ArrayList<Domain> domains = new ArrayList<>();
        private final int[] votes = new int[USERS];
        /** The energies of the last ticks, the newest one first. */
        private final long[] energies = new long[MAX_WINDOW];
        private int level;
        private int speed;
        private boolean isThrottled;
        /** 0 stands for no budget. */
        private int budget;
        private int window;

        private Rail(int ramp, boolean isSum) {
            this.ramp = ramp;
            this.isSum = isSum;
        }

        private boolean isBeyondLastPair(int speed, int level) {
            if (pairs.isEmpty()) {
                return true;
            }
            Pair last = pairs.get(pairs.size() - 1);
            return speed > last.speed && level > last.level;
        }

        private int greatestLevel() {
            return pairs.isEmpty() ? 0 : pairs.get(pairs.size() - 1).level;
        }

        private int sumOfVotes() {
            int sum = 0;
            for (int vote : votes) {
                sum += vote;
            }
            return sum;
        }

        private int greatestVote() {
            int greatest = 0;
            for (int vote : votes) {
                greatest = Math.max(greatest, vote);
            }
            return greatest;
        }

        private int wish() {
            return isSum ? sumOfVotes() : greatestVote();
        }

        private boolean isOverBudget() {
            if (budget == 0) {
                return false;
            }
            long sum = 0;
            for (int i = 0; i < window && i < energies.length; i++) {
                sum += energies[i];
            }
            return sum >= budget;
        }

        private int aimedPair() {
            int last = pairs.size() - 1;
            if (isThrottled || isOverBudget()) {
                return Math.min(0, last);
            }
            int wish = wish();
            for (int i = 0; i < last; i++) {
                if (pairs.get(i).speed >= wish) {
                    return i;
                }
            }
            return last;
        }

        private boolean isUsed() {
            for (int i = 0; i < domains.size(); i++) {
                if (domains.get(i).isUsed()) {
                    return true;
                }
            }
            return false;
        }

        private int aimedLevel(boolean isChipAsleep) {
            int aimed = aimedPair();
            if (aimed < 0 || isChipAsleep || !isUsed()) {
                return 0;
            }
            return pairs.get(aimed).level;
        }

        private void riseAndSpeed(boolean isChipAsleep) {
            int aimed = aimedLevel(isChipAsleep);
            if (level < aimed) {
                level = Math.min(aimed, level + ramp);
            }
            speed = isChipAsleep ? 0 : reachedSpeed();
        }

        private int reachedSpeed() {
            int aimed = aimedPair();
            int reached = 0;
            for (int i = 0; i <= aimed && i < pairs.size(); i++) {
                Pair pair = pairs.get(i);
                if (pair.level <= level) {
                    reached = pair.speed;
                }
            }
            return reached;
        }

        private void fall(boolean isChipAsleep) {
            int aimed = aimedLevel(isChipAsleep);
            if (level > aimed) {
                level = Math.max(aimed, level - ramp);
            }
        }

        private long energyOfTick() {
            long sum = 0;
            for (int i = 0; i < domains.size(); i++) {
                sum += domains.get(i).gained;
            }
            return sum;
        }

        private void remember(long energy) {
            putFirst(energies, energy);
        }

        // Between the trip and its margin a rail stays as it is, throttled or not.
        private void lookAtTrips() {
            boolean isCool = true;
            for (int i = 0; i < domains.size(); i++) {
                Domain domain = domains.get(i);
                if (domain.warmth >= domain.trip) {
                    isThrottled = true;
                    return;
                }
                if (domain.warmth >= domain.trip - TRIP_MARGIN) {
                    isCool = false;
                }
            }
            if (isCool) {
                isThrottled = false;
            }
        }
    }

    /** A part of the chip that is on as long as something in it is in use. */
    private static final class Domain {
        /** null stands for none. */
        private final Domain above;
        private final Rail rail;
        private final boolean isKept;
        private final ArrayList<Device> devices = new ArrayList<>();
        /** How many devices in it are awake, and domains right under it are on. */
        private int uses;
        private int warmth;
        private int trip = MAX_TRIP;
        private long energy;
        /** The energy in the tick that goes by. */
        private int gained;
        /** What flows to the one above, or away, in the tick that goes by. */
        private int flow;

        private Domain(Domain above, Rail rail, boolean isKept) {
            this.above = above;
            this.rail = rail;
            this.isKept = isKept;
        }

        private boolean isUsed() {
            return uses > 0;
        }

        private boolean isUsedUpward() {
            for (Domain domain = this; domain != null; domain = domain.above) {
                if (!domain.isUsed()) {
                    return false;
                }
            }
            return true;
        }

        private void addUse() {
            for (Domain domain = this; domain != null; domain = domain.above) {
                domain.uses++;
                if (domain.uses > 1) {
                    return;
                }
            }
        }

        private void dropUse() {
            for (Domain domain = this; domain != null; domain = domain.above) {
                domain.uses--;
                if (domain.uses > 0) {
                    return;
                }
                domain.loseRegisters();
            }
        }

        private void loseRegisters() {
            if (isKept) {
                return;
            }
            for (int i = 0; i < devices.size(); i++) {
                devices.get(i).register = 0;
            }
        }

        private void gainEnergy() {
            gained = isUsed() ? rail.level + warmth / 32 + energyOfWork() : 0;
            energy += gained;
            warmth += gained;
        }

        private int energyOfWork() {
            int sum = 0;
            for (int i = 0; i < devices.size(); i++) {
                if (devices.get(i).hasWorked) {
                    sum += rail.speed * rail.level / 10;
                }
            }
            return sum;
        }

        private void reckonFlow() {
            flow = (above == null ? warmth : warmth - above.warmth) / 4;
        }

        private void flowOut() {
            warmth -= flow;
            if (above != null) {
                above.warmth += flow;
            }
        }
    }

    /** A thing in a domain that is awake while it is wanted, and a while behind that. */
    private static final class Device {
        private final int number;
        private final Domain home;
        private final int delay;
        private final Idleness idleness;
        /** By rising numbers. */
        private final ArrayList<Device> suppliers = new ArrayList<>();
        private int count;
        private boolean isAwake;
        private boolean sleepsByChip;
        private int delayLeft;
        private int register;
        private int saved;
        private int lastWritten;
        private int unitsLeft;
        private boolean hasWorked;

        private Device(int number, Domain home, int delay, int tolerance) {
            this.number = number;
            this.home = home;
            this.delay = delay;
            this.idleness = new Idleness(tolerance);
        }

        private boolean hasSupplier(Device other) {
            for (int i = 0; i < suppliers.size(); i++) {
                if (suppliers.get(i) == other) {
                    return true;
                }
            }
            return false;
        }

        private void addSupplier(Device other) {
            int place = 0;
            while (place < suppliers.size() && suppliers.get(place).number < other.number) {
                place++;
            }
            suppliers.add(place, other);
        }

        private boolean isIdling() {
            return isAwake && count == 0;
        }

        private void wakeUp(int time) {
            isAwake = true;
            register = saved;
            home.addUse();
            idleness.endStay(time);
        }

        private void fallAsleep(int time, ArrayList<Depth> depths) {
            isAwake = false;
            saved = register;
            home.dropUse();
            idleness.beginStay(time, depths);
        }

        private void doWork() {
            hasWorked = false;
            if (!isAwake || idleness.passCost()) {
                return;
            }
            int done = Math.min(unitsLeft, home.rail.speed);
            unitsLeft -= done;
            hasWorked = done > 0;
        }
    }

    /** What a device knows of its stays asleep, and what they cost it. */
    private static final class Idleness {
        private final int tolerance;
        /** The last stays, the newest one first. */
        private final long[] stays = new long[STAYS];
        private int stayCount;
        /** null stands for none. */
        private Depth depth;
        /** The time as the device fell asleep last; NONE ahead of the first time. */
        private int since = NONE;
        private int misses;
        private int costLeft;

        private Idleness(int tolerance) {
            this.tolerance = tolerance;
        }

        private int meanStay() {
            if (stayCount <= 0) {
                return 0;
            }
            long sum = 0;
            for (int i = 0; i < stayCount && i < stays.length; i++) {
                sum += stays[i];
            }
            return (int) (sum / stayCount);
        }

        private void beginStay(int time, ArrayList<Depth> depths) {
            since = time;
            depth = deepest(depths);
        }

        private Depth deepest(ArrayList<Depth> depths) {
            int guess = meanStay();
            for (int i = depths.size() - 1; i >= 0; i--) {
                Depth next = depths.get(i);
                if (next.least <= guess && next.cost <= tolerance) {
                    return next;
                }
            }
            return null;
        }

        private void endStay(int time) {
            if (since != NONE) {
                addStay(time - since);
            }
            costLeft = depth == null ? 0 : depth.cost;
            depth = null;
        }

        private void addStay(int stay) {
            putFirst(stays, stay);
            stayCount = Math.min(STAYS, stayCount + 1);
            if (depth != null && stay < depth.least) {
                misses++;
            }
        }

        private boolean passCost() {
            if (costLeft <= 0) {
                return false;
            }
            costLeft--;
            return true;
        }
    }

    /** A way to be idle: the deeper, the dearer to wake from. */
    private static final class Depth {
        private final int number;
        private final int cost;
        private final int least;

        private Depth(int number, int cost, int least) {
            this.number = number;
            this.cost = cost;
            this.least = least;
        }

        private boolean isBeyond(int otherCost, int otherLeast) {
            return otherCost < cost || otherLeast < least;
        }
    }

    /** Something that can wake the chip. */
    private static final class Source {
        private boolean isArmed;
        private boolean isMasked;
        /** A wake came: it waits while the source is masked, and is pending otherwise. */
        private boolean hasWake;

        private boolean isPending() {
            return hasWake && !isMasked;
        }
    }
}
