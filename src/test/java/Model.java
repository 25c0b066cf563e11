import java.util.Arrays;

/**
 * The document once more, written to be compared with the class: nothing is kept that the document does not
 * name, all that can be reckoned is reckoned anew, and there are no objects but rows of numbers.
 */
final class Model {
    private int time;
    private boolean asleep;
    private int cause = -1;
    private final long[] claims = new long[7];

    private int railCount;
    private final int[] ramp = new int[3];
    private final char[] rule = new char[3];
    private final int[][] pairSpeed = new int[3][5];
    private final int[][] pairLevel = new int[3][5];
    private final int[] pairs = new int[3];
    private final int[][] votes = new int[3][6];
    private final int[] level = new int[3];
    private final int[] speed = new int[3];
    private final boolean[] throttled = new boolean[3];
    private final int[] budget = new int[3];
    private final int[] window = new int[3];
    private final long[][] history = new long[3][512 * 200 + 1];

    private int domainCount;
    private final int[] under = new int[8];
    private final int[] domainRail = new int[8];
    private final boolean[] kept = new boolean[8];
    private final int[] warmth = new int[8];
    private final int[] trip = new int[8];
    private final long[] energy = new long[8];

    private int deviceCount;
    private final int[] domain = new int[10];
    private final int[] delay = new int[10];
    private final int[] tolerance = new int[10];
    private final boolean[][] needs = new boolean[10][10];
    private final int[] count = new int[10];
    private final boolean[] awake = new boolean[10];
    private final boolean[] chipSlept = new boolean[10];
    private final int[] delayLeft = new int[10];
    private final int[] register = new int[10];
    private final int[] saved = new int[10];
    private final int[] fellAt = new int[10];
    private final int[] depthOf = new int[10];
    private final int[] costLeft = new int[10];
    private final int[] misses = new int[10];
    private final int[] left = new int[10];
    private final int[][] stays = new int[10][512];
    private final int[] stayCount = new int[10];

    private int depthCount;
    private final int[] cost = new int[4];
    private final int[] least = new int[4];

    private int sourceCount;
    private final boolean[] armed = new boolean[6];
    private final boolean[] masked = new boolean[6];
    private final boolean[] waiting = new boolean[6];
    private final boolean[] pending = new boolean[6];

    private static String index() {
        return "throws.IndexOutOfBoundsException";
    }

    private static String argument() {
        return "throws.IllegalArgumentException";
    }

    private static String state() {
        return "throws.IllegalStateException";
    }

    private static String unsupported() {
        return "throws.UnsupportedOperationException";
    }

    private boolean noRail(int r) {
        return r < 0 || r >= railCount;
    }

    private boolean noDomain(int d) {
        return d < 0 || d >= domainCount;
    }

    private boolean noDevice(int d) {
        return d < 0 || d >= deviceCount;
    }

    private boolean noSource(int s) {
        return s < 0 || s >= sourceCount;
    }

    /** What the document says that a call answers, told as Face.answer tells it. */
    String answer(String name, Object[] given) {
        int[] a = new int[given.length];
        for (int i = 0; i < a.length; i++) {
            if (given[i] instanceof Boolean is) {
                a[i] = is ? 1 : 0;
            } else {
                a[i] = given[i] instanceof Character sign ? sign : (Integer) given[i];
            }
        }
        return switch (name) {
            case "rail", "pair", "vote", "aim", "level", "speed", "isThrottled", "budget" -> ofRails(name, a);
            case "domain", "isOn", "warmth", "energy", "trip" -> ofDomains(name, a);
            case "device", "need", "get", "put", "isAwake", "write", "read", "raw" -> ofDevices(name, a);
            case "depth", "depthOf", "misses", "guess", "work", "left" -> ofIdleness(name, a);
            case "source", "arm", "mask", "wake", "sleep", "sleeps", "cause" -> ofSleep(name, a);
            default -> ofAll(name, a);
        };
    }

    private String ofRails(String name, int[] a) {
        if (!name.equals("rail") && noRail(a[0])) {
            return index();
        }
        return switch (name) {
            case "rail" -> {
                if (a[1] != 'g' && a[1] != 's' || a[0] < 1 || a[0] > 9) {
                    yield argument();
                }
                if (railCount == 3) {
                    yield state();
                }
                ramp[railCount] = a[0];
                rule[railCount] = (char) a[1];
                yield "" + railCount++;
            }
            case "pair" -> {
                int n = pairs[a[0]];
                if (a[1] < 1 || a[1] > 99 || a[2] < 1 || a[2] > 99
                        || n > 0 && (a[1] <= pairSpeed[a[0]][n - 1] || a[2] <= pairLevel[a[0]][n - 1])) {
                    yield argument();
                }
                if (n == 5) {
                    yield state();
                }
                pairSpeed[a[0]][n] = a[1];
                pairLevel[a[0]][n] = a[2];
                yield "" + ++pairs[a[0]];
            }
            case "vote" -> {
                if (a[1] < 0 || a[1] > 5) {
                    yield index();
                }
                if (a[2] < 0 || a[2] > 99) {
                    yield argument();
                }
                votes[a[0]][a[1]] = a[2];
                yield "" + wish(a[0]);
            }
            case "aim" -> "" + aimed(a[0]);
            case "level" -> "" + level[a[0]];
            case "speed" -> "" + speed[a[0]];
            case "isThrottled" -> "" + throttled[a[0]];
            default -> {
                if (a[1] < 1 || a[1] > 99999 || a[2] < 1 || a[2] > 20) {
                    yield argument();
                }
                budget[a[0]] = a[1];
                window[a[0]] = a[2];
                yield "" + isOver(a[0]);
            }
        };
    }

    private int wish(int r) {
        return rule[r] == 's' ? Arrays.stream(votes[r]).sum() : Arrays.stream(votes[r]).max().getAsInt();
    }

    private boolean isOver(int r) {
        long sum = 0;
        for (int t = Math.max(0, time - window[r]); t < time; t++) {
            sum += history[r][t];
        }
        return budget[r] > 0 && sum >= budget[r];
    }

    private int aimed(int r) {
        if (pairs[r] == 0) {
            return -1;
        }
        int first = 0;
        while (first < pairs[r] - 1 && pairSpeed[r][first] < wish(r)) {
            first++;
        }
        return throttled[r] || isOver(r) ? 0 : first;
    }

    private int aimedLevel(int r) {
        boolean anyOn = false;
        for (int d = 0; d < domainCount; d++) {
            anyOn |= domainRail[d] == r && isOn(d);
        }
        return pairs[r] == 0 || !anyOn || asleep ? 0 : pairLevel[r][aimed(r)];
    }

    private String ofDomains(String name, int[] a) {
        if (name.equals("domain")) {
            if (a[0] != -1 && noDomain(a[0]) || noRail(a[1])) {
                return index();
            }
            if (domainCount == 8) {
                return state();
            }
            under[domainCount] = a[0];
            domainRail[domainCount] = a[1];
            kept[domainCount] = a[2] == 1;
            trip[domainCount] = 9999;
            return "" + domainCount++;
        }
        if (noDomain(a[0])) {
            return index();
        }
        return switch (name) {
            case "isOn" -> "" + isOn(a[0]);
            case "warmth" -> "" + warmth[a[0]];
            case "energy" -> "" + energy[a[0]];
            default -> {
                if (a[1] < 11 || a[1] > 9999) {
                    yield argument();
                }
                int before = trip[a[0]];
                trip[a[0]] = a[1];
                yield "" + before;
            }
        };
    }

    private boolean isOn(int d) {
        for (int i = 0; i < deviceCount; i++) {
            if (domain[i] == d && awake[i]) {
                return true;
            }
        }
        for (int i = d + 1; i < domainCount; i++) {
            if (under[i] == d && isOn(i)) {
                return true;
            }
        }
        return false;
    }

    private String ofDevices(String name, int[] a) {
        if (name.equals("device")) {
            return addDevice(a);
        }
        if (noDevice(a[0]) || name.equals("need") && noDevice(a[1])) {
            return index();
        }
        int d = a[0];
        if (asleep && (name.equals("get") || name.equals("put") || name.equals("write") || name.equals("read"))) {
            return state();
        }
        switch (name) {
            case "need":
                if (a[1] >= d) {
                    return argument();
                }
                if (needs[d][a[1]] || awake[d] || count[d] != 0) {
                    return unsupported();
                }
                needs[d][a[1]] = true;
                int suppliers = 0;
                for (boolean is : needs[d]) {
                    suppliers += is ? 1 : 0;
                }
                return "" + suppliers;
            case "get":
                take(d);
                return "" + count[d];
            case "put":
                if (count[d] == 0) {
                    return unsupported();
                }
                drop(d);
                return "" + count[d];
            case "isAwake":
                return "" + awake[d];
            case "raw":
                return "" + register[d];
            default:
                if (!awake[d]) {
                    return unsupported();
                }
                int before = register[d];
                register[d] = name.equals("write") ? a[1] : before;
                return "" + before;
        }
    }

    private String addDevice(int[] a) {
        if (noDomain(a[0])) {
            return index();
        }
        if (a[1] < 0 || a[1] > 20 || a[2] < 0 || a[2] > 99) {
            return argument();
        }
        if (deviceCount == 10) {
            return state();
        }
        domain[deviceCount] = a[0];
        delay[deviceCount] = a[1];
        tolerance[deviceCount] = a[2];
        fellAt[deviceCount] = -1;
        depthOf[deviceCount] = -1;
        return "" + deviceCount++;
    }

    private void take(int d) {
        count[d]++;
        if (awake[d]) {
            return;
        }
        for (int s = 0; s < d; s++) {
            if (needs[d][s]) {
                take(s);
            }
        }
        rouse(d);
    }

    private void drop(int d) {
        count[d]--;
        if (count[d] == 0) {
            delayLeft[d] = delay[d];
            if (delay[d] == 0) {
                settle(d);
            }
        }
    }

    private void settle(int d) {
        lull(d);
        for (int s = d - 1; s >= 0; s--) {
            if (needs[d][s]) {
                drop(s);
            }
        }
    }

    private void rouse(int d) {
        awake[d] = true;
        register[d] = saved[d];
        if (fellAt[d] >= 0) {
            int stay = time - fellAt[d];
            stays[d][stayCount[d]++] = stay;
            if (depthOf[d] >= 0 && stay < least[depthOf[d]]) {
                misses[d]++;
            }
        }
        costLeft[d] = depthOf[d] < 0 ? 0 : cost[depthOf[d]];
        depthOf[d] = -1;
    }

    private void lull(int d) {
        saved[d] = register[d];
        boolean[] wasOn = allOn();
        awake[d] = false;
        boolean[] isOn = allOn();
        for (int i = 0; i < deviceCount; i++) {
            if (wasOn[domain[i]] && !isOn[domain[i]] && !kept[domain[i]]) {
                register[i] = 0;
            }
        }
        fellAt[d] = time;
        for (int i = 0; i < depthCount; i++) {
            if (least[i] <= guess(d) && cost[i] <= tolerance[d]) {
                depthOf[d] = i;
            }
        }
    }

    private boolean[] allOn() {
        boolean[] on = new boolean[domainCount];
        for (int i = 0; i < domainCount; i++) {
            on[i] = isOn(i);
        }
        return on;
    }

    private int guess(int d) {
        int from = Math.max(0, stayCount[d] - 4);
        return (int) Arrays.stream(stays[d], from, stayCount[d]).average().orElse(0);
    }

    private String ofIdleness(String name, int[] a) {
        if (name.equals("depth")) {
            if (a[0] < 0 || a[0] > 99 || a[1] < 0 || a[1] > 999
                    || depthCount > 0 && (a[0] < cost[depthCount - 1] || a[1] < least[depthCount - 1])) {
                return argument();
            }
            if (depthCount == 4) {
                return state();
            }
            cost[depthCount] = a[0];
            least[depthCount] = a[1];
            return "" + depthCount++;
        }
        if (noDevice(a[0])) {
            return index();
        }
        return switch (name) {
            case "depthOf" -> "" + depthOf[a[0]];
            case "misses" -> "" + misses[a[0]];
            case "guess" -> "" + guess(a[0]);
            case "left" -> "" + left[a[0]];
            default -> {
                if (a[1] < 1 || a[1] > 9999) {
                    yield argument();
                }
                if (asleep) {
                    yield state();
                }
                left[a[0]] += a[1];
                yield "" + left[a[0]];
            }
        };
    }

    private String ofSleep(String name, int[] a) {
        switch (name) {
            case "source":
                return sourceCount == 6 ? state() : "" + sourceCount++;
            case "sleep":
                return asleep ? state() : "" + fall();
            case "sleeps":
                return "" + asleep;
            case "cause":
                return cause < 0 ? "throws.NoSuchElementException" : "" + cause;
            default:
                break;
        }
        int s = a[0];
        if (noSource(s)) {
            return index();
        }
        switch (name) {
            case "arm":
                boolean was = armed[s];
                armed[s] = a[1] == 1;
                if (!armed[s]) {
                    waiting[s] = false;
                    pending[s] = false;
                }
                return "" + was;
            case "mask":
                masked[s] = a[1] == 1;
                if (masked[s] && pending[s]) {
                    pending[s] = false;
                    waiting[s] = true;
                }
                if (!masked[s] && waiting[s]) {
                    waiting[s] = false;
                    return "" + count(s);
                }
                return "false";
            default:
                if (armed[s] && masked[s]) {
                    waiting[s] = true;
                }
                return "" + (armed[s] && !masked[s] && count(s));
        }
    }

    private boolean count(int s) {
        if (!asleep) {
            pending[s] = true;
            return false;
        }
        asleep = false;
        cause = s;
        for (int d = 0; d < deviceCount; d++) {
            if (chipSlept[d]) {
                chipSlept[d] = false;
                rouse(d);
            }
        }
        return true;
    }

    private int fall() {
        for (int s = 0; s < sourceCount; s++) {
            if (pending[s]) {
                pending[s] = false;
                return s;
            }
        }
        for (int d = deviceCount - 1; d >= 0; d--) {
            chipSlept[d] = awake[d];
            if (awake[d]) {
                lull(d);
            }
        }
        asleep = true;
        return -1;
    }

    private String ofAll(String name, int[] a) {
        switch (name) {
            case "tick":
                if (a[0] < 1 || a[0] > 200) {
                    return argument();
                }
                for (int i = 0; i < a[0]; i++) {
                    pass();
                }
                return "" + time;
            case "claimed":
                return a[0] < -1 || a[0] > 5 ? index() : "" + claims[a[0] + 1];
            case "checksum":
                return "" + checksum();
            case "isTrue":
                return "true";
            default:
                break;
        }
        if (domainCount == 0) {
            return "throws.ArithmeticException";
        }
        double warm = 0;
        float on = 0;
        for (int d = 0; d < domainCount; d++) {
            warm += warmth[d];
            on += isOn(d) ? 1 : 0;
        }
        return name.equals("onShare") ? "" + on / domainCount : "" + warm / domainCount;
    }

    private long checksum() {
        long sum = 7;
        for (int r = 0; r < railCount; r++) {
            sum = sum * 31 + level[r];
        }
        for (int d = 0; d < domainCount; d++) {
            sum = sum * 31 + warmth[d] + (isOn(d) ? 10000 : 0);
        }
        for (int d = 0; d < deviceCount; d++) {
            sum = sum * 31 + count[d] + (awake[d] ? 100 : 0) + left[d] * 1000L;
        }
        return sum;
    }

    private void pass() {
        for (int r = 0; r < railCount; r++) {
            int aimed = aimedLevel(r);
            for (int i = 0; i < ramp[r] && level[r] < aimed; i++) {
                level[r]++;
            }
            speed[r] = 0;
            for (int p = 0; p <= aimed(r) && !asleep; p++) {
                speed[r] = pairLevel[r][p] <= level[r] ? pairSpeed[r][p] : speed[r];
            }
        }
        long[] gained = passWork();
        for (int r = 0; r < railCount; r++) {
            claim(r, gained);
        }
        flow(gained);
        for (int r = 0; r < railCount; r++) {
            look(r);
        }
        // What is over the budget reckons with the tick that ends, so the time goes on ahead of the look at it.
        time++;
        for (int r = 0; r < railCount; r++) {
            int aimed = aimedLevel(r);
            for (int i = 0; i < ramp[r] && level[r] > aimed; i++) {
                level[r]--;
            }
        }
        time--;
        passDelays();
        time++;
    }

    private long[] passWork() {
        long[] gained = new long[domainCount];
        for (int d = 0; d < domainCount; d++) {
            gained[d] = isOn(d) ? level[domainRail[d]] + warmth[d] / 32 : 0;
        }
        for (int d = 0; d < deviceCount; d++) {
            int r = domainRail[domain[d]];
            if (awake[d] && costLeft[d] > 0) {
                costLeft[d]--;
            } else if (awake[d] && left[d] > 0) {
                left[d] = Math.max(0, left[d] - speed[r]);
                gained[domain[d]] += speed[r] * level[r] / 10;
            }
        }
        return gained;
    }

    private void claim(int r, long[] gained) {
        long all = 0;
        for (int d = 0; d < domainCount; d++) {
            all += domainRail[d] == r ? gained[d] : 0;
        }
        history[r][time] = all;
        int sum = Arrays.stream(votes[r]).sum();
        int lowest = -1;
        long given = 0;
        for (int user = 0; user < 6; user++) {
            if (votes[r][user] > 0) {
                lowest = lowest < 0 ? user : lowest;
                claims[user + 1] += all * votes[r][user] / sum;
                given += all * votes[r][user] / sum;
            }
        }
        claims[lowest + 1] += all - given;
    }

    private void flow(long[] gained) {
        int[] first = new int[domainCount];
        for (int d = 0; d < domainCount; d++) {
            energy[d] += gained[d];
            warmth[d] += (int) gained[d];
            first[d] = warmth[d];
        }
        for (int d = 0; d < domainCount; d++) {
            int flow = under[d] < 0 ? first[d] / 4 : (first[d] - first[under[d]]) / 4;
            warmth[d] -= flow;
            if (under[d] >= 0) {
                warmth[under[d]] += flow;
            }
        }
    }

    private void look(int r) {
        boolean anyHot = false;
        boolean allCool = true;
        for (int d = 0; d < domainCount; d++) {
            if (domainRail[d] == r) {
                anyHot |= warmth[d] >= trip[d];
                allCool &= warmth[d] < trip[d] - 10;
            }
        }
        throttled[r] = anyHot || throttled[r] && !allCool;
    }

    private void passDelays() {
        for (int d = 0; d < deviceCount; d++) {
            if (awake[d] && count[d] == 0) {
                delayLeft[d]--;
            }
        }
        for (int d = deviceCount - 1; d >= 0; d--) {
            if (awake[d] && count[d] == 0 && delayLeft[d] <= 0) {
                settle(d);
            }
        }
    }
}
