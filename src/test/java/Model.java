import java.util.ArrayList;
import java.util.Arrays;
import java.util.HashSet;
import java.util.List;
import java.util.NoSuchElementException;
import java.util.Set;
import java.util.regex.Matcher;
import java.util.regex.Pattern;

/**
 * The document told a second time, in another way, to be held against TaskWeave: a shard keeps nothing but the list
 * of its done records (and the leases); all else is reckoned from that list, whenever it has grown. Elections are
 * held in the very place where a leader is lost.
 */
final class Model {
    private static final class NotDone extends Exception {
        private static final long serialVersionUID = 1;
    }

    private record Rec(int kind, int n, int term, int a, int b, int c) {
    }

    private record Message(int place, int n, int k) {
    }

    private static final class Disk {
        final List<Integer> bytes = new ArrayList<>();
        boolean up = true;
        int fuse = -1;

        boolean writeAll(List<Integer> more) {
            for (int one : more) {
                if (fuse == 0) {
                    up = false;
                    fuse = -1;
                    return false;
                }
                fuse = fuse < 0 ? -1 : fuse - 1;
                bytes.add(one);
            }
            return true;
        }

        List<Integer> record(int place) {
            return bytes.subList(16 * place, 16 * place + 16);
        }

        int whole() {
            return bytes.size() / 16;
        }

        void cut(int records) {
            bytes.subList(16 * records, bytes.size()).clear();
        }

        int lastTerm() {
            return whole() == 0 ? 0 : record(whole() - 1).get(1) * 256 + record(whole() - 1).get(2);
        }
    }

    private static final class Sh {
        final int s;
        Disk[] disks;
        int leader;
        int term;
        private final List<Rec> done = new ArrayList<>();
        private final List<List<Rec>> histories = new ArrayList<>();
        private final View[] views = new View[16];
        final int[] since = new int[16];
        final int[] tries = new int[16];
        final int[] token = new int[16];
        final int[] until = new int[16];

        Sh(int s, int n) {
            this.s = s;
            disks = new Disk[n];
            for (int r = 0; r < n; r++) {
                disks[r] = new Disk();
            }
        }

        boolean works() {
            return leader >= 0;
        }

        boolean most() {
            return 2 * Arrays.stream(disks).filter(d -> d.up).count() > disks.length;
        }

        void add(Rec r) {
            done.add(r);
            if (r.kind == 0) {
                histories.add(new ArrayList<>());
            }
            if (r.kind < 13) {
                histories.get(r.n).add(r);
                views[r.n] = null;
            }
        }

        void clear() {
            done.clear();
            histories.clear();
        }

        int count() {
            return histories.size();
        }

        List<Rec> events(int n) {
            return histories.get(n);
        }

        int withOrigin(int origin) {
            for (int n = 0; n < count(); n++) {
                if (events(n).get(0).c == origin) {
                    return n;
                }
            }
            return -1;
        }

        List<Message> outbox() {
            Set<Integer> gone = new HashSet<>();
            done.stream().filter(r -> r.kind == 14).forEach(r -> gone.add(r.a));
            int[] seen = new int[16];
            List<Message> all = new ArrayList<>();
            for (int place = 0; place < done.size(); place++) {
                Rec r = done.get(place);
                if (r.kind < 13) {
                    boolean end = r.kind >= 10 && events(r.n).get(0).c < 0;
                    if ((r.kind == 6 || r.kind == 9 || end) && !gone.contains(place)) {
                        all.add(new Message(place, r.n, seen[r.n]));
                    }
                    seen[r.n]++;
                }
            }
            return all;
        }
    }

    /** A workflow as its events make it. */
    private static final class View {
        final int[] locals = new int[8];
        int phase = 5;
        int outcome;
        int taken;
        int children;
        int due;
        int wantKind = -1;
        int wantA;
        int wantB;

        void want(int kind, int a, int b) {
            wantKind = kind;
            wantA = a;
            wantB = b;
        }
    }

    private final StringBuilder tape = new StringBuilder();
    private final List<List<List<String>>> programs = new ArrayList<>();
    private final Sh[] shards = new Sh[4];
    private int faultAt = -1;
    private int clock;
    private int tokens;

    Model() {
        for (int p = 0; p < 8; p++) {
            programs.add(new ArrayList<>());
        }
        for (int s = 0; s < 4; s++) {
            shards[s] = new Sh(s, 3);
        }
    }

    // ---- The tape ----

    boolean type(long word, int n) {
        if (n < 1 || n > 8 || tape.length() + n > 300) {
            return false;
        }
        String more = "";
        long rest = word;
        for (int i = 0; i < n; i++) {
            more = (char) (rest & 255) + more;
            rest >>= 8;
        }
        if (!more.chars().allMatch(c -> c >= 33 && c <= 126)) {
            return false;
        }
        tape.append(more);
        return true;
    }

    private static final String VALUE = "(?:[a-h]|-?[0-9]{1,5})";
    private static final Pattern STEP = Pattern.compile("(?:[0-9]:)?(?:[a-h]=(?:V(?:[-+*<=]V)?|A[0-9]\\(V\\)|W|C[0-7]"
        .concat("\\(V\\)|J\\(V\\))|[TE]\\(V\\)|S\\(V,V\\)|I\\(V\\)[0-9]|G[0-9]);").replace("V", VALUE));

    private static final Pattern SUM = Pattern.compile("(V)(?:([-+*<=])(V))?".replace("V", VALUE));
    private static final Pattern LABEL = Pattern.compile("^[0-9]:");

    int program(int p) {
        String text = tape.toString();
        tape.setLength(0);
        faultAt = -1;
        if (p < 0 || p > 7) {
            throw new IndexOutOfBoundsException();
        }
        List<String> steps = new ArrayList<>();
        faultAt = findFault(text, steps);
        if (faultAt >= 0) {
            throw new IllegalArgumentException();
        }
        programs.get(p).add(steps);
        return steps.size();
    }

    private static int findFault(String text, List<String> steps) {
        Set<Character> labels = new HashSet<>();
        int at = 0;
        while (at < text.length()) {
            char first = text.charAt(at);
            if (steps.size() == 60 || Character.isDigit(first) && !labels.add(first)) {
                return at;
            }
            int end = text.indexOf(';', at) < 0 ? text.length() : text.indexOf(';', at) + 1;
            for (int to = at + 1; to <= end; to++) {
                Matcher m = STEP.matcher(text.substring(at, to));
                if (!m.matches() && !m.hitEnd()) {
                    return to - 1;
                }
            }
            if (!STEP.matcher(text.substring(at, end)).matches()) {
                return end;
            }
            steps.add(text.substring(at, end - 1));
            at = end;
        }
        Matcher jump = Pattern.compile("(?:I\\([^;]*\\)|G)([0-9]);").matcher(text);
        while (jump.find()) {
            if (!labels.contains(jump.group(1).charAt(0))) {
                return jump.start(1);
            }
        }
        return -1;
    }

    int fault() {
        return faultAt;
    }

    // ---- A workflow from its events ----

    private int value(View v, String text) {
        char c = text.charAt(0);
        return c >= 'a' && c <= 'h' ? v.locals[c - 'a'] : Integer.parseInt(text);
    }

    private View view(Sh sh, int n) {
        if (sh.views[n] == null) {
            sh.views[n] = reckonView(sh.events(n));
        }
        return sh.views[n];
    }

    private View reckonView(List<Rec> events) {
        Rec first = events.get(0);
        List<String> steps = programs.get(first.a % 8).get(first.a / 8);
        View v = new View();
        v.locals[0] = first.b;
        int pos = 1;
        int pc = 0;
        int walked = 0;
        while (true) {
            int kindWanted;
            String body = "";
            String goal = "";
            if (pc == steps.size()) {
                v.want(10, 0, 0);
            } else if (walked == 200) {
                v.want(12, -1, 0);
            } else {
                body = LABEL.matcher(steps.get(pc)).replaceFirst("");
                if (body.charAt(1) == '=') {
                    goal = body.substring(0, 1);
                    body = body.substring(2);
                }
                wish(v, body, first.c < 0);
            }
            kindWanted = v.wantKind;
            if (kindWanted >= 0) {
                if (pos == events.size()) {
                    return v;
                }
                Rec e = events.get(pos++);
                if (e.kind >= 10) {
                    return ended(v, e);
                }
                if (e.kind != kindWanted) {
                    throw new IllegalStateException("event " + e + " where " + kindWanted + " was due");
                }
                v.wantKind = -1;
                walked++;
                if (kindWanted == 6) {
                    v.locals[goal.charAt(0) - 'a'] = v.children++;
                } else if (kindWanted != 9) {
                    v.phase = kindWanted == 1 ? 0 : 1;
                    v.due = e.a;
                    while (pos < events.size() && !List.of(2, 3, 5, 10, 11, 12).contains(events.get(pos).kind)) {
                        pos++;
                    }
                    if (pos == events.size()) {
                        return v;
                    }
                    Rec w = events.get(pos++);
                    if (w.kind >= 10) {
                        return ended(v, w);
                    }
                    if (kindWanted == 1) {
                        v.locals[goal.charAt(0) - 'a'] = w.a;
                    }
                    v.phase = 5;
                    walked = 0;
                }
                pc++;
                continue;
            }
            walked++;
            if (body.charAt(0) == 'G' || body.charAt(0) == 'I') {
                boolean goes = body.charAt(0) == 'G' || value(v, body.substring(2, body.length() - 2)) != 0;
                String label = body.substring(body.length() - 1) + ":";
                pc++;
                for (int i = 0; goes && i < steps.size(); i++) {
                    pc = steps.get(i).startsWith(label) ? i : pc;
                }
                continue;
            }
            if (body.equals("W") || body.charAt(0) == 'J') {
                boolean w = body.equals("W");
                int child = w ? -1 : value(v, body.substring(2, body.length() - 1));
                int got = -1;
                if (!w && (child < 0 || child >= v.children)) {
                    v.locals[goal.charAt(0) - 'a'] = -1;
                    pc++;
                    continue;
                }
                int skip = v.taken;
                for (int i = 0; i < pos && got < 0; i++) {
                    Rec e = events.get(i);
                    if (w && e.kind == 8) {
                        got = skip-- == 0 ? i : -1;
                    } else if (!w && e.kind == 7 && e.a == child) {
                        got = i;
                    }
                }
                if (got < 0) {
                    walked = 0;
                    v.phase = w ? 2 : 3;
                    for (; pos < events.size() && got < 0; pos++) {
                        Rec e = events.get(pos);
                        if (e.kind >= 10) {
                            return ended(v, e);
                        }
                        got = w && e.kind == 8 || !w && e.kind == 7 && e.a == child ? pos : -1;
                    }
                    if (got < 0) {
                        return v;
                    }
                    v.phase = 5;
                }
                v.taken += w ? 1 : 0;
                v.locals[goal.charAt(0) - 'a'] = w ? events.get(got).a : events.get(got).b;
                pc++;
                continue;
            }
            if (body.charAt(0) != 'S') {
                v.locals[goal.charAt(0) - 'a'] = reckon(v, body);
            }
            pc++;
        }
    }

    private static View ended(View v, Rec e) {
        v.wantKind = -1;
        v.phase = 4;
        v.outcome = e.a;
        return v;
    }

    private void wish(View v, String body, boolean hasParent) {
        String inside = body.indexOf('(') < 0 ? "" : body.substring(body.indexOf('(') + 1, body.lastIndexOf(')'));
        switch (body.charAt(0)) {
            case 'A' -> v.want(1, body.charAt(1) - '0', value(v, inside));
            case 'T' -> v.want(4, clock + Math.max(0, value(v, inside)), 0);
            case 'C' -> v.want(6, body.charAt(1) - '0', value(v, inside));
            case 'E' -> v.want(10, value(v, inside), 0);
            case 'S' -> {
                int x = value(v, inside.split(",")[0]);
                if (x == -1 && hasParent || x >= 0 && x < v.children) {
                    v.want(9, x, value(v, inside.split(",")[1]));
                }
            }
            default -> { }
        }
    }

    private int reckon(View v, String body) {
        Matcher m = SUM.matcher(body);
        if (!m.matches()) {
            throw new IllegalStateException(body);
        }
        int x = value(v, m.group(1));
        if (m.group(2) == null) {
            return x;
        }
        int y = value(v, m.group(3));
        return switch (m.group(2)) {
            case "+" -> x + y;
            case "-" -> x - y;
            case "*" -> x * y;
            case "<" -> x < y ? 1 : 0;
            default -> x == y ? 1 : 0;
        };
    }

    // ---- Records and elections ----

    private void commit(Sh sh, int kind, int n, int a, int b, int c) throws NotDone {
        List<Integer> bytes = new ArrayList<>(List.of(16 * n + kind, sh.term / 256 % 256, sh.term % 256));
        for (int word : new int[] {a, b, c}) {
            bytes.addAll(List.of(word >>> 24, word >>> 16 & 255, word >>> 8 & 255, word & 255));
        }
        bytes.add(1);
        int whole = 0;
        if (sh.disks[sh.leader].writeAll(bytes)) {
            whole = 1;
            for (int r = 0; r < sh.disks.length; r++) {
                if (r != sh.leader && sh.disks[r].up && sh.disks[r].writeAll(bytes)) {
                    whole++;
                }
            }
        }
        if (2 * whole > sh.disks.length) {
            sh.add(new Rec(kind, n, sh.term, a, b, c));
            return;
        }
        loseLeader(sh);
        throw new NotDone();
    }

    private void loseLeader(Sh sh) {
        sh.leader = -1;
        Arrays.fill(sh.token, 0);
        elect(sh);
    }

    private void elect(Sh sh) {
        if (sh.works() || !sh.most()) {
            return;
        }
        sh.term++;
        for (int r = 0; r < sh.disks.length; r++) {
            if (sh.disks[r].up && (sh.leader < 0 || better(sh.disks[r], sh.disks[sh.leader]))) {
                sh.leader = r;
            }
        }
        for (int r = 0; r < sh.disks.length; r++) {
            if (sh.disks[r].up && r != sh.leader) {
                alike(sh, sh.disks[r]);
            }
        }
        try {
            commit(sh, 13, 0, sh.leader, 0, 0);
        } catch (NotDone e) {
            return;
        }
        readLog(sh);
        int term = sh.term;
        for (int n = 0; n < sh.count() && sh.works() && sh.term == term; n++) {
            goOn(sh, n);
        }
    }

    private static boolean better(Disk one, Disk two) {
        return one.lastTerm() > two.lastTerm() || one.lastTerm() == two.lastTerm() && one.whole() > two.whole();
    }

    private static void alike(Sh sh, Disk disk) {
        Disk log = sh.disks[sh.leader];
        int same = 0;
        while (same < disk.whole() && same < log.whole() && disk.record(same).equals(log.record(same))) {
            same++;
        }
        disk.cut(same);
        disk.writeAll(new ArrayList<>(log.bytes.subList(16 * same, log.bytes.size())));
    }

    private void readLog(Sh sh) {
        Disk log = sh.disks[sh.leader];
        sh.clear();
        for (int place = 0; place < log.whole(); place++) {
            int[] b = log.record(place).stream().mapToInt(i -> i).toArray();
            sh.add(new Rec(b[0] % 16, b[0] / 16, b[1] * 256 + b[2], word(b, 3), word(b, 7), word(b, 11)));
        }
        for (Rec r : sh.done) {
            if (r.kind == 1) {
                sh.tries[r.n] = 1;
                sh.since[r.n] = clock;
            } else if (r.kind == 15) {
                sh.tries[r.n] = r.a;
                sh.since[r.n] = Math.max(clock, r.b);
            }
        }
    }

    private static int word(int[] b, int i) {
        return b[i] << 24 | b[i + 1] << 16 | b[i + 2] << 8 | b[i + 3];
    }

    private void happen(Sh sh, int n, int kind, int a, int b, int c) throws NotDone {
        if (kind < 10 && sh.events(n).size() == 59) {
            happen(sh, n, 12, -1, 0, 0);
            return;
        }
        commit(sh, kind, n, a, b, c);
        if (kind == 1) {
            sh.tries[n] = 1;
            sh.since[n] = clock;
        }
        if (kind == 2 || kind == 3 || kind >= 10) {
            sh.token[n] = 0;
        }
    }

    private void goOn(Sh sh, int n) {
        try {
            for (View v = view(sh, n); v.wantKind >= 0; v = view(sh, n)) {
                happen(sh, n, v.wantKind, v.wantA, v.wantB, 0);
            }
        } catch (NotDone e) {
            // An election, if there could be one, has seen to it that it went on.
        }
    }

    private boolean bring(Sh sh, int n, int kind, int a, int b, int c) {
        try {
            happen(sh, n, kind, a, b, c);
        } catch (NotDone e) {
            return false;
        }
        goOn(sh, n);
        return true;
    }

    private boolean begin(Sh sh, int p, int argument, int origin) {
        int n = sh.count();
        try {
            commit(sh, 0, n, p + 8 * (programs.get(p).size() - 1), argument, origin);
        } catch (NotDone e) {
            return false;
        }
        sh.token[n] = 0;
        goOn(sh, n);
        return true;
    }

    private boolean failTask(Sh sh, int n) {
        int tries = sh.tries[n] + 1;
        if (tries == 5) {
            return bring(sh, n, 3, -1, 0, 0);
        }
        int since = clock + (int) Math.pow(2, tries - 1);
        try {
            commit(sh, 15, n, tries, since, 0);
        } catch (NotDone e) {
            return false;
        }
        sh.tries[n] = tries;
        sh.since[n] = since;
        sh.token[n] = 0;
        return true;
    }

    // ---- The face ----

    private boolean there(int w) {
        return w >= 0 && w / 4 < shards[w % 4].count();
    }

    int start(int request, int p, int argument) {
        if (request < 0 || !shards[request % 4].works()) {
            return -1;
        }
        Sh sh = shards[request % 4];
        if (sh.withOrigin(request) >= 0) {
            return sh.s + 4 * sh.withOrigin(request);
        }
        if (p < 0 || p > 7 || programs.get(p).isEmpty() || sh.count() == 16) {
            return -1;
        }
        int n = sh.count();
        return begin(sh, p, argument, request) ? sh.s + 4 * n : -1;
    }

    boolean signal(int request, int w, int v) {
        if (request < 0 || !there(w) || !shards[w % 4].works()) {
            return false;
        }
        Sh sh = shards[w % 4];
        if (sh.events(w / 4).stream().anyMatch(e -> e.kind == 8 && e.c == request)) {
            return true;
        }
        return view(sh, w / 4).phase != 4 && bring(sh, w / 4, 8, v, 0, request);
    }

    boolean cancel(int w) {
        return there(w) && shards[w % 4].works() && view(shards[w % 4], w / 4).phase != 4
            && bring(shards[w % 4], w / 4, 11, -2, 0, 0);
    }

    int query(int w, int v) {
        if (!there(w) || v < 0 || v > 7) {
            throw new NoSuchElementException();
        }
        if (!shards[w % 4].works()) {
            throw new IllegalStateException();
        }
        return view(shards[w % 4], w / 4).locals[v];
    }

    private boolean hasTask(Sh sh, int n) {
        return view(sh, n).phase == 0;
    }

    private int taskKind(Sh sh, int n, boolean x) {
        List<Rec> works = sh.events(n).stream().filter(e -> e.kind == 1).toList();
        Rec last = works.get(works.size() - 1);
        return x ? last.b : last.a;
    }

    int poll(int kind) {
        int best = -1;
        for (int w = 63; w >= 0; w--) {
            Sh sh = shards[w % 4];
            int n = w / 4;
            if (there(w) && sh.works() && hasTask(sh, n) && sh.token[n] == 0 && taskKind(sh, n, false) == kind
                && sh.since[n] <= clock && (best < 0 || sh.since[n] <= shards[best % 4].since[best / 4])) {
                best = w;
            }
        }
        if (best < 0) {
            return -1;
        }
        shards[best % 4].token[best / 4] = ++tokens;
        shards[best % 4].until[best / 4] = clock + 10;
        return tokens;
    }

    private int leased(int token) {
        for (int w = 0; w < 64 && token > 0; w++) {
            if (there(w) && shards[w % 4].token[w / 4] == token) {
                return w;
            }
        }
        return -1;
    }

    boolean beat(int token) {
        int w = leased(token);
        if (w >= 0) {
            shards[w % 4].until[w / 4] = clock + 10;
        }
        return w >= 0;
    }

    boolean finish(int token, int value) {
        int w = leased(token);
        return w >= 0 && bring(shards[w % 4], w / 4, 2, value, 0, 0);
    }

    boolean fail(int token) {
        int w = leased(token);
        return w >= 0 && failTask(shards[w % 4], w / 4);
    }

    int task(int token, int what) {
        int w = leased(token);
        if (w < 0 || what < 0 || what > 3) {
            return -1;
        }
        Sh sh = shards[w % 4];
        return new int[] {w, taskKind(sh, w / 4, true), sh.tries[w / 4], sh.until[w / 4]}[what];
    }

    int tick(int n) {
        if (n < 1 || n > 500) {
            throw new IllegalArgumentException();
        }
        for (int i = 0; i < n; i++) {
            clock++;
            for (Sh sh : shards) {
                for (int m = 0; sh.works() && m < sh.count(); m++) {
                    View v = view(sh, m);
                    if (v.phase == 1 && v.due <= clock) {
                        bring(sh, m, 5, clock, 0, 0);
                    }
                }
                for (int m = 0; sh.works() && m < sh.count(); m++) {
                    if (sh.token[m] > 0 && sh.until[m] <= clock) {
                        failTask(sh, m);
                    }
                }
            }
            for (Sh sh : shards) {
                List<Message> all = sh.works() ? sh.outbox() : List.of();
                for (Message m : all) {
                    if (sh.works() && sh.outbox().contains(m) && deliver(sh, m) && sh.works()) {
                        try {
                            commit(sh, 14, 0, m.place, 0, 0);
                        } catch (NotDone e) {
                            continue;
                        }
                    }
                }
            }
        }
        return clock;
    }

    private boolean deliver(Sh from, Message m) {
        List<Rec> mine = from.events(m.n);
        Rec e = mine.get(m.k);
        int w = from.s + 4 * m.n;
        int up = -1 - mine.get(0).c;
        List<Rec> births = mine.stream().filter(b -> b.kind == 6).toList();
        if (e.kind == 6) {
            int child = (int) mine.subList(0, m.k).stream().filter(b -> b.kind == 6).count();
            Sh to = shards[(from.s + e.a) % 4];
            if (!to.works()) {
                return false;
            }
            int origin = -1 - (64 * w + child);
            if (to.withOrigin(origin) >= 0 || mine.stream().anyMatch(b -> b.kind == 7 && b.a == child)) {
                return true;
            }
            if (to.count() < 16 && !programs.get(e.a).isEmpty()) {
                return begin(to, e.a, e.b, origin);
            }
            return view(from, m.n).phase == 4 || bring(from, m.n, 7, child, -3, 0);
        }
        if (e.kind == 9) {
            Sh to = e.a < 0 ? shards[up / 64 % 4] : shards[(from.s + births.get(e.a).a) % 4];
            if (!to.works()) {
                return false;
            }
            int n = e.a < 0 ? up / 64 / 4 : to.withOrigin(-1 - (64 * w + e.a));
            int origin = -1 - (64 * w + m.k);
            if (n < 0 || n >= to.count() || view(to, n).phase == 4
                || to.events(n).stream().anyMatch(b -> b.kind == 8 && b.c == origin)) {
                return true;
            }
            return bring(to, n, 8, e.b, 0, origin);
        }
        Sh to = shards[up / 64 % 4];
        if (!to.works()) {
            return false;
        }
        int n = up / 64 / 4;
        if (n >= to.count() || view(to, n).phase == 4
            || to.events(n).stream().anyMatch(b -> b.kind == 7 && b.a == up % 64)) {
            return true;
        }
        return bring(to, n, 7, up % 64, e.a, 0);
    }

    private boolean noDisk(int s, int r) {
        return s < 0 || s > 3 || r < 0 || r >= shards[s].disks.length;
    }

    boolean replicas(int shard, int n) {
        if (shard < 0 || shard > 3 || n < 3 || n > 5 || shards[shard].term != 0
            || Arrays.stream(shards[shard].disks).anyMatch(d -> d.whole() > 0)) {
            return false;
        }
        shards[shard] = new Sh(shard, n);
        return true;
    }

    boolean power(int shard, int replica, boolean up) {
        if (noDisk(shard, replica) || shards[shard].disks[replica].up == up) {
            return false;
        }
        Sh sh = shards[shard];
        Disk disk = sh.disks[replica];
        disk.up = up;
        if (up) {
            disk.cut(disk.whole());
            if (sh.works()) {
                alike(sh, disk);
            } else {
                elect(sh);
            }
        } else {
            disk.fuse = -1;
            if (replica == sh.leader || !sh.most()) {
                loseLeader(sh);
            }
        }
        return true;
    }

    boolean fuse(int shard, int replica, int bytes) {
        if (noDisk(shard, replica) || !shards[shard].disks[replica].up || bytes < 0 || bytes > 100000) {
            return false;
        }
        shards[shard].disks[replica].fuse = bytes;
        return true;
    }

    int workflow(int w, int what) {
        if (!there(w) || what < 0 || what > 6) {
            return -1;
        }
        View v = view(shards[w % 4], w / 4);
        List<Rec> events = shards[w % 4].events(w / 4);
        Rec first = events.get(0);
        int signals = (int) events.stream().filter(e -> e.kind == 8).count();
        return new int[] {v.phase, v.outcome, events.size(), first.a % 8, v.children, signals - v.taken,
            first.c < 0 ? (-1 - first.c) / 64 : -1}[what];
    }

    int event(int w, int k, int what) {
        if (!there(w) || k < 0 || k >= shards[w % 4].events(w / 4).size()) {
            throw new NoSuchElementException();
        }
        if (what < 0 || what > 3) {
            throw new IndexOutOfBoundsException();
        }
        Rec e = shards[w % 4].events(w / 4).get(k);
        return new int[] {e.kind, e.a, e.b, e.c}[what];
    }

    int shard(int s, int what) {
        if (s < 0 || s > 3 || what < 0 || what > 6) {
            return -1;
        }
        Sh sh = shards[s];
        int tasks = 0;
        int leases = 0;
        for (int n = 0; n < sh.count(); n++) {
            tasks += hasTask(sh, n) ? 1 : 0;
            leases += sh.token[n] > 0 ? 1 : 0;
        }
        return new int[] {sh.leader, sh.term, sh.disks.length, sh.count(), sh.outbox().size(), tasks, leases}[what];
    }

    int replica(int s, int r, int what) {
        if (noDisk(s, r) || what < 0 || what > 3) {
            return -1;
        }
        Disk d = shards[s].disks[r];
        return new int[] {d.up ? 1 : 0, d.whole(), d.bytes.size() % 16, d.fuse}[what];
    }

    int disk(int s, int r, int block, int i) {
        if (noDisk(s, r) || i < 0 || i > 511 || block < 0 || block * 512L >= shards[s].disks[r].bytes.size()) {
            return -1;
        }
        List<Integer> bytes = shards[s].disks[r].bytes;
        return block * 512 + i < bytes.size() ? bytes.get(block * 512 + i) : 0;
    }
}
