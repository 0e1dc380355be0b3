import java.util.Arrays;

/** A tower town where a girl's hand goes by ringing; every refusal is an answer far below all that is counted. */
public final class BellSuitors {
    public static final int NONE = -1, UNKNOWN = -1000000001, OUTSIDE = -1000000002, NOT = -1000000003, FULL = -1000000004;

    private static final int FINE = 0;
    private static final int MOST_BELLS = 6;
    private static final int FEWEST_BELLS = 3;
    private static final int MOST_CHANGES = 12;
    private static final int MOST_LETTERS = 240;
    private static final int MOST_RUNG_AT_ONCE = 200;
    private static final int MOST_DRIFTED_AT_ONCE = 60;
    private static final int RUNG_ENOUGH = 9000;
    private static final int MOST_TRIED = 500;
    private static final int MOST_TO_ROUNDS = 1000;
    private static final int MOST_ROWS = 720;
    private static final int MOST_LEADS = 8;
    private static final int MOST_HEARD = 6;
    private static final int LISTENED = 100;
    private static final int MOST_WRITTEN = 15;
    private static final int MOST_EVENINGS = 60;
    private static final int HUNDRED = 100;
    private static final int BILLION = 1000000000;
    private static final int IMAGES = 2;
    private static final int ODDS_OF_A_DRAW = 8;
    private static final long SEED_BITS = 2147483647L;

    private Tower tower = new Tower();
    private Tower draft = new Tower();
    private final Text text = new Text();
    private final Evening evening = new Evening();
    private final Past past = new Past();
    private final Evening[] images = new Evening[IMAGES];
    private final int[] imageSeeds = new int[IMAGES];
    private int imagesKept = 0;
    private final Seen seen = new Seen();
    private final Touches touches = new Touches();
    private final RopeSharing sharing = new RopeSharing();
    private final Walk trial = new Walk();
    private final Change tried = new Change();
    private final Notebook notebook = new Notebook();
    private int faultAt = NONE;
    private int seedNow = 0;

    public BellSuitors() {
        for (int i = 0; i < IMAGES; i++) {
            images[i] = new Evening();
        }
    }

    // ---- the tower

    public int feed(int letter) {
        if (letter < 0 || letter > 255) {
            return OUTSIDE;
        }
        return text.add(letter) ? text.length : FULL;
    }

    public int tower() {
        int wrong = text.readInto(draft);
        faultAt = text.faultAt;
        if (wrong != FINE) {
            return -10 - wrong;
        }
        Tower old = tower;
        tower = draft;
        draft = old;
        evening.begin(tower);
        notebook.empty(tower);
        past.forget();
        imagesKept = 0;
        return tower.bells;
    }

    public int fault() {
        return faultAt;
    }

    public int told(int what) {
        switch (what) {
            case 0: return tower.bells;
            case 1: return tower.changes;
            case 2: return tower.suitors;
            case 3: return text.length;
            case 4: return evening.rung;
            case 5: return figuresNow();
            case 6: return evening.out;
            case 7: return evening.wed(tower);
            case 8: return evening.walk.called ? 1 : 0;
            case 9: return evening.isWet ? 1 : 0;
            case 10: return evening.walk.come;
            case 11: return notebook.heard;
            case 12: return notebook.late;
            case 13: return notebook.written;
            case 14: return past.kept;
            default: return OUTSIDE;
        }
    }

    public int method(int i) {
        if (!tower.stands()) {
            return NOT;
        }
        if (i == NONE) {
            return tower.theCall.set;
        }
        return i >= 0 && i < tower.changes ? tower.changeAt(i).set : NONE;
    }

    public int bell(int b, int what) {
        if (!tower.hasBell(b)) {
            return UNKNOWN;
        }
        switch (what) {
            case 0: return tower.weightOf(b);
            case 1: return Rows.placeOf(evening.walk.row, b, tower.bells);
            case 2: return evening.suitorOf(b, tower);
            default: return OUTSIDE;
        }
    }

    public int suitor(int r, int what) {
        if (!tower.hasSuitor(r)) {
            return UNKNOWN;
        }
        switch (what) {
            case 0: return tower.strengthOf(r);
            case 1: return evening.ropeOf(r);
            case 2: return evening.tirednessOf(r);
            case 3: return evening.isOut(r) ? 1 : 0;
            default: return OUTSIDE;
        }
    }

    // ---- what is done

    public int ring(int n) {
        int refusal = refuseToRing(n, MOST_RUNG_AT_ONCE);
        if (refusal != FINE) {
            return refusal;
        }
        past.remember(evening);
        for (int i = 0; i < n; i++) {
            evening.ringNext(tower);
        }
        return figuresNow();
    }

    public int call() {
        if (!tower.stands() || evening.walk.called) {
            return NOT;
        }
        past.remember(evening);
        evening.walk.called = true;
        return evening.walk.come;
    }

    public int swap(int r, int q) {
        if (!tower.hasSuitor(r) || !tower.hasSuitor(q) || r == q) {
            return UNKNOWN;
        }
        past.remember(evening);
        evening.changeRopes(r, q);
        return evening.ropeOf(r);
    }

    public int stand() {
        if (!tower.stands()) {
            return NOT;
        }
        int ahead = figuresNow();
        past.remember(evening);
        evening.standAgain(tower);
        return ahead;
    }

    public int wet(boolean is) {
        if (!tower.stands()) {
            return NOT;
        }
        int was = evening.isWet ? 1 : 0;
        past.remember(evening);
        evening.isWet = is;
        return was;
    }

    public int forgive(int r) {
        if (!tower.hasSuitor(r)) {
            return UNKNOWN;
        }
        if (!evening.isOut(r)) {
            return NOT;
        }
        past.remember(evening);
        evening.out &= ~(1 << r);
        return evening.out;
    }

    public int drift(int n) {
        int refusal = refuseToRing(n, MOST_DRIFTED_AT_ONCE);
        if (refusal != FINE) {
            return refusal;
        }
        past.remember(evening);
        for (int i = 0; i < n; i++) {
            letChanceAct();
            evening.ringNext(tower);
        }
        return figuresNow();
    }

    public int undo() {
        return past.restore(evening) ? past.kept : NOT;
    }

    // ---- tried

    public int rowAt(int n) {
        if (n < 0 || n > MOST_TRIED) {
            return OUTSIDE;
        }
        if (!tower.stands()) {
            return NOT;
        }
        return Rows.figures(rowBehind(n), tower.bells);
    }

    public int placeAt(int b, int n) {
        if (!tower.hasBell(b)) {
            return UNKNOWN;
        }
        if (n < 0 || n > MOST_TRIED) {
            return OUTSIDE;
        }
        return Rows.placeOf(rowBehind(n), b, tower.bells);
    }

    public int round() {
        if (!tower.stands()) {
            return NOT;
        }
        int rounds = Rows.rounds(tower.bells);
        trial.copyFrom(evening.walk);
        for (int n = 1; n <= MOST_TO_ROUNDS; n++) {
            trial.step(tower);
            if (trial.row == rounds) {
                return n;
            }
        }
        return NONE;
    }

    public int trueFor() {
        if (!tower.stands()) {
            return NOT;
        }
        trial.copyFrom(evening.walk);
        seen.clear();
        seen.add(trial.row);
        for (int n = 0; n < MOST_ROWS; n++) {
            trial.step(tower);
            if (!seen.add(trial.row)) {
                return n;
            }
        }
        return MOST_ROWS;
    }

    public int touch(int n, int what) {
        if (n < 1 || n > MOST_LEADS || what < 0 || what > 1) {
            return OUTSIDE;
        }
        if (!tower.stands()) {
            return NOT;
        }
        touches.search(tower, seen, n);
        return what == 0 ? touches.count : touches.first;
    }

    public int ropes(int r) {
        if (r != NONE && !tower.hasSuitor(r)) {
            return UNKNOWN;
        }
        sharing.share(tower);
        return r == NONE ? sharing.leastTogether(tower) : sharing.bellFor(r);
    }

    public int last(int b, int n) {
        if (!tower.hasBell(b)) {
            return UNKNOWN;
        }
        if (n < 1 || n > MOST_TRIED) {
            return OUTSIDE;
        }
        int often = 0;
        trial.copyFrom(evening.walk);
        for (int i = 0; i < n; i++) {
            trial.step(tower);
            if (Rows.bellIn(trial.row, tower.bells - 1) == b) {
                often++;
            }
        }
        return often;
    }

    public int nextOut() {
        if (!tower.stands()) {
            return NONE;
        }
        trial.copyFrom(evening.walk);
        for (int i = 0; i < MOST_TRIED; i++) {
            trial.step(tower);
            int loser = trial.endsLead() ? evening.loserBy(trial.row, tower) : NONE;
            if (loser != NONE) {
                return loser;
            }
        }
        return NONE;
    }

    public int change(int row, int other) {
        int from = Rows.fromFigures(row, tower.bells);
        int to = Rows.fromFigures(other, tower.bells);
        if (from == NONE || to == NONE) {
            return OUTSIDE;
        }
        int alike = Rows.placesAlike(from, to, tower.bells);
        if (!tried.become(alike, tower.bells)) {
            return NONE;
        }
        return tried.next(from) == to ? alike : NONE;
    }

    public int follow() {
        if (!tower.stands()) {
            return NOT;
        }
        int count = 0;
        for (int set = 0; set < tower.allPlaces(); set++) {
            if (Change.firstsOf(set, tower.bells) != NONE) {
                count++;
            }
        }
        return count;
    }

    public int gap(int b, int n) {
        if (!tower.hasBell(b)) {
            return UNKNOWN;
        }
        if (n < 1 || n > MOST_TRIED) {
            return OUTSIDE;
        }
        int unlike = 1;
        trial.copyFrom(evening.walk);
        seen.clear();
        seen.add(Rows.without(trial.row, b, tower.bells));
        for (int i = 0; i < n; i++) {
            trial.step(tower);
            if (seen.add(Rows.without(trial.row, b, tower.bells))) {
                unlike++;
            }
        }
        return unlike;
    }

    public int dry(int n, int q) {
        if (n < 0 || n > MOST_EVENINGS || q < 0 || q > HUNDRED) {
            return OUTSIDE;
        }
        long odds = BILLION;
        for (int i = 0; i < n; i++) {
            odds = odds * q / HUNDRED;
        }
        return (int) odds;
    }

    // ---- what is heard

    public int hear(int n, int row) {
        int heard = Rows.fromFigures(row, tower.bells);
        if (n < 0 || n > MOST_TRIED || heard == NONE) {
            return OUTSIDE;
        }
        if (notebook.heard >= MOST_HEARD) {
            return FULL;
        }
        notebook.hearAs(plainRowBehind(n), heard, tower);
        return notebook.heard;
    }

    public int listen() {
        if (!tower.stands()) {
            return NOT;
        }
        int best = NONE;
        int least = Integer.bitCount(notebook.late);
        trial.begin(tower);
        // A greatest part of one cannot be bettered, so the look ahead ends there.
        for (int n = 0; n < LISTENED && least > 1; n++) {
            int greatest = notebook.greatestPartAlike(trial.row, tower);
            if (greatest < least) {
                least = greatest;
                best = n;
            }
            trial.step(tower);
        }
        return best;
    }

    public int write(int b, int place) {
        if (!tower.hasBell(b) || !tower.hasBell(place)) {
            return UNKNOWN;
        }
        return notebook.enter(b, place) ? notebook.written : FULL;
    }

    public int tear() {
        int both = notebook.heard + notebook.written;
        notebook.empty(tower);
        return both;
    }

    public int judge() {
        return notebook.firstWrong(evening.walk.row, tower);
    }

    // ---- draws, images

    public int seed(int v) {
        if (v < 0) {
            return OUTSIDE;
        }
        int was = seedNow;
        seedNow = v;
        return was;
    }

    public int keep(int i) {
        if (i < 0 || i >= IMAGES) {
            return UNKNOWN;
        }
        images[i].copyFrom(evening);
        imageSeeds[i] = seedNow;
        imagesKept |= 1 << i;
        past.forget();
        return 1;
    }

    public int goBack(int i) {
        if (i < 0 || i >= IMAGES) {
            return UNKNOWN;
        }
        if ((imagesKept >> i & 1) == 0) {
            return NOT;
        }
        evening.copyFrom(images[i]);
        seedNow = imageSeeds[i];
        past.forget();
        return 1;
    }

    // ---- helpers of the face

    private int figuresNow() {
        return Rows.figures(evening.walk.row, tower.bells);
    }

    private int refuseToRing(int n, int most) {
        if (n < 1 || n > most) {
            return OUTSIDE;
        }
        if (!tower.stands()) {
            return NOT;
        }
        return evening.rung > RUNG_ENOUGH ? FULL : FINE;
    }

    private int rowBehind(int n) {
        trial.copyFrom(evening.walk);
        return stepTrial(n);
    }

    private int plainRowBehind(int n) {
        trial.begin(tower);
        return stepTrial(n);
    }

    private int stepTrial(int n) {
        for (int i = 0; i < n; i++) {
            trial.step(tower);
        }
        return trial.row;
    }

    private int draw(int n) {
        seedNow = (int) ((seedNow * 1103515245L + 12345L) & SEED_BITS);
        return n > 0 ? seedNow / 65536 % n : 0;
    }

    private void letChanceAct() {
        switch (draw(ODDS_OF_A_DRAW)) {
            case 0:
                evening.walk.called = true;
                break;
            case 1:
                evening.isWet = !evening.isWet;
                break;
            case 2:
                changeRopesByDraws();
                break;
            default:
                break;
        }
    }

    private void changeRopesByDraws() {
        if (tower.suitors > 0) {
            int r = draw(tower.suitors);
            int q = draw(tower.suitors);
            evening.changeRopes(r, q);
        }
    }

    /** ROWS held in one int, three bits a PLACE, so that a CHANGE is a few masks and nothing is made while ringing. */
    private static final class Rows {
        static final int BITS = 3;
        static final int WHOLE = 7;

        static int rounds(int bells) {
            int row = 0;
            for (int p = 0; p < bells; p++) {
                row |= p << BITS * p;
            }
            return row;
        }

        static int bellIn(int row, int place) {
            return row >> BITS * place & WHOLE;
        }

        static int placeOf(int row, int bell, int bells) {
            for (int p = 0; p < bells; p++) {
                if (bellIn(row, p) == bell) {
                    return p;
                }
            }
            return NONE;
        }

        static int figures(int row, int bells) {
            int told = 0;
            for (int p = 0; p < bells; p++) {
                told = told * 10 + bellIn(row, p) + 1;
            }
            return told;
        }

        /** NONE: the figures tell no ROW (there is none without BELLS). */
        static int fromFigures(int told, int bells) {
            int row = 0;
            int met = 0;
            int rest = told;
            for (int p = bells - 1; p >= 0; p--) {
                int bell = rest % 10 - 1;
                if (bell < 0 || bell >= bells || (met >> bell & 1) != 0) {
                    return NONE;
                }
                met |= 1 << bell;
                row |= bell << BITS * p;
                rest /= 10;
            }
            return bells > 0 && rest == 0 ? row : NONE;
        }

        static int placesAlike(int row, int other, int bells) {
            int alike = 0;
            for (int p = 0; p < bells; p++) {
                if (bellIn(row, p) == bellIn(other, p)) {
                    alike |= 1 << p;
                }
            }
            return alike;
        }

        static int without(int row, int bell, int bells) {
            int place = placeOf(row, bell, bells);
            if (place == NONE) {
                return row;
            }
            int ahead = row & (1 << BITS * place) - 1;
            int behind = row >> BITS * (place + 1);
            return ahead | behind << BITS * place;
        }

        /** The ROW as it is heard, if this BELL strikes one PLACE later than it should. */
        static int withLate(int row, int bell, int bells) {
            int place = placeOf(row, bell, bells);
            if (place == NONE || place == bells - 1) {
                return row;
            }
            int both = (bellIn(row, place) ^ bellIn(row, place + 1)) << BITS * place;
            return row ^ both ^ both << BITS;
        }
    }

    private static final class Change {
        int set;
        private int stays;
        private int firsts;

        /** The PLACES (as bits of a ROW) that change with the one behind them; NONE: a run is of an odd number. */
        static int firstsOf(int set, int places) {
            int firsts = 0;
            for (int p = 0; p < places; p++) {
                if ((set >> p & 1) == 0) {
                    if (p + 1 == places || (set >> p + 1 & 1) != 0) {
                        return NONE;
                    }
                    firsts |= Rows.WHOLE << Rows.BITS * p;
                    p++;
                }
            }
            return firsts;
        }

        boolean become(int newSet, int places) {
            int moved = firstsOf(newSet, places);
            if (moved == NONE) {
                return false;
            }
            set = newSet;
            firsts = moved;
            stays = (1 << Rows.BITS * places) - 1 & ~(moved | moved << Rows.BITS);
            return true;
        }

        int next(int row) {
            return row & stays | (row & firsts) << Rows.BITS | row >> Rows.BITS & firsts;
        }
    }

    /** What a text tells; without BELLS it is no TOWER. */
    private static final class Tower {
        int bells;
        int changes;
        int suitors;
        boolean callTold;
        final Change theCall = new Change();
        private final Change[] theMethod = new Change[MOST_CHANGES];
        private final int[] weights = new int[MOST_BELLS];
        private final int[] strengths = new int[MOST_BELLS];

        Tower() {
            for (int i = 0; i < MOST_CHANGES; i++) {
                theMethod[i] = new Change();
            }
        }

        void clear() {
            bells = 0;
            changes = 0;
            suitors = 0;
            callTold = false;
        }

        boolean stands() {
            return bells > 0;
        }

        /** There are as many PLACES as BELLS, so this answers for a PLACE too. */
        boolean hasBell(int b) {
            return b >= 0 && b < bells;
        }

        boolean hasSuitor(int r) {
            return r >= 0 && r < suitors;
        }

        int allPlaces() {
            return (1 << bells) - 1;
        }

        int weightOf(int b) {
            return hasBell(b) ? weights[b] : 0;
        }

        int strengthOf(int r) {
            return hasSuitor(r) ? strengths[r] : 0;
        }

        int excess(int r, int b) {
            return Math.max(0, weightOf(b) - strengthOf(r));
        }

        Change changeAt(int i) {
            return i >= 0 && i < changes ? theMethod[i] : theCall;
        }

        void addBell(int weight) {
            if (bells < MOST_BELLS) {
                weights[bells++] = weight;
            }
        }

        void addSuitor(int strength) {
            if (suitors < MOST_BELLS) {
                strengths[suitors++] = strength;
            }
        }

        boolean addChange(int set) {
            if (changes >= MOST_CHANGES || !theMethod[changes].become(set, bells)) {
                return false;
            }
            changes++;
            return true;
        }

        boolean tellCall(int set) {
            callTold = true;
            return theCall.become(set, bells);
        }

        /** What the text left out is one CHANGE by which all stay. */
        void complete() {
            if (stands() && changes == 0) {
                addChange(allPlaces());
            }
            if (stands() && !callTold) {
                tellCall(allPlaces());
            }
        }
    }

    /** THE TEXT, and how it is read from left to right up to its first FAULT. */
    private static final class Text {
        private static final int MISPLACED = 1;
        private static final int BEYOND = 2;
        private static final int TOO_MANY = 3;
        private static final int ODD = 4;
        private static final int MOST_FIGURES = 3;
        private static final int HEAVIEST = 20;
        private static final int END = -1;

        int length;
        int faultAt = NONE;
        private final int[] letters = new int[MOST_LETTERS];
        private int at;
        private int numberAt;
        private int wrong;

        boolean add(int letter) {
            if (length >= MOST_LETTERS) {
                return false;
            }
            letters[length++] = letter;
            return true;
        }

        /** Answers the number of the FAULT, FINE if there is none; THE TEXT is empty then. */
        int readInto(Tower draft) {
            draft.clear();
            at = 0;
            wrong = FINE;
            faultAt = NONE;
            skipBlanks();
            for (int clause = 0; clause < MOST_LETTERS && at < length && wrong == FINE; clause++) {
                readClause(draft);
                skipBlanks();
            }
            if (wrong == FINE) {
                draft.complete();
            }
            length = 0;
            return wrong;
        }

        private int letterHere() {
            return at >= 0 && at < length && at < MOST_LETTERS ? letters[at] : END;
        }

        private void skipBlanks() {
            while (at < length && letterHere() == ' ') {
                at++;
            }
        }

        private void fail(int number, int where) {
            wrong = number;
            faultAt = where;
        }

        private void readClause(Tower draft) {
            int word = letterHere();
            int number = faultOfWord(word, draft);
            if (number != FINE) {
                fail(number, at);
                return;
            }
            at++;
            int most = mostNumbers(word);
            boolean open = true;
            for (int told = 1; told <= most && open; told++) {
                int value = readNumber(word, draft);
                if (wrong == FINE && !enter(word, value, draft)) {
                    fail(ODD, numberAt);
                }
                open = wrong == FINE && goesOn(word, told);
            }
        }

        private static int faultOfWord(int word, Tower draft) {
            if (!draft.stands()) {
                return word == 'b' ? FINE : MISPLACED;
            }
            switch (word) {
                case 'b': return TOO_MANY;
                case 'm': return draft.changes > 0 ? TOO_MANY : FINE;
                case 'r': return draft.suitors < draft.bells ? FINE : TOO_MANY;
                case 'c': return draft.callTold ? TOO_MANY : FINE;
                default: return MISPLACED;
            }
        }

        private static int mostNumbers(int word) {
            switch (word) {
                case 'b': return MOST_BELLS;
                case 'm': return MOST_CHANGES;
                default: return 1;
            }
        }

        /** Behind a NUMBER; true at a ',' with room for one more; the ';' that may stand there ends the clause. */
        private boolean goesOn(int word, int told) {
            skipBlanks();
            int fewest = word == 'b' ? FEWEST_BELLS : 1;
            int sign = letterHere();
            boolean more = sign == ',' && told < mostNumbers(word);
            boolean ends = sign == ';' && told >= fewest;
            if (more || ends) {
                at++;
            } else {
                fail(MISPLACED, at);
            }
            return more;
        }

        private int readNumber(int word, Tower draft) {
            skipBlanks();
            numberAt = at;
            int value = 0;
            while (at < length && isFigure(letterHere())) {
                if (at - numberAt < MOST_FIGURES) {
                    value = value * 10 + letterHere() - '0';
                }
                at++;
            }
            int figures = at - numberAt;
            if (figures == 0) {
                fail(MISPLACED, at);
            } else if (figures > MOST_FIGURES || !withinBounds(word, value, draft)) {
                fail(BEYOND, numberAt);
            }
            return value;
        }

        private static boolean isFigure(int letter) {
            return letter >= '0' && letter <= '9';
        }

        private static boolean withinBounds(int word, int value, Tower draft) {
            if (word == 'b' || word == 'r') {
                return value >= 1 && value <= HEAVIEST;
            }
            return value <= draft.allPlaces();
        }

        private static boolean enter(int word, int value, Tower draft) {
            switch (word) {
                case 'b':
                    draft.addBell(value);
                    return true;
                case 'r':
                    draft.addSuitor(value);
                    return true;
                case 'm':
                    return draft.addChange(value);
                default:
                    return draft.tellCall(value);
            }
        }
    }

    /** A ROW on its way through THE METHOD. */
    private static final class Walk {
        int row;
        int come;
        boolean called;

        void begin(Tower tower) {
            row = Rows.rounds(tower.bells);
            come = 0;
            called = false;
        }

        void copyFrom(Walk other) {
            row = other.row;
            come = other.come;
            called = other.called;
        }

        void step(Tower tower) {
            Change change = called ? tower.theCall : tower.changeAt(come);
            row = change.next(row);
            called = false;
            come = come + 1 < tower.changes ? come + 1 : 0;
        }

        /** Asked behind a step. */
        boolean endsLead() {
            return come == 0;
        }
    }

    /** All of section 2: what can be undone, and what an IMAGE keeps. */
    private static final class Evening {
        private static final int MOST_TIRED = 9999;

        final Walk walk = new Walk();
        int rung;
        int out;
        boolean isWet;
        private final int[] ropeOfSuitor = new int[MOST_BELLS];
        private final int[] tired = new int[MOST_BELLS];

        void begin(Tower tower) {
            standAgain(tower);
            rung = 0;
            out = 0;
            isWet = false;
            for (int r = 0; r < MOST_BELLS; r++) {
                ropeOfSuitor[r] = r;
            }
        }

        void standAgain(Tower tower) {
            walk.begin(tower);
            Arrays.fill(tired, 0);
        }

        void copyFrom(Evening other) {
            walk.copyFrom(other.walk);
            rung = other.rung;
            out = other.out;
            isWet = other.isWet;
            System.arraycopy(other.ropeOfSuitor, 0, ropeOfSuitor, 0, MOST_BELLS);
            System.arraycopy(other.tired, 0, tired, 0, MOST_BELLS);
        }

        int ropeOf(int r) {
            return r >= 0 && r < MOST_BELLS ? ropeOfSuitor[r] : NONE;
        }

        int tirednessOf(int r) {
            return r >= 0 && r < MOST_BELLS ? tired[r] : 0;
        }

        boolean isOut(int r) {
            return (out >> r & 1) != 0;
        }

        int suitorOf(int bell, Tower tower) {
            for (int r = 0; r < tower.suitors; r++) {
                if (ropeOf(r) == bell) {
                    return r;
                }
            }
            return NONE;
        }

        void changeRopes(int r, int q) {
            if (r >= 0 && r < MOST_BELLS && q >= 0 && q < MOST_BELLS) {
                int rope = ropeOfSuitor[r];
                ropeOfSuitor[r] = ropeOfSuitor[q];
                ropeOfSuitor[q] = rope;
            }
        }

        void ringNext(Tower tower) {
            walk.step(tower);
            rung++;
            tireAll(tower);
            if (walk.endsLead()) {
                sendOut(loserBy(walk.row, tower));
            }
        }

        private void tireAll(Tower tower) {
            int hemp = isWet ? 1 : 0;
            for (int r = 0; r < tower.suitors && r < MOST_BELLS; r++) {
                if (!isOut(r)) {
                    tired[r] = Math.min(MOST_TIRED, tired[r] + tower.excess(r, ropeOf(r)) + hemp);
                }
            }
        }

        private void sendOut(int loser) {
            if (loser != NONE) {
                out |= 1 << loser;
            }
        }

        /** Who would be OUT, if a LEAD ended with this ROW; NONE: nobody who is not OUT already. */
        int loserBy(int row, Tower tower) {
            int r = suitorOf(Rows.bellIn(row, tower.bells - 1), tower);
            boolean canLose = r != NONE && !isOut(r) && stillIn(tower) >= 2;
            return canLose ? r : NONE;
        }

        private int stillIn(Tower tower) {
            return tower.suitors - Integer.bitCount(out);
        }

        int wed(Tower tower) {
            if (tower.suitors < 2 || stillIn(tower) != 1) {
                return NONE;
            }
            for (int r = 0; r < tower.suitors; r++) {
                if (!isOut(r)) {
                    return r;
                }
            }
            return NONE;
        }
    }

    /** The evenings that undoing goes back to, in a ring, so that the oldest is written over. */
    private static final class Past {
        private static final int MOST_KEPT = 16;

        int kept;
        private int next;
        private final Evening[] evenings = new Evening[MOST_KEPT];

        Past() {
            for (int i = 0; i < MOST_KEPT; i++) {
                evenings[i] = new Evening();
            }
        }

        void forget() {
            kept = 0;
            next = 0;
        }

        void remember(Evening evening) {
            evenings[within(next)].copyFrom(evening);
            next = within(next + 1);
            kept = Math.min(MOST_KEPT, kept + 1);
        }

        boolean restore(Evening evening) {
            if (kept == 0) {
                return false;
            }
            next = within(next - 1);
            kept--;
            evening.copyFrom(evenings[next]);
            return true;
        }

        /** Comes round at both ends of the ring: MOST_KEPT is a power of two. */
        private static int within(int i) {
            return i & MOST_KEPT - 1;
        }
    }

    /** ROWS that have come, a bit each: five PLACES tell the sixth, so 15 bits of a ROW are enough. */
    private static final class Seen {
        private static final int CODES = 1 << 15;
        private static final int BITS_OF_A_WORD = 32;

        private final int[] words = new int[CODES / BITS_OF_A_WORD];

        void clear() {
            Arrays.fill(words, 0);
        }

        /** False: it was there. */
        boolean add(int row) {
            int code = row & CODES - 1;
            int bit = 1 << code % BITS_OF_A_WORD;
            int word = code / BITS_OF_A_WORD;
            if ((words[word] & bit) != 0) {
                return false;
            }
            words[word] |= bit;
            return true;
        }

        void remove(int row) {
            int code = row & CODES - 1;
            words[code / BITS_OF_A_WORD] &= ~(1 << code % BITS_OF_A_WORD);
        }
    }

    /** Looks for TOUCHES lead by lead, and goes no further where a ROW is like one ahead of it. */
    private static final class Touches {
        int count;
        int first;
        private int leads;
        private int rounds;

        void search(Tower tower, Seen seen, int ofLeads) {
            leads = Math.min(ofLeads, MOST_LEADS);
            rounds = Rows.rounds(tower.bells);
            count = 0;
            first = NONE;
            seen.clear();
            goOn(tower, seen, rounds, 0, 0);
        }

        /** A LEAD's ROWS are here its head and all but its end, which is the next one's head. */
        private void goOn(Tower tower, Seen seen, int head, int lead, int set) {
            int row = head;
            int entered = 0;
            boolean unlike = seen.add(row);
            while (unlike && entered + 1 < tower.changes) {
                row = tower.changeAt(entered).next(row);
                entered++;
                unlike = seen.add(row);
            }
            if (unlike) {
                endLead(tower, seen, tower.changeAt(tower.changes - 1).next(row), lead, set);
                endLead(tower, seen, tower.theCall.next(row), lead, set | 1 << lead);
                entered++;
            }
            leave(tower, seen, head, entered);
        }

        private void endLead(Tower tower, Seen seen, int row, int lead, int set) {
            if (lead + 1 < leads) {
                goOn(tower, seen, row, lead + 1, set);
            } else if (row == rounds) {
                first = count == 0 ? set : Math.min(first, set);
                count++;
            }
        }

        private static void leave(Tower tower, Seen seen, int head, int entered) {
            int row = head;
            for (int i = 0; i < entered; i++) {
                seen.remove(row);
                row = tower.changeAt(i).next(row);
            }
        }
    }

    /** ROPES by sets of BELLS: the least that the last SUITORS need for each set of as many BELLS. */
    private static final class RopeSharing {
        private final int[] least = new int[1 << MOST_BELLS];
        private final int[] bells = new int[MOST_BELLS];

        void share(Tower tower) {
            least[0] = 0;
            for (int set = 1; set < 1 << tower.suitors && set < least.length; set++) {
                int r = tower.suitors - Integer.bitCount(set);
                least[set] = leastFrom(r, firstBell(tower, r, set), set, tower);
            }
            int left = allBells(tower);
            for (int r = 0; r < tower.suitors && r < MOST_BELLS; r++) {
                bells[r] = firstBell(tower, r, left);
                left &= ~(1 << bells[r]);
            }
        }

        int leastTogether(Tower tower) {
            return least[allBells(tower)];
        }

        int bellFor(int r) {
            return r >= 0 && r < MOST_BELLS ? bells[r] : NONE;
        }

        private static int allBells(Tower tower) {
            return (1 << Math.min(tower.suitors, MOST_BELLS)) - 1;
        }

        /** Of the BELLS in the set the first that leaves the least, if this SUITOR and those behind him share the set. */
        private int firstBell(Tower tower, int r, int set) {
            int best = Integer.numberOfTrailingZeros(set);
            for (int b = best + 1; b < tower.suitors; b++) {
                boolean free = (set >> b & 1) != 0;
                if (free && leastFrom(r, b, set, tower) < leastFrom(r, best, set, tower)) {
                    best = b;
                }
            }
            return best;
        }

        private int leastFrom(int r, int b, int set, Tower tower) {
            int rest = set & ~(1 << b) & least.length - 1;
            return tower.excess(r, b) + least[rest];
        }
    }

    /** What is HEARD, and THE BOOK. */
    private static final class Notebook {
        int heard;
        int late;
        int written;
        private final int[] bells = new int[MOST_WRITTEN];
        private final int[] places = new int[MOST_WRITTEN];

        void empty(Tower tower) {
            heard = 0;
            written = 0;
            late = tower.stands() ? tower.allPlaces() : 0;
        }

        void hearAs(int row, int heardRow, Tower tower) {
            heard++;
            for (int b = 0; b < tower.bells; b++) {
                if (Rows.withLate(row, b, tower.bells) != heardRow) {
                    late &= ~(1 << b);
                }
            }
        }

        /** Of the BELLS that may be late: how many at most would be heard alike, if this ROW were listened to. */
        int greatestPartAlike(int row, Tower tower) {
            int greatest = 0;
            for (int b = 0; b < tower.bells; b++) {
                if (mayBeLate(b)) {
                    greatest = Math.max(greatest, heardAlike(row, b, tower));
                }
            }
            return greatest;
        }

        private int heardAlike(int row, int bell, Tower tower) {
            int heardRow = Rows.withLate(row, bell, tower.bells);
            int alike = 0;
            for (int b = 0; b < tower.bells; b++) {
                if (mayBeLate(b) && Rows.withLate(row, b, tower.bells) == heardRow) {
                    alike++;
                }
            }
            return alike;
        }

        private boolean mayBeLate(int b) {
            return (late >> b & 1) != 0;
        }

        boolean enter(int bell, int place) {
            if (written >= MOST_WRITTEN) {
                return false;
            }
            bells[written] = bell;
            places[written] = place;
            written++;
            return true;
        }

        int firstWrong(int row, Tower tower) {
            for (int i = 0; i < written && i < MOST_WRITTEN; i++) {
                if (Rows.placeOf(row, bells[i], tower.bells) != places[i]) {
                    return i;
                }
            }
            return NONE;
        }
    }
}
