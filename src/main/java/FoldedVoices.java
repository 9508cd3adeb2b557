/** Voices that are folded to codes of four bits, packed, sent over a bad wire and heard again. */
public final class FoldedVoices {

    public static final int NONE = -10000;

    private static final int VOICES = 3;
    private static final int FARTHEST = 2000;
    private static final int LAST_INDEX = 24;
    private static final int CODES = 16;
    private static final int WIRE_ROOM = 8;
    private static final int PACKET_ROOM = 8;
    // With a head at least at each ninth packet, no more codes than these follow the latest head.
    private static final int SINCE_HEAD_ROOM = 72;
    private static final int SAVED_ROOM = 6;
    private static final int SETTLING_CODES = 60;

    private static final int RATE = 0;
    private static final int GATE = 1;
    private static final int PACKET_SIZE = 2;
    private static final int HEAD_DISTANCE = 3;

    private static final int[] STEPS = {
        8, 10, 12, 15, 18, 22, 27, 33, 41, 51, 63, 78, 97,
        121, 151, 188, 235, 293, 366, 457, 571, 713, 891, 1113, 1391};
    private static final int[] LEAST_SETTINGS = {1, 0, 1, 1};
    private static final int[] MOST_SETTINGS = {4, 99, 8, 9};

    private final State live = new State();
    private final State kept = new State();
    private boolean hasKept;
    private final State[] saved = new State[SAVED_ROOM];
    private int savedCount;
    private final TalkText text = new TalkText();
    // Both are for looks alone, so that no look has to make objects.
    private final End lookEnd = new End();
    private final HearingEnd lookEar = new HearingEnd();

    public FoldedVoices() {
        for (int i = 0; i < saved.length; i++) {
            saved[i] = new State();
        }
    }

    // ---- saying

    public int say(int voice, int sample)
            throws IndexOutOfBoundsException, IllegalArgumentException, IllegalStateException {
        Voice speaker = voiceOf(voice);
        requireSample(sample);
        if (!speaker.canTake(live.settings)) {
            throw new IllegalStateException("the wire has no room for the packet");
        }
        saveLive();
        return speaker.take(sample, live.settings);
    }

    public int flush(int voice) throws IndexOutOfBoundsException, IllegalStateException {
        Voice speaker = voiceOf(voice);
        int size = speaker.mouth.open.size;
        if (size == 0) {
            throw new IllegalStateException("no codes were gathered");
        }
        if (!speaker.hasRoom()) {
            throw new IllegalStateException("the wire has no room for the packet");
        }
        saveLive();
        speaker.closePacket(live.settings);
        return size;
    }

    // ---- the wire

    public int deliver(int voice) throws IndexOutOfBoundsException, IllegalStateException {
        Voice listener = voiceOf(voice);
        requireWaiting(listener, 1);
        saveLive();
        return listener.bringFirst();
    }

    public int lose(int voice) throws IndexOutOfBoundsException, IllegalStateException {
        Voice loser = voiceOf(voice);
        requireWaiting(loser, 1);
        saveLive();
        return loser.dropFirst();
    }

    public int swap(int voice) throws IndexOutOfBoundsException, IllegalStateException {
        Voice mixed = voiceOf(voice);
        requireWaiting(mixed, 2);
        saveLive();
        return mixed.exchangeFirstTwo();
    }

    public int set(int setting, int value) throws IndexOutOfBoundsException, IllegalArgumentException {
        requireSetting(setting);
        if (!Settings.isInRange(setting, value)) {
            throw new IllegalArgumentException("the value is out of range");
        }
        saveLive();
        int previous = live.settings.valueOf(setting);
        live.settings.put(setting, value);
        return previous;
    }

    // ---- texts, the snapshot

    public int append(int code) throws IllegalArgumentException, IllegalStateException {
        if (code < 33 || code > 126) {
            throw new IllegalArgumentException("no such character");
        }
        if (text.isFull()) {
            throw new IllegalStateException("the buffer is full");
        }
        text.add((char) code);
        return text.length;
    }

    public int clearBuffer() {
        int length = text.length;
        text.clear();
        return length;
    }

    public int firstError() {
        return text.firstWrongPlace();
    }

    public int talk() throws IllegalArgumentException {
        if (!text.isComplete()) {
            throw new IllegalArgumentException("the buffer is not a complete talk");
        }
        saveLive();
        text.startReading();
        int done = 0;
        for (int i = 0; i < text.length && text.readDeed(); i++) {
            Voice doer = voiceOf(text.voice);
            if (!canDo(text.deed, doer)) {
                break;
            }
            doDeed(text.deed, doer, text.sample);
            done++;
        }
        text.clear();
        return done;
    }

    public int keep() {
        kept.copyFrom(live);
        hasKept = true;
        return sumOver(0);
    }

    public int goBack() throws IllegalStateException {
        if (!hasKept) {
            throw new IllegalStateException("there is no snapshot");
        }
        saveLive();
        live.copyFrom(kept);
        return sumOver(0);
    }

    public int undo() throws IllegalStateException {
        int latest = savedCount - 1;
        if (latest < 0 || latest >= saved.length) {
            throw new IllegalStateException("there is no saved state");
        }
        live.copyFrom(saved[latest]);
        savedCount = latest;
        return savedCount;
    }

    // ---- looks; nothing is changed

    public int saying(int voice, int what) throws IndexOutOfBoundsException, IllegalArgumentException {
        Voice speaker = voiceOf(voice);
        requireWhat(what, 9);
        return tellSaying(speaker, what);
    }

    public int hearing(int voice, int what) throws IndexOutOfBoundsException, IllegalArgumentException {
        Voice listener = voiceOf(voice);
        requireWhat(what, 11);
        return tellHearing(listener, what);
    }

    public int packet(int voice, int rank, int what) throws IndexOutOfBoundsException, IllegalArgumentException {
        Voice speaker = voiceOf(voice);
        Packet waiting = speaker.packetAt(rank);
        if (waiting == null) {
            throw new IndexOutOfBoundsException("no such rank");
        }
        requireWhat(what, 5);
        return waiting.tell(what);
    }

    public int why(int voice) throws IndexOutOfBoundsException {
        return tellWhy(voiceOf(voice));
    }

    public int count(int what) throws IllegalArgumentException {
        requireWhat(what, 7);
        return tellCount(what);
    }

    public int setting(int setting) throws IndexOutOfBoundsException {
        requireSetting(setting);
        return live.settings.valueOf(setting);
    }

    // ---- what would be; nothing is changed

    public int code(int voice, int sample, int what) throws IndexOutOfBoundsException, IllegalArgumentException {
        Voice speaker = voiceOf(voice);
        requireSample(sample);
        requireWhat(what, 4);
        return tellCode(speaker, sample, what);
    }

    public int settles(int voice, int sample, int near) throws IndexOutOfBoundsException, IllegalArgumentException {
        Voice speaker = voiceOf(voice);
        requireSample(sample);
        if (near < 1 || near > FARTHEST) {
            throw new IllegalArgumentException("near is out of range");
        }
        return codesToComeNear(speaker, sample, near);
    }

    public int ifDelivered(int voice, int what) throws IndexOutOfBoundsException, IllegalArgumentException {
        Voice listener = voiceOf(voice);
        requireWhat(what, 3);
        return tellIfAllCame(listener, what);
    }

    public double meanError(int voice) throws IndexOutOfBoundsException {
        return voiceOf(voice).ear.meanOfErrors();
    }

    public float lostShare() {
        return shareOfLost();
    }

    public long digest() {
        long hash = 3637;
        for (int what = 0; what <= 7; what++) {
            hash = mixed(hash, tellCount(what));
        }
        for (int setting = 0; setting <= 3; setting++) {
            hash = mixed(hash, live.settings.valueOf(setting));
        }
        for (int i = 0; i < live.voices.length; i++) {
            hash = withVoice(hash, live.voices[i]);
        }
        hash = mixed(hash, bitsOfFloat(shareOfLost()));
        hash = mixed(hash, hasKept ? 1 : 0);
        hash = mixed(hash, text.length);
        for (int i = 0; i < text.length; i++) {
            hash = mixed(hash, text.signAt(i));
        }
        return hash;
    }

    // ---- what is asked of arguments and of the state

    private Voice voiceOf(int voice) throws IndexOutOfBoundsException {
        if (voice < 0 || voice >= live.voices.length) {
            throw new IndexOutOfBoundsException("no such voice");
        }
        return live.voices[voice];
    }

    private static void requireSetting(int setting) throws IndexOutOfBoundsException {
        if (setting < RATE || setting > HEAD_DISTANCE) {
            throw new IndexOutOfBoundsException("no such setting");
        }
    }

    private static void requireSample(int sample) throws IllegalArgumentException {
        if (sample < -FARTHEST || sample > FARTHEST) {
            throw new IllegalArgumentException("the sample is out of range");
        }
    }

    private static void requireWhat(int what, int last) throws IllegalArgumentException {
        if (what < 0 || what > last) {
            throw new IllegalArgumentException("nothing is told by this number");
        }
    }

    private static void requireWaiting(Voice voice, int least) throws IllegalStateException {
        if (voice.waiting < least) {
            throw new IllegalStateException("too few packets wait");
        }
    }

    // ---- deeds

    private void saveLive() {
        if (savedCount >= saved.length) {
            dropOldestSaved();
        }
        if (savedCount < 0 || savedCount >= saved.length) {
            return;
        }
        saved[savedCount].copyFrom(live);
        savedCount++;
    }

    // The dropped state goes to the end, so that its rows are used again.
    private void dropOldestSaved() {
        State oldest = saved[0];
        for (int i = 1; i < saved.length; i++) {
            saved[i - 1] = saved[i];
        }
        saved[saved.length - 1] = oldest;
        savedCount = saved.length - 1;
    }

    private boolean canDo(char deed, Voice doer) {
        if (deed == 'd' || deed == 'l') {
            return doer.waiting >= 1;
        }
        if (deed == 'x') {
            return doer.waiting >= 2;
        }
        return doer.canTake(live.settings);
    }

    private void doDeed(char deed, Voice doer, int sample) {
        if (deed == 'd') {
            doer.bringFirst();
        } else if (deed == 'l') {
            doer.dropFirst();
        } else if (deed == 'x') {
            doer.exchangeFirstTwo();
        } else {
            doer.take(sample, live.settings);
        }
    }

    // ---- tellings

    private int tellSaying(Voice speaker, int what) {
        switch (what) {
            case 0: return speaker.mouth.end.guess;
            case 1: return speaker.mouth.end.index;
            case 2: return speaker.mouth.end.step();
            case 3: return speaker.mouth.samples;
            case 4: return speaker.mouth.sum;
            case 5: return speaker.mouth.open.size;
            case 6: return speaker.mouth.nextNumber;
            case 7: return speaker.mouth.codesSoFar;
            case 8: return speaker.mouth.guessSinceHead(lookEnd);
            default: return speaker.waiting;
        }
    }

    private int tellHearing(Voice listener, int what) {
        return what == 11 ? listener.lost : listener.ear.tell(what);
    }

    private int tellWhy(Voice voice) {
        letAllCome(voice);
        if (wouldAgree(voice)) {
            return 0;
        }
        boolean inOrder = lookEar.late == voice.ear.late
                && lookEar.missing == voice.ear.missing
                && lookEar.awaited == voice.mouth.nextNumber;
        return inOrder ? 2 : 1;
    }

    private int tellCount(int what) {
        if (what == 7) {
            return savedCount;
        }
        if (what < 6) {
            return sumOver(what);
        }
        int agreeing = 0;
        for (int i = 0; i < live.voices.length; i++) {
            if (tellWhy(live.voices[i]) == 0) {
                agreeing++;
            }
        }
        return agreeing;
    }

    private int sumOver(int what) {
        int sum = 0;
        for (int i = 0; i < live.voices.length; i++) {
            sum += live.voices[i].countedAs(what);
        }
        return sum;
    }

    private int tellCode(Voice speaker, int sample, int what) {
        lookEnd.copyFrom(speaker.mouth.end);
        int bits = what < 3 ? lookEnd.codeFor(sample) : lookEnd.nearestCodeFor(sample);
        if (what == 0 || what == 3) {
            return bits;
        }
        lookEnd.follow(bits);
        return what == 2 ? lookEnd.index : lookEnd.guess;
    }

    private int codesToComeNear(Voice speaker, int sample, int near) {
        lookEnd.copyFrom(speaker.mouth.end);
        for (int codes = 0; codes <= SETTLING_CODES; codes++) {
            if (distance(lookEnd.guess, sample) < near) {
                return codes;
            }
            lookEnd.follow(lookEnd.codeFor(sample));
        }
        return NONE;
    }

    private int tellIfAllCame(Voice listener, int what) {
        letAllCome(listener);
        switch (what) {
            case 0: return lookEar.end.guess;
            case 1: return lookEar.errorSum - listener.ear.errorSum;
            case 2: return lookEar.missing - listener.ear.missing;
            default: return lookEar.jumps - listener.ear.jumps;
        }
    }

    private void letAllCome(Voice voice) {
        lookEar.copyFrom(voice.ear);
        for (int rank = 0; rank < voice.waiting && rank < voice.wire.length; rank++) {
            lookEar.receive(voice.wire[rank]);
        }
    }

    private boolean wouldAgree(Voice voice) {
        lookEnd.copyFrom(lookEar.end);
        lookEnd.followAll(voice.mouth.open);
        return lookEnd.isAt(voice.mouth.end.guess, voice.mouth.end.index);
    }

    private float shareOfLost() {
        int packets = sumOver(2);
        return packets > 0 ? (float) sumOver(4) / (float) packets : 0.0f;
    }

    // ---- the hash

    private static long mixed(long hash, long value) {
        return 31 * hash + value;
    }

    private long withVoice(long start, Voice voice) {
        long hash = start;
        for (int what = 0; what <= 9; what++) {
            hash = mixed(hash, tellSaying(voice, what));
        }
        for (int what = 0; what <= 11; what++) {
            hash = mixed(hash, tellHearing(voice, what));
        }
        for (int rank = 0; rank < voice.waiting && rank < voice.wire.length; rank++) {
            hash = withPacket(hash, voice.wire[rank]);
        }
        hash = mixed(hash, tellWhy(voice));
        for (int what = 0; what <= 4; what++) {
            hash = mixed(hash, tellCode(voice, 100, what));
        }
        hash = mixed(hash, codesToComeNear(voice, -500, 50));
        for (int what = 0; what <= 3; what++) {
            hash = mixed(hash, tellIfAllCame(voice, what));
        }
        return mixed(hash, bitsOfDouble(voice.ear.meanOfErrors()));
    }

    private static long withPacket(long start, Packet packet) {
        long hash = start;
        for (int what = 0; what <= 5; what++) {
            hash = mixed(hash, packet.tell(what));
        }
        return hash;
    }

    // The class that tells these bits is outside the language of this file. No value here is
    // below 0, and none above 0 is so small that it has no exponent of its own.
    private static long bitsOfDouble(double value) {
        if (!(value > 0.0)) {
            return 0L;
        }
        double part = value;
        long exponent = 1023;
        for (int i = 0; i < 1023 && part >= 2.0; i++) {
            part = part / 2.0;
            exponent++;
        }
        for (int i = 0; i < 1023 && part < 1.0; i++) {
            part = part * 2.0;
            exponent--;
        }
        return (exponent << 52) + (long) ((part - 1.0) * 4503599627370496.0);
    }

    private static long bitsOfFloat(float value) {
        if (!(value > 0.0f)) {
            return 0L;
        }
        long bits = bitsOfDouble((double) value);
        long exponent = (bits >> 52) - 1023 + 127;
        long fraction = (bits & ((1L << 52) - 1)) >> 29;
        return (exponent << 23) + fraction;
    }

    // ---- numbers

    private static int distance(int a, int b) {
        return a < b ? b - a : a - b;
    }

    /** A guess and an index, and how codes move them. */
    private static final class End {
        private int guess;
        private int index;

        void copyFrom(End other) {
            guess = other.guess;
            index = other.index;
        }

        boolean isAt(int otherGuess, int otherIndex) {
            return guess == otherGuess && index == otherIndex;
        }

        int step() {
            return index >= 0 && index < STEPS.length ? STEPS[index] : 0;
        }

        int codeFor(int sample) {
            int step = step();
            int left = sample - guess;
            int bits = 0;
            if (left < 0) {
                bits = 8;
                left = -left;
            }
            if (left >= step) {
                bits += 4;
                left -= step;
            }
            if (left >= step / 2) {
                bits += 2;
                left -= step / 2;
            }
            if (left >= step / 4) {
                bits += 1;
            }
            return bits;
        }

        int nearestCodeFor(int sample) {
            int nearest = 0;
            int least = distance(guessBehind(0, step()), sample);
            for (int bits = 1; bits < CODES; bits++) {
                int far = distance(guessBehind(bits, step()), sample);
                if (far < least) {
                    least = far;
                    nearest = bits;
                }
            }
            return nearest;
        }

        int guessBehind(int bits, int step) {
            int change = step / 8;
            if ((bits & 4) != 0) {
                change += step;
            }
            if ((bits & 2) != 0) {
                change += step / 2;
            }
            if ((bits & 1) != 0) {
                change += step / 4;
            }
            int moved = (bits & 8) != 0 ? guess - change : guess + change;
            return Math.max(-FARTHEST, Math.min(moved, FARTHEST));
        }

        void follow(int bits) {
            guess = guessBehind(bits, step());
            int size = bits & 7;
            int move = size < 4 ? -1 : 2 * (size - 3);
            index = Math.max(0, Math.min(index + move, LAST_INDEX));
        }

        void followAll(Packet packet) {
            for (int i = 0; i < packet.size; i++) {
                follow(packet.codeAt(i));
            }
        }

        void fade() {
            guess = 3 * guess / 4;
        }
    }

    /** Codes in their order, each with the mean for which it was found. */
    private static final class Packet {
        private final int[] codes = new int[PACKET_ROOM];
        private final int[] means = new int[PACKET_ROOM];
        private int size;
        private int number;
        private boolean hasHead;
        private final End head = new End();

        void copyFrom(Packet other) {
            System.arraycopy(other.codes, 0, codes, 0, PACKET_ROOM);
            System.arraycopy(other.means, 0, means, 0, PACKET_ROOM);
            size = other.size;
            number = other.number;
            hasHead = other.hasHead;
            head.copyFrom(other.head);
        }

        void add(int bits, int mean) {
            if (size >= 0 && size < PACKET_ROOM) {
                codes[size] = bits;
                means[size] = mean;
                size++;
            }
        }

        int codeAt(int place) {
            return place >= 0 && place < codes.length ? codes[place] : 0;
        }

        int meanAt(int place) {
            return place >= 0 && place < means.length ? means[place] : 0;
        }

        int tell(int what) {
            switch (what) {
                case 0: return number;
                case 1: return size;
                case 2: return hasHead ? 1 : 0;
                case 3: return hasHead ? head.guess : NONE;
                case 4: return hasHead ? head.index : NONE;
                default: return codesAsOne();
            }
        }

        private int codesAsOne() {
            int one = 0;
            for (int i = 0; i < size; i++) {
                one = 16 * one + codeAt(i);
            }
            return one;
        }
    }

    /** The end that gathers samples, finds codes and gathers these for the next packet. */
    private static final class SayingEnd {
        private final End end = new End();
        private int samplesSaid;
        private int samples;
        private int sum;
        private final Packet open = new Packet();
        private int nextNumber;
        private int codesSoFar;
        private int latestHeadNumber;
        private final End latestHead = new End();
        private final int[] sinceHead = new int[SINCE_HEAD_ROOM];
        private int sinceHeadCount;

        void copyFrom(SayingEnd other) {
            end.copyFrom(other.end);
            samplesSaid = other.samplesSaid;
            samples = other.samples;
            sum = other.sum;
            open.copyFrom(other.open);
            nextNumber = other.nextNumber;
            codesSoFar = other.codesSoFar;
            latestHeadNumber = other.latestHeadNumber;
            latestHead.copyFrom(other.latestHead);
            System.arraycopy(other.sinceHead, 0, sinceHead, 0, SINCE_HEAD_ROOM);
            sinceHeadCount = other.sinceHeadCount;
        }

        boolean wouldClose(Settings settings) {
            int codes = samples + 1 >= settings.valueOf(RATE) ? open.size + 1 : open.size;
            return codes >= settings.valueOf(PACKET_SIZE);
        }

        void gather(int sample) {
            samplesSaid++;
            samples++;
            sum += sample;
        }

        int takeMean(int gate) {
            int mean = samples > 0 ? sum / samples : 0;
            samples = 0;
            sum = 0;
            return distance(mean, 0) < gate ? 0 : mean;
        }

        int fold(int mean) {
            int bits = end.codeFor(mean);
            if (open.size == 0) {
                open.head.copyFrom(end);
            }
            open.add(bits, mean);
            end.follow(bits);
            codesSoFar++;
            return bits;
        }

        void closeInto(Packet made, int headDistance) {
            made.copyFrom(open);
            made.number = nextNumber;
            made.hasHead = nextNumber == 0 || nextNumber - latestHeadNumber >= headDistance;
            if (made.hasHead) {
                latestHeadNumber = nextNumber;
                latestHead.copyFrom(made.head);
                sinceHeadCount = 0;
            }
            rememberSinceHead(made);
            nextNumber++;
            open.size = 0;
        }

        private void rememberSinceHead(Packet made) {
            for (int i = 0; i < made.size; i++) {
                if (sinceHeadCount >= 0 && sinceHeadCount < sinceHead.length) {
                    sinceHead[sinceHeadCount] = made.codeAt(i);
                    sinceHeadCount++;
                }
            }
        }

        int guessSinceHead(End look) {
            look.copyFrom(latestHead);
            for (int i = 0; i < sinceHeadCount && i < sinceHead.length; i++) {
                look.follow(sinceHead[i]);
            }
            look.followAll(open);
            return look.guess;
        }
    }

    /** The end to which packets come. */
    private static final class HearingEnd {
        private final End end = new End();
        private int awaited;
        private int codesHeard;
        private int missing;
        private int late;
        private int jumps;
        private int errorSum;
        private int greatestError;
        private int heardSum;
        private int came;

        void copyFrom(HearingEnd other) {
            end.copyFrom(other.end);
            awaited = other.awaited;
            codesHeard = other.codesHeard;
            missing = other.missing;
            late = other.late;
            jumps = other.jumps;
            errorSum = other.errorSum;
            greatestError = other.greatestError;
            heardSum = other.heardSum;
            came = other.came;
        }

        int receive(Packet packet) {
            came++;
            if (packet.number < awaited) {
                late++;
                return NONE;
            }
            int gap = packet.number - awaited;
            for (int i = 0; i < gap; i++) {
                end.fade();
            }
            missing += gap;
            if (packet.hasHead) {
                moveTo(packet.head);
            }
            for (int i = 0; i < packet.size; i++) {
                end.follow(packet.codeAt(i));
                noteHeard(distance(end.guess, packet.meanAt(i)));
            }
            awaited = packet.number + 1;
            return gap;
        }

        private void moveTo(End head) {
            if (!end.isAt(head.guess, head.index)) {
                jumps++;
            }
            end.copyFrom(head);
        }

        private void noteHeard(int error) {
            codesHeard++;
            heardSum += end.guess;
            errorSum += error;
            if (error > greatestError) {
                greatestError = error;
            }
        }

        double meanOfErrors() {
            return codesHeard > 0 ? (double) errorSum / (double) codesHeard : 0.0;
        }

        int tell(int what) {
            switch (what) {
                case 0: return end.guess;
                case 1: return end.index;
                case 2: return end.step();
                case 3: return awaited;
                case 4: return codesHeard;
                case 5: return missing;
                case 6: return late;
                case 7: return jumps;
                case 8: return errorSum;
                case 9: return greatestError;
                default: return heardSum;
            }
        }
    }

    /** Both ends of a voice, and the wire between them. */
    private static final class Voice {
        private final SayingEnd mouth = new SayingEnd();
        private final HearingEnd ear = new HearingEnd();
        private final Packet[] wire = new Packet[WIRE_ROOM];
        private int waiting;
        private int lost;

        Voice() {
            for (int i = 0; i < wire.length; i++) {
                wire[i] = new Packet();
            }
        }

        void copyFrom(Voice other) {
            mouth.copyFrom(other.mouth);
            ear.copyFrom(other.ear);
            for (int i = 0; i < wire.length && i < other.wire.length; i++) {
                wire[i].copyFrom(other.wire[i]);
            }
            waiting = other.waiting;
            lost = other.lost;
        }

        int countedAs(int what) {
            switch (what) {
                case 0: return mouth.samplesSaid;
                case 1: return mouth.codesSoFar;
                case 2: return mouth.nextNumber;
                case 3: return waiting;
                case 4: return lost;
                default: return ear.came;
            }
        }

        Packet packetAt(int rank) {
            return rank >= 0 && rank < waiting && rank < wire.length ? wire[rank] : null;
        }

        boolean hasRoom() {
            return waiting < wire.length;
        }

        boolean canTake(Settings settings) {
            return hasRoom() || !mouth.wouldClose(settings);
        }

        int take(int sample, Settings settings) {
            mouth.gather(sample);
            int bits = NONE;
            if (mouth.samples >= settings.valueOf(RATE)) {
                bits = mouth.fold(mouth.takeMean(settings.valueOf(GATE)));
            }
            if (mouth.open.size >= settings.valueOf(PACKET_SIZE)) {
                closePacket(settings);
            }
            return bits;
        }

        void closePacket(Settings settings) {
            if (waiting >= 0 && waiting < wire.length) {
                mouth.closeInto(wire[waiting], settings.valueOf(HEAD_DISTANCE));
                waiting++;
            }
        }

        int bringFirst() {
            int answer = ear.receive(wire[0]);
            takeFirstOff();
            return answer;
        }

        int dropFirst() {
            int number = wire[0].number;
            lost++;
            takeFirstOff();
            return number;
        }

        int exchangeFirstTwo() {
            Packet first = wire[0];
            wire[0] = wire[1];
            wire[1] = first;
            return wire[0].number;
        }

        // The packet goes to the end, so that its rows are used again.
        private void takeFirstOff() {
            Packet first = wire[0];
            for (int i = 1; i < wire.length; i++) {
                wire[i - 1] = wire[i];
            }
            wire[wire.length - 1] = first;
            waiting--;
        }
    }

    /** What can be set. */
    private static final class Settings {
        private final int[] values = {1, 0, 4, 3};

        void copyFrom(Settings other) {
            for (int i = 0; i < values.length && i < other.values.length; i++) {
                values[i] = other.values[i];
            }
        }

        static boolean isInRange(int setting, int value) {
            return setting >= 0 && setting < LEAST_SETTINGS.length && setting < MOST_SETTINGS.length
                    && value >= LEAST_SETTINGS[setting] && value <= MOST_SETTINGS[setting];
        }

        int valueOf(int setting) {
            return setting >= 0 && setting < values.length ? values[setting] : 0;
        }

        void put(int setting, int value) {
            if (setting >= 0 && setting < values.length) {
                values[setting] = value;
            }
        }
    }

    /** All that undo restores. */
    private static final class State {
        private final Voice[] voices = new Voice[VOICES];
        private final Settings settings = new Settings();

        State() {
            for (int i = 0; i < voices.length; i++) {
                voices[i] = new Voice();
            }
        }

        void copyFrom(State other) {
            for (int i = 0; i < voices.length && i < other.voices.length; i++) {
                voices[i].copyFrom(other.voices[i]);
            }
            settings.copyFrom(other.settings);
        }
    }

    /** The buffer, where its first wrong character is, and the deeds that it tells. */
    private static final class TalkText {
        private static final int ROOM = 60;

        private static final int WRONG = -1;
        private static final int AT_PART = 0;
        private static final int BEHIND_VOICE = 1;
        private static final int AT_SAMPLE = 2;
        private static final int BEHIND_MINUS = 3;
        private static final int BEHIND_ZERO = 4;
        private static final int IN_NUMBER = 5;
        private static final int BEHIND_LETTER = 6;
        private static final int BEHIND_DEED = 7;

        private final char[] signs = new char[ROOM];
        private int length;
        // How far the grammar got when the buffer was looked through the last time.
        private int latestStand;
        private int place;
        private char deed;
        private int voice;
        private int sample;

        boolean isFull() {
            return length >= signs.length;
        }

        void add(char sign) {
            if (length >= 0 && length < signs.length) {
                signs[length] = sign;
                length++;
            }
        }

        void clear() {
            length = 0;
        }

        char signAt(int at) {
            return at >= 0 && at < length && at < signs.length ? signs[at] : ' ';
        }

        int firstWrongPlace() {
            latestStand = AT_PART;
            int number = 0;
            for (int i = 0; i < length; i++) {
                char sign = signAt(i);
                number = isDigit(sign) ? 10 * number + sign - '0' : 0;
                latestStand = standBehind(latestStand, sign, number);
                if (latestStand == WRONG) {
                    return i;
                }
            }
            return length;
        }

        boolean isComplete() {
            return firstWrongPlace() == length
                    && (latestStand == BEHIND_ZERO || latestStand == IN_NUMBER || latestStand == BEHIND_DEED);
        }

        // The number is that of the digits up to the sign: no sample begins with one beyond all samples.
        private static int standBehind(int stand, char sign, int number) {
            switch (stand) {
                case AT_PART:
                    if (isVoice(sign)) {
                        return BEHIND_VOICE;
                    }
                    return isLetter(sign) ? BEHIND_LETTER : WRONG;
                case BEHIND_VOICE:
                    return sign == ':' ? AT_SAMPLE : WRONG;
                case AT_SAMPLE:
                    if (sign == '-') {
                        return BEHIND_MINUS;
                    }
                    return sign == '0' ? BEHIND_ZERO : inNumberIf(isDigit(sign));
                case BEHIND_MINUS:
                    return inNumberIf(isDigit(sign) && sign != '0');
                case BEHIND_ZERO:
                    return behindSample(sign);
                case IN_NUMBER:
                    return isDigit(sign) ? inNumberIf(number <= FARTHEST) : behindSample(sign);
                case BEHIND_LETTER:
                    return isVoice(sign) ? BEHIND_DEED : WRONG;
                case BEHIND_DEED:
                    return sign == ';' ? AT_PART : WRONG;
                default:
                    return WRONG;
            }
        }

        private static int inNumberIf(boolean isRight) {
            return isRight ? IN_NUMBER : WRONG;
        }

        private static int behindSample(char sign) {
            if (sign == ',') {
                return AT_SAMPLE;
            }
            return sign == ';' ? AT_PART : WRONG;
        }

        private static boolean isVoice(char sign) {
            return sign >= '0' && sign < '0' + VOICES;
        }

        private static boolean isDigit(char sign) {
            return sign >= '0' && sign <= '9';
        }

        private static boolean isLetter(char sign) {
            return sign == 'd' || sign == 'l' || sign == 'x';
        }

        void startReading() {
            place = 0;
        }

        // Reads on in a complete talk; the voice stays for all samples of its part.
        boolean readDeed() {
            if (place >= length) {
                return false;
            }
            char sign = signAt(place);
            if (isLetter(sign)) {
                deed = sign;
                voice = signAt(place + 1) - '0';
                place += 3;
                return true;
            }
            if (signAt(place + 1) == ':') {
                voice = sign - '0';
                place += 2;
            }
            deed = ':';
            readSample();
            place++;
            return true;
        }

        private void readSample() {
            boolean isBelow = signAt(place) == '-';
            if (isBelow) {
                place++;
            }
            int number = 0;
            for (; place < length && isDigit(signAt(place)); place++) {
                number = 10 * number + signAt(place) - '0';
            }
            sample = isBelow ? -number : number;
        }
    }
}
