import java.util.ArrayList;
import java.util.List;
import java.util.regex.Matcher;
import java.util.regex.Pattern;

/** The document once more, told in another way: all that happened is kept, and each answer is told from it. */
final class PlainVoices {
    static final int NONE = -10000;
    private static final String SAMPLE = "(?:0|-?(?:[1-9][0-9]{0,2}|1[0-9]{3}|2000))";
    private static final String PART = "(?:[0-2]:" + SAMPLE + "(?:," + SAMPLE + ")*|[dlx][0-2])";
    private static final Pattern TALK = Pattern.compile(PART + "(?:;" + PART + ")*");

    /** What an end knows. */
    record End(int guess, int index) {
        int step() {
            return index == 0 ? 8 : 5 * new End(0, index - 1).step() / 4;
        }

        int codeOf(int sample) {
            int left = Math.abs(sample - guess);
            int four = left / step() >= 1 ? 1 : 0;
            left -= four * step();
            int two = left >= step() / 2 ? 1 : 0;
            left -= two * (step() / 2);
            int one = left >= step() / 4 ? 1 : 0;
            return (sample < guess ? 8 : 0) | four << 2 | two << 1 | one;
        }

        End behind(int code) {
            int change = step() / 8 + (code >> 2 & 1) * step() + (code >> 1 & 1) * (step() / 2) + (code & 1) * (step() / 4);
            int moved = code >= 8 ? guess - change : guess + change;
            int[] moves = {-1, -1, -1, -1, 2, 4, 6, 8};
            return new End(Math.max(-2000, Math.min(2000, moved)), Math.max(0, Math.min(24, index + moves[code % 8])));
        }
    }

    record Code(int bits, int mean) {
    }

    record Packet(int number, boolean hasHead, End head, List<Code> codes) {
    }

    /** A hearing end; receiving makes another one. */
    record Ear(End end, int awaited, List<Integer> heard, List<Integer> errors, int missing, int late, int jumps) {
        static Ear silent() {
            return new Ear(new End(0, 0), 0, List.of(), List.of(), 0, 0, 0);
        }

        Ear behind(Packet packet) {
            if (packet.number < awaited) {
                return new Ear(end, awaited, heard, errors, missing, late + 1, jumps);
            }
            int guess = end.guess;
            for (int i = awaited; i <= packet.number - 1; i++) {
                guess = guess * 3 / 4;
            }
            End now = new End(guess, end.index);
            int jump = packet.hasHead && !now.equals(packet.head) ? 1 : 0;
            now = packet.hasHead ? packet.head : now;
            List<Integer> allHeard = new ArrayList<>(heard);
            List<Integer> allErrors = new ArrayList<>(errors);
            for (Code code : packet.codes) {
                now = now.behind(code.bits);
                allHeard.add(now.guess);
                allErrors.add(Math.abs(now.guess - code.mean));
            }
            return new Ear(now, packet.number + 1, allHeard, allErrors,
                    missing + packet.number - awaited, late, jumps + jump);
        }
    }

    /** All of one voice; what is told is told from the lists. */
    static final class Voice {
        List<Integer> gathered = new ArrayList<>();
        List<Code> allCodes = new ArrayList<>();
        List<Packet> allPackets = new ArrayList<>();
        List<Packet> wire = new ArrayList<>();
        List<Integer> came = new ArrayList<>();
        int lost;
        Ear ear = Ear.silent();

        Voice copy() {
            Voice other = new Voice();
            other.gathered.addAll(gathered);
            other.allCodes.addAll(allCodes);
            other.allPackets.addAll(allPackets);
            other.wire.addAll(wire);
            other.came.addAll(came);
            other.lost = lost;
            other.ear = ear;
            return other;
        }

        End endBehind(int codes) {
            End end = new End(0, 0);
            for (Code code : allCodes.subList(0, codes)) {
                end = end.behind(code.bits);
            }
            return end;
        }

        End end() {
            return endBehind(allCodes.size());
        }

        int packed() {
            int sum = 0;
            for (Packet packet : allPackets) {
                sum += packet.codes.size();
            }
            return sum;
        }

        List<Code> open() {
            return new ArrayList<>(allCodes.subList(packed(), allCodes.size()));
        }

        int secondGuess() {
            int from = 0;
            for (int i = 0; i < allPackets.size(); i++) {
                from = allPackets.get(i).hasHead ? i : from;
            }
            End end = allPackets.isEmpty() ? new End(0, 0) : allPackets.get(from).head;
            for (Packet packet : allPackets.subList(Math.min(from, allPackets.size()), allPackets.size())) {
                for (Code code : packet.codes) {
                    end = end.behind(code.bits);
                }
            }
            for (Code code : open()) {
                end = end.behind(code.bits);
            }
            return end.guess;
        }

        void close(int distance) {
            int latest = -1;
            for (Packet packet : allPackets) {
                latest = packet.hasHead ? packet.number : latest;
            }
            int number = allPackets.size();
            boolean hasHead = number == 0 || number - latest >= distance;
            Packet packet = new Packet(number, hasHead, endBehind(packed()), open());
            allPackets.add(packet);
            wire.add(packet);
        }

        Ear earIfAllCame() {
            Ear then = ear;
            for (Packet packet : wire) {
                then = then.behind(packet);
            }
            return then;
        }

        int why() {
            Ear then = earIfAllCame();
            End end = then.end;
            for (Code code : open()) {
                end = end.behind(code.bits);
            }
            if (end.equals(end())) {
                return 0;
            }
            return then.late > ear.late || then.missing > ear.missing || then.awaited != allPackets.size() ? 1 : 2;
        }

        static int sum(List<Integer> numbers) {
            return numbers.stream().mapToInt(Integer::intValue).sum();
        }
    }

    /** All that undo restores. */
    static final class State {
        List<Voice> voices = new ArrayList<>(List.of(new Voice(), new Voice(), new Voice()));
        int[] settings = {1, 0, 4, 3};
        int said;

        State copy() {
            State other = new State();
            for (int i = 0; i < 3; i++) {
                other.voices.set(i, voices.get(i).copy());
            }
            other.settings = settings.clone();
            other.said = said;
            return other;
        }
    }

    private State live = new State();
    private State kept;
    private final List<State> saved = new ArrayList<>();
    private String buffer = "";

    private static void index(boolean isRight) {
        if (!isRight) {
            throw new IndexOutOfBoundsException();
        }
    }

    private static void argument(boolean isRight) {
        if (!isRight) {
            throw new IllegalArgumentException();
        }
    }

    private static void state(boolean isRight) {
        if (!isRight) {
            throw new IllegalStateException();
        }
    }

    private static boolean in(int least, int value, int most) {
        return least <= value && value <= most;
    }

    private Voice voice(int voice) {
        index(in(0, voice, 2));
        return live.voices.get(voice);
    }

    private void save(State before) {
        saved.add(before);
        if (saved.size() > 6) {
            saved.remove(0);
        }
    }

    private int sayIn(int voice, int sample) {
        Voice speaker = voice(voice);
        argument(in(-2000, sample, 2000));
        boolean isFound = speaker.gathered.size() + 1 >= live.settings[0];
        boolean isClosed = speaker.open().size() + (isFound ? 1 : 0) >= live.settings[2];
        state(!isClosed || speaker.wire.size() < 8);
        live.said++;
        speaker.gathered.add(sample);
        int answer = NONE;
        if (isFound) {
            int mean = Voice.sum(speaker.gathered) / speaker.gathered.size();
            mean = Math.abs(mean) < live.settings[1] ? 0 : mean;
            answer = speaker.end().codeOf(mean);
            speaker.allCodes.add(new Code(answer, mean));
            speaker.gathered.clear();
        }
        if (isClosed) {
            speaker.close(live.settings[3]);
        }
        return answer;
    }

    int say(int voice, int sample) {
        State before = live.copy();
        int answer = sayIn(voice, sample);
        save(before);
        return answer;
    }

    int flush(int voice) {
        Voice speaker = voice(voice);
        int codes = speaker.open().size();
        state(codes > 0 && speaker.wire.size() < 8);
        save(live.copy());
        speaker.close(live.settings[3]);
        return codes;
    }

    private int deed(char deed, int voice) {
        Voice doer = voice(voice);
        state(doer.wire.size() >= (deed == 'x' ? 2 : 1));
        Packet first = doer.wire.remove(0);
        if (deed == 'x') {
            doer.wire.add(1, first);
            return doer.wire.get(0).number;
        }
        if (deed == 'l') {
            doer.lost++;
            return first.number;
        }
        int answer = first.number < doer.ear.awaited ? NONE : first.number - doer.ear.awaited;
        doer.came.add(first.number);
        doer.ear = doer.ear.behind(first);
        return answer;
    }

    private int undoableDeed(char deed, int voice) {
        State before = live.copy();
        int answer = deed(deed, voice);
        save(before);
        return answer;
    }

    int deliver(int voice) {
        return undoableDeed('d', voice);
    }

    int lose(int voice) {
        return undoableDeed('l', voice);
    }

    int swap(int voice) {
        return undoableDeed('x', voice);
    }

    int set(int setting, int value) {
        index(in(0, setting, 3));
        argument(setting == 0 ? in(1, value, 4) : setting == 1 ? in(0, value, 99)
                : setting == 2 ? in(1, value, 8) : in(1, value, 9));
        save(live.copy());
        int previous = live.settings[setting];
        live.settings[setting] = value;
        return previous;
    }

    int append(int code) {
        argument(in(33, code, 126));
        state(buffer.length() < 60);
        buffer += (char) code;
        return buffer.length();
    }

    int clearBuffer() {
        int length = buffer.length();
        buffer = "";
        return length;
    }

    int firstError() {
        for (int i = 1; i <= buffer.length(); i++) {
            Matcher matcher = TALK.matcher(buffer.substring(0, i));
            if (!matcher.matches() && !matcher.hitEnd()) {
                return i - 1;
            }
        }
        return buffer.length();
    }

    int talk() {
        argument(TALK.matcher(buffer).matches());
        save(live.copy());
        int done = 0;
        try {
            for (String part : buffer.split(";")) {
                if (!Character.isDigit(part.charAt(0))) {
                    deed(part.charAt(0), part.charAt(1) - '0');
                    done++;
                    continue;
                }
                for (String sample : part.substring(2).split(",")) {
                    sayIn(part.charAt(0) - '0', Integer.parseInt(sample));
                    done++;
                }
            }
        } catch (IllegalArgumentException | IllegalStateException e) {
            // The deeds end here.
        }
        buffer = "";
        return done;
    }

    int keep() {
        kept = live.copy();
        return live.said;
    }

    int goBack() {
        state(kept != null);
        save(live);
        live = kept.copy();
        return live.said;
    }

    int undo() {
        state(!saved.isEmpty());
        live = saved.remove(saved.size() - 1);
        return saved.size();
    }

    int saying(int voice, int what) {
        Voice speaker = voice(voice);
        argument(in(0, what, 9));
        int[] told = {speaker.end().guess, speaker.end().index, speaker.end().step(), speaker.gathered.size(),
            Voice.sum(speaker.gathered), speaker.open().size(), speaker.allPackets.size(), speaker.allCodes.size(),
            speaker.secondGuess(), speaker.wire.size()};
        return told[what];
    }

    int hearing(int voice, int what) {
        Voice listener = voice(voice);
        argument(in(0, what, 11));
        Ear ear = listener.ear;
        int[] told = {ear.end.guess, ear.end.index, ear.end.step(), ear.awaited, ear.heard.size(), ear.missing, ear.late,
            ear.jumps, Voice.sum(ear.errors), ear.errors.stream().mapToInt(Integer::intValue).max().orElse(0),
            Voice.sum(ear.heard), listener.lost};
        return told[what];
    }

    int packet(int voice, int rank, int what) {
        Voice speaker = voice(voice);
        index(in(0, rank, speaker.wire.size() - 1));
        argument(in(0, what, 5));
        Packet packet = speaker.wire.get(rank);
        int one = 0;
        for (Code code : packet.codes) {
            one = one << 4 | code.bits;
        }
        int[] told = {packet.number, packet.codes.size(), packet.hasHead ? 1 : 0,
            packet.hasHead ? packet.head.guess : NONE, packet.hasHead ? packet.head.index : NONE, one};
        return told[what];
    }

    int why(int voice) {
        return voice(voice).why();
    }

    int count(int what) {
        argument(in(0, what, 7));
        int[] told = {live.said, 0, 0, 0, 0, 0, 0, saved.size()};
        for (Voice voice : live.voices) {
            int[] more = {0, voice.allCodes.size(), voice.allPackets.size(), voice.wire.size(), voice.lost,
                voice.came.size(), voice.why() == 0 ? 1 : 0, 0};
            for (int i = 0; i < told.length; i++) {
                told[i] += more[i];
            }
        }
        return told[what];
    }

    int setting(int setting) {
        index(in(0, setting, 3));
        return live.settings[setting];
    }

    int code(int voice, int sample, int what) {
        End end = voice(voice).end();
        argument(in(-2000, sample, 2000) && in(0, what, 4));
        int own = end.codeOf(sample);
        int nearest = 15;
        for (int code = 15; code >= 0; code--) {
            if (Math.abs(end.behind(code).guess - sample) <= Math.abs(end.behind(nearest).guess - sample)) {
                nearest = code;
            }
        }
        int[] told = {own, end.behind(own).guess, end.behind(own).index, nearest, end.behind(nearest).guess};
        return told[what];
    }

    int settles(int voice, int sample, int near) {
        End end = voice(voice).end();
        argument(in(-2000, sample, 2000) && in(1, near, 2000));
        int codes = 0;
        while (Math.abs(end.guess - sample) >= near) {
            if (++codes > 60) {
                return NONE;
            }
            end = end.behind(end.codeOf(sample));
        }
        return codes;
    }

    int ifDelivered(int voice, int what) {
        Voice listener = voice(voice);
        argument(in(0, what, 3));
        Ear now = listener.ear;
        Ear then = listener.earIfAllCame();
        int[] told = {then.end.guess, Voice.sum(then.errors) - Voice.sum(now.errors), then.missing - now.missing,
            then.jumps - now.jumps};
        return told[what];
    }

    double meanError(int voice) {
        Ear ear = voice(voice).ear;
        return ear.errors.isEmpty() ? 0.0 : (double) Voice.sum(ear.errors) / ear.errors.size();
    }

    float lostShare() {
        return count(2) == 0 ? 0.0f : (float) count(4) / count(2);
    }

    long digest() {
        List<Long> values = new ArrayList<>();
        for (int i = 0; i <= 7; i++) {
            values.add((long) count(i));
        }
        for (int i = 0; i <= 3; i++) {
            values.add((long) setting(i));
        }
        for (int voice = 0; voice <= 2; voice++) {
            addVoice(values, voice);
        }
        values.add((long) Float.floatToIntBits(lostShare()));
        values.add(kept == null ? 0L : 1L);
        values.add((long) buffer.length());
        for (char sign : buffer.toCharArray()) {
            values.add((long) sign);
        }
        long hash = 3637;
        for (long value : values) {
            hash = 31 * hash + value;
        }
        return hash;
    }

    private void addVoice(List<Long> values, int voice) {
        for (int i = 0; i <= 9; i++) {
            values.add((long) saying(voice, i));
        }
        for (int i = 0; i <= 11; i++) {
            values.add((long) hearing(voice, i));
        }
        for (int rank = 0; rank < live.voices.get(voice).wire.size(); rank++) {
            for (int i = 0; i <= 5; i++) {
                values.add((long) packet(voice, rank, i));
            }
        }
        values.add((long) why(voice));
        for (int i = 0; i <= 4; i++) {
            values.add((long) code(voice, 100, i));
        }
        values.add((long) settles(voice, -500, 50));
        for (int i = 0; i <= 3; i++) {
            values.add((long) ifDelivered(voice, i));
        }
        values.add(Double.doubleToLongBits(meanError(voice)));
    }
}
