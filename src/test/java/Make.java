import java.util.ArrayList;
import java.util.List;

/** Makes objects and texts for the tests. */
final class Make {
    private Make() {
    }

    /** Stations that can use all channels, with the values 100, 200, .. and the weight 10, and these conflicts. */
    static SpectrumReallocator stations(int number, String conflicts) {
        SpectrumReallocator made = new SpectrumReallocator();
        for (int station = 0; station < number; station++) {
            made.addStation(255, 100 * (station + 1), 10);
        }
        conflicts(made, conflicts);
        return made;
    }

    /** Appends a text, four characters a call, and returns how many the buffer has. */
    static int text(SpectrumReallocator object, String text) {
        int length = 0;
        for (int from = 0; from < text.length(); from += 4) {
            length = object.append(packed(text.substring(from, Math.min(from + 4, text.length()))));
        }
        return length;
    }

    static int packed(String upToFour) {
        int packed = 0;
        for (int i = 0; i < upToFour.length(); i++) {
            packed = packed << 8 | upToFour.charAt(i);
        }
        return packed;
    }

    /** Sets conflicts, as many pairs a call as the buffer holds. */
    static void conflicts(SpectrumReallocator object, String text) {
        for (String part : parts(text)) {
            text(object, part);
            object.setConflicts();
        }
    }

    /** A text of conflicts in parts that the buffer holds. */
    static List<String> parts(String text) {
        List<String> parts = new ArrayList<>();
        String part = "";
        for (String pair : text.split(";")) {
            if (part.length() + 1 + pair.length() > 40) {
                parts.add(part);
                part = "";
            }
            part += part.isEmpty() ? pair : ";" + pair;
        }
        if (!part.isEmpty()) {
            parts.add(part);
        }
        return parts;
    }

    /** All pairs of the first stations. */
    static String pairs(int stations, String kinds) {
        StringBuilder text = new StringBuilder();
        for (int one = 0; one < stations; one++) {
            for (int other = one + 1; other < stations; other++) {
                text.append(text.length() == 0 ? "" : ";").append(one).append('-').append(other).append(kinds);
            }
        }
        return text.toString();
    }

    /** The text of all conflicts. */
    static String conflictsOf(SpectrumReallocator object) {
        StringBuilder text = new StringBuilder();
        int length = object.conflicts(-1);
        for (int i = 0; i < length; i++) {
            text.append((char) object.conflicts(i));
        }
        return text.toString();
    }

    /** The channels of the first stations in the kept assignment, a sign each, "-" for none. */
    static String keptOf(SpectrumReallocator object) {
        StringBuilder kept = new StringBuilder();
        for (int station = 0; station < object.count(0); station++) {
            int channel = object.station(station, 5);
            kept.append(channel == -1 ? "-" : Integer.toString(channel));
        }
        return kept.toString();
    }
}
