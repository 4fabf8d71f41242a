/** Reports seen in a mirror and upside down: what they tell of a body must turn with them. */
final class Turned {
    private Turned() {
    }

    static String[] mirrored(String... reports) {
        String[] turned = reports.clone();
        for (int i = 0; i < reports.length; i++) {
            String[] parts = reports[i].split("[:,~]");
            if (parts.length > 2) {
                turned[i] = parts[0] + ":" + -Integer.parseInt(parts[2]) + "," + -Integer.parseInt(parts[1])
                    + (parts.length > 3 ? "~" + parts[3] : "");
            }
        }
        return turned;
    }

    static String[] upsideDown(String... reports) {
        String[] turned = reports.clone();
        for (int i = 0; i < reports.length; i++) {
            int colon = reports[i].indexOf(':');
            turned[i] = -Integer.parseInt(reports[i].substring(0, colon)) + reports[i].substring(colon);
        }
        return turned;
    }

    /** As they are, mirrored, upside down, and both. */
    static String[][] all(String... reports) {
        return new String[][] {reports, mirrored(reports), upsideDown(reports), mirrored(upsideDown(reports))};
    }
}
