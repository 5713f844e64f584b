/** Counts the answers that are not the ones due, and tells them. */
final class Check {
    private final String name;
    private int right = 0;
    private int wrong = 0;

    Check(String name) {
        this.name = name;
    }

    void due(String call, long got, long want) {
        if (got == want) {
            right++;
            return;
        }
        wrong++;
        System.out.println(name + ": " + call + " answered " + got + ", due is " + want);
    }

    /** Objects of both settings answer alike, now and later. */
    void same(String name, Setting one, Setting other) {
        String difference = Look.difference(one, other);
        if (difference == null) {
            right++;
            return;
        }
        wrong++;
        System.out.println(this.name + ": " + name + ", then not as it was: " + difference);
    }

    /** The call is answered so, and nothing has changed. */
    void still(String name, Setting setting, Call call, long want) {
        due(name, call.on(setting.made()), want);
        same(name, setting.then(call), setting);
    }

    void end() {
        System.out.println(name + ": " + right + " answers as due, " + wrong + " not");
        if (wrong != 0) {
            System.exit(1);
        }
    }

    /** Feeds a text and reads it. */
    static int read(RegionWords x, String text) {
        for (char sign : text.toCharArray()) {
            x.feed(sign);
        }
        return x.read();
    }

    static RegionWords with(int... cells) {
        RegionWords x = new RegionWords();
        for (int cell : cells) {
            x.cell(cell, 1);
        }
        return x;
    }

    static RegionWords block(int from, int to) {
        RegionWords x = new RegionWords();
        x.fill(from, to, 1);
        return x;
    }
}
