/** What is done to a new object ahead of a test; the same calls again make another object just like it. */
interface Setting {
    void prepare(RegionWords x);

    default RegionWords made() {
        RegionWords x = new RegionWords();
        prepare(x);
        return x;
    }

    default Setting then(Call more) {
        return x -> {
            prepare(x);
            more.on(x);
        };
    }
}
