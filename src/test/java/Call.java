/** A call of the class, so that a test can hand it on. */
interface Call {
    long on(RegionWords x);
}
