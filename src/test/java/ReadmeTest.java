/** The example of README.md answers what README.md says. */
public final class ReadmeTest {
    public static void main(String[] args) {
        HiddenCaches memory = new HiddenCaches(0);
        Due.is("store(10, 0x11223344)", memory.store(10, 0x11223344), 0);
        Due.is("storeByte(4 * 10 + 1, 0xaa)", memory.storeByte(4 * 10 + 1, 0xaa), 0);
        Due.is("deviceRead(10)", memory.deviceRead(10), 0x1122aa44);
        Due.is("loadByte(4 * 10 + 1, true)", memory.loadByte(4 * 10 + 1, true), -86);
        Due.is("loadReserved(10)", memory.loadReserved(10), 0x1122aa44);
        Due.is("reserved()", memory.reserved(), 10);
        Due.is("deviceWrite(10, 5)", memory.deviceWrite(10, 5), 0);
        Due.is("storeConditional(10, 6)", memory.storeConditional(10, 6), 0);
        Due.is("addTo(10, 2)", memory.addTo(10, 2), 7);
        Due.is("swap(10, 1)", memory.swap(10, 1), 7);
        Due.is("deviceFill(0, 4, 9)", memory.deviceFill(0, 4, 9), 4);
        Due.is("copy(0, 100, 4)", memory.copy(0, 100, 4), 4);
        Due.is("sum()", memory.sum(), 73);
        Due.is("load(256)", memory.load(256), HiddenCaches.BAD_ADDRESS);
        Due.is("copy(0, 100, 33)", memory.copy(0, 100, 33), HiddenCaches.BAD_LENGTH);
        Due.end();
    }
}
