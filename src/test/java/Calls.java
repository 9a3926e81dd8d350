/** One call with its arguments, so that it can be made on several objects. */
record Calls(int method, int a, int b, int c) {
    static final int METHODS = 15;
    private static final String[] NAMES = {"load", "store", "loadByte", "storeByte", "swap", "addTo",
        "loadReserved", "storeConditional", "copy", "deviceRead", "deviceWrite", "deviceFill", "hint",
        "sum", "reserved"};

    /** Mostly few addresses, so that calls meet; now and then an edge or a wrong one. */
    static Calls any(Numbers numbers) {
        int method = numbers.below(METHODS);
        boolean bytes = method == 2 || method == 3;
        int a = address(numbers, bytes ? 1024 : 256);
        return switch (method) {
            case 8 -> new Calls(method, a, address(numbers, 256), length(numbers, 32));
            case 11 -> new Calls(method, a, length(numbers, 64), numbers.any());
            case 2 -> new Calls(method, a, numbers.below(2), 0);
            default -> new Calls(method, a, numbers.any(), 0);
        };
    }

    private static int address(Numbers numbers, int end) {
        return switch (numbers.below(16)) {
            case 0 -> -1 - numbers.below(3);
            case 1 -> end + numbers.below(3);
            case 2 -> numbers.any();
            case 3, 4 -> end - 1 - numbers.below(4);
            case 5, 6 -> numbers.below(end);
            default -> numbers.below(end / 32);
        };
    }

    private static int length(Numbers numbers, int longest) {
        return switch (numbers.below(8)) {
            case 0 -> numbers.any();
            case 1 -> -1;
            case 2 -> longest;
            case 3 -> longest + 1;
            case 4 -> numbers.below(longest);
            default -> numbers.below(4);
        };
    }

    int on(HiddenCaches x) {
        return switch (method) {
            case 0 -> x.load(a);
            case 1 -> x.store(a, b);
            case 2 -> x.loadByte(a, b == 1);
            case 3 -> x.storeByte(a, b);
            case 4 -> x.swap(a, b);
            case 5 -> x.addTo(a, b);
            case 6 -> x.loadReserved(a);
            case 7 -> x.storeConditional(a, b);
            case 8 -> x.copy(a, b, c);
            case 9 -> x.deviceRead(a);
            case 10 -> x.deviceWrite(a, b);
            case 11 -> x.deviceFill(a, b, c);
            case 12 -> x.hint(a, b);
            case 13 -> x.sum();
            default -> x.reserved();
        };
    }

    int on(WriteLog x) {
        return switch (method) {
            case 0, 9 -> x.read(a);
            case 1, 10 -> x.write(a, b);
            case 2 -> x.readByte(a, b == 1);
            case 3 -> x.writeByte(a, b);
            case 4 -> x.swap(a, b);
            case 5 -> x.add(a, b);
            case 6 -> x.reserve(a);
            case 7 -> x.conditional(a, b);
            case 8 -> x.copy(a, b, c);
            case 11 -> x.fill(a, b, c);
            case 12 -> a < 0 || a > 255 ? -1 : 0;
            case 13 -> x.sum();
            default -> x.reserved();
        };
    }

    @Override
    public String toString() {
        return NAMES[method] + "(" + a + ", " + b + ", " + c + ")";
    }
}
