import java.util.Arrays;
import java.util.NoSuchElementException;

/**
 * One text that five hands write, each of which hears late of what the others do.
 *
 * All letters stand in one row that the hands share: what a hand sees is the part of that row
 * which the edits that it has heard leave in sight. A hand's edits are heard in the order of
 * their numbers, so what a hand has heard is told by one count for each hand.
 *
 * Hands that move the same letters at once multiply them, so there can be billions. They are
 * therefore never held one by one, but in pieces: letters of one edit, one behind the other, that
 * no other edit has told apart. Each edit tells letters apart at three places at most, so pieces
 * are few.
 */
public final class Manypens {
    private static final int HANDS = 5;
    private static final int EDITS = 40;
    private static final int ALL = HANDS * EDITS;
    private static final int MOST_TYPED = 12;
    private static final int LONGEST = 60;
    private static final int MOST_REPEATED = 200;
    /** The greatest int. */
    private static final long MOST_TOLD = 2147483647L;
    /** Bits of a set of edits, in rows of longs. */
    private static final int BITS = 64;
    private static final int WORDS = (ALL + BITS - 1) / BITS;
    /** As a letter: the begin of the row, which stands ahead of all, or the end behind all. */
    private static final long NO_LETTER = 0;
    /** The piece of the begin; as the next one of a chain, its end. */
    private static final int NO_PIECE = 0;
    private static final int B = 1;
    private static final int I = 2;

    private final Ints typed;
    private final Book book;
    private final Row row;
    private final Hand[] hands;
    private final View past;
    private final int[] heardThen;
    private final View anew;
    private final InTime forOne;
    private final InTime forOther;

    public Manypens() {
        typed = new Ints(MOST_TYPED);
        book = new Book();
        row = new Row(book);
        hands = new Hand[HANDS];
        for (int hand = 0; hand < HANDS; hand++) {
            hands[hand] = new Hand(new View(book, row));
        }
        past = new View(book, row);
        heardThen = new int[HANDS];
        anew = new View(book, new Row(book));
        forOne = new InTime(book);
        forOther = new InTime(book);
    }

    // ---- what is typed

    public int type(char sign) throws IllegalArgumentException, IllegalStateException {
        if (sign < 32 || sign > 126) {
            throw new IllegalArgumentException("no such sign");
        }
        if (typed.size() >= MOST_TYPED) {
            throw new IllegalStateException("too many signs");
        }
        typed.add(sign);
        return typed.size();
    }

    public int erase() {
        int many = typed.size();
        typed.clear();
        return many;
    }

    // ---- edits

    public int put(int hand, int place) throws IndexOutOfBoundsException, NoSuchElementException, UnsupportedOperationException, IllegalStateException {
        needHand(hand);
        View view = viewOf(hand);
        needPlace(place, view.size());
        needTyped();
        needShort(view.size() + typed.size());
        needEdit(hand);
        Edit edit = newEdit(hand);
        useTyped(edit, view.letterAhead(place));
        makeChange(edit);
        return told(viewOf(hand).size());
    }

    public int take(int hand, int place, int many) throws IndexOutOfBoundsException, NoSuchElementException, IllegalStateException {
        needHand(hand);
        needLetters(viewOf(hand), place, many);
        needEdit(hand);
        Edit edit = newEdit(hand);
        takeLetters(edit, cutOut(hand, place, many), place, many);
        makeChange(edit);
        return told(viewOf(hand).size());
    }

    public int replace(int hand, int place, int many) throws IndexOutOfBoundsException, NoSuchElementException, UnsupportedOperationException, IllegalStateException {
        needHand(hand);
        needLetters(viewOf(hand), place, many);
        needTyped();
        needShort(viewOf(hand).size() - many + typed.size());
        needEdit(hand);
        Edit edit = newEdit(hand);
        View view = cutOut(hand, place, many);
        takeLetters(edit, view, place, many);
        useTyped(edit, view.letterAhead(place));
        makeChange(edit);
        return told(viewOf(hand).size());
    }

    public int move(int hand, int place, int many, int to) throws IndexOutOfBoundsException, NoSuchElementException, IllegalStateException {
        needHand(hand);
        needLetters(viewOf(hand), place, many);
        needPlace(to, viewOf(hand).size() - many);
        needEdit(hand);
        Edit edit = newEdit(hand);
        View view = cutOut(hand, place, many);
        takeLetters(edit, view, place, many);
        copyLetters(edit, view, place, many);
        edit.origin = view.letterAhead(to <= place ? to : (long) to + many);
        makeChange(edit);
        return to - place;
    }

    public int mark(int hand, int place, int many, char kind, boolean isOn, boolean isGrowing) throws IndexOutOfBoundsException, IllegalArgumentException, NoSuchElementException, IllegalStateException {
        needHand(hand);
        needKind(kind);
        needLetters(viewOf(hand), place, many);
        needEdit(hand);
        Edit edit = newEdit(hand);
        edit.mark = bitOf(kind);
        edit.isOn = isOn;
        spanLetters(edit, cutOut(hand, place, many), place, many);
        if (isGrowing) {
            edit.to = viewOf(hand).letterAt((long) place + many);
            edit.isToWithin = false;
        }
        makeChange(edit);
        return edit.number;
    }

    public int comment(int hand, int place, int many, int code) throws IndexOutOfBoundsException, NoSuchElementException, IllegalStateException {
        needHand(hand);
        needLetters(viewOf(hand), place, many);
        needEdit(hand);
        Edit edit = newEdit(hand);
        edit.isComment = true;
        edit.code = code;
        spanLetters(edit, cutOut(hand, place, many), place, many);
        makeChange(edit);
        return edit.label();
    }

    public int write(int hand) throws IndexOutOfBoundsException, UnsupportedOperationException, IllegalStateException {
        needHand(hand);
        needTyped();
        View view = viewOf(hand);
        needShort(view.size() + typed.size());
        needEdit(hand);
        Edit edit = newEdit(hand);
        useTyped(edit, view.letterAhead(view.placeBehind(hands[hand].cursor)));
        makeChange(edit);
        hands[hand].cursor = edit.firstLetter + edit.letters - 1;
        return told(viewOf(hand).placeBehind(hands[hand].cursor));
    }

    public int open(int hand) throws IndexOutOfBoundsException, IllegalStateException {
        needHand(hand);
        if (hands[hand].isOpen) {
            throw new IllegalStateException("a group is open");
        }
        hands[hand].openGroup();
        return hands[hand].undoable.size();
    }

    public int close(int hand) throws IndexOutOfBoundsException, IllegalStateException {
        needHand(hand);
        if (!hands[hand].isOpen) {
            throw new IllegalStateException("no group is open");
        }
        return hands[hand].closeGroup();
    }

    public int undo(int hand) throws IndexOutOfBoundsException, NoSuchElementException, IllegalStateException {
        needHand(hand);
        Hand maker = hands[hand];
        if (maker.undoable.size() == 0) {
            throw new NoSuchElementException("nothing to undo");
        }
        needEdit(hand);
        return turn(hand, maker.undoable, maker.redoable, Edit.UNDOING);
    }

    public int redo(int hand) throws IndexOutOfBoundsException, NoSuchElementException, IllegalStateException {
        needHand(hand);
        Hand maker = hands[hand];
        if (maker.redoable.size() == 0) {
            throw new NoSuchElementException("nothing to do again");
        }
        needEdit(hand);
        return turn(hand, maker.redoable, maker.undoable, Edit.REDOING);
    }

    public int groups(int hand, boolean isUndone) throws IndexOutOfBoundsException {
        needHand(hand);
        return isUndone ? hands[hand].redoable.size() : hands[hand].undoable.size();
    }

    // ---- texts

    public int length(int hand) throws IndexOutOfBoundsException {
        needHand(hand);
        return told(viewOf(hand).size());
    }

    public char signAt(int hand, int place) throws IndexOutOfBoundsException, NoSuchElementException {
        needHand(hand);
        needLetter(viewOf(hand), place);
        return (char) book.signs.signOf(viewOf(hand).letterAt(place));
    }

    public int birth(int hand, int place) throws IndexOutOfBoundsException, NoSuchElementException {
        needHand(hand);
        needLetter(viewOf(hand), place);
        return viewOf(hand).makerAt(viewOf(hand).indexAt(place)).label();
    }

    public boolean isMarked(int hand, int place, char kind) throws IndexOutOfBoundsException, IllegalArgumentException, NoSuchElementException {
        needHand(hand);
        needKind(kind);
        needLetter(viewOf(hand), place);
        return (viewOf(hand).marksAt(viewOf(hand).indexAt(place)) & bitOf(kind)) != 0;
    }

    public int runs(int hand) throws IndexOutOfBoundsException {
        needHand(hand);
        View view = viewOf(hand);
        int many = 0;
        for (int i = 0; i < view.pieces(); i++) {
            if (i == 0 || view.marksAt(i) != view.marksAt(i - 1)) {
                many++;
            }
        }
        return many;
    }

    public int comments(int hand) throws IndexOutOfBoundsException {
        needHand(hand);
        return viewOf(hand).hung.size();
    }

    public int commentAt(int hand, int index, char what) throws IndexOutOfBoundsException, NoSuchElementException, IllegalArgumentException {
        needHand(hand);
        View view = viewOf(hand);
        if (index < 0 || index >= view.hung.size()) {
            throw new NoSuchElementException("no such comment");
        }
        Edit edit = book.editAt(view.hung.at(index));
        if (what == 'n') {
            return edit.label();
        }
        if (what == 'f') {
            return told(view.placeOf(view.firsts.at(index)));
        }
        if (what == 'l') {
            return told(view.placeOf(view.ends.at(index)) - 1);
        }
        if (what == 'c') {
            return edit.code;
        }
        throw new IllegalArgumentException("no such letter");
    }

    public int setCursor(int hand, int place) throws IndexOutOfBoundsException, NoSuchElementException {
        needHand(hand);
        View view = viewOf(hand);
        needPlace(place, view.size());
        long old = view.placeBehind(hands[hand].cursor);
        hands[hand].cursor = view.letterAhead(place);
        return told(old);
    }

    public int cursor(int hand) throws IndexOutOfBoundsException {
        needHand(hand);
        return told(viewOf(hand).placeBehind(hands[hand].cursor));
    }

    // ---- on the way

    public int onWay(int hand) throws IndexOutOfBoundsException {
        needHand(hand);
        return hands[hand].way.size();
    }

    public int wayAt(int hand, int index) throws IndexOutOfBoundsException, NoSuchElementException {
        needHand(hand);
        needOnWay(hand, index);
        return book.editAt(hands[hand].way.at(index)).label();
    }

    public char deliver(int hand, int index) throws IndexOutOfBoundsException, NoSuchElementException {
        needHand(hand);
        needOnWay(hand, index);
        Hand hearer = hands[hand];
        Edit edit = book.editAt(hearer.way.cut(index));
        if (hearer.hasHeard(edit) || hearer.isWaiting(edit)) {
            return 'k';
        }
        if (!hearer.canHear(edit)) {
            hearer.letWait(edit);
            return 'w';
        }
        hearFrom(hearer, edit);
        return 'h';
    }

    public int repeat(int hand, int index) throws IndexOutOfBoundsException, NoSuchElementException, IllegalStateException {
        needHand(hand);
        needOnWay(hand, index);
        Ints way = hands[hand].way;
        if (way.size() >= MOST_REPEATED) {
            throw new IllegalStateException("too many on the way");
        }
        way.add(way.at(index));
        return way.size();
    }

    public int lose(int hand, int index) throws IndexOutOfBoundsException, NoSuchElementException {
        needHand(hand);
        needOnWay(hand, index);
        hands[hand].way.cut(index);
        return hands[hand].way.size();
    }

    public int meet(int hand, int other) throws IndexOutOfBoundsException, IllegalArgumentException {
        needHand(hand);
        needHand(other);
        if (hand == other) {
            throw new IllegalArgumentException("the same hand");
        }
        // Both lists are fixed ahead of the hearing: each hears what the other one had heard.
        forOne.start(hands[hand].heard, hands[other].heard);
        forOther.start(hands[other].heard, hands[hand].heard);
        return hearAll(hands[hand], forOne) + hearAll(hands[other], forOther);
    }

    public int waiting(int hand) throws IndexOutOfBoundsException {
        needHand(hand);
        return hands[hand].manyWaiting();
    }

    public int lacks(int hand, int other) throws IndexOutOfBoundsException {
        needHand(hand);
        needHand(other);
        int many = 0;
        for (int of = 0; of < HANDS; of++) {
            many += Math.max(0, hands[hand].heard[of] - hands[other].heard[of]);
        }
        return many;
    }

    public int heard(int hand, int of) throws IndexOutOfBoundsException {
        needHand(hand);
        needHand(of);
        return hands[hand].heard[of];
    }

    public int leans(int hand, int number, int of) throws IndexOutOfBoundsException, NoSuchElementException {
        needHand(hand);
        needHand(of);
        if (number < 1 || number > book.made[hand]) {
            throw new NoSuchElementException("no such edit");
        }
        return book.editOf(hand, number).leaning[of];
    }

    // ---- the past

    public int steps(int hand) throws IndexOutOfBoundsException {
        needHand(hand);
        return hands[hand].past.size();
    }

    public int lengthThen(int hand, int step) throws IndexOutOfBoundsException, NoSuchElementException {
        needHand(hand);
        needStep(hand, step);
        goBack(hand, step);
        return told(past.size());
    }

    public char signThen(int hand, int step, int place) throws IndexOutOfBoundsException, NoSuchElementException {
        needHand(hand);
        needStep(hand, step);
        goBack(hand, step);
        needLetter(past, place);
        return (char) book.signs.signOf(past.letterAt(place));
    }

    public int differ(int hand, int other) throws IndexOutOfBoundsException {
        needHand(hand);
        needHand(other);
        View one = viewOf(hand);
        View two = viewOf(other);
        return told(one.size() + two.size() - 2 * one.manyInCommon(two));
    }

    public boolean isAlike(int hand, int other) throws IndexOutOfBoundsException {
        needHand(hand);
        needHand(other);
        return viewOf(hand).isSame(viewOf(other));
    }

    public int forget() throws IllegalStateException {
        if (!haveAllHeardAll()) {
            throw new IllegalStateException("not all have heard all");
        }
        // All have heard the same, so what one of them sees is what is left for all.
        View view = viewOf(0);
        long many = row.size() - view.size();
        for (int id = 0; id < ALL; id++) {
            view.settle(book.editAt(id));
        }
        for (int hand = 0; hand < HANDS; hand++) {
            hands[hand].cursor = view.letterAhead(view.placeBehind(hands[hand].cursor));
        }
        row.lay(view.text);
        book.setBase();
        for (int hand = 0; hand < HANDS; hand++) {
            hands[hand].startAnew();
        }
        return told(many);
    }

    public int kept(int hand) throws IndexOutOfBoundsException {
        needHand(hand);
        return told(viewOf(hand).kept);
    }

    // ---- figures

    public float othersShare(int hand) throws IndexOutOfBoundsException, ArithmeticException {
        needHand(hand);
        View view = viewOf(hand);
        if (view.size() == 0) {
            throw new ArithmeticException("no letters");
        }
        long many = 0;
        for (int i = 0; i < view.pieces(); i++) {
            if (view.makerAt(i).hand != hand) {
                many += view.manyAt(i);
            }
        }
        return (float) many / (float) view.size();
    }

    public double meanTime(int hand) throws IndexOutOfBoundsException, ArithmeticException {
        needHand(hand);
        View view = viewOf(hand);
        if (view.size() == 0) {
            throw new ArithmeticException("no letters");
        }
        long sum = 0;
        for (int i = 0; i < view.pieces(); i++) {
            sum += view.makerAt(i).time * view.manyAt(i);
        }
        return (double) sum / (double) view.size();
    }

    public long checksum() {
        long sum = 7;
        for (int hand = 0; hand < HANDS; hand++) {
            View view = viewOf(hand);
            for (int of = 0; of < HANDS; of++) {
                sum = 31 * sum + hands[hand].heard[of];
            }
            sum = sumOn(sum, view);
            sum = 31 * sum + view.placeBehind(hands[hand].cursor);
            sum = 31 * sum + hands[hand].way.size();
        }
        for (int i = 0; i < typed.size(); i++) {
            sum = 31 * sum + typed.at(i);
        }
        return sum;
    }

    public boolean isTrue() {
        for (int hand = 0; hand < HANDS; hand++) {
            hearAnew(hand);
            if (!viewOf(hand).isSame(anew)) {
                return false;
            }
            for (int other = 0; other < hand; other++) {
                if (haveHeardSame(hand, other) && !viewOf(hand).isSame(viewOf(other))) {
                    return false;
                }
            }
        }
        return true;
    }

    /** Goes on with the sum of all over the signs and the marks of a text. */
    private long sumOn(long before, View view) {
        long sum = before;
        for (int i = 0; i < view.pieces(); i++) {
            long many = view.manyAt(i);
            long signs = book.signs.sumOf(view.letterAt(view.placeOf(i)), many);
            sum = sum * Signs.power(many) + 31 * signs + view.marksAt(i) * Signs.ones(many);
        }
        return sum;
    }

    // ---- what a call needs

    private static boolean isHand(int hand) {
        return hand >= 0 && hand < HANDS;
    }

    private void needHand(int hand) {
        if (!isHand(hand)) {
            throw new IndexOutOfBoundsException("no such hand");
        }
    }

    private void needPlace(int place, long last) {
        if (place < 0 || place > last) {
            throw new NoSuchElementException("no such place");
        }
    }

    private void needLetter(View view, int place) {
        if (place < 0 || place >= view.size()) {
            throw new NoSuchElementException("no such place");
        }
    }

    private void needLetters(View view, int place, int many) {
        if (many < 1 || place < 0 || place >= view.size() || many > view.size() - place) {
            throw new NoSuchElementException("no such letters");
        }
    }

    private void needKind(char kind) {
        if (kind != 'b' && kind != 'i') {
            throw new IllegalArgumentException("no such kind");
        }
    }

    private void needTyped() {
        if (typed.size() == 0) {
            throw new UnsupportedOperationException("nothing is typed");
        }
    }

    private void needShort(long length) {
        if (length > LONGEST) {
            throw new IllegalStateException("too long");
        }
    }

    private void needEdit(int hand) {
        if (book.made[hand] >= EDITS) {
            throw new IllegalStateException("too many edits");
        }
    }

    private void needOnWay(int hand, int index) {
        if (index < 0 || index >= hands[hand].way.size()) {
            throw new NoSuchElementException("no such edit on the way");
        }
    }

    private void needStep(int hand, int step) {
        if (step < 0 || step > hands[hand].past.size()) {
            throw new NoSuchElementException("not so many steps");
        }
    }

    // ---- making edits

    /** There can be more letters than an int can tell; then it is the greatest one. */
    private static int told(long many) {
        return (int) Math.min(many, MOST_TOLD);
    }

    private static int bitOf(char kind) {
        return kind == 'b' ? B : I;
    }

    private Edit newEdit(int hand) {
        return new Edit(hand, book.made[hand] + 1, hands[hand].latest + 1, hands[hand].heard);
    }

    /** Cuts letters of a text free, so that they are whole pieces; returns what the hand sees then. */
    private View cutOut(int hand, int place, int many) {
        View view = viewOf(hand);
        long first = view.letterAt(place);
        long last = view.letterAt((long) place + many - 1);
        row.cutBehind(first - 1);
        row.cutBehind(last);
        return viewOf(hand);
    }

    private void takeLetters(Edit edit, View view, int place, int many) {
        int end = view.indexAt((long) place + many);
        for (int i = view.indexAt(place); i < end; i++) {
            book.pieces.addTaker(view.pieceAt(i), edit.id);
        }
    }

    private void copyLetters(Edit edit, View view, int place, int many) {
        edit.firstLetter = book.signs.nextLetter();
        edit.letters = many;
        int end = view.indexAt((long) place + many);
        for (int i = view.indexAt(place); i < end; i++) {
            book.signs.copy(view.letterAt(view.placeOf(i)), view.manyAt(i));
        }
    }

    private void spanLetters(Edit edit, View view, int place, int many) {
        edit.from = view.letterAt(place);
        edit.to = view.letterAt((long) place + many - 1);
        edit.isToWithin = true;
    }

    private void useTyped(Edit edit, long origin) {
        edit.origin = origin;
        edit.firstLetter = book.signs.nextLetter();
        edit.letters = typed.size();
        book.signs.writeDown(typed);
        typed.clear();
    }

    private void makeChange(Edit edit) {
        if (isHand(edit.hand)) {
            hands[edit.hand].joinGroup(edit);
            send(edit);
        }
    }

    private int turn(int hand, Ints from, Ints to, int turning) {
        Hand maker = hands[hand];
        maker.closeGroup();
        int group = from.cut(from.size() - 1);
        to.add(group);
        Edit edit = newEdit(hand);
        edit.turning = turning;
        edit.group = group;
        send(edit);
        return maker.sizeOf(group);
    }

    private void send(Edit edit) {
        book.add(edit);
        if (edit.letters > 0) {
            row.cutBehind(edit.origin);
            row.weave(edit);
            row.number();
        }
        for (int hand = 0; hand < HANDS; hand++) {
            if (hand == edit.hand) {
                hands[hand].hear(edit);
            } else {
                hands[hand].way.add(edit.id);
            }
        }
    }

    // ---- hearing

    /** Lets a hand hear an edit, and what waited for it; returns how many these are. */
    private int hearFrom(Hand hearer, Edit edit) {
        hearer.hear(edit);
        int many = 1;
        for (int i = 0; i < ALL; i++) {
            int id = hearer.nextReady(book);
            if (id < 0) {
                break;
            }
            hearer.hear(book.editAt(id));
            many++;
        }
        return many;
    }

    private int hearAll(Hand hearer, InTime list) {
        int many = 0;
        for (int i = 0; i < ALL; i++) {
            int id = list.next();
            if (id < 0) {
                break;
            }
            // What waited may have been heard by now, ahead of its turn.
            if (!hearer.hasHeard(book.editAt(id))) {
                many += hearFrom(hearer, book.editAt(id));
            }
        }
        return many;
    }

    private boolean haveAllHeardAll() {
        for (int hand = 0; hand < HANDS; hand++) {
            for (int of = 0; of < HANDS; of++) {
                if (hands[hand].heard[of] != book.made[of]) {
                    return false;
                }
            }
        }
        return true;
    }

    private boolean haveHeardSame(int hand, int other) {
        for (int of = 0; of < HANDS; of++) {
            if (hands[hand].heard[of] != hands[other].heard[of]) {
                return false;
            }
        }
        return true;
    }

    // ---- views

    private View viewOf(int hand) {
        Hand looker = hands[hand];
        if (looker.isStale || looker.view.isOld()) {
            looker.view.see(looker.heard);
            looker.view.dress();
            looker.isStale = false;
        }
        return looker.view;
    }

    private void goBack(int hand, int step) {
        System.arraycopy(book.base, 0, heardThen, 0, HANDS);
        for (int i = 0; i < step; i++) {
            int maker = book.editAt(hands[hand].past.at(i)).hand;
            if (isHand(maker)) {
                heardThen[maker]++;
            }
        }
        past.see(heardThen);
    }

    private void hearAnew(int hand) {
        // The text of a view that is about to be seen anew is free to hold them for a while.
        row.gatherBase(anew.text);
        anew.row.lay(anew.text);
        forOne.start(book.base, hands[hand].heard);
        for (int i = 0; i < ALL; i++) {
            int id = forOne.next();
            if (id < 0) {
                break;
            }
            anew.row.weave(book.editAt(id));
        }
        anew.row.number();
        anew.see(hands[hand].heard);
        anew.dress();
    }

    /** A row of numbers that gets room as it needs it; what is outside of it reads 0. */
    private static final class Ints {
        /** Far above what any run can need. */
        private static final int MOST = 1 << 20;

        private int[] all;
        private int size;

        Ints(int room) {
            all = new int[room < 1 ? 1 : room];
        }

        int size() {
            return size;
        }

        int at(int index) {
            return index >= 0 && index < size ? all[index] : 0;
        }

        void set(int index, int value) {
            if (index >= 0 && index < size) {
                all[index] = value;
            }
        }

        void clear() {
            size = 0;
        }

        void add(int value) {
            if (makeRoom(size + 1)) {
                all[size] = value;
                size++;
            }
        }

        void addAt(int index, int value) {
            if (index >= 0 && index <= size && makeRoom(size + 1)) {
                System.arraycopy(all, index, all, index + 1, size - index);
                all[index] = value;
                size++;
            }
        }

        int cut(int index) {
            if (index < 0 || index >= size) {
                return 0;
            }
            int value = all[index];
            System.arraycopy(all, index + 1, all, index, size - index - 1);
            size--;
            return value;
        }

        void widen(int many) {
            if (many > size && makeRoom(many)) {
                Arrays.fill(all, size, many, 0);
                size = many;
            }
        }

        boolean isEqual(Ints other) {
            if (size != other.size) {
                return false;
            }
            for (int i = 0; i < size; i++) {
                if (at(i) != other.at(i)) {
                    return false;
                }
            }
            return true;
        }

        private boolean makeRoom(int many) {
            if (many > MOST) {
                return false;
            }
            if (many > all.length) {
                all = Arrays.copyOf(all, Math.min(MOST, Math.max(many, 2 * all.length)));
            }
            return true;
        }
    }

    /** The same for longs. */
    private static final class Longs {
        private static final int MOST = 1 << 20;

        private long[] all;
        private int size;

        Longs(int room) {
            all = new long[room < 1 ? 1 : room];
        }

        int size() {
            return size;
        }

        long at(int index) {
            return index >= 0 && index < size ? all[index] : 0;
        }

        void set(int index, long value) {
            if (index >= 0 && index < size) {
                all[index] = value;
            }
        }

        void clear() {
            size = 0;
        }

        void add(long value) {
            if (makeRoom(size + 1)) {
                all[size] = value;
                size++;
            }
        }

        void addAt(int index, long value) {
            if (index >= 0 && index <= size && makeRoom(size + 1)) {
                System.arraycopy(all, index, all, index + 1, size - index);
                all[index] = value;
                size++;
            }
        }

        void widen(int many) {
            if (many > size && makeRoom(many)) {
                Arrays.fill(all, size, many, 0);
                size = many;
            }
        }

        /** In a row that rises: how many stand in it that are less. */
        int manyBelow(long value) {
            int low = 0;
            int high = size;
            while (low < high) {
                int middle = low + (high - low) / 2;
                if (all[middle] < value) {
                    low = middle + 1;
                } else {
                    high = middle;
                }
            }
            return low;
        }

        private boolean makeRoom(int many) {
            if (many > MOST) {
                return false;
            }
            if (many > all.length) {
                all = Arrays.copyOf(all, Math.min(MOST, Math.max(many, 2 * all.length)));
            }
            return true;
        }
    }

    /** An edit, and what it does; what it does not do stays 0. */
    private static final class Edit {
        private static final int UNDOING = 1;
        private static final int REDOING = 2;

        private final int hand;
        private final int number;
        private final int id;
        private final int time;
        private final int[] leaning;
        private int group;
        private int turning;
        private long origin;
        private long firstLetter;
        private long letters;
        private int mark;
        private boolean isOn;
        private boolean isComment;
        private int code;
        private long from;
        private long to;
        private boolean isToWithin;

        Edit(int hand, int number, int time, int[] heard) {
            this.hand = hand;
            this.number = number;
            this.id = hand * EDITS + number - 1;
            this.time = time;
            this.leaning = heard.clone();
        }

        int label() {
            return 100 * hand + number;
        }

        boolean isAbove(Edit other) {
            return time > other.time || time == other.time && hand > other.hand;
        }
    }

    /** All edits, and all letters in their pieces, with their signs. */
    private static final class Book {
        private final Edit none;
        private final Edit[] edits;
        private final int[] made;
        private final int[] base;
        private final Pieces pieces;
        private final Signs signs;
        private final Ints marks;
        private final Ints comments;

        Book() {
            none = new Edit(0, 0, 0, new int[HANDS]);
            edits = new Edit[ALL];
            made = new int[HANDS];
            base = new int[HANDS];
            pieces = new Pieces();
            signs = new Signs();
            marks = new Ints(32);
            comments = new Ints(32);
        }

        Edit editAt(int id) {
            Edit edit = id >= 0 && id < ALL ? edits[id] : null;
            return edit == null ? none : edit;
        }

        Edit editOf(int hand, int number) {
            return number < 1 || number > EDITS ? none : editAt(hand * EDITS + number - 1);
        }

        /** Which edit put the letters of a piece. */
        Edit makerOf(int piece) {
            return editAt(pieces.makers.at(piece));
        }

        void add(Edit edit) {
            if (edit.id < 0 || edit.id >= ALL || !isHand(edit.hand)) {
                return;
            }
            edits[edit.id] = edit;
            made[edit.hand]++;
            if (edit.letters > 0) {
                pieces.add(edit.firstLetter, edit.letters, edit.id);
            }
            if (edit.mark != 0) {
                addMark(edit);
            }
            if (edit.isComment) {
                comments.add(edit.id);
            }
        }

        /** Those that rule over others stand behind them, so that marks can be laid on in order. */
        private void addMark(Edit edit) {
            int at = marks.size();
            while (at > 0 && editAt(marks.at(at - 1)).isAbove(edit)) {
                at--;
            }
            marks.addAt(at, edit.id);
        }

        void setBase() {
            System.arraycopy(made, 0, base, 0, HANDS);
        }

        boolean isBase(Edit edit) {
            return isHand(edit.hand) && edit.number <= base[edit.hand];
        }
    }

    /**
     * All letters, which are numbered from 1 as they are made, in pieces. A piece is told by a number of its
     * own, from 1; when it is cut, the letters ahead keep that.
     */
    private static final class Pieces {
        private final Longs firsts;
        private final Longs sizes;
        private final Ints makers;
        /** For each piece WORDS longs, as a set of the edits that took its letters. */
        private final Longs takers;
        /** The pieces by their letters, and their first letters. */
        private final Ints sorted;
        private final Longs starts;

        Pieces() {
            firsts = new Longs(32);
            sizes = new Longs(32);
            makers = new Ints(32);
            takers = new Longs(32 * WORDS);
            sorted = new Ints(32);
            starts = new Longs(32);
            add(NO_LETTER, 0, -1);
        }

        int size() {
            return sorted.size();
        }

        void add(long first, long many, int maker) {
            sorted.add(makers.size());
            starts.add(first);
            firsts.add(first);
            sizes.add(many);
            makers.add(maker);
            takers.widen(makers.size() * WORDS);
        }

        /** Where the piece of a letter stands among those by their letters. */
        int rankOf(long letter) {
            return starts.manyBelow(letter + 1) - 1;
        }

        /** Cuts the piece that stands there, which keeps so many letters; returns the one of the rest. */
        int cut(int rank, long many) {
            int piece = sorted.at(rank);
            int rest = makers.size();
            long first = firsts.at(piece) + many;
            sorted.addAt(rank + 1, rest);
            starts.addAt(rank + 1, first);
            firsts.add(first);
            sizes.add(sizes.at(piece) - many);
            sizes.set(piece, many);
            makers.add(makers.at(piece));
            for (int word = 0; word < WORDS; word++) {
                takers.add(takers.at(piece * WORDS + word));
            }
            return rest;
        }

        void addTaker(int piece, int id) {
            int at = piece * WORDS + id / BITS;
            takers.set(at, takers.at(at) | 1L << id % BITS);
        }

        boolean isTaken(int piece, long[] inForce) {
            for (int word = 0; word < WORDS && word < inForce.length; word++) {
                if ((takers.at(piece * WORDS + word) & inForce[word]) != 0) {
                    return true;
                }
            }
            return false;
        }
    }

    /**
     * The sign of each letter. Letters that were made one behind the other are a stretch; its signs are
     * written down, or are those of earlier letters, which were moved.
     */
    private static final class Signs {
        /** In the sum over all, each letter has two parts, and each part weighs 31 times the next one. */
        private static final long WEIGHT = 31 * 31;

        private final Ints written;
        private final Longs starts;
        /** The letter whose sign the first one has; if it is written down, 0 less the index at which that is. */
        private final Longs sources;
        /** What the sum of all letters ahead of the stretch has more than that of those ahead of its source. */
        private final Longs shifts;
        private long many;
        private long sum;

        Signs() {
            written = new Ints(64);
            starts = new Longs(32);
            sources = new Longs(32);
            shifts = new Longs(32);
        }

        long nextLetter() {
            return many + 1;
        }

        void writeDown(Ints signs) {
            starts.add(nextLetter());
            sources.add(-written.size());
            shifts.add(sum);
            for (int i = 0; i < signs.size(); i++) {
                written.add(signs.at(i));
                sum = sum * WEIGHT + signs.at(i);
            }
            many += signs.size();
        }

        /** Makes letters that have the signs of these, which stand one behind the other. */
        void copy(long first, long more) {
            int last = starts.size() - 1;
            if (sources.at(last) < 1 || sources.at(last) - starts.at(last) != first - nextLetter()) {
                starts.add(nextLetter());
                sources.add(first);
                shifts.add(sum - sumTo(first - 1));
            }
            sum = sum * power(more) + sumOf(first, more);
            many += more;
        }

        int signOf(long letter) {
            long at = letter;
            // Each source is of an earlier edit, so there are no more steps than edits.
            for (int i = 0; i <= ALL; i++) {
                int stretch = starts.manyBelow(at + 1) - 1;
                long within = at - starts.at(stretch);
                long source = sources.at(stretch);
                if (source < 1) {
                    return written.at((int) (within - source));
                }
                at = source + within;
            }
            return 0;
        }

        /** The sum of the signs of letters one behind the other, in which each weighs WEIGHT times as much as the next. */
        long sumOf(long first, long more) {
            return sumTo(first + more - 1) - sumTo(first - 1) * power(more);
        }

        /** The same of all letters up to one. */
        private long sumTo(long letter) {
            long all = 0;
            long at = letter;
            for (int i = 0; i <= ALL && at > 0; i++) {
                int stretch = starts.manyBelow(at + 1) - 1;
                long within = at - starts.at(stretch) + 1;
                all += shifts.at(stretch) * power(within);
                long source = sources.at(stretch);
                if (source < 1) {
                    return all + sumOfWritten(-source, within);
                }
                at = source + within - 1;
            }
            return all;
        }

        private long sumOfWritten(long first, long more) {
            long part = 0;
            for (int i = 0; i < more && i < MOST_TYPED; i++) {
                part = part * WEIGHT + written.at((int) first + i);
            }
            return part;
        }

        /** WEIGHT so many times by itself, as a long that goes round. */
        static long power(long times) {
            long power = 1;
            long factor = WEIGHT;
            for (long left = times; left > 0; left >>= 1) {
                if ((left & 1) != 0) {
                    power *= factor;
                }
                factor *= factor;
            }
            return power;
        }

        /** The sum of so many letters if the sign of each were 1. */
        static long ones(long times) {
            long ones = 0;
            long factor = WEIGHT;
            long more = 1;
            for (long left = times; left > 0; left >>= 1) {
                if ((left & 1) != 0) {
                    ones = ones * factor + more;
                }
                more = more * factor + more;
                factor *= factor;
            }
            return ones;
        }
    }

    /** Pieces in their order, as a chain from the begin on. */
    private static final class Row {
        private final Book book;
        private final Pieces pieces;
        private final Ints next;
        private final Longs ahead;
        private int links;
        private long size;
        private int changes;

        Row(Book book) {
            this.book = book;
            pieces = book.pieces;
            next = new Ints(32);
            ahead = new Longs(32);
            next.widen(1);
            ahead.widen(1);
        }

        /** How many letters. */
        long size() {
            return size;
        }

        /** How many letters stand ahead of a letter. */
        long aheadOf(long letter) {
            int piece = pieces.sorted.at(pieces.rankOf(letter));
            return ahead.at(piece) + letter - pieces.firsts.at(piece);
        }

        /** Sees to it that a piece ends with this letter. */
        void cutBehind(long letter) {
            int rank = pieces.rankOf(letter);
            int piece = pieces.sorted.at(rank);
            long left = letter - pieces.firsts.at(piece) + 1;
            if (left < 1 || left >= pieces.sizes.at(piece)) {
                return;
            }
            int rest = pieces.cut(rank, left);
            next.widen(rest + 1);
            ahead.widen(rest + 1);
            next.set(rest, next.at(piece));
            next.set(piece, rest);
            ahead.set(rest, ahead.at(piece) + left);
            links++;
            changes++;
        }

        /** Gathers the pieces of the letters that were in the row ahead of all steps. */
        void gatherBase(Ints base) {
            base.clear();
            int piece = next.at(NO_PIECE);
            for (int i = 0; i < links && piece != NO_PIECE; i++) {
                if (book.isBase(book.makerOf(piece))) {
                    base.add(piece);
                }
                piece = next.at(piece);
            }
        }

        void lay(Ints all) {
            next.widen(pieces.size());
            links = all.size();
            size = 0;
            int last = NO_PIECE;
            for (int i = 0; i < links; i++) {
                next.set(last, all.at(i));
                last = all.at(i);
                size += pieces.sizes.at(last);
            }
            next.set(last, NO_PIECE);
            number();
        }

        /**
         * Whatever stands behind the origin and has a greater time was put behind it, too, or
         * behind such a letter: an edit's time is above that of all it has heard of. So the
         * letters of the edit come behind the last of these.
         */
        void weave(Edit edit) {
            if (edit.letters < 1) {
                return;
            }
            next.widen(pieces.size());
            int last = pieces.sorted.at(pieces.rankOf(edit.origin));
            int rest = next.at(last);
            for (int i = 0; i < links && rest != NO_PIECE && book.makerOf(rest).isAbove(edit); i++) {
                last = rest;
                rest = next.at(last);
            }
            int rank = pieces.rankOf(edit.firstLetter);
            while (rank < pieces.size() && pieces.makers.at(pieces.sorted.at(rank)) == edit.id) {
                next.set(last, pieces.sorted.at(rank));
                last = pieces.sorted.at(rank);
                links++;
                rank++;
            }
            next.set(last, rest);
            size += edit.letters;
        }

        void number() {
            ahead.widen(pieces.size());
            long many = 0;
            int piece = next.at(NO_PIECE);
            for (int i = 0; i < links && piece != NO_PIECE; i++) {
                ahead.set(piece, many);
                many += pieces.sizes.at(piece);
                piece = next.at(piece);
            }
            changes++;
        }
    }

    /** What one sees who has heard so many edits of each hand. */
    private static final class View {
        private final Book book;
        private final Row row;
        private final long[] inForce;
        private final int[] isOff;
        /** The pieces that are seen, by their indexes; their first places; how many letters are ahead in the row. */
        private final Ints text;
        private final Longs places;
        private final Longs aheads;
        private final Ints marks;
        private final Ints hung;
        private final Ints firsts;
        private final Ints ends;
        private long size;
        private long kept;
        private int changes;

        View(Book book, Row row) {
            this.book = book;
            this.row = row;
            inForce = new long[WORDS];
            isOff = new int[EDITS];
            text = new Ints(32);
            places = new Longs(32);
            aheads = new Longs(32);
            marks = new Ints(32);
            hung = new Ints(16);
            firsts = new Ints(16);
            ends = new Ints(16);
        }

        /** How many letters. */
        long size() {
            return size;
        }

        /** Pieces may have been cut, or got others between them, since it was seen. */
        boolean isOld() {
            return changes != row.changes;
        }

        int pieces() {
            return text.size();
        }

        int pieceAt(int index) {
            return text.at(index);
        }

        long manyAt(int index) {
            return book.pieces.sizes.at(text.at(index));
        }

        Edit makerAt(int index) {
            return book.makerOf(text.at(index));
        }

        int marksAt(int index) {
            return marks.at(index);
        }

        /** The place of the first letter of a piece. */
        long placeOf(int index) {
            return index < places.size() ? places.at(index) : size;
        }

        /** The index of the piece in which a place is. */
        int indexAt(long place) {
            return place < size ? places.manyBelow(place + 1) - 1 : text.size();
        }

        long letterAt(long place) {
            if (place < 0 || place >= size) {
                return NO_LETTER;
            }
            int index = indexAt(place);
            return book.pieces.firsts.at(text.at(index)) + place - places.at(index);
        }

        long letterAhead(long place) {
            return letterAt(place - 1);
        }

        void see(int[] counts) {
            Arrays.fill(inForce, 0);
            for (int hand = 0; hand < HANDS && hand < counts.length; hand++) {
                judge(hand, counts[hand]);
            }
            gather(counts);
            changes = row.changes;
        }

        /** Finds which ones of the heard edits of a hand are in force. */
        private void judge(int hand, int many) {
            Arrays.fill(isOff, 0);
            for (int number = 1; number <= many && number <= EDITS; number++) {
                Edit edit = book.editOf(hand, number);
                if (edit.turning != 0 && edit.group >= 0 && edit.group < EDITS) {
                    isOff[edit.group] = edit.turning == Edit.UNDOING ? 1 : 0;
                }
            }
            for (int number = 1; number <= many && number <= EDITS; number++) {
                Edit edit = book.editOf(hand, number);
                if (edit.group >= 0 && edit.group < EDITS && isOff[edit.group] == 0) {
                    putInForce(edit.id);
                }
            }
        }

        private void putInForce(int id) {
            if (id >= 0 && id / BITS < WORDS) {
                inForce[id / BITS] |= 1L << id % BITS;
            }
        }

        private boolean isInForce(Edit edit) {
            int id = edit.id;
            return id >= 0 && id / BITS < WORDS && (inForce[id / BITS] & 1L << id % BITS) != 0;
        }

        private void gather(int[] counts) {
            text.clear();
            places.clear();
            aheads.clear();
            size = 0;
            kept = 0;
            int piece = row.next.at(NO_PIECE);
            for (int i = 0; i < row.links && piece != NO_PIECE; i++) {
                Edit maker = book.makerOf(piece);
                if (isHand(maker.hand) && maker.hand < counts.length && maker.number <= counts[maker.hand]) {
                    kept += book.pieces.sizes.at(piece);
                    if (isInForce(maker) && !book.pieces.isTaken(piece, inForce)) {
                        text.add(piece);
                        places.add(size);
                        aheads.add(row.ahead.at(piece));
                        size += book.pieces.sizes.at(piece);
                    }
                }
                piece = row.next.at(piece);
            }
        }

        /** Lays the marks and hangs the comments on what is seen. */
        void dress() {
            marks.clear();
            marks.widen(text.size());
            for (int i = 0; i < book.marks.size(); i++) {
                Edit edit = book.editAt(book.marks.at(i));
                if (isInForce(edit)) {
                    lay(edit, firstOf(edit), endOf(edit));
                }
            }
            hung.clear();
            firsts.clear();
            ends.clear();
            for (int i = 0; i < book.comments.size(); i++) {
                Edit edit = book.editAt(book.comments.at(i));
                if (isInForce(edit)) {
                    hang(edit, firstOf(edit), endOf(edit));
                }
            }
        }

        private void lay(Edit edit, int first, int end) {
            for (int index = first; index < end; index++) {
                int others = marks.at(index) & ~edit.mark;
                marks.set(index, edit.isOn ? others | edit.mark : others);
            }
        }

        private void hang(Edit edit, int first, int end) {
            if (first >= end) {
                return;
            }
            int at = hung.size();
            while (at > 0 && isHungBehind(at - 1, first, edit)) {
                at--;
            }
            hung.addAt(at, edit.id);
            firsts.addAt(at, first);
            ends.addAt(at, end);
        }

        private boolean isHungBehind(int index, int first, Edit edit) {
            int own = firsts.at(index);
            return own > first || own == first && book.editAt(hung.at(index)).label() > edit.label();
        }

        long placeBehind(long letter) {
            if (letter == NO_LETTER) {
                return 0;
            }
            long ahead = row.aheadOf(letter) + 1;
            int index = aheads.manyBelow(ahead) - 1;
            return index < 0 ? 0 : places.at(index) + Math.min(manyAt(index), ahead - aheads.at(index));
        }

        /**
         * The index of the first piece of a mark or a comment; one whose begin was forgotten for good has
         * none. A piece begins with its first letter and one ends with its last one, or begins with the
         * letter up to which it goes: they were cut so.
         */
        private int firstOf(Edit edit) {
            return edit.from == NO_LETTER ? text.size() : aheads.manyBelow(row.aheadOf(edit.from));
        }

        private int endOf(Edit edit) {
            if (edit.to == NO_LETTER) {
                return text.size();
            }
            return aheads.manyBelow(row.aheadOf(edit.to) + (edit.isToWithin ? 1 : 0));
        }

        /** Lets a mark or a comment begin and end at letters that are seen. */
        void settle(Edit edit) {
            if (edit.mark == 0 && !edit.isComment) {
                return;
            }
            if (edit.from != NO_LETTER) {
                edit.from = letterAt(placeOf(firstOf(edit)));
            }
            if (edit.to != NO_LETTER && !isSeen(edit.to)) {
                edit.to = letterAt(placeOf(endOf(edit)));
                edit.isToWithin = false;
            }
        }

        private boolean isSeen(long letter) {
            return letterAt(placeBehind(letter) - 1) == letter;
        }

        long manyInCommon(View other) {
            long many = 0;
            int there = 0;
            for (int here = 0; here < text.size(); here++) {
                while (there < other.text.size() && other.aheads.at(there) < aheads.at(here)) {
                    there++;
                }
                if (there < other.text.size() && other.text.at(there) == text.at(here)) {
                    many += manyAt(here);
                }
            }
            return many;
        }

        boolean isSame(View other) {
            return text.isEqual(other.text) && marks.isEqual(other.marks) && hung.isEqual(other.hung)
                    && firsts.isEqual(other.firsts) && ends.isEqual(other.ends);
        }
    }

    /** A hand: what it has heard, what comes to it, and what it can undo. */
    private static final class Hand {
        private static final int NO_GROUP = -1;

        private final View view;
        private boolean isStale;
        private final int[] heard;
        private int latest;
        private final Ints past;
        private final Ints way;
        private final int[] waits;
        private final Ints undoable;
        private final Ints redoable;
        private final Ints sizes;
        private boolean isOpen;
        private int opened;
        private long cursor;

        Hand(View view) {
            this.view = view;
            heard = new int[HANDS];
            past = new Ints(ALL);
            way = new Ints(ALL);
            waits = new int[ALL];
            undoable = new Ints(EDITS);
            redoable = new Ints(EDITS);
            sizes = new Ints(EDITS);
            opened = NO_GROUP;
            cursor = NO_LETTER;
        }

        boolean hasHeard(Edit edit) {
            return isHand(edit.hand) && edit.number <= heard[edit.hand];
        }

        boolean canHear(Edit edit) {
            for (int of = 0; of < HANDS; of++) {
                if (edit.leaning[of] > heard[of]) {
                    return false;
                }
            }
            return true;
        }

        void hear(Edit edit) {
            if (isHand(edit.hand)) {
                heard[edit.hand] = edit.number;
            }
            latest = Math.max(latest, edit.time);
            past.add(edit.id);
            setWaiting(edit, 0);
            isStale = true;
        }

        boolean isWaiting(Edit edit) {
            return edit.id >= 0 && edit.id < ALL && waits[edit.id] != 0;
        }

        void letWait(Edit edit) {
            setWaiting(edit, 1);
        }

        private void setWaiting(Edit edit, int value) {
            if (edit.id >= 0 && edit.id < ALL) {
                waits[edit.id] = value;
            }
        }

        int manyWaiting() {
            int many = 0;
            for (int id = 0; id < ALL; id++) {
                many += waits[id];
            }
            return many;
        }

        /** Edits are numbered by hands, then by numbers: the first ready one is the one whose turn it is. */
        int nextReady(Book book) {
            for (int id = 0; id < ALL; id++) {
                if (waits[id] != 0 && canHear(book.editAt(id))) {
                    return id;
                }
            }
            return -1;
        }

        void openGroup() {
            isOpen = true;
            opened = NO_GROUP;
        }

        int closeGroup() {
            int many = sizeOf(opened);
            isOpen = false;
            opened = NO_GROUP;
            return many;
        }

        int sizeOf(int group) {
            return sizes.at(group);
        }

        void joinGroup(Edit edit) {
            redoable.clear();
            int group = opened;
            if (group == NO_GROUP) {
                group = sizes.size();
                sizes.add(0);
                undoable.add(group);
                opened = isOpen ? group : NO_GROUP;
            }
            sizes.set(group, sizes.at(group) + 1);
            edit.group = group;
        }

        void startAnew() {
            past.clear();
            undoable.clear();
            redoable.clear();
            closeGroup();
            isStale = true;
        }
    }

    /** The edits from some counts up to others, those of lesser times first, of like times those of lower hands. */
    private static final class InTime {
        private final Book book;
        private final int[] at;
        private final int[] end;

        InTime(Book book) {
            this.book = book;
            at = new int[HANDS];
            end = new int[HANDS];
        }

        void start(int[] from, int[] to) {
            for (int hand = 0; hand < HANDS && hand < from.length && hand < to.length; hand++) {
                at[hand] = from[hand];
                end[hand] = to[hand];
            }
        }

        int next() {
            int best = -1;
            for (int hand = 0; hand < HANDS; hand++) {
                if (at[hand] < end[hand] && (best < 0 || timeAt(hand) < timeAt(best))) {
                    best = hand;
                }
            }
            if (best < 0) {
                return -1;
            }
            at[best]++;
            return best * EDITS + at[best] - 1;
        }

        private int timeAt(int hand) {
            return book.editOf(hand, at[hand] + 1).time;
        }
    }
}
