import java.util.Arrays;
import java.util.NoSuchElementException;

/**
 * One text that five hands write, each of which hears late of what the others do.
 *
 * All letters stand in one row that the hands share: what a hand sees is the part of that row
 * which the edits that it has heard leave in sight. A hand's edits are heard in the order of
 * their numbers, so what a hand has heard is told by one count for each hand.
 */
public final class Manypens {
    private static final int HANDS = 5;
    private static final int EDITS = 40;
    private static final int ALL = HANDS * EDITS;
    private static final int MOST_TYPED = 12;
    private static final int LONGEST = 60;
    private static final int MOST_REPEATED = 200;
    /** The document sets no bound here; hands that move the same letters at once could fill any room. */
    private static final int MOST_LETTERS = 1 << 17;
    private static final int MOST_TAKEN = 1 << 18;
    /** As a letter: the begin of the row, which stands ahead of all, and the end of a chain. */
    private static final int NO_LETTER = 0;
    private static final int B = 1;
    private static final int I = 2;

    private final Ints typed;
    private final Book book;
    private final Row row;
    private final Hand[] hands;
    private final View past;
    private final View anew;
    private final InTime forOne;
    private final InTime forOther;

    public Manypens() {
        typed = new Ints(MOST_TYPED);
        book = new Book();
        row = new Row(book);
        hands = new Hand[HANDS];
        for (int hand = 0; hand < HANDS; hand++) {
            hands[hand] = new Hand(new View(book, row));
        }
        past = new View(book, row);
        anew = new View(book, new Row(book));
        forOne = new InTime(book);
        forOther = new InTime(book);
    }

    // ---- what is typed

    public int type(char sign) throws IllegalArgumentException, IllegalStateException {
        if (sign < 32 || sign > 126) {
            throw new IllegalArgumentException("no such sign");
        }
        if (typed.size() >= MOST_TYPED) {
            throw new IllegalStateException("too many signs");
        }
        typed.add(sign);
        return typed.size();
    }

    public int erase() {
        int many = typed.size();
        typed.clear();
        return many;
    }

    // ---- edits

    public int put(int hand, int place) throws IndexOutOfBoundsException, NoSuchElementException, UnsupportedOperationException, IllegalStateException {
        needHand(hand);
        int old = viewOf(hand).size();
        needPlace(place, old);
        needTyped();
        needShort((long) old + typed.size());
        needEdit(hand, typed.size(), 0);
        putTyped(hand, place, 0);
        return viewOf(hand).size();
    }

    public int take(int hand, int place, int many) throws IndexOutOfBoundsException, NoSuchElementException, IllegalStateException {
        needHand(hand);
        View view = viewOf(hand);
        needLetters(view, place, many);
        needEdit(hand, 0, many);
        Edit edit = newEdit(hand);
        takeLetters(edit, view, place, many);
        makeChange(edit);
        return viewOf(hand).size();
    }

    public int replace(int hand, int place, int many) throws IndexOutOfBoundsException, NoSuchElementException, UnsupportedOperationException, IllegalStateException {
        needHand(hand);
        View view = viewOf(hand);
        needLetters(view, place, many);
        needTyped();
        needShort((long) view.size() - many + typed.size());
        needEdit(hand, typed.size(), many);
        putTyped(hand, place, many);
        return viewOf(hand).size();
    }

    public int move(int hand, int place, int many, int to) throws IndexOutOfBoundsException, NoSuchElementException, IllegalStateException {
        needHand(hand);
        View view = viewOf(hand);
        needLetters(view, place, many);
        needPlace(to, view.size() - many);
        needEdit(hand, many, many);
        Edit edit = newEdit(hand);
        takeLetters(edit, view, place, many);
        edit.origin = view.letterAhead(to <= place ? to : to + many);
        for (int i = 0; i < many; i++) {
            book.addLetter(edit, book.signOf(view.letterAt(place + i)));
        }
        makeChange(edit);
        return to - place;
    }

    public int mark(int hand, int place, int many, char kind, boolean isOn, boolean isGrowing) throws IndexOutOfBoundsException, IllegalArgumentException, NoSuchElementException, IllegalStateException {
        needHand(hand);
        needKind(kind);
        View view = viewOf(hand);
        needLetters(view, place, many);
        needEdit(hand, 0, 0);
        Edit edit = newEdit(hand);
        edit.mark = bitOf(kind);
        edit.isOn = isOn;
        edit.from = view.letterAt(place);
        edit.to = view.letterAt(isGrowing ? place + many : place + many - 1);
        edit.isToWithin = !isGrowing;
        makeChange(edit);
        return edit.number;
    }

    public int comment(int hand, int place, int many, int code) throws IndexOutOfBoundsException, NoSuchElementException, IllegalStateException {
        needHand(hand);
        View view = viewOf(hand);
        needLetters(view, place, many);
        needEdit(hand, 0, 0);
        Edit edit = newEdit(hand);
        edit.isComment = true;
        edit.code = code;
        edit.from = view.letterAt(place);
        edit.to = view.letterAt(place + many - 1);
        edit.isToWithin = true;
        makeChange(edit);
        return edit.label();
    }

    public int write(int hand) throws IndexOutOfBoundsException, UnsupportedOperationException, IllegalStateException {
        needHand(hand);
        needTyped();
        View view = viewOf(hand);
        needShort((long) view.size() + typed.size());
        needEdit(hand, typed.size(), 0);
        Edit edit = putTyped(hand, view.placeBehind(hands[hand].cursor), 0);
        hands[hand].cursor = edit.firstLetter + edit.letters - 1;
        return viewOf(hand).placeBehind(hands[hand].cursor);
    }

    public int open(int hand) throws IndexOutOfBoundsException, IllegalStateException {
        needHand(hand);
        if (hands[hand].isOpen) {
            throw new IllegalStateException("a group is open");
        }
        hands[hand].openGroup();
        return hands[hand].undoable.size();
    }

    public int close(int hand) throws IndexOutOfBoundsException, IllegalStateException {
        needHand(hand);
        if (!hands[hand].isOpen) {
            throw new IllegalStateException("no group is open");
        }
        return hands[hand].closeGroup();
    }

    public int undo(int hand) throws IndexOutOfBoundsException, NoSuchElementException, IllegalStateException {
        needHand(hand);
        Hand maker = hands[hand];
        if (maker.undoable.size() == 0) {
            throw new NoSuchElementException("nothing to undo");
        }
        needEdit(hand, 0, 0);
        return turn(hand, maker.undoable, maker.redoable, Edit.UNDOING);
    }

    public int redo(int hand) throws IndexOutOfBoundsException, NoSuchElementException, IllegalStateException {
        needHand(hand);
        Hand maker = hands[hand];
        if (maker.redoable.size() == 0) {
            throw new NoSuchElementException("nothing to do again");
        }
        needEdit(hand, 0, 0);
        return turn(hand, maker.redoable, maker.undoable, Edit.REDOING);
    }

    public int groups(int hand, boolean isUndone) throws IndexOutOfBoundsException {
        needHand(hand);
        return isUndone ? hands[hand].redoable.size() : hands[hand].undoable.size();
    }

    // ---- texts

    public int length(int hand) throws IndexOutOfBoundsException {
        needHand(hand);
        return viewOf(hand).size();
    }

    public char signAt(int hand, int place) throws IndexOutOfBoundsException, NoSuchElementException {
        needHand(hand);
        needLetter(viewOf(hand), place);
        return (char) book.signOf(viewOf(hand).letterAt(place));
    }

    public int birth(int hand, int place) throws IndexOutOfBoundsException, NoSuchElementException {
        needHand(hand);
        needLetter(viewOf(hand), place);
        return book.makerOf(viewOf(hand).letterAt(place)).label();
    }

    public boolean isMarked(int hand, int place, char kind) throws IndexOutOfBoundsException, IllegalArgumentException, NoSuchElementException {
        needHand(hand);
        needKind(kind);
        needLetter(viewOf(hand), place);
        return (viewOf(hand).marksAt(place) & bitOf(kind)) != 0;
    }

    public int runs(int hand) throws IndexOutOfBoundsException {
        needHand(hand);
        View view = viewOf(hand);
        int many = 0;
        for (int place = 0; place < view.size(); place++) {
            if (place == 0 || view.marksAt(place) != view.marksAt(place - 1)) {
                many++;
            }
        }
        return many;
    }

    public int comments(int hand) throws IndexOutOfBoundsException {
        needHand(hand);
        return viewOf(hand).hung.size();
    }

    public int commentAt(int hand, int index, char what) throws IndexOutOfBoundsException, NoSuchElementException, IllegalArgumentException {
        needHand(hand);
        View view = viewOf(hand);
        if (index < 0 || index >= view.hung.size()) {
            throw new NoSuchElementException("no such comment");
        }
        Edit edit = book.editAt(view.hung.at(index));
        if (what == 'n') {
            return edit.label();
        }
        if (what == 'f') {
            return view.firsts.at(index);
        }
        if (what == 'l') {
            return view.ends.at(index) - 1;
        }
        if (what == 'c') {
            return edit.code;
        }
        throw new IllegalArgumentException("no such letter");
    }

    public int setCursor(int hand, int place) throws IndexOutOfBoundsException, NoSuchElementException {
        needHand(hand);
        View view = viewOf(hand);
        needPlace(place, view.size());
        int old = view.placeBehind(hands[hand].cursor);
        hands[hand].cursor = view.letterAhead(place);
        return old;
    }

    public int cursor(int hand) throws IndexOutOfBoundsException {
        needHand(hand);
        return viewOf(hand).placeBehind(hands[hand].cursor);
    }

    // ---- on the way

    public int onWay(int hand) throws IndexOutOfBoundsException {
        needHand(hand);
        return hands[hand].way.size();
    }

    public int wayAt(int hand, int index) throws IndexOutOfBoundsException, NoSuchElementException {
        needHand(hand);
        needOnWay(hand, index);
        return book.editAt(hands[hand].way.at(index)).label();
    }

    public char deliver(int hand, int index) throws IndexOutOfBoundsException, NoSuchElementException {
        needHand(hand);
        needOnWay(hand, index);
        Hand hearer = hands[hand];
        Edit edit = book.editAt(hearer.way.cut(index));
        if (hearer.hasHeard(edit) || hearer.isWaiting(edit)) {
            return 'k';
        }
        if (!hearer.canHear(edit)) {
            hearer.letWait(edit);
            return 'w';
        }
        hearFrom(hearer, edit);
        return 'h';
    }

    public int repeat(int hand, int index) throws IndexOutOfBoundsException, NoSuchElementException, IllegalStateException {
        needHand(hand);
        needOnWay(hand, index);
        Ints way = hands[hand].way;
        if (way.size() >= MOST_REPEATED) {
            throw new IllegalStateException("too many on the way");
        }
        way.add(way.at(index));
        return way.size();
    }

    public int lose(int hand, int index) throws IndexOutOfBoundsException, NoSuchElementException {
        needHand(hand);
        needOnWay(hand, index);
        hands[hand].way.cut(index);
        return hands[hand].way.size();
    }

    public int meet(int hand, int other) throws IndexOutOfBoundsException, IllegalArgumentException {
        needHand(hand);
        needHand(other);
        if (hand == other) {
            throw new IllegalArgumentException("the same hand");
        }
        // Both lists are fixed ahead of the hearing: each hears what the other one had heard.
        forOne.start(hands[hand].heard, hands[other].heard);
        forOther.start(hands[other].heard, hands[hand].heard);
        return hearAll(hands[hand], forOne) + hearAll(hands[other], forOther);
    }

    public int waiting(int hand) throws IndexOutOfBoundsException {
        needHand(hand);
        return hands[hand].manyWaiting();
    }

    public int lacks(int hand, int other) throws IndexOutOfBoundsException {
        needHand(hand);
        needHand(other);
        int many = 0;
        for (int of = 0; of < HANDS; of++) {
            many += Math.max(0, hands[hand].heard[of] - hands[other].heard[of]);
        }
        return many;
    }

    public int heard(int hand, int of) throws IndexOutOfBoundsException {
        needHand(hand);
        needHand(of);
        return hands[hand].heard[of];
    }

    public int leans(int hand, int number, int of) throws IndexOutOfBoundsException, NoSuchElementException {
        needHand(hand);
        needHand(of);
        if (number < 1 || number > book.made[hand]) {
            throw new NoSuchElementException("no such edit");
        }
        return book.editOf(hand, number).leaning[of];
    }

    // ---- the past

    public int steps(int hand) throws IndexOutOfBoundsException {
        needHand(hand);
        return hands[hand].past.size();
    }

    public int lengthThen(int hand, int step) throws IndexOutOfBoundsException, NoSuchElementException {
        needHand(hand);
        needStep(hand, step);
        goBack(hand, step);
        return past.size();
    }

    public char signThen(int hand, int step, int place) throws IndexOutOfBoundsException, NoSuchElementException {
        needHand(hand);
        needStep(hand, step);
        goBack(hand, step);
        needLetter(past, place);
        return (char) book.signOf(past.letterAt(place));
    }

    public int differ(int hand, int other) throws IndexOutOfBoundsException {
        needHand(hand);
        needHand(other);
        View one = viewOf(hand);
        View two = viewOf(other);
        return one.size() + two.size() - 2 * one.manyInCommon(two);
    }

    public boolean isAlike(int hand, int other) throws IndexOutOfBoundsException {
        needHand(hand);
        needHand(other);
        return viewOf(hand).isSame(viewOf(other));
    }

    public int forget() throws IllegalStateException {
        if (!haveAllHeardAll()) {
            throw new IllegalStateException("not all have heard all");
        }
        // All have heard the same, so what one of them sees is what is left for all.
        View view = viewOf(0);
        int many = row.size() - view.size();
        for (int id = 0; id < ALL; id++) {
            view.settle(book.editAt(id));
        }
        for (int hand = 0; hand < HANDS; hand++) {
            hands[hand].cursor = view.letterAhead(view.placeBehind(hands[hand].cursor));
        }
        row.lay(view.text);
        book.setBase();
        for (int hand = 0; hand < HANDS; hand++) {
            hands[hand].startAnew();
        }
        return many;
    }

    public int kept(int hand) throws IndexOutOfBoundsException {
        needHand(hand);
        return viewOf(hand).kept;
    }

    // ---- figures

    public float othersShare(int hand) throws IndexOutOfBoundsException, ArithmeticException {
        needHand(hand);
        View view = viewOf(hand);
        if (view.size() == 0) {
            throw new ArithmeticException("no letters");
        }
        int many = 0;
        for (int place = 0; place < view.size(); place++) {
            if (book.makerOf(view.letterAt(place)).hand != hand) {
                many++;
            }
        }
        return (float) many / (float) view.size();
    }

    public double meanTime(int hand) throws IndexOutOfBoundsException, ArithmeticException {
        needHand(hand);
        View view = viewOf(hand);
        if (view.size() == 0) {
            throw new ArithmeticException("no letters");
        }
        long sum = 0;
        for (int place = 0; place < view.size(); place++) {
            sum += book.makerOf(view.letterAt(place)).time;
        }
        return (double) sum / (double) view.size();
    }

    public long checksum() {
        long sum = 7;
        for (int hand = 0; hand < HANDS; hand++) {
            View view = viewOf(hand);
            for (int of = 0; of < HANDS; of++) {
                sum = 31 * sum + hands[hand].heard[of];
            }
            for (int place = 0; place < view.size(); place++) {
                sum = 31 * sum + book.signOf(view.letterAt(place));
                sum = 31 * sum + view.marksAt(place);
            }
            sum = 31 * sum + view.placeBehind(hands[hand].cursor);
            sum = 31 * sum + hands[hand].way.size();
        }
        for (int i = 0; i < typed.size(); i++) {
            sum = 31 * sum + typed.at(i);
        }
        return sum;
    }

    public boolean isTrue() {
        for (int hand = 0; hand < HANDS; hand++) {
            hearAnew(hand);
            if (!viewOf(hand).isSame(anew)) {
                return false;
            }
            for (int other = 0; other < hand; other++) {
                if (haveHeardSame(hand, other) && !viewOf(hand).isSame(viewOf(other))) {
                    return false;
                }
            }
        }
        return true;
    }

    // ---- what a call needs

    private void needHand(int hand) {
        if (hand < 0 || hand >= HANDS) {
            throw new IndexOutOfBoundsException("no such hand");
        }
    }

    private void needPlace(int place, int last) {
        if (place < 0 || place > last) {
            throw new NoSuchElementException("no such place");
        }
    }

    private void needLetter(View view, int place) {
        if (place < 0 || place >= view.size()) {
            throw new NoSuchElementException("no such place");
        }
    }

    private void needLetters(View view, int place, int many) {
        if (many < 1 || place < 0 || place >= view.size() || many > view.size() - place) {
            throw new NoSuchElementException("no such letters");
        }
    }

    private void needKind(char kind) {
        if (kind != 'b' && kind != 'i') {
            throw new IllegalArgumentException("no such kind");
        }
    }

    private void needTyped() {
        if (typed.size() == 0) {
            throw new UnsupportedOperationException("nothing is typed");
        }
    }

    private void needShort(long length) {
        if (length > LONGEST) {
            throw new IllegalStateException("too long");
        }
    }

    private void needEdit(int hand, int letters, int taken) {
        if (book.made[hand] >= EDITS || !book.hasRoom(letters, taken)) {
            throw new IllegalStateException("too many edits");
        }
    }

    private void needOnWay(int hand, int index) {
        if (index < 0 || index >= hands[hand].way.size()) {
            throw new NoSuchElementException("no such edit on the way");
        }
    }

    private void needStep(int hand, int step) {
        if (step < 0 || step > hands[hand].past.size()) {
            throw new NoSuchElementException("not so many steps");
        }
    }

    // ---- making edits

    private static int bitOf(char kind) {
        return kind == 'b' ? B : I;
    }

    private Edit newEdit(int hand) {
        return new Edit(hand, book.made[hand] + 1, hands[hand].latest + 1, hands[hand].heard);
    }

    private void takeLetters(Edit edit, View view, int place, int many) {
        for (int i = 0; i < many; i++) {
            book.addTaken(edit, view.letterAt(place + i));
        }
    }

    private Edit putTyped(int hand, int place, int many) {
        View view = viewOf(hand);
        Edit edit = newEdit(hand);
        takeLetters(edit, view, place, many);
        edit.origin = view.letterAhead(place);
        for (int i = 0; i < typed.size(); i++) {
            book.addLetter(edit, typed.at(i));
        }
        typed.clear();
        makeChange(edit);
        return edit;
    }

    private void makeChange(Edit edit) {
        hands[edit.hand].joinGroup(edit);
        send(edit);
    }

    private int turn(int hand, Ints from, Ints to, int turning) {
        Hand maker = hands[hand];
        maker.closeGroup();
        int group = from.cut(from.size() - 1);
        to.add(group);
        Edit edit = newEdit(hand);
        edit.turning = turning;
        edit.group = group;
        send(edit);
        return maker.sizeOf(group);
    }

    private void send(Edit edit) {
        book.add(edit);
        if (edit.letters > 0) {
            row.weave(edit);
            row.number();
        }
        for (int hand = 0; hand < HANDS; hand++) {
            if (hand == edit.hand) {
                hands[hand].hear(edit);
            } else {
                hands[hand].way.add(edit.id);
            }
        }
    }

    // ---- hearing

    /** Lets a hand hear an edit, and what waited for it; returns how many these are. */
    private int hearFrom(Hand hearer, Edit edit) {
        hearer.hear(edit);
        int many = 1;
        for (int i = 0; i < ALL; i++) {
            int id = hearer.nextReady(book);
            if (id < 0) {
                break;
            }
            hearer.hear(book.editAt(id));
            many++;
        }
        return many;
    }

    private int hearAll(Hand hearer, InTime list) {
        int many = 0;
        for (int i = 0; i < ALL; i++) {
            int id = list.next();
            if (id < 0) {
                break;
            }
            // What waited may have been heard by now, ahead of its turn.
            if (!hearer.hasHeard(book.editAt(id))) {
                many += hearFrom(hearer, book.editAt(id));
            }
        }
        return many;
    }

    private boolean haveAllHeardAll() {
        for (int hand = 0; hand < HANDS; hand++) {
            for (int of = 0; of < HANDS; of++) {
                if (hands[hand].heard[of] != book.made[of]) {
                    return false;
                }
            }
        }
        return true;
    }

    private boolean haveHeardSame(int hand, int other) {
        for (int of = 0; of < HANDS; of++) {
            if (hands[hand].heard[of] != hands[other].heard[of]) {
                return false;
            }
        }
        return true;
    }

    // ---- views

    private View viewOf(int hand) {
        Hand looker = hands[hand];
        if (looker.isStale) {
            looker.view.see(looker.heard);
            looker.view.dress();
            looker.isStale = false;
        }
        return looker.view;
    }

    private void goBack(int hand, int step) {
        int[] counts = book.base.clone();
        for (int i = 0; i < step; i++) {
            counts[book.editAt(hands[hand].past.at(i)).hand]++;
        }
        past.see(counts);
    }

    private void hearAnew(int hand) {
        row.gatherBase(anew.text);
        anew.row.lay(anew.text);
        forOne.start(book.base, hands[hand].heard);
        for (int i = 0; i < ALL; i++) {
            int id = forOne.next();
            if (id < 0) {
                break;
            }
            anew.row.weave(book.editAt(id));
        }
        anew.row.number();
        anew.see(hands[hand].heard);
        anew.dress();
    }

    /** A row of numbers that gets room as it needs it; what is outside of it reads 0. */
    private static final class Ints {
        private static final int MOST = MOST_TAKEN;

        private int[] all;
        private int size;

        Ints(int room) {
            all = new int[room < 1 ? 1 : room];
        }

        int size() {
            return size;
        }

        int at(int index) {
            return index >= 0 && index < size ? all[index] : 0;
        }

        void set(int index, int value) {
            if (index >= 0 && index < size) {
                all[index] = value;
            }
        }

        void clear() {
            size = 0;
        }

        void add(int value) {
            if (makeRoom(size + 1)) {
                all[size] = value;
                size++;
            }
        }

        void addAt(int index, int value) {
            if (index >= 0 && index <= size && makeRoom(size + 1)) {
                System.arraycopy(all, index, all, index + 1, size - index);
                all[index] = value;
                size++;
            }
        }

        int cut(int index) {
            if (index < 0 || index >= size) {
                return 0;
            }
            int value = all[index];
            System.arraycopy(all, index + 1, all, index, size - index - 1);
            size--;
            return value;
        }

        void widen(int many) {
            if (many > size && makeRoom(many)) {
                Arrays.fill(all, size, many, 0);
                size = many;
            }
        }

        boolean isEqual(Ints other) {
            if (size != other.size) {
                return false;
            }
            for (int i = 0; i < size; i++) {
                if (at(i) != other.at(i)) {
                    return false;
                }
            }
            return true;
        }

        private boolean makeRoom(int many) {
            if (many > MOST) {
                return false;
            }
            if (many > all.length) {
                all = Arrays.copyOf(all, Math.min(MOST, Math.max(many, 2 * all.length)));
            }
            return true;
        }
    }

    /** An edit, and what it does; what it does not do stays 0. */
    private static final class Edit {
        private static final int UNDOING = 1;
        private static final int REDOING = 2;

        private final int hand;
        private final int number;
        private final int id;
        private final int time;
        private final int[] leaning;
        private int group;
        private int turning;
        private int origin;
        private int firstLetter;
        private int letters;
        private int firstTaken;
        private int taken;
        private int mark;
        private boolean isOn;
        private boolean isComment;
        private int code;
        private int from;
        private int to;
        private boolean isToWithin;

        Edit(int hand, int number, int time, int[] heard) {
            this.hand = hand;
            this.number = number;
            this.id = hand * EDITS + number - 1;
            this.time = time;
            this.leaning = heard.clone();
        }

        int label() {
            return 100 * hand + number;
        }

        boolean isAbove(Edit other) {
            return time > other.time || time == other.time && hand > other.hand;
        }
    }

    /** All edits and all letters. Letters are numbered from 1 as they are made. */
    private static final class Book {
        private final Edit none;
        private final Edit[] edits;
        private final int[] made;
        private final int[] base;
        private final Ints signs;
        private final Ints makers;
        private final Ints struck;
        private int strike;
        private final Ints taken;
        private final Ints marks;
        private final Ints comments;

        Book() {
            none = new Edit(0, 0, 0, new int[HANDS]);
            edits = new Edit[ALL];
            made = new int[HANDS];
            base = new int[HANDS];
            signs = new Ints(128);
            makers = new Ints(128);
            struck = new Ints(128);
            signs.widen(1);
            makers.widen(1);
            struck.widen(1);
            taken = new Ints(64);
            marks = new Ints(32);
            comments = new Ints(32);
        }

        Edit editAt(int id) {
            Edit edit = id >= 0 && id < ALL ? edits[id] : null;
            return edit == null ? none : edit;
        }

        Edit editOf(int hand, int number) {
            return number < 1 || number > EDITS ? none : editAt(hand * EDITS + number - 1);
        }

        int signOf(int letter) {
            return signs.at(letter);
        }

        Edit makerOf(int letter) {
            return editAt(makers.at(letter));
        }

        int manyLetters() {
            return signs.size();
        }

        boolean hasRoom(int letters, int more) {
            return letters <= MOST_LETTERS - signs.size() && more <= MOST_TAKEN - taken.size();
        }

        void addLetter(Edit edit, int sign) {
            if (edit.letters == 0) {
                edit.firstLetter = signs.size();
            }
            edit.letters++;
            signs.add(sign);
            makers.add(edit.id);
            struck.add(0);
        }

        void addTaken(Edit edit, int letter) {
            if (edit.taken == 0) {
                edit.firstTaken = taken.size();
            }
            edit.taken++;
            taken.add(letter);
        }

        void add(Edit edit) {
            if (edit.id < 0 || edit.id >= ALL) {
                return;
            }
            edits[edit.id] = edit;
            made[edit.hand]++;
            if (edit.mark != 0) {
                addMark(edit);
            }
            if (edit.isComment) {
                comments.add(edit.id);
            }
        }

        /** Those that rule over others stand behind them, so that marks can be laid on in order. */
        private void addMark(Edit edit) {
            int at = marks.size();
            while (at > 0 && editAt(marks.at(at - 1)).isAbove(edit)) {
                at--;
            }
            marks.addAt(at, edit.id);
        }

        void startStriking() {
            strike++;
        }

        void strikeTaken(Edit edit) {
            for (int i = 0; i < edit.taken; i++) {
                struck.set(taken.at(edit.firstTaken + i), strike);
            }
        }

        boolean isStruck(int letter) {
            return struck.at(letter) == strike;
        }

        void setBase() {
            System.arraycopy(made, 0, base, 0, HANDS);
        }

        boolean isBase(Edit edit) {
            return edit.number <= base[edit.hand];
        }
    }

    /** Letters in their order, as a chain from the begin on. */
    private static final class Row {
        private final Book book;
        private final Ints next;
        private final Ints order;
        private int size;

        Row(Book book) {
            this.book = book;
            next = new Ints(128);
            order = new Ints(128);
            next.widen(1);
            order.widen(1);
        }

        int size() {
            return size;
        }

        int behind(int letter) {
            return next.at(letter);
        }

        /** From 1; the begin has 0. */
        int orderOf(int letter) {
            return order.at(letter);
        }

        /** Gathers the letters that were in the row ahead of all steps. */
        void gatherBase(Ints letters) {
            letters.clear();
            int letter = next.at(NO_LETTER);
            for (int i = 0; i < size && letter != NO_LETTER; i++) {
                if (book.isBase(book.makerOf(letter))) {
                    letters.add(letter);
                }
                letter = next.at(letter);
            }
        }

        void lay(Ints letters) {
            next.widen(book.manyLetters());
            int last = NO_LETTER;
            for (int i = 0; i < letters.size(); i++) {
                next.set(last, letters.at(i));
                last = letters.at(i);
            }
            next.set(last, NO_LETTER);
            size = letters.size();
            number();
        }

        /**
         * Whatever stands behind the origin and has a greater time was put behind it, too, or
         * behind such a letter: an edit's time is above that of all it has heard of. So the
         * letters of the edit come behind the last of these.
         */
        void weave(Edit edit) {
            if (edit.letters < 1) {
                return;
            }
            next.widen(book.manyLetters());
            int last = edit.origin;
            int rest = next.at(last);
            for (int i = 0; i < size && rest != NO_LETTER && book.makerOf(rest).isAbove(edit); i++) {
                last = rest;
                rest = next.at(last);
            }
            for (int i = 0; i < edit.letters; i++) {
                next.set(last, edit.firstLetter + i);
                last = edit.firstLetter + i;
            }
            next.set(last, rest);
            size += edit.letters;
        }

        void number() {
            order.widen(book.manyLetters());
            int letter = next.at(NO_LETTER);
            for (int i = 1; i <= size && letter != NO_LETTER; i++) {
                order.set(letter, i);
                letter = next.at(letter);
            }
        }
    }

    /** What one sees who has heard so many edits of each hand. */
    private static final class View {
        private final Book book;
        private final Row row;
        private final int[] isInForce;
        private final int[] isOff;
        private final Ints text;
        private final Ints marks;
        private final Ints hung;
        private final Ints firsts;
        private final Ints ends;
        private int kept;

        View(Book book, Row row) {
            this.book = book;
            this.row = row;
            isInForce = new int[ALL];
            isOff = new int[EDITS];
            text = new Ints(64);
            marks = new Ints(64);
            hung = new Ints(16);
            firsts = new Ints(16);
            ends = new Ints(16);
        }

        int size() {
            return text.size();
        }

        int letterAt(int place) {
            return text.at(place);
        }

        int letterAhead(int place) {
            return place > 0 ? text.at(place - 1) : NO_LETTER;
        }

        int marksAt(int place) {
            return marks.at(place);
        }

        void see(int[] counts) {
            for (int hand = 0; hand < HANDS && hand < counts.length; hand++) {
                judge(hand, counts[hand]);
            }
            book.startStriking();
            for (int id = 0; id < ALL; id++) {
                if (isInForce[id] != 0) {
                    book.strikeTaken(book.editAt(id));
                }
            }
            gather(counts);
        }

        /** Finds which ones of the heard edits of a hand are in force. */
        private void judge(int hand, int many) {
            Arrays.fill(isOff, 0);
            for (int number = 1; number <= many && number <= EDITS; number++) {
                Edit edit = book.editOf(hand, number);
                if (edit.turning != 0 && edit.group >= 0 && edit.group < EDITS) {
                    isOff[edit.group] = edit.turning == Edit.UNDOING ? 1 : 0;
                }
            }
            for (int number = 1; number <= EDITS; number++) {
                int group = book.editOf(hand, number).group;
                boolean isOn = number <= many && group >= 0 && group < EDITS && isOff[group] == 0;
                isInForce[hand * EDITS + number - 1] = isOn ? 1 : 0;
            }
        }

        private void gather(int[] counts) {
            text.clear();
            kept = 0;
            int letter = row.behind(NO_LETTER);
            for (int i = 0; i < row.size() && letter != NO_LETTER; i++) {
                Edit maker = book.makerOf(letter);
                if (maker.hand < counts.length && maker.number <= counts[maker.hand]) {
                    kept++;
                    if (isValid(maker) && !book.isStruck(letter)) {
                        text.add(letter);
                    }
                }
                letter = row.behind(letter);
            }
        }

        private boolean isValid(Edit edit) {
            return edit.id >= 0 && edit.id < ALL && isInForce[edit.id] != 0;
        }

        /** Lays the marks and hangs the comments on what is seen. */
        void dress() {
            marks.clear();
            marks.widen(text.size());
            for (int i = 0; i < book.marks.size(); i++) {
                Edit edit = book.editAt(book.marks.at(i));
                if (isValid(edit)) {
                    lay(edit, firstOf(edit), endOf(edit));
                }
            }
            hung.clear();
            firsts.clear();
            ends.clear();
            for (int i = 0; i < book.comments.size(); i++) {
                Edit edit = book.editAt(book.comments.at(i));
                if (isValid(edit)) {
                    hang(edit, firstOf(edit), endOf(edit));
                }
            }
        }

        private void lay(Edit edit, int first, int end) {
            for (int place = first; place < end; place++) {
                int others = marks.at(place) & ~edit.mark;
                marks.set(place, edit.isOn ? others | edit.mark : others);
            }
        }

        private void hang(Edit edit, int first, int end) {
            if (first >= end) {
                return;
            }
            int at = hung.size();
            while (at > 0 && isHungBehind(at - 1, first, edit)) {
                at--;
            }
            hung.addAt(at, edit.id);
            firsts.addAt(at, first);
            ends.addAt(at, end);
        }

        private boolean isHungBehind(int index, int first, Edit edit) {
            int own = firsts.at(index);
            return own > first || own == first && book.editAt(hung.at(index)).label() > edit.label();
        }

        /** The place of the first letter that is seen from there on in the row. */
        private int placeFrom(int order) {
            int low = 0;
            int high = text.size();
            while (low < high) {
                int middle = low + (high - low) / 2;
                if (row.orderOf(text.at(middle)) < order) {
                    low = middle + 1;
                } else {
                    high = middle;
                }
            }
            return low;
        }

        int placeBehind(int letter) {
            return letter == NO_LETTER ? 0 : placeFrom(row.orderOf(letter) + 1);
        }

        /** The first place of a mark or a comment; one whose begin was forgotten for good has none. */
        private int firstOf(Edit edit) {
            return edit.from == NO_LETTER ? text.size() : placeFrom(row.orderOf(edit.from));
        }

        private int endOf(Edit edit) {
            if (edit.to == NO_LETTER) {
                return text.size();
            }
            return placeFrom(row.orderOf(edit.to) + (edit.isToWithin ? 1 : 0));
        }

        /** Lets a mark or a comment begin and end at letters that are seen. */
        void settle(Edit edit) {
            if (edit.mark == 0 && !edit.isComment) {
                return;
            }
            if (edit.from != NO_LETTER) {
                edit.from = text.at(firstOf(edit));
            }
            if (edit.to != NO_LETTER) {
                int left = text.at(placeFrom(row.orderOf(edit.to)));
                if (left != edit.to) {
                    edit.to = left;
                    edit.isToWithin = false;
                }
            }
        }

        int manyInCommon(View other) {
            int many = 0;
            int there = 0;
            for (int here = 0; here < text.size(); here++) {
                int order = row.orderOf(text.at(here));
                while (there < other.text.size() && row.orderOf(other.text.at(there)) < order) {
                    there++;
                }
                if (there < other.text.size() && other.text.at(there) == text.at(here)) {
                    many++;
                }
            }
            return many;
        }

        boolean isSame(View other) {
            return text.isEqual(other.text) && marks.isEqual(other.marks) && hung.isEqual(other.hung)
                    && firsts.isEqual(other.firsts) && ends.isEqual(other.ends);
        }
    }

    /** A hand: what it has heard, what comes to it, and what it can undo. */
    private static final class Hand {
        private static final int NO_GROUP = -1;

        private final View view;
        private boolean isStale;
        private final int[] heard;
        private int latest;
        private final Ints past;
        private final Ints way;
        private final int[] waits;
        private final Ints undoable;
        private final Ints redoable;
        private final Ints sizes;
        private boolean isOpen;
        private int opened;
        private int cursor;

        Hand(View view) {
            this.view = view;
            heard = new int[HANDS];
            past = new Ints(ALL);
            way = new Ints(ALL);
            waits = new int[ALL];
            undoable = new Ints(EDITS);
            redoable = new Ints(EDITS);
            sizes = new Ints(EDITS);
            opened = NO_GROUP;
            cursor = NO_LETTER;
        }

        boolean hasHeard(Edit edit) {
            return edit.number <= heard[edit.hand];
        }

        boolean canHear(Edit edit) {
            for (int of = 0; of < HANDS; of++) {
                if (edit.leaning[of] > heard[of]) {
                    return false;
                }
            }
            return true;
        }

        void hear(Edit edit) {
            heard[edit.hand] = edit.number;
            latest = Math.max(latest, edit.time);
            past.add(edit.id);
            setWaiting(edit, 0);
            isStale = true;
        }

        boolean isWaiting(Edit edit) {
            return edit.id >= 0 && edit.id < ALL && waits[edit.id] != 0;
        }

        void letWait(Edit edit) {
            setWaiting(edit, 1);
        }

        private void setWaiting(Edit edit, int value) {
            if (edit.id >= 0 && edit.id < ALL) {
                waits[edit.id] = value;
            }
        }

        int manyWaiting() {
            int many = 0;
            for (int id = 0; id < ALL; id++) {
                many += waits[id];
            }
            return many;
        }

        /** Edits are numbered by hands, then by numbers: the first ready one is the one whose turn it is. */
        int nextReady(Book book) {
            for (int id = 0; id < ALL; id++) {
                if (waits[id] != 0 && canHear(book.editAt(id))) {
                    return id;
                }
            }
            return -1;
        }

        void openGroup() {
            isOpen = true;
            opened = NO_GROUP;
        }

        int closeGroup() {
            int many = sizeOf(opened);
            isOpen = false;
            opened = NO_GROUP;
            return many;
        }

        int sizeOf(int group) {
            return sizes.at(group);
        }

        void joinGroup(Edit edit) {
            redoable.clear();
            int group = opened;
            if (group == NO_GROUP) {
                group = sizes.size();
                sizes.add(0);
                undoable.add(group);
                opened = isOpen ? group : NO_GROUP;
            }
            sizes.set(group, sizes.at(group) + 1);
            edit.group = group;
        }

        void startAnew() {
            past.clear();
            undoable.clear();
            redoable.clear();
            closeGroup();
            isStale = true;
        }
    }

    /** The edits from some counts up to others, those of lesser times first, of like times those of lower hands. */
    private static final class InTime {
        private final Book book;
        private final int[] at;
        private final int[] end;

        InTime(Book book) {
            this.book = book;
            at = new int[HANDS];
            end = new int[HANDS];
        }

        void start(int[] from, int[] to) {
            for (int hand = 0; hand < HANDS && hand < from.length && hand < to.length; hand++) {
                at[hand] = from[hand];
                end[hand] = to[hand];
            }
        }

        int next() {
            int best = -1;
            for (int hand = 0; hand < HANDS; hand++) {
                if (at[hand] < end[hand] && (best < 0 || timeAt(hand) < timeAt(best))) {
                    best = hand;
                }
            }
            if (best < 0) {
                return -1;
            }
            at[best]++;
            return best * EDITS + at[best] - 1;
        }

        private int timeAt(int hand) {
            return book.editOf(hand, at[hand] + 1).time;
        }
    }
}
