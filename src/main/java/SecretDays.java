import java.util.Arrays;

/**
 * A town in which one may tell what one has been told only on one's own birthday, but then all of
 * it, to whoever calls. What each call answers stands in the project's document, by promise.
 */
public final class SecretDays {
    public static final int NONE = -1;

    private static final int MOST_PERSONS = 12;
    private static final int MOST_SECRETS = 4;
    private static final int MOST_AWAY = 12;
    private static final int MOST_CALLERS = 6;
    private static final int MOST_REPORTS = 16;
    private static final int MOST_MARKS = 4;
    private static final int MOST_RUNS = 20;
    private static final int LAST_SEED = 9999;
    private static final int LONGEST_TAPE = 1000;

    private static final int YEARS = 12;
    private static final int DAYS = 366;
    private static final int DATES = YEARS * DAYS;
    private static final int LEAP_DAY = 59;
    private static final int LEAP_CYCLE = 4;

    /** A birthday and a name day each. */
    private static final int MOST_DOORS_A_YEAR = 2 * MOST_PERSONS;
    private static final int MOST_DOORS = MOST_DOORS_A_YEAR * YEARS;

    private final TownReader reader;
    private final Town theTown;
    private final Doors doors;
    private final Rumour[] rumours;
    private final Rumour spareRumour;
    private final Letting letting;
    private final Shutters shutters;
    private final Colds colds;
    private final Reports reports;
    private final Marks marks;
    private final WhatIf whatIf;
    /** Whether doors and rumours are those of the TOWN and law as they are now. */
    private boolean upToDate;

    public SecretDays() {
        reader = new TownReader();
        theTown = new Town();
        doors = new Doors(MOST_DOORS_A_YEAR);
        rumours = new Rumour[MOST_SECRETS];
        for (int secret = 0; secret < MOST_SECRETS; secret++) {
            rumours[secret] = new Rumour();
        }
        spareRumour = new Rumour();
        letting = new Letting();
        shutters = new Shutters();
        colds = new Colds();
        reports = new Reports();
        marks = new Marks();
        whatIf = new WhatIf();
    }

    public int feed(long a, long b, long c) {
        putSigns(a);
        putSigns(b);
        putSigns(c);
        return reader.tape.length;
    }

    private void putSigns(long bytes) {
        for (int shift = 56; shift >= 0; shift -= 8) {
            reader.tape.put((int) (bytes >>> shift) & 255);
        }
    }

    public int town() {
        int fault = reader.readTape();
        if (fault == 0) {
            theTown.copyFrom(reader.draft);
            reports.wipe();
            marks.wipe();
            forgetWorkedOut();
        }
        return fault;
    }

    public boolean law(boolean names) {
        theTown.nameLaw = names;
        forgetWorkedOut();
        return true;
    }

    private void forgetWorkedOut() {
        upToDate = false;
        whatIf.forget();
    }

    public int person(int person, int what) {
        if (!isPerson(person)) {
            return NONE;
        }
        switch (what) {
            case 0:
                return theTown.born[person];
            case 1:
                return theTown.nameDay[person];
            case 2:
                return theTown.ill[person];
            case 3:
                return theTown.callers[person];
            case 4:
                return theTown.hosts[person];
            default:
                return NONE;
        }
    }

    public int date(int year, int day) {
        if (year < 0 || year >= YEARS || day < 0 || day >= DAYS) {
            return NONE;
        }
        return theTown.hasDay(year, day) ? year * DAYS + day : NONE;
    }

    public int free(int person, int date) {
        if (!isPerson(person) || !isThere(date)) {
            return NONE;
        }
        boolean feast = theTown.isFeast(person, date % DAYS);
        return feast && !has(theTown.awayOn(date), person) ? 1 : 0;
    }

    public int away(int person, int date) {
        if (!isPerson(person) || !isThere(date)) {
            return NONE;
        }
        return has(theTown.awayOn(date), person) ? 1 : 0;
    }

    public int soonest(int secret, int person) {
        if (!isSecret(secret) || !isPerson(person)) {
            return NONE;
        }
        bringUpToDate();
        return rumours[secret].had(person);
    }

    public int by(int secret, int person) {
        if (!isSecret(secret) || !isPerson(person)) {
            return NONE;
        }
        bringUpToDate();
        return rumours[secret].teller[person];
    }

    public int hands(int secret, int person) {
        if (!isSecret(secret) || !isPerson(person)) {
            return NONE;
        }
        bringUpToDate();
        return rumours[secret].tellings[person];
    }

    public int ways(int secret, int person) {
        if (!isSecret(secret) || !isPerson(person)) {
            return NONE;
        }
        bringUpToDate();
        return rumours[secret].paths[person];
    }

    public int cant(int secret, int date) {
        if (!isSecret(secret) || !isDate(date)) {
            return NONE;
        }
        return theTown.everyone() & ~knowersBehind(secret, date);
    }

    public int all(int secret) {
        if (!isSecret(secret)) {
            return NONE;
        }
        bringUpToDate();
        int last = NONE;
        for (int person = 0; person < theTown.persons; person++) {
            int had = rumours[secret].had(person);
            if (had == NONE) {
                return NONE;
            }
            last = Math.max(last, had);
        }
        return last;
    }

    public int knows(int secret, int date) {
        if (!isSecret(secret) || !isDate(date)) {
            return NONE;
        }
        return knowersBehind(secret, date);
    }

    private int knowersBehind(int secret, int date) {
        bringUpToDate();
        int knowers = 0;
        for (int person = 0; person < theTown.persons; person++) {
            if (rumours[secret].hadBy(person, date)) {
                knowers |= 1 << person;
            }
        }
        return knowers;
    }

    public int letIn(int secret, int person, int by, int others, int before) {
        if (!isSecret(secret) || !isPerson(person) || !isDate(by) || !isSet(others) || !isDate(before)) {
            return NONE;
        }
        bringUpToDate();
        int beginner = theTown.beginner[secret];
        int begins = theTown.begins[secret];
        if (begins > by || has(others, beginner) && begins < before) {
            return NONE;
        }
        letting.forbid(others, before);
        return letting.fewest(doors, beginner, begins, person, by);
    }

    public int cut(int secret, int person, int by) {
        if (!isSecret(secret) || !isPerson(person) || !isDate(by) || person == theTown.beginner[secret]) {
            return NONE;
        }
        bringUpToDate();
        return shutters.fewest(doors, theTown.beginner[secret], theTown.begins[secret], person, by);
    }

    public int meet(int secret, int other, int what) {
        if (!isSecret(secret) || !isSecret(other) || secret == other || !isOneOfTwo(what)) {
            return NONE;
        }
        bringUpToDate();
        int first = NONE;
        int who = NONE;
        for (int person = 0; person < theTown.persons; person++) {
            int one = rumours[secret].had(person);
            int two = rumours[other].had(person);
            int both = Math.max(one, two);
            if (one != NONE && two != NONE && (first == NONE || both < first)) {
                first = both;
                who = person;
            }
        }
        return what == 0 ? first : who;
    }

    public int newcomer(int callsOn, int calledBy, int secret, int person, int what) {
        if (theTown.persons == MOST_PERSONS || !isSet(callsOn) || !isSet(calledBy)) {
            return NONE;
        }
        if (!isSecret(secret) || !isPerson(person) || !isOneOfTwo(what)) {
            return NONE;
        }
        whatIf.tryNewcomer(theTown, callsOn, calledBy, secret, person);
        return what == 0 ? whatIf.bestDate : whatIf.bestDay;
    }

    public int report(int person, int secret, int date, boolean knew) {
        if (!isPerson(person) || !isSecret(secret) || !isDate(date) || reports.size == MOST_REPORTS) {
            return NONE;
        }
        reports.add(person, secret, date, knew);
        whatIf.forget();
        return reports.size;
    }

    public boolean clear() {
        reports.wipe();
        whatIf.forget();
        return true;
    }

    public int holds() {
        bringUpToDate();
        for (int secret = 0; secret < theTown.secrets; secret++) {
            if (!reports.agree(secret, rumours[secret])) {
                return 0;
            }
        }
        return 1;
    }

    public int began(int secret) {
        if (!isSecret(secret)) {
            return NONE;
        }
        bringUpToDate();
        int last = reports.lastAbout(secret);
        int beginners = 0;
        for (int person = 0; person < theTown.persons; person++) {
            spareRumour.spread(doors, person, theTown.begins[secret], last);
            if (reports.agree(secret, spareRumour)) {
                beginners |= 1 << person;
            }
        }
        return beginners;
    }

    public int wrong() {
        int suspects = 0;
        for (int person = 0; person < theTown.persons; person++) {
            if (whatIf.otherBirthday(theTown, reports, person) != NONE) {
                suspects |= 1 << person;
            }
        }
        return suspects;
    }

    public int instead(int person) {
        return isPerson(person) ? whatIf.otherBirthday(theTown, reports, person) : NONE;
    }

    public int runs(int seed, int runs, int secret, int person, int by, int what) {
        if (seed < 0 || seed > LAST_SEED || runs < 1 || runs > MOST_RUNS || !isOneOfTwo(what)) {
            return NONE;
        }
        if (!isSecret(secret) || !isPerson(person) || !isDate(by)) {
            return NONE;
        }
        bringUpToDate();
        colds.start(seed);
        int times = 0;
        int sum = 0;
        for (int run = 0; run < runs; run++) {
            colds.liveThrough(theTown, doors, secret, spareRumour);
            if (spareRumour.hadBy(person, by)) {
                times++;
                sum += spareRumour.had(person);
            }
        }
        return what == 0 ? times : sum;
    }

    public boolean mark(int mark, boolean back) {
        if (mark < 0 || mark >= MOST_MARKS) {
            return false;
        }
        if (!back) {
            marks.lay(mark, theTown, reports);
            return true;
        }
        if (!marks.laid[mark]) {
            return false;
        }
        marks.goBack(mark, theTown, reports);
        forgetWorkedOut();
        return true;
    }

    public int count(int what) {
        switch (what) {
            case 0:
                return theTown.persons;
            case 1:
                return theTown.secrets;
            case 2:
                return theTown.pairs;
            case 3:
                return theTown.aways;
            case 4:
                return theTown.leap;
            case 5:
                return theTown.nameLaw ? 1 : 0;
            case 6:
                return reports.size;
            case 7:
                return reader.tape.length;
            default:
                return NONE;
        }
    }

    private void bringUpToDate() {
        if (upToDate) {
            return;
        }
        doors.openAll(theTown);
        for (int secret = 0; secret < theTown.secrets; secret++) {
            rumours[secret].spread(doors, theTown.beginner[secret], theTown.begins[secret], DATES - 1);
            rumours[secret].trace(doors);
        }
        upToDate = true;
    }

    private boolean isPerson(int person) {
        return person >= 0 && person < theTown.persons;
    }

    private boolean isSecret(int secret) {
        return secret >= 0 && secret < theTown.secrets;
    }

    private boolean isDate(int date) {
        return date >= 0 && date < DATES;
    }

    private boolean isThere(int date) {
        return isDate(date) && theTown.hasDay(date / DAYS, date % DAYS);
    }

    /** Bits of PERSONS that are told, and no others. */
    private boolean isSet(int bits) {
        return bits >= 0 && bits <= theTown.everyone();
    }

    private static boolean isOneOfTwo(int what) {
        return what == 0 || what == 1;
    }

    private static boolean has(int bits, int person) {
        return (bits >> person & 1) != 0;
    }

    /** The TAPE, and its text token by token. */
    private static final class Tape {
        static final int END = 0;
        static final int WORD = 1;
        static final int NUMBER = 2;
        static final int STOP = 3;
        static final int NO_TOKEN = 4;

        private static final int LONGEST_WORD = 8;
        private static final int LONGEST_NUMBER = 4;
        private static final int LINE_FEED = 10;

        private final byte[] signs = new byte[LONGEST_TAPE];
        int length;
        private int next;
        int kind;
        int place;
        /** A WORD is its letters' bytes, so that two WORDS are alike if their numbers are. */
        long word;
        int number;

        void put(int sign) {
            boolean fits = sign == LINE_FEED || sign >= ' ' && sign <= '~';
            if (fits && length < LONGEST_TAPE) {
                signs[length] = (byte) sign;
                length++;
            }
        }

        void wipe() {
            length = 0;
        }

        void rewind() {
            next = 0;
            step();
        }

        void step() {
            while (next < length && (signs[next] == ' ' || signs[next] == LINE_FEED)) {
                next++;
            }
            place = next;
            if (next >= length) {
                kind = END;
            } else if (isLetter(signs[next])) {
                takeWord();
            } else if (isDigit(signs[next])) {
                takeNumber();
            } else {
                kind = signs[next] == ';' ? STOP : NO_TOKEN;
                next++;
            }
        }

        boolean isAt(long wanted) {
            return kind == WORD && word == wanted;
        }

        private void takeWord() {
            word = 0;
            while (next < length && isLetter(signs[next])) {
                word = word << 8 | signs[next];
                next++;
            }
            kind = next - place <= LONGEST_WORD ? WORD : NO_TOKEN;
        }

        private void takeNumber() {
            number = 0;
            while (next < length && isDigit(signs[next])) {
                number = number * 10 + (signs[next] - '0');
                next++;
            }
            kind = next - place <= LONGEST_NUMBER ? NUMBER : NO_TOKEN;
        }

        private static boolean isLetter(int sign) {
            return sign >= 'a' && sign <= 'z';
        }

        private static boolean isDigit(int sign) {
            return sign >= '0' && sign <= '9';
        }
    }

    /** Reads the TAPE as a TOWN, up to the first FAULT. */
    private static final class TownReader {
        private static final int CANT_STAND = 1;
        private static final int NO_PERSON = 2;
        private static final int AGAIN = 3;
        private static final int NOT_AS_TOLD = 4;
        private static final int TOO_MANY = 5;
        private static final int FAULT_KINDS = 16;

        private static final int LAST_LEAP = 3;
        private static final int LAST_ILL = 99;

        /** The bytes of the letters of each word. */
        private static final long LEAP = 0x6c656170L;
        private static final long PERSON = 0x706572736f6eL;
        private static final long BORN = 0x626f726eL;
        private static final long NAME = 0x6e616d65L;
        private static final long ILL = 0x696c6cL;
        private static final long CALLS = 0x63616c6c73L;
        private static final long ON = 0x6f6eL;
        private static final long AWAY = 0x61776179L;
        private static final long FROM = 0x66726f6dL;
        private static final long TO = 0x746fL;
        private static final long SECRET = 0x736563726574L;
        private static final long WITH = 0x77697468L;
        private static final long LAW = 0x6c6177L;
        private static final long NAMES = 0x6e616d6573L;
        private static final long[] NO_NAMES = {
            LEAP, PERSON, BORN, NAME, ILL, CALLS, ON, AWAY, FROM, TO, SECRET, WITH, LAW, NAMES
        };

        final Town draft = new Town();
        final Tape tape = new Tape();
        private final long[] personNames = new long[MOST_PERSONS];
        private final long[] secretNames = new long[MOST_SECRETS];
        private boolean leapTold;
        private int fault;

        /** The FAULT, or 0: then draft is what was told. The TAPE is taken. */
        int readTape() {
            draft.empty();
            leapTold = false;
            fault = 0;
            tape.rewind();
            for (int i = 0; i < LONGEST_TAPE && fault == 0 && tape.kind != Tape.END; i++) {
                if (tape.isAt(LEAP)) {
                    readLeap();
                } else if (tape.isAt(PERSON)) {
                    readPerson();
                } else if (tape.isAt(CALLS)) {
                    readCalls();
                } else if (tape.isAt(AWAY)) {
                    readAway();
                } else if (tape.isAt(SECRET)) {
                    readSecret();
                } else if (tape.isAt(LAW)) {
                    readLaw();
                } else {
                    failIf(true, CANT_STAND);
                }
                failIf(tape.kind != Tape.STOP, CANT_STAND);
                tape.step();
            }
            tape.wipe();
            return fault;
        }

        private void readLeap() {
            failIf(leapTold, AGAIN);
            leapTold = true;
            tape.step();
            draft.leap = takeNumber(LAST_LEAP);
        }

        private void readPerson() {
            failIf(draft.persons == MOST_PERSONS, TOO_MANY);
            tape.step();
            long name = takeNewName();
            takeWord(BORN);
            int born = takeNumber(DAYS - 1);
            if (fault == 0) {
                personNames[draft.persons] = name;
                draft.addPerson(born);
                readExtras(draft.persons - 1);
            }
        }

        private void readExtras(int person) {
            boolean named = false;
            boolean illTold = false;
            // A third one is a second of its kind, and that is a FAULT.
            for (int i = 0; i < 3 && fault == 0; i++) {
                if (tape.isAt(NAME)) {
                    failIf(named, AGAIN);
                    named = true;
                    tape.step();
                    draft.nameDay[person] = takeNumber(DAYS - 1);
                } else if (tape.isAt(ILL)) {
                    failIf(illTold, AGAIN);
                    illTold = true;
                    tape.step();
                    draft.ill[person] = takeNumber(LAST_ILL);
                }
            }
        }

        private void readCalls() {
            tape.step();
            int caller = takePerson();
            takeWord(ON);
            boolean more = true;
            for (int i = 0; i < MOST_PERSONS && fault == 0 && more; i++) {
                readHost(caller);
                more = tape.kind != Tape.STOP;
            }
        }

        private void readHost(int caller) {
            int host = findPerson();
            if (fault != 0) {
                return;
            }
            failIf(host == caller || has(draft.hosts[caller], host), AGAIN);
            failIf(Integer.bitCount(draft.callers[host]) >= MOST_CALLERS, TOO_MANY);
            if (fault == 0) {
                draft.addCall(caller, host);
                tape.step();
            }
        }

        private void readAway() {
            failIf(draft.aways == MOST_AWAY, TOO_MANY);
            tape.step();
            int person = takePerson();
            takeWord(FROM);
            int from = takeDate(0);
            takeWord(TO);
            int to = takeDate(from);
            if (fault == 0) {
                draft.addAway(person, from, to);
            }
        }

        private void readSecret() {
            failIf(draft.secrets == MOST_SECRETS, TOO_MANY);
            tape.step();
            long name = takeNewName();
            takeWord(WITH);
            int beginner = takePerson();
            takeWord(FROM);
            int begins = takeDate(0);
            if (fault == 0) {
                secretNames[draft.secrets] = name;
                draft.addSecret(beginner, begins);
            }
        }

        private void readLaw() {
            failIf(draft.nameLaw, AGAIN);
            draft.nameLaw = true;
            tape.step();
            takeWord(NAMES);
        }

        private void takeWord(long word) {
            failIf(!tape.isAt(word), CANT_STAND);
            tape.step();
        }

        private int takeNumber(int most) {
            failIf(tape.kind != Tape.NUMBER, CANT_STAND);
            failIf(tape.number > most, NOT_AS_TOLD);
            int number = tape.number;
            tape.step();
            return number;
        }

        /** A DATE that is not ahead of another. */
        private int takeDate(int least) {
            int start = takeNumber(YEARS - 1) * DAYS;
            boolean ahead = tape.kind == Tape.NUMBER && start + tape.number < least;
            failIf(ahead, NOT_AS_TOLD);
            return start + takeNumber(DAYS - 1);
        }

        private int takePerson() {
            int person = findPerson();
            tape.step();
            return person;
        }

        private int findPerson() {
            failIf(!isAtName(), CANT_STAND);
            int person = placeOf(tape.word, personNames, draft.persons);
            failIf(person == NONE, NO_PERSON);
            return person;
        }

        private long takeNewName() {
            failIf(!isAtName(), CANT_STAND);
            long name = tape.word;
            boolean ofPerson = placeOf(name, personNames, draft.persons) != NONE;
            boolean ofSecret = placeOf(name, secretNames, draft.secrets) != NONE;
            failIf(ofPerson || ofSecret, AGAIN);
            tape.step();
            return name;
        }

        private boolean isAtName() {
            return tape.kind == Tape.WORD && placeOf(tape.word, NO_NAMES, NO_NAMES.length) == NONE;
        }

        private static int placeOf(long name, long[] names, int size) {
            for (int i = 0; i < size && i < names.length; i++) {
                if (names[i] == name) {
                    return i;
                }
            }
            return NONE;
        }

        /** Only the first FAULT counts: what is read behind it is read for nothing. */
        private void failIf(boolean amiss, int kind) {
            if (amiss && fault == 0) {
                fault = kind + FAULT_KINDS * tape.place;
            }
        }
    }

    /** A TOWN as it is told, and the law as it is now. */
    private static final class Town {
        int persons;
        final int[] born = new int[MOST_PERSONS];
        final int[] nameDay = new int[MOST_PERSONS];
        final int[] ill = new int[MOST_PERSONS];
        final int[] callers = new int[MOST_PERSONS];
        final int[] hosts = new int[MOST_PERSONS];
        int pairs;
        int aways;
        final int[] awayWho = new int[MOST_AWAY];
        final int[] awayFrom = new int[MOST_AWAY];
        final int[] awayTo = new int[MOST_AWAY];
        int secrets;
        final int[] beginner = new int[MOST_SECRETS];
        final int[] begins = new int[MOST_SECRETS];
        int leap;
        boolean nameLaw;

        void empty() {
            persons = 0;
            pairs = 0;
            aways = 0;
            secrets = 0;
            leap = 0;
            nameLaw = false;
        }

        void copyFrom(Town other) {
            persons = other.persons;
            System.arraycopy(other.born, 0, born, 0, MOST_PERSONS);
            System.arraycopy(other.nameDay, 0, nameDay, 0, MOST_PERSONS);
            System.arraycopy(other.ill, 0, ill, 0, MOST_PERSONS);
            System.arraycopy(other.callers, 0, callers, 0, MOST_PERSONS);
            System.arraycopy(other.hosts, 0, hosts, 0, MOST_PERSONS);
            pairs = other.pairs;
            aways = other.aways;
            System.arraycopy(other.awayWho, 0, awayWho, 0, MOST_AWAY);
            System.arraycopy(other.awayFrom, 0, awayFrom, 0, MOST_AWAY);
            System.arraycopy(other.awayTo, 0, awayTo, 0, MOST_AWAY);
            secrets = other.secrets;
            System.arraycopy(other.beginner, 0, beginner, 0, MOST_SECRETS);
            System.arraycopy(other.begins, 0, begins, 0, MOST_SECRETS);
            leap = other.leap;
            nameLaw = other.nameLaw;
        }

        void addPerson(int birthday) {
            if (persons < MOST_PERSONS) {
                born[persons] = birthday;
                nameDay[persons] = NONE;
                ill[persons] = 0;
                callers[persons] = 0;
                hosts[persons] = 0;
                persons++;
            }
        }

        void addCall(int caller, int host) {
            callers[host] |= 1 << caller;
            hosts[caller] |= 1 << host;
            pairs++;
        }

        void addAway(int person, int from, int to) {
            if (aways < MOST_AWAY) {
                awayWho[aways] = person;
                awayFrom[aways] = from;
                awayTo[aways] = to;
                aways++;
            }
        }

        void addSecret(int person, int from) {
            if (secrets < MOST_SECRETS) {
                beginner[secrets] = person;
                begins[secrets] = from;
                secrets++;
            }
        }

        int everyone() {
            return (1 << persons) - 1;
        }

        boolean hasDay(int year, int day) {
            return day != LEAP_DAY || year % LEAP_CYCLE == leap;
        }

        /** Whether a DAY is one that is FREE for a PERSON who is not AWAY. */
        boolean isFeast(int person, int day) {
            return born[person] == day || nameLaw && nameDay[person] == day;
        }

        int awayOn(int date) {
            int bits = 0;
            for (int i = 0; i < aways; i++) {
                if (awayFrom[i] <= date && date <= awayTo[i]) {
                    bits |= 1 << awayWho[i];
                }
            }
            return bits;
        }
    }

    /** FREE days of all YEARS, DATE by DATE and on each in the PERSONS' order, and who may be told. */
    private static final class Doors {
        private static final int PERSON_BITS = 4;
        private static final int PERSON_MASK = 15;

        int size;
        final int[] dates;
        final int[] hosts;
        final int[] guests;
        private int yearSize;
        /** DAY and PERSON in one number, so that their order is the numbers'. */
        private final int[] year;

        Doors(int mostInYear) {
            year = new int[mostInYear];
            dates = new int[mostInYear * YEARS];
            hosts = new int[mostInYear * YEARS];
            guests = new int[mostInYear * YEARS];
        }

        /** Who has no birthday (NONE) gets none. */
        void openAll(Town town) {
            yearSize = 0;
            for (int person = 0; person < town.persons; person++) {
                addToYear(town.born[person], person);
                if (town.nameLaw) {
                    addToYear(town.nameDay[person], person);
                }
            }
            unfold(town);
        }

        void openOne(Town town, int person, int day) {
            yearSize = 0;
            addToYear(day, person);
            unfold(town);
        }

        private void addToYear(int day, int person) {
            int entry = day << PERSON_BITS | person;
            int at = yearSize;
            while (at > 0 && year[at - 1] > entry) {
                at--;
            }
            boolean twice = at > 0 && year[at - 1] == entry;
            if (day == NONE || twice || yearSize >= year.length) {
                return;
            }
            System.arraycopy(year, at, year, at + 1, yearSize - at);
            year[at] = entry;
            yearSize++;
        }

        private void unfold(Town town) {
            size = 0;
            for (int y = 0; y < YEARS; y++) {
                for (int i = 0; i < yearSize; i++) {
                    int day = year[i] >> PERSON_BITS;
                    if (town.hasDay(y, day)) {
                        addDoor(town, y * DAYS + day, year[i] & PERSON_MASK);
                    }
                }
            }
        }

        private void addDoor(Town town, int date, int host) {
            int away = town.awayOn(date);
            if (has(away, host) || size >= dates.length) {
                return;
            }
            dates[size] = date;
            hosts[size] = host;
            guests[size] = town.callers[host] & ~away;
            size++;
        }
    }

    /** One SECRET on its way through the TOWN. */
    private static final class Rumour {
        private static final int MODULUS = 1000000007;
        /** Behind every DATE, and behind the day after the last. */
        private static final int NEVER = DATES + 1;

        private int beginner;
        private int knowers;
        /** The first DATE on which one could tell it: the day after it is had, but for the beginner. */
        private final int[] ready = new int[MOST_PERSONS];
        final int[] teller = new int[MOST_PERSONS];
        final int[] tellings = new int[MOST_PERSONS];
        final int[] paths = new int[MOST_PERSONS];

        /** With last NONE it stays with the beginner. */
        void spread(Doors doors, int person, int from, int last) {
            begin(person, from);
            for (int i = 0; i < doors.size && doors.dates[i] <= last; i++) {
                pass(doors, i);
            }
        }

        /** On one DATE the order is all the same: what is told is known from the next on. */
        void spreadThroughBoth(Doors doors, Doors more, int person, int from, int last) {
            begin(person, from);
            int m = 0;
            for (int i = 0; i < doors.size && doors.dates[i] <= last; i++) {
                while (m < more.size && more.dates[m] <= doors.dates[i]) {
                    pass(more, m);
                    m++;
                }
                pass(doors, i);
            }
            while (m < more.size && more.dates[m] <= last) {
                pass(more, m);
                m++;
            }
        }

        void begin(int person, int from) {
            Arrays.fill(ready, NEVER);
            beginner = person;
            ready[person] = from;
            knowers = 1 << person;
        }

        void pass(Doors doors, int door) {
            int date = doors.dates[door];
            int fresh = doors.guests[door] & ~knowers;
            if (fresh == 0 || ready[doors.hosts[door]] > date) {
                return;
            }
            knowers |= fresh;
            for (int person = 0; person < MOST_PERSONS; person++) {
                if (has(fresh, person)) {
                    ready[person] = date + 1;
                }
            }
        }

        int had(int person) {
            if (ready[person] == NEVER) {
                return NONE;
            }
            return person == beginner ? ready[person] : ready[person] - 1;
        }

        boolean hadBy(int person, int date) {
            int had = had(person);
            return had != NONE && had <= date;
        }

        /** Goes the way of a rumour that is spread once more, for who told whom. */
        void trace(Doors doors) {
            Arrays.fill(teller, NONE);
            Arrays.fill(tellings, NONE);
            Arrays.fill(paths, 0);
            tellings[beginner] = 0;
            paths[beginner] = 1;
            for (int i = 0; i < doors.size; i++) {
                if (ready[doors.hosts[i]] <= doors.dates[i]) {
                    traceDoor(doors, i);
                }
            }
        }

        private void traceDoor(Doors doors, int door) {
            int host = doors.hosts[door];
            for (int person = 0; person < MOST_PERSONS; person++) {
                boolean toldNow = ready[person] == doors.dates[door] + 1 && person != beginner;
                if (!toldNow || !has(doors.guests[door], person)) {
                    continue;
                }
                // The least of a DATE comes first.
                if (teller[person] == NONE) {
                    teller[person] = host;
                    tellings[person] = tellings[host] + 1;
                }
                paths[person] = (paths[person] + paths[host]) % MODULUS;
            }
        }
    }

    /** LET IN: who is let in at all is on the way to that one, so the shortest way is looked for. */
    private static final class Letting {
        private int forbidden;
        private int forbiddenBefore;
        /** With how many PERSONS one has it at the least when the day begins; 0: one can't have it. */
        private final int[] company = new int[MOST_PERSONS];
        private final int[] companyBehind = new int[MOST_PERSONS];

        void forbid(int persons, int before) {
            forbidden = persons;
            forbiddenBefore = before;
        }

        int fewest(Doors doors, int beginner, int begins, int person, int by) {
            Arrays.fill(companyBehind, 0);
            companyBehind[beginner] = 1;
            int today = NONE;
            for (int i = 0; i < doors.size && doors.dates[i] <= by; i++) {
                if (doors.dates[i] < begins) {
                    continue;
                }
                if (doors.dates[i] != today) {
                    today = doors.dates[i];
                    System.arraycopy(companyBehind, 0, company, 0, MOST_PERSONS);
                }
                welcome(doors, i);
            }
            return companyBehind[person] == 0 ? NONE : companyBehind[person];
        }

        private void welcome(Doors doors, int door) {
            int sofar = company[doors.hosts[door]];
            if (sofar == 0) {
                return;
            }
            int guests = doors.guests[door];
            if (doors.dates[door] < forbiddenBefore) {
                guests &= ~forbidden;
            }
            for (int person = 0; person < MOST_PERSONS; person++) {
                boolean better = companyBehind[person] == 0 || companyBehind[person] > sofar + 1;
                if (has(guests, person) && better) {
                    companyBehind[person] = sofar + 1;
                }
            }
        }
    }

    /**
     * CUT: as many doors must be shut as there are ways that share no door (Menger). Ways are added
     * until none is found; a new one may run into a used door and push the old way back from there,
     * so each door has a front, where one stands before it, and a back, where one has told.
     */
    private static final class Shutters {
        private static final int UNSEEN = -2;
        private static final int START = -1;

        private int first;
        private int behindLast;
        private int target;
        private final int[] lastDoor = new int[MOST_PERSONS];
        private final int[] doorBefore = new int[MOST_DOORS];
        private final boolean[] used = new boolean[MOST_DOORS];
        /** The door that leads to a used one, or START. */
        private final int[] cameFrom = new int[MOST_DOORS];
        /** What the search came from to the front of a door and to what is behind it. */
        private final int[] toFront = new int[MOST_DOORS];
        private final int[] toBack = new int[MOST_DOORS];
        /** Of each PERSON the last door whose front the search has not been led to. */
        private final int[] unopened = new int[MOST_PERSONS];
        private final int[] queue = new int[2 * MOST_DOORS];
        private int queued;

        int fewest(Doors doors, int beginner, int begins, int person, int by) {
            target = person;
            takeDoors(doors, begins, by);
            int ways = 0;
            for (int i = first; i < behindLast; i++) {
                if (!addWay(doors, beginner, begins)) {
                    break;
                }
                ways++;
            }
            return ways;
        }

        private void takeDoors(Doors doors, int begins, int by) {
            first = 0;
            while (first < doors.size && doors.dates[first] < begins) {
                first++;
            }
            Arrays.fill(lastDoor, NONE);
            behindLast = first;
            while (behindLast < doors.size && doors.dates[behindLast] <= by) {
                int host = doors.hosts[behindLast];
                doorBefore[behindLast] = lastDoor[host];
                lastDoor[host] = behindLast;
                used[behindLast] = false;
                behindLast++;
            }
        }

        private boolean addWay(Doors doors, int beginner, int begins) {
            for (int i = first; i < behindLast; i++) {
                toFront[i] = UNSEEN;
                toBack[i] = UNSEEN;
            }
            System.arraycopy(lastDoor, 0, unopened, 0, MOST_PERSONS);
            queued = 0;
            leadTo(doors, beginner, begins - 1, START);
            for (int i = 0; i < queued && i < queue.length; i++) {
                int door = queue[i] >> 1;
                boolean back = (queue[i] & 1) != 0;
                if (back && has(doors.guests[door], target)) {
                    keepWay(door);
                    return true;
                }
                if (back) {
                    goOnFromBack(doors, door);
                } else {
                    goOnFromFront(door);
                }
            }
            return false;
        }

        private void goOnFromFront(int door) {
            if (!used[door]) {
                reachBack(door, door);
            } else if (cameFrom[door] >= 0) {
                // The old way that comes to this door has to go elsewhere from the door before.
                reachBack(cameFrom[door], door);
            }
        }

        private void goOnFromBack(Doors doors, int door) {
            for (int person = 0; person < MOST_PERSONS; person++) {
                if (has(doors.guests[door], person)) {
                    leadTo(doors, person, doors.dates[door], door);
                }
            }
            // The old way through this door may end before it, and go elsewhere still earlier.
            if (used[door]) {
                reachFront(door, door);
            }
        }

        /** One who is told on a DATE has all one's later doors before one. */
        private void leadTo(Doors doors, int person, int date, int from) {
            int door = unopened[person];
            for (int i = 0; i < MOST_DOORS && door >= 0 && doors.dates[door] > date; i++) {
                reachFront(door, from);
                door = doorBefore[door];
            }
            unopened[person] = door;
        }

        private void reachFront(int door, int from) {
            if (toFront[door] == UNSEEN && queued < queue.length) {
                toFront[door] = from;
                queue[queued] = door << 1;
                queued++;
            }
        }

        private void reachBack(int door, int from) {
            if (toBack[door] == UNSEEN && queued < queue.length) {
                toBack[door] = from;
                queue[queued] = door << 1 | 1;
                queued++;
            }
        }

        /** From the last door back to START: fronts and backs take turns. */
        private void keepWay(int lastOne) {
            int back = lastOne;
            for (int i = 0; i < MOST_DOORS && back >= 0; i++) {
                int front = toBack[back];
                if (front < 0) {
                    return;
                }
                if (front == back) {
                    used[back] = true;
                }
                int from = toFront[front];
                if (from == front) {
                    used[front] = false;
                } else {
                    cameFrom[front] = from;
                }
                back = from;
            }
        }
    }

    /** YEARS in which who is ill tells nothing. */
    private static final class Colds {
        private static final int PERCENT = 100;

        private long g;

        void start(int seed) {
            g = seed;
        }

        void liveThrough(Town town, Doors doors, int secret, Rumour rumour) {
            rumour.begin(town.beginner[secret], town.begins[secret]);
            for (int i = 0; i < doors.size; i++) {
                boolean ill = drawPercent() < town.ill[doors.hosts[i]];
                if (!ill) {
                    rumour.pass(doors, i);
                }
            }
        }

        private int drawPercent() {
            g = (g * 1103515245L + 12345L) % 2147483648L;
            return (int) (g / 65536L % PERCENT);
        }
    }

    /** REPORTS of who knew what when. */
    private static final class Reports {
        int size;
        private final int[] who = new int[MOST_REPORTS];
        private final int[] what = new int[MOST_REPORTS];
        final int[] when = new int[MOST_REPORTS];
        private final boolean[] knew = new boolean[MOST_REPORTS];

        void add(int person, int secret, int date, boolean known) {
            if (size < MOST_REPORTS) {
                who[size] = person;
                what[size] = secret;
                when[size] = date;
                knew[size] = known;
                size++;
            }
        }

        void wipe() {
            size = 0;
        }

        void copyFrom(Reports other) {
            size = other.size;
            for (int i = 0; i < size; i++) {
                who[i] = other.who[i];
                what[i] = other.what[i];
                when[i] = other.when[i];
                knew[i] = other.knew[i];
            }
        }

        int lastAbout(int secret) {
            int last = NONE;
            for (int i = 0; i < size; i++) {
                if (what[i] == secret) {
                    last = Math.max(last, when[i]);
                }
            }
            return last;
        }

        boolean agree(int secret, Rumour rumour) {
            for (int i = 0; i < size; i++) {
                if (what[i] == secret && rumour.hadBy(who[i], when[i]) != knew[i]) {
                    return false;
                }
            }
            return true;
        }
    }

    /** MARKS: a new TOWN takes them away, so of the TOWN they need to hold no more than the law. */
    private static final class Marks {
        final boolean[] laid = new boolean[MOST_MARKS];
        private final boolean[] nameLaw = new boolean[MOST_MARKS];
        private final Reports[] kept = new Reports[MOST_MARKS];

        Marks() {
            for (int mark = 0; mark < MOST_MARKS; mark++) {
                kept[mark] = new Reports();
            }
        }

        void wipe() {
            for (int mark = 0; mark < MOST_MARKS; mark++) {
                laid[mark] = false;
            }
        }

        void lay(int mark, Town town, Reports reports) {
            laid[mark] = true;
            nameLaw[mark] = town.nameLaw;
            kept[mark].copyFrom(reports);
        }

        void goBack(int mark, Town town, Reports reports) {
            town.nameLaw = nameLaw[mark];
            reports.copyFrom(kept[mark]);
        }
    }

    /** The TOWN with one birthday changed or one PERSON more. */
    private static final class WhatIf {
        private static final int UNASKED = -2;

        private final Town trial = new Town();
        private final Doors rest = new Doors(MOST_DOORS_A_YEAR);
        private final Doors moved = new Doors(1);
        private final Rumour rumour = new Rumour();
        /** DAYS on which something may turn; those between two of them are all alike for a birthday. */
        private final boolean[] turns = new boolean[DAYS];
        private final int[] otherDay = new int[MOST_PERSONS];
        int bestDate;
        int bestDay;

        WhatIf() {
            Arrays.fill(otherDay, UNASKED);
        }

        void forget() {
            Arrays.fill(otherDay, UNASKED);
        }

        void tryNewcomer(Town town, int callsOn, int calledBy, int secret, int person) {
            trial.copyFrom(town);
            markTurns(town);
            int newcomer = trial.persons;
            trial.addPerson(NONE);
            for (int other = 0; other < newcomer; other++) {
                if (has(callsOn, other)) {
                    trial.addCall(newcomer, other);
                }
                if (has(calledBy, other)) {
                    trial.addCall(other, newcomer);
                }
            }
            rest.openAll(trial);
            bestDate = NONE;
            bestDay = NONE;
            int last = DATES - 1;
            for (int day = 0; day < DAYS; day++) {
                if (!isUnlikeDayBefore(day)) {
                    continue;
                }
                moved.openOne(trial, newcomer, day);
                rumour.spreadThroughBoth(rest, moved, trial.beginner[secret], trial.begins[secret], last);
                if (rumour.hadBy(person, last)) {
                    bestDate = rumour.had(person);
                    bestDay = day;
                    last = bestDate - 1;
                }
            }
        }

        int otherBirthday(Town town, Reports reports, int person) {
            if (otherDay[person] == UNASKED) {
                otherDay[person] = findOtherBirthday(town, reports, person);
            }
            return otherDay[person];
        }

        private int findOtherBirthday(Town town, Reports reports, int person) {
            trial.copyFrom(town);
            markTurns(town);
            for (int i = 0; i < reports.size; i++) {
                turns[reports.when[i] % DAYS] = true;
            }
            trial.born[person] = NONE;
            rest.openAll(trial);
            for (int day = 0; day < DAYS; day++) {
                if (day == town.born[person] || !isUnlikeDayBefore(day)) {
                    continue;
                }
                moved.openOne(trial, person, day);
                if (allAgree(reports)) {
                    return day;
                }
            }
            return NONE;
        }

        /** Whether all REPORTS hold with the doors of the rest and the moved ones. */
        private boolean allAgree(Reports reports) {
            for (int secret = 0; secret < trial.secrets; secret++) {
                int last = reports.lastAbout(secret);
                rumour.spreadThroughBoth(rest, moved, trial.beginner[secret], trial.begins[secret], last);
                if (!reports.agree(secret, rumour)) {
                    return false;
                }
            }
            return true;
        }

        private void markTurns(Town town) {
            for (int day = 0; day < DAYS; day++) {
                turns[day] = false;
            }
            turns[LEAP_DAY] = true;
            for (int person = 0; person < town.persons; person++) {
                turns[town.born[person]] = true;
                if (town.nameDay[person] != NONE) {
                    turns[town.nameDay[person]] = true;
                }
            }
            for (int i = 0; i < town.aways; i++) {
                turns[town.awayFrom[i] % DAYS] = true;
                turns[town.awayTo[i] % DAYS] = true;
            }
            for (int secret = 0; secret < town.secrets; secret++) {
                turns[town.begins[secret] % DAYS] = true;
            }
        }

        /** Of DAYS that are alike the first is enough. */
        private boolean isUnlikeDayBefore(int day) {
            return day == 0 || turns[day] || turns[day - 1];
        }
    }
}
