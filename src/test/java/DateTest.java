import java.time.LocalDate;
import java.time.ZoneOffset;

/** Terms 2 as to the text of kind 4; promise 13. */
public final class DateTest {
    private static final Checks CHECKS = new Checks("DateTest");
    private static final String[] DAYS = {"mon", "tue", "wed", "thu", "fri", "sat", "sun"};
    private static final String[] MONTHS = {"jan", "feb", "mar", "apr", "may", "jun", "jul", "aug", "sep", "oct", "nov", "dec"};

    public static void main(String[] args) {
        dates();
        calendar();
        order();
        days();
        wrongDays();
        months();
        daysOfMonths();
        years();
        times();
        zones();
        zoneHours();
        noSpaceWithin();
        dayWhenYearIsRead();
        wordsOfAllLetters();
        answers();
        CHECKS.finish();
    }

    private static String dated(String text) {
        return "date:" + text + "\r\n\r\n";
    }

    private static void isDate(String text, long seconds, int zone) {
        MessageTree tree = CHECKS.stands(dated(text), 1);
        CHECKS.same("seconds of " + text, tree.date(0), seconds);
        CHECKS.same("zone of " + text, tree.date(1), zone);
    }

    private static void dates() {
        CHECKS.asked("what = 0 seconds from the beginning of 1970, where the ZONE is 0; 1 the ZONE in minutes.");
        isDate("1 Jan 1970 00:00 +0000", 0, 0);
        isDate("Thu, 1 Jan 1970 00:00:59 -0000", 59, 0);
        isDate("thu,01JAN1970 00:00:10+0130", 10 - 5400, 90);
        isDate("1 jAn 1970 00:00 -2359", 86340, -1439);
        isDate("1Jan197023:59:58+2359", 86398 - 86340, 1439);
        isDate("1 Jan 1970 01:02:03 +0000", 3723, 0);
        isDate("1 Jan 1970 00:00 -0001", 60, -1);
        isDate("1 Jan 1970 00:00 +0100", -3600, 60);
        isDate("31 Dec 1969 23:59:59 +0000", -1, 0);
        isDate(" (a) Fri (b) , (c) 21 (d) Nov (e) 1997 (f) 09 (g) : (h) 55 (i) : (j) 06 (k) -0600 (l)", 880127706, -360);
        isDate("\r\n Fri,\r\n 21\r\n Nov\r\n 1997\r\n 09:55:06\r\n -0600", 880127706, -360);
        isDate("1 Jan 1600 00:00 +0000", -11676096000L, 0);
        isDate("1 Jan 1600 00:00 +2359", -11676096000L - 86340, 1439);
        isDate("Fri, 31 Dec 9999 23:59:59 +0000", 253402300799L, 0);
        isDate("Fri, 31 Dec 9999 23:59:59 -2359", 253402300799L + 86340, -1439);
    }

    private static void calendar() {
        CHECKS.asked("the day is one of that month, and that DAY");
        for (int year = 1600; year < 10000; year += year < 2110 ? 5 : 97) {
            LocalDate day = LocalDate.of(year, 1, 1);
            for (int month = 1; month <= 12; month++) {
                int most = day.withMonth(month).lengthOfMonth();
                isDay(day.withMonth(month));
                isDay(day.withMonth(month).withDayOfMonth(most));
                CHECKS.faultAtMark(dated(" ↑" + (most + 1) + " " + MONTHS[month - 1] + " " + year + " 00:00 +0000"));
            }
        }
    }

    private static void isDay(LocalDate d) {
        String text = DAYS[d.getDayOfWeek().getValue() - 1] + ", " + d.getDayOfMonth() + " "
                + MONTHS[d.getMonthValue() - 1] + " " + d.getYear() + " 00:00 +0000";
        isDate(text, d.atStartOfDay().toEpochSecond(ZoneOffset.UTC), 0);
    }

    private static void order() {
        CHECKS.asked("a FAULT is the first byte that cannot stand");
        CHECKS.faultAtMark(dated("↑"));
        CHECKS.faultAtMark(dated("↑,"));
        CHECKS.faultAtMark(dated("↑-1 Jan 1970 00:00 +0000"));
        CHECKS.faultAtMark(dated("Thu ↑1 Jan 1970 00:00 +0000"));
        CHECKS.faultAtMark(dated("Thu↑"));
        CHECKS.faultAtMark(dated("Thu,↑"));
        CHECKS.faultAtMark(dated("Thu,↑,1 Jan 1970 00:00 +0000"));
        CHECKS.faultAtMark(dated("Thu,↑Thu"));
        CHECKS.faultAtMark(dated("1 ↑2 Jan 1970 00:00 +0000"));
        CHECKS.faultAtMark(dated("1↑"));
        CHECKS.faultAtMark(dated("1 Jan↑"));
        CHECKS.faultAtMark(dated("1 Jan↑. 1970 00:00 +0000"));
        CHECKS.faultAtMark(dated("1 Jan ↑+1970 00:00 +0000"));
        CHECKS.faultAtMark(dated("1 Jan 1970↑"));
        CHECKS.faultAtMark(dated("1 Jan 1970↑, 00:00 +0000"));
        CHECKS.faultAtMark(dated("1 Jan 1970 00↑"));
        CHECKS.faultAtMark(dated("1 Jan 1970 00↑00 +0000"));
        CHECKS.faultAtMark(dated("1 Jan 1970 00:↑"));
        CHECKS.faultAtMark(dated("1 Jan 1970 00:00↑"));
        CHECKS.faultAtMark(dated("1 Jan 1970 00:00:↑"));
        CHECKS.faultAtMark(dated("1 Jan 1970 00:00: ↑+0000"));
        CHECKS.faultAtMark(dated("1 Jan 1970 00:00:00↑:00 +0000"));
        CHECKS.faultAtMark(dated("1 Jan 1970 00:00:00↑"));
        CHECKS.faultAtMark(dated("1 Jan 1970 00:00 ↑GMT"));
        CHECKS.faultAtMark(dated("1 Jan 1970 00:00 ↑0000"));
        CHECKS.faultAtMark(dated("1 Jan 1970 00:00 +0000 ↑x"));
        CHECKS.faultAtMark(dated("1 Jan 1970 00:00 +0000↑,"));
    }

    private static void days() {
        CHECKS.asked("perhaps a DAY (mon tue wed thu fri sat sun) and ,");
        for (int k = 0; k < 7; k++) {
            // The fifth of January 1970 was a Monday.
            String rest = ", " + (5 + k) + " Jan 1970 00:00 +0000";
            CHECKS.stands(dated(DAYS[k] + rest), 1);
            CHECKS.stands(dated(DAYS[k].toUpperCase() + rest), 1);
            CHECKS.faultAtMark(dated("↑" + DAYS[k].substring(0, 2) + rest));
            CHECKS.faultAtMark(dated("↑" + DAYS[k] + "s" + rest));
            CHECKS.faultAtMark(dated("↑x" + DAYS[k] + rest));
            CHECKS.faultAtMark(dated("↑" + DAYS[k].substring(0, 2) + "x" + rest));
        }
        CHECKS.stands(dated("5 Jan 1970 00:00 +0000"), 1);
        CHECKS.faultAtMark(dated("↑Jan 1 1970 00:00 +0000"));
        CHECKS.faultAtMark(dated("↑Monday, 5 Jan 1970 00:00 +0000"));
        CHECKS.faultAtMark(dated("↑x"));
        CHECKS.faultAtMark(dated("↑ont, 5 Jan 1970 00:00 +0000"));
    }

    private static void wrongDays() {
        CHECKS.asked("a word that is none, or the wrong DAY (when all else is right), at its first letter");
        for (int k = 0; k < 7; k++) {
            String rest = ", 1 Jan 1970 00:00 +0000 (x)";
            if (k == 3) {
                CHECKS.stands(dated(" (x) " + DAYS[k] + rest), 1);
            } else {
                CHECKS.faultAtMark(dated(" (x) ↑" + DAYS[k] + rest));
            }
        }
        CHECKS.faultAtMark(dated("Fri, ↑99 Jan 1970 00:00 +0000"));
        CHECKS.faultAtMark(dated("Fri, 1 Jan ↑1599 00:00 +0000"));
        CHECKS.faultAtMark(dated("Fri, 1 Jan 1970 ↑24:00 +0000"));
        CHECKS.faultAtMark(dated("Fri, 1 Jan 1970 00:↑60 +0000"));
        CHECKS.faultAtMark(dated("Fri, 1 Jan 1970 00:00 +↑24"));
        CHECKS.faultAtMark(dated("Fri, 1 Jan 1970 00:00 +00↑60"));
        CHECKS.faultAtMark(dated("Fri, 1 Jan 1970 00:00 +0000 ↑x"));
        CHECKS.faultAtMark(dated("Fri, 1 Jan 1970 00:00 +0000 (x↑"));
        CHECKS.faultAtMark("date: ↑Fri, 1 Jan 1970 00:00 +0000\r\nto: ;\r\n\r\n");
        CHECKS.faultAtMark("to: ↑;\r\ndate: Fri, 1 Jan 1970 00:00 +0000\r\n\r\n");
        // The DAY is that of the date as it stands, whatever the ZONE.
        CHECKS.stands(dated("Thu, 1 Jan 1970 00:00 +2359"), 1);
        CHECKS.stands(dated("Thu, 1 Jan 1970 23:59 -2359"), 1);
    }

    private static void months() {
        CHECKS.asked("a MONTH (jan feb mar apr may jun jul aug sep oct nov dec)");
        for (int k = 0; k < 12; k++) {
            String month = MONTHS[k];
            long seconds = LocalDate.of(2001, k + 1, 1).atStartOfDay().toEpochSecond(ZoneOffset.UTC);
            isDate("1 " + month + " 2001 00:00 +0000", seconds, 0);
            isDate("1 " + month.toUpperCase() + " 2001 00:00 +0000", seconds, 0);
            CHECKS.faultAtMark(dated("1 ↑" + month.substring(0, 2) + " 2001 00:00 +0000"));
            CHECKS.faultAtMark(dated("1 ↑" + month + "x 2001 00:00 +0000"));
            CHECKS.faultAtMark(dated("1 ↑x" + month + " 2001 00:00 +0000"));
            CHECKS.faultAtMark(dated("1 ↑" + month.substring(0, 2) + "z 2001 00:00 +0000"));
        }
        CHECKS.faultAtMark(dated("1 ↑January 2001 00:00 +0000"));
        CHECKS.faultAtMark(dated("1 ↑Thu 2001 00:00 +0000"));
        CHECKS.faultAtMark(dated("1 ↑anf 2001 00:00 +0000"));
        CHECKS.faultAtMark(dated("1 ↑J(x)an 2001 00:00 +0000"));
        CHECKS.faultAtMark(dated("1 ↑1 2001 00:00 +0000"));
    }

    private static void daysOfMonths() {
        CHECKS.asked("one or two digits, the day");
        int[] most = {31, 28, 31, 30, 31, 30, 31, 31, 30, 31, 30, 31};
        for (int k = 0; k < 12; k++) {
            for (int day = 0; day < 100; day++) {
                CHECKS.standsOrFaults(dated(" ↑" + day + MONTHS[k] + " 2001 00:00 +0000"), day >= 1 && day <= most[k]);
            }
        }
        CHECKS.stands(dated("01 Jan 2001 00:00 +0000"), 1);
        CHECKS.faultAtMark(dated("↑00 Jan 2001 00:00 +0000"));
        CHECKS.faultAtMark(dated("12↑3 Jan 2001 00:00 +0000"));
        CHECKS.faultAtMark(dated("00↑1 Jan 2001 00:00 +0000"));
        for (int year : new int[] {1600, 2000, 2004, 2096, 2400}) {
            CHECKS.stands(dated("29 Feb " + year + " 00:00 +0000"), 1);
            CHECKS.faultAtMark(dated("↑30 Feb " + year + " 00:00 +0000"));
        }
        for (int year : new int[] {1601, 1700, 1800, 1900, 2001, 2002, 2003, 2100, 2200, 2300, 9999}) {
            CHECKS.stands(dated("28 Feb " + year + " 00:00 +0000"), 1);
            CHECKS.faultAtMark(dated("↑29 Feb " + year + " 00:00 +0000"));
        }
    }

    private static void years() {
        CHECKS.asked("four digits, the year, 1600 at least");
        CHECKS.stands(dated("1 Jan 1600 00:00 +0000"), 1);
        CHECKS.stands(dated("1 Jan 1601 00:00 +0000"), 1);
        CHECKS.stands(dated("1 Jan 9999 00:00 +0000"), 1);
        CHECKS.faultAtMark(dated("1 Jan ↑1599 00:00 +0000"));
        CHECKS.faultAtMark(dated("31 Dec ↑1599 23:59 -2359"));
        CHECKS.faultAtMark(dated("1 Jan ↑0000 00:00 +0000"));
        CHECKS.faultAtMark(dated("1 Jan ↑0999 x"));
        CHECKS.faultAtMark(dated("1 Jan 197↑ 00:00 +0000"));
        CHECKS.faultAtMark(dated("1 Jan 159↑x 00:00 +0000"));
        CHECKS.faultAtMark(dated("1 Jan 70↑ 00:00 +0000"));
        CHECKS.faultAtMark(dated("1 Jan 19700↑ 0:00 +0000"));
        CHECKS.faultAtMark(dated("1 Jan 1970↑:00:00 +0000"));
    }

    private static void times() {
        CHECKS.asked("two digits : two digits, perhaps : two digits: hour, minute, second");
        isDate("1 Jan 1970 10:20 +0000", 37200, 0);
        isDate("1 Jan 1970 10:20:30 +0000", 37230, 0);
        CHECKS.asked("0 .. 23, 0 .. 59; the day is one of that month, and that DAY.");
        for (int n = 0; n < 100; n++) {
            String two = (n < 10 ? "0" : "") + n;
            CHECKS.standsOrFaults(dated("1 Jan 1970 ↑" + two + ":00 +0000"), n <= 23);
            CHECKS.standsOrFaults(dated("1 Jan 1970 00:↑" + two + " +0000"), n <= 59);
            CHECKS.standsOrFaults(dated("1 Jan 1970 00:00:↑" + two + " +0000"), n <= 59);
        }
        CHECKS.asked("A number that may not be is a FAULT at its first digit");
        CHECKS.faultAtMark(dated("1 Jan 1970 ↑24x"));
        CHECKS.faultAtMark(dated("1 Jan 1970 ↑24"));
        CHECKS.faultAtMark(dated("1 Jan 1970 ↑241:00"));
        CHECKS.faultAtMark(dated("1 Jan 1970 00:↑60x"));
        CHECKS.faultAtMark(dated("1 Jan 1970 00:↑60"));
        CHECKS.faultAtMark(dated("1 Jan 1970 00:00:↑60"));
        CHECKS.faultAtMark(dated("1 Jan 1970 ↑24:60:60 +2460"));
        CHECKS.faultAtMark(dated("1 Jan 1970 1↑:00 +0000"));
        CHECKS.faultAtMark(dated("1 Jan 1970 9↑:00 +0000"));
        CHECKS.faultAtMark(dated("1 Jan 1970 00:0↑ +0000"));
        CHECKS.faultAtMark(dated("1 Jan 1970 00:00:0↑ +0000"));
        CHECKS.faultAtMark(dated("1 Jan 1970 00:00↑0 +0000"));
        CHECKS.faultAtMark(dated("1 Jan 1970 00:00:00↑0 +0000"));
        CHECKS.faultAtMark(dated("1 Jan 1970 00↑0:00 +0000"));
    }

    private static void zones() {
        CHECKS.asked("+ or - and four digits (hours and minutes of the ZONE)");
        for (int n = 0; n < 100; n++) {
            String two = (n < 10 ? "0" : "") + n;
            for (String sign : new String[] {"+", "-"}) {
                CHECKS.standsOrFaults(dated("1 Jan 1970 00:00 " + sign + "↑" + two + "00"), n <= 23);
                CHECKS.standsOrFaults(dated("1 Jan 1970 00:00 " + sign + "00↑" + two), n <= 59);
            }
        }
        isDate("1 Jan 1970 00:00 +2359", -86340, 1439);
        isDate("1 Jan 1970 00:00 -2300", 82800, -1380);
        CHECKS.faultAtMark(dated("1 Jan 1970 00:00 +↑"));
        CHECKS.faultAtMark(dated("1 Jan 1970 00:00 +0↑"));
        CHECKS.faultAtMark(dated("1 Jan 1970 00:00 +00↑"));
        CHECKS.faultAtMark(dated("1 Jan 1970 00:00 +000↑"));
        CHECKS.faultAtMark(dated("1 Jan 1970 00:00 +0000↑0"));
        CHECKS.faultAtMark(dated("1 Jan 1970 00:00 +00↑:00"));
        CHECKS.faultAtMark(dated("1 Jan 1970 00:00 +↑-0000"));
        CHECKS.faultAtMark(dated("1 Jan 1970 00:00 ↑,0000"));
        CHECKS.faultAtMark(dated("1 Jan 1970 00:00 ↑.0000"));
    }

    private static void zoneHours() {
        CHECKS.asked("the ZONE's hours at its first, minutes at its third one");
        // Hours that may not be are a fault whatever follows them, also the end.
        for (String sign : new String[] {"+", "-"}) {
            for (String hours : new String[] {"24", "30", "99"}) {
                for (String rest : new String[] {"", "x", "x0", "0", "0x", "00", "59", "60", "99", " 00", "(x)00", "\r\n 00",
                        ":00", "000"}) {
                    CHECKS.faultAtMark(dated("1 Jan 1970 00:00 " + sign + "↑" + hours + rest));
                }
            }
            // One digit alone is no number yet, and hours that may be leave the fault to what follows.
            CHECKS.faultAtMark(dated("1 Jan 1970 00:00 " + sign + "9↑"));
            CHECKS.faultAtMark(dated("1 Jan 1970 00:00 " + sign + "9↑x00"));
            CHECKS.faultAtMark(dated("1 Jan 1970 00:00 " + sign + "23↑"));
            CHECKS.faultAtMark(dated("1 Jan 1970 00:00 " + sign + "23↑x0"));
            CHECKS.faultAtMark(dated("1 Jan 1970 00:00 " + sign + "236↑x"));
            CHECKS.faultAtMark(dated("1 Jan 1970 00:00 " + sign + "23↑600"));
            CHECKS.faultAtMark(dated("1 Jan 1970 00:00 " + sign + "23↑60x"));
        }
    }

    private static void noSpaceWithin() {
        CHECKS.asked("SPACE may stand between these, but not within digits, nor behind + or -.");
        for (String space : new String[] {" ", "\t", "(x)"}) {
            CHECKS.faultAtMark(dated("1" + space + "↑2 Jan 1970 00:00 +0000"));
            CHECKS.faultAtMark(dated("1 Jan 1↑" + space + "970 00:00 +0000"));
            CHECKS.faultAtMark(dated("1 Jan 197↑" + space + "0 00:00 +0000"));
            CHECKS.faultAtMark(dated("1 Jan 1970 0↑" + space + "0:00 +0000"));
            CHECKS.faultAtMark(dated("1 Jan 1970 00:0↑" + space + "0 +0000"));
            CHECKS.faultAtMark(dated("1 Jan 1970 00:00:0↑" + space + "0 +0000"));
            CHECKS.faultAtMark(dated("1 Jan 1970 00:00 +↑" + space + "0000"));
            CHECKS.faultAtMark(dated("1 Jan 1970 00:00 -↑" + space + "0000"));
            CHECKS.faultAtMark(dated("1 Jan 1970 00:00 +0↑" + space + "000"));
            CHECKS.faultAtMark(dated("1 Jan 1970 00:00 +00↑" + space + "00"));
            CHECKS.faultAtMark(dated("1 Jan 1970 00:00 +000↑" + space + "0"));
            CHECKS.stands(dated(space + "Thu" + space + "," + space + "1" + space + "Jan" + space + "1970" + space + "00"
                    + space + ":" + space + "00" + space + ":" + space + "00" + space + "+0000" + space), 1);
        }
        CHECKS.faultAtMark(dated("1 Jan 197\r\n↑ 0 00:00 +0000"));
        CHECKS.faultAtMark(dated("1 Jan 1970 00:00 +\r\n↑ 0000"));
    }

    private static void dayWhenYearIsRead() {
        CHECKS.asked("the day, when the year is read");
        CHECKS.faultAtMark(dated("99 ↑Foo 1970 00:00 +0000"));
        CHECKS.faultAtMark(dated("0↑"));
        CHECKS.faultAtMark(dated("0 Jan↑"));
        CHECKS.faultAtMark(dated("99 Jan 19↑x0 00:00 +0000"));
        CHECKS.faultAtMark(dated("99 Jan 197↑"));
        CHECKS.faultAtMark(dated("99 Jan ↑1599 00:00 +0000"));
        CHECKS.faultAtMark(dated("↑99 Jan 1970"));
        CHECKS.faultAtMark(dated("↑0 Jan 1970x"));
        CHECKS.faultAtMark(dated("↑31 Feb 2000 1:00 +0000"));
        CHECKS.faultAtMark(dated("↑99 Jan 1970 99:00 +0000"));
        CHECKS.faultAtMark(dated("Fri, ↑32 Jan 1970 (x"));
    }

    private static void wordsOfAllLetters() {
        CHECKS.asked("(A word is all letters that follow one another.)");
        for (char c : Mail.BYTES) {
            boolean letter = c >= 'a' && c <= 'z' || c >= 'A' && c <= 'Z';
            boolean space = c == ' ' || c == '\t' || c == '(';
            if (letter) {
                CHECKS.faultAtMark(dated("1 ↑Jan" + c + "1970 00:00 +0000"));
                CHECKS.faultAtMark(dated("↑Thu" + c + ",1 Jan 1970 00:00 +0000"));
            } else if (!space && c != ',') {
                CHECKS.faultAtMark(dated("Thu↑" + c + ",1 Jan 1970 00:00 +0000"));
            }
            if (!letter && !space && !(c >= '0' && c <= '9')) {
                CHECKS.faultAtMark(dated("1 Jan↑" + c + "1970 00:00 +0000"));
                CHECKS.faultAtMark(dated("1↑" + c + "Jan 1970 00:00 +0000"));
                CHECKS.faultAtMark(dated("1 Jan 197↑" + c + " 00:00 +0000"));
                CHECKS.faultAtMark(dated("↑" + c + "1 Jan 1970 00:00 +0000"));
            }
        }
    }

    private static void answers() {
        CHECKS.asked("0 without a message, or a date. IndexOutOfBoundsException: another what.");
        MessageTree none = CHECKS.stands("a: b\r\n\r\n", 1);
        CHECKS.same("no date", none.date(0), 0);
        CHECKS.same("no zone", none.date(1), 0);
        CHECKS.same("no message's date", new MessageTree().date(0), 0);
        CHECKS.same("no message's zone", new MessageTree().date(1), 0);
        for (MessageTree tree : new MessageTree[] {none, new MessageTree(), CHECKS.stands(dated("1 Jan 1970 00:00 +0000"), 1)}) {
            CHECKS.outside("date(2)", () -> tree.date(2));
            CHECKS.outside("date(-1)", () -> tree.date(-1));
            for (int n : Mail.NO_PLACES) {
                CHECKS.outside("date(" + n + ")", () -> tree.date(n));
            }
        }
    }
}
