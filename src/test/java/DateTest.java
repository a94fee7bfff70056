import java.time.LocalDate;
import java.time.ZoneOffset;

/** Promise 13: dates. */
public final class DateTest {
    private static final Checks CHECKS = new Checks("DateTest");

    public static void main(String[] args) {
        dates();
        calendar();
        wrongDates();
        wrongNumbers();
        order();
        CHECKS.outside("date(2)", () -> CHECKS.stands("\r\n", 1).date(2));
        CHECKS.outside("date(-1)", () -> CHECKS.stands("\r\n", 1).date(-1));
        CHECKS.finish();
    }

    private static String dated(String text) {
        return "date:" + text + "\r\n\r\n";
    }

    private static void isDate(String text, long seconds, int zone) {
        MessageTree tree = CHECKS.stands(dated(text), 1);
        CHECKS.same("seconds of " + text, tree.date(0), seconds);
        CHECKS.same("zone of " + text, tree.date(1), zone);
    }

    private static void dates() {
        isDate("1 Jan 1970 00:00 +0000", 0, 0);
        isDate("Thu, 1 Jan 1970 00:00:59 -0000", 59, 0);
        isDate("thu,01JAN1970 00:00:10+0130", 10 - 5400, 90);
        isDate("1 jAn 1970 00:00 -2359", 86340, -1439);
        isDate("1Jan197023:59:58+2359", 86398 - 86340, 1439);
        isDate(" (a) Fri (b) , (c) 21 (d) Nov (e) 1997 (f) 09 (g) : (h) 55 (i) : (j) 06 (k) -0600 (l)", 880127706, -360);
        isDate("\r\n Fri,\r\n 21\r\n Nov\r\n 1997\r\n 09:55:06\r\n -0600", 880127706, -360);
        isDate("1 Jan 1600 00:00 +0000", -11676096000L, 0);
        isDate("Fri, 31 Dec 9999 23:59:59 +0000", 253402300799L, 0);
        MessageTree none = CHECKS.stands("a: b\r\n\r\n", 1);
        CHECKS.same("no date", none.date(0) + none.date(1), 0);
    }

    private static void calendar() {
        String[] days = {"mon", "tue", "wed", "thu", "fri", "sat", "sun"};
        String[] months = {"jan", "feb", "mar", "apr", "may", "jun", "jul", "aug", "sep", "oct", "nov", "dec"};
        for (int year = 1600; year < 10000; year += year < 2110 ? 5 : 97) {
            LocalDate day = LocalDate.of(year, 1, 1);
            for (int month = 1; month <= 12; month++) {
                for (LocalDate d : new LocalDate[] {day.withMonth(month),
                        day.withMonth(month).withDayOfMonth(day.withMonth(month).lengthOfMonth())}) {
                    String text = days[d.getDayOfWeek().getValue() - 1] + ", " + d.getDayOfMonth() + " "
                            + months[month - 1] + " " + year + " 00:00 +0000";
                    isDate(text, d.atStartOfDay().toEpochSecond(ZoneOffset.UTC), 0);
                }
                int tooMany = day.withMonth(month).lengthOfMonth() + 1;
                CHECKS.faultAtMark(dated(" ↑" + tooMany + " " + months[month - 1] + " " + year + " 00:00 +0000"));
            }
        }
    }

    private static void wrongDates() {
        CHECKS.faultAtMark(dated("↑"));
        CHECKS.faultAtMark(dated("↑,"));
        CHECKS.faultAtMark(dated("↑-1 Jan 1970 00:00 +0000"));
        CHECKS.faultAtMark(dated("↑Monday, 1 Jan 1970 00:00 +0000"));
        CHECKS.faultAtMark(dated("↑Jan 1 1970 00:00 +0000"));
        CHECKS.faultAtMark(dated("Thu ↑1 Jan 1970 00:00 +0000"));
        CHECKS.faultAtMark(dated("Thu↑"));
        CHECKS.faultAtMark(dated("Thu,↑"));
        CHECKS.faultAtMark(dated("Thu,↑Thu"));
        CHECKS.faultAtMark(dated("12↑3 Jan 1970 00:00 +0000"));
        CHECKS.faultAtMark(dated("1 ↑2 Jan 1970 00:00 +0000"));
        CHECKS.faultAtMark(dated("1 ↑January 1970 00:00 +0000"));
        CHECKS.faultAtMark(dated("1 ↑Janz 1970 00:00 +0000"));
        CHECKS.faultAtMark(dated("1 ↑JanZ 1970 00:00 +0000"));
        CHECKS.faultAtMark(dated("↑zMon, 1 Jan 1970 00:00 +0000"));
        CHECKS.faultAtMark(dated("1 ↑Ja 1970 00:00 +0000"));
        CHECKS.faultAtMark(dated("1 ↑Thu 1970 00:00 +0000"));
        CHECKS.faultAtMark(dated("1 ↑J(x)an 1970 00:00 +0000"));
        CHECKS.faultAtMark(dated("1↑"));
        CHECKS.faultAtMark(dated("1 Jan↑. 1970 00:00 +0000"));
        CHECKS.faultAtMark(dated("1 Jan 197↑ 00:00 +0000"));
        CHECKS.faultAtMark(dated("1 Jan 197\r\n↑ 0 00:00 +0000"));
        CHECKS.faultAtMark(dated("1 Jan 19700↑ 0:00 +0000"));
        CHECKS.faultAtMark(dated("1 Jan 1970 1↑:00 +0000"));
        CHECKS.faultAtMark(dated("1 Jan 1970 00↑00 +0000"));
        CHECKS.faultAtMark(dated("1 Jan 1970 00:0↑ +0000"));
        CHECKS.faultAtMark(dated("1 Jan 1970 00:00: ↑+0000"));
        CHECKS.faultAtMark(dated("1 Jan 1970 00:00:00↑:00 +0000"));
        CHECKS.faultAtMark(dated("1 Jan 1970 00:00 ↑GMT"));
        CHECKS.faultAtMark(dated("1 Jan 1970 00:00 ↑0000"));
        CHECKS.faultAtMark(dated("1 Jan 1970 00:00↑"));
        CHECKS.faultAtMark(dated("1 Jan 1970 00:00 +↑ 0000"));
        CHECKS.faultAtMark(dated("1 Jan 1970 00:00 +↑(x)0000"));
        CHECKS.faultAtMark(dated("1 Jan 1970 00:00 +00↑:00"));
        CHECKS.faultAtMark(dated("1 Jan 1970 00:00 +000↑"));
        CHECKS.faultAtMark(dated("1 Jan 1970 00:00 +0000↑0"));
        CHECKS.faultAtMark(dated("1 Jan 1970 00:00 +0000 ↑x"));
    }

    private static void wrongNumbers() {
        CHECKS.faultAtMark(dated("↑0 Jan 1970 00:00 +0000"));
        CHECKS.faultAtMark(dated(" ↑00 Jan 1970 00:00 +0000"));
        CHECKS.faultAtMark(dated("↑29 Feb 1900 00:00 +0000"));
        CHECKS.faultAtMark(dated("1 Jan ↑1599 00:00 +0000"));
        CHECKS.faultAtMark(dated("1 Jan 1970 ↑24:00 +0000"));
        CHECKS.faultAtMark(dated("1 Jan 1970 23:↑60 +0000"));
        CHECKS.faultAtMark(dated("1 Jan 1970 23:59:↑60 +0000"));
        CHECKS.faultAtMark(dated("1 Jan 1970 23:59:59 +↑2400"));
        CHECKS.faultAtMark(dated("1 Jan 1970 23:59:59 -↑9999"));
        CHECKS.faultAtMark(dated("1 Jan 1970 23:59:59 -23↑60"));
        zoneHours();
        CHECKS.faultAtMark(dated("↑Fri, 1 Jan 1970 00:00 +0000"));
        CHECKS.faultAtMark(dated("(x) ↑Fri, 1 Jan 1970 00:00 +0000 (y)"));
    }

    private static void zoneHours() {
        // Hours that may not be are a fault whatever follows them, also the end.
        for (String sign : new String[] {"+", "-"}) {
            for (String hours : new String[] {"24", "30", "99"}) {
                for (String rest : new String[] {"", "x", "x0", "0", "0x", "00", "59", "60", "99", " 00", "(x)00", "\r\n 00",
                        ":00", "000"}) {
                    CHECKS.faultAtMark(dated("1 Jan 1970 00:00 " + sign + "↑" + hours + rest));
                }
            }
            // One digit alone is no number yet, and hours that may be leave the fault to what follows.
            CHECKS.faultAtMark(dated("1 Jan 1970 00:00 " + sign + "↑"));
            CHECKS.faultAtMark(dated("1 Jan 1970 00:00 " + sign + "9↑"));
            CHECKS.faultAtMark(dated("1 Jan 1970 00:00 " + sign + "9↑x00"));
            CHECKS.faultAtMark(dated("1 Jan 1970 00:00 " + sign + "23↑"));
            CHECKS.faultAtMark(dated("1 Jan 1970 00:00 " + sign + "23↑x0"));
            CHECKS.faultAtMark(dated("1 Jan 1970 00:00 " + sign + "236↑x"));
            CHECKS.faultAtMark(dated("1 Jan 1970 00:00 " + sign + "23↑600"));
            CHECKS.faultAtMark(dated("1 Jan 1970 00:00 " + sign + "23↑60x"));
        }
        CHECKS.faultAtMark(dated("Fri, 1 Jan 1970 00:00 +↑24"));
    }

    private static void order() {
        // The day is judged when the year is read, the DAY when all else is right.
        CHECKS.faultAtMark(dated("99 ↑Foo 1970 00:00 +0000"));
        CHECKS.faultAtMark(dated("99 Jan ↑1599 00:00 +0000"));
        CHECKS.faultAtMark(dated("99 Jan 19↑x0 00:00 +0000"));
        CHECKS.faultAtMark(dated("↑99 Jan 1970 99:00 +0000"));
        CHECKS.faultAtMark(dated("Fri, ↑99 Jan 1970 00:00 +0000"));
        CHECKS.faultAtMark(dated("Fri, 1 Jan 1970 ↑24:00 +0000"));
        CHECKS.faultAtMark(dated("Fri, 1 Jan 1970 00:00 +0000 ↑x"));
        CHECKS.faultAtMark(dated("Fri, 1 Jan 1970 00:00 +0000 (x↑"));
    }
}
