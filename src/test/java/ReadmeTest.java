/** The first run that README.md shows, call by call, with the answers that it tells. */
final class ReadmeTest {
    public static void main(String[] args) {
        Checks t = new Checks();
        PurseHouse house = new PurseHouse(2);
        int there = house.link(0, 1, true);
        int back = house.link(1, 0, false);
        house.mint(0, 0, 100);
        house.bag(there, 0, 30);
        int n = house.snap(1);
        t.due("an empty bag goes back", house.thing(back, 0, 0), 2);
        house.deliver(there, 0);
        t.due("kiosk 1 takes the 30", house.stock(1, 0), 30);
        house.deliver(back, 0);
        t.due("kiosk 0 records", house.recorded(n, 0), true);
        t.due("and sends a marker", house.thing(there, 0, 0), 3);
        t.due("finished with the marker on the way", house.finished(n), false);
        house.deliver(there, 0);
        t.due("finished", house.finished(n), true);
        t.due("piece of kiosk 0", house.piece(n, 0, 0, 0), 70);
        t.due("piece of kiosk 1", house.piece(n, 1, 0, 0), 0);
        t.due("road", house.road(n, there, 0), 30);
        t.due("total", house.total(n, 0), 100);
        t.end();
    }
}
