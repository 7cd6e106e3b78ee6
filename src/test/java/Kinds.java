/** The numbers of the kinds. */
interface Kinds {
    int PASS = 0;
    int FEINT = 1;
    int LIFT = 2;
    int DROP = 3;
    int WHIRL = 4;
    int SLOW = 5;
    int QUICK = 6;
}
