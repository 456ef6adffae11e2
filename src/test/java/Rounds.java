/** Moorings and acts, told as steps of a script, of which the last one goes round for ever. */
final class Rounds {
    private static final String BY_WIND = "sf3;rk5x-4y3a-3b-3p-42t76;rk5x3y4a4b-3p-40t23;rk6x3a-1b-4p-48t6;rk3x1y2a-2b-2p-13t42;"
        + "rk3y1a0b1p16t22;rk7x-3y3a-4b3p-25t66";
    private static final String BY_WIND_ROUND = "sf7;rk9x1y-3a-2b1p-3;rk5x1a-2b-2;rk4x-1y4a-3b-4p43;rk3x-3y4a-2b-4p35;"
        + "rk6x-4y-4b-2p-32;rk7x-1y-1b1p46";
    private static final String BY_WINCH = "sf3;ry2a-2b2p1;rk5y-2a-4b-4p-5;rk8x-2y-4a3b-4p50;rk6x-2y-4b3p-34;rk8x4a4b-3p8";
    private static final String BY_CAST = "sf3;rk8x4y-3a3p-48t27;rk6x1y-4a-4b3p-37t14;rk7x-3y-2a0b4p-40t87;rk9x-2y2a-4b-3p20t73;"
        + "rk2x-3y4a-3b4p-18t83;rk2x3y-1a4b-4p23t53";
    private static final String BY_RENEW = "sf7;rk3x3y-1a-3b-2p-30t98;rx-3y-3a-1p12t26;rk6x-4y1a4b1p31t88;rk7x4y1a0b2p-35t47;"
        + "rk9x-3y2a-1t11;rk9x-4y-2a4p17t26;rx1y2a3b1p31t43";
    private static final String BY_RENEW_OF_CAST = "sf7;rk9x-1y3a4b-1p-35;rk8x3y-4a-4b3p-47;rk8x-3y-1a-3p-23;rk3y-4a2b-1p24;"
        + "rk6x2y-1a-2b-1p-2;rk7x-3y-3a-2b2p28";
    static final String[][] ACTS = {{BY_WIND, "w4,1,-5"}, {BY_WIND_ROUND, "w2,6,-17"}, {BY_WINCH, "h3:-7"}, {BY_CAST, "c2"},
        {BY_RENEW, "n4"}, {BY_RENEW_OF_CAST, "h1:-7", "c5", "n5"}};
    static final String[][] BEHIND_A_BREAK = {
        {"sf3;rk3x-4y-1a2b4p-42t92;rk8x3y4a3b-1p-43t4;rk8x4y-3a-4b3p12t63;rk8y3a-3b-3p18t1;rk7x3y1a-3b-3p-46t9;"
            + "rk4x-1y-3b-1p12t36;rk3x-2y4a-2b4p-4t16", "h2:-5"},
        {"sf7;rk2y-2a4b-3p-10t83;rk2x4y1a2b-4p-17t13;rk8x3y-2b3p-6t32;rk2x4y1a2b1p9t8;rk3x4y-1a-2b-4p42t79;"
            + "rk8x4y4a-1p-14t49;rk6x-3y-2a3b-2p-5t90", "h0:5", "h2:-4"}};
    static final String[] TEXTS = {
        "sf7;rk3x-1y-4p-2;rk9x1y-1a-1p19;rk7x-4y-2a-4b-2p28;rk5y-1a-3b3p-25;rk7y1a-3b-4p-47;rk8x-4y3a2b1p7",
        "sf7;rk9x-2y-4a4b-2p-27;rk2x-4y-1a-2b4p-41;rk6x4a4b-4p17;ry3a-3b-1p-29;rk4x-4y-4a-1b1p31;rk2x1y4a-1b-1p-4"};

    private Rounds() {
    }

    /** Does what a step of a script tells, by hand. */
    static int act(MooringDesk desk, String step) {
        String[] parts = step.substring(1).split("[,:]");
        int one = Integer.parseInt(parts[0]);
        switch (step.charAt(0)) {
            case 'w':
                return desk.wind(one, Integer.parseInt(parts[1]), Integer.parseInt(parts[2]));
            case 'h':
                return desk.winch(one, Integer.parseInt(parts[1]));
            case 'c':
                return desk.cast(one);
            default:
                return desk.renew(one);
        }
    }

    /** The mooring behind all acts but the last. */
    static MooringDesk ahead(String[] round) {
        MooringDesk desk = Check.moored(round[0]);
        for (int i = 1; i < round.length - 1; i++) {
            Check.due(round[i] + " can be", act(desk, round[i]) >= 0, true);
        }
        return desk;
    }

    static MooringDesk refused(String[] round) {
        MooringDesk desk = ahead(round);
        Check.due(round[0] + " by " + round[round.length - 1], act(desk, round[round.length - 1]), -1);
        return desk;
    }
}
