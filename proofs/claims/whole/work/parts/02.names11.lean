abbrev vwCl : List vw_C := [(RX0, TX0, 7), (RX1, TX1, 6), (RX2, TX2, 3), (RX3, TX3, 6), (RX4, TX4, 2), (RX5, TX5, 7), (RX6, TX6, 2), (RX7, TX7, 8), (RX8, TX8, 34)]
