theorem aa_look : RX0 = RX0 := rfl
