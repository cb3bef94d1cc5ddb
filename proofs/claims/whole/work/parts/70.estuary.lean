theorem both_estuary {h : AH} (i : Inv h) : Both (fX5_estuary h) fX6_estuary := sorry
