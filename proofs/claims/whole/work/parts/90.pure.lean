theorem pure_law (xs : Nat → Int32) (L : Nat) (hL : L ≤ 384) : ∃ n, lo_Law xs L n nj_s0 nj_m0 0 = some () := ⟨65, law_all xs L hL 64 0 nj_s0 nj_m0 (by omega) (by omega) rel0⟩
