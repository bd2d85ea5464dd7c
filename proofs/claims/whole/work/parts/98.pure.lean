theorem law_true {L : Nat} {xs : Nat → Int32} (hL : L ≤ 2560) : ∃ G', itr FU (FL L xs) (0, GL0) = some G' := sorry
