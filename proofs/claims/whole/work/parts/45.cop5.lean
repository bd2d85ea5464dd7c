section
variable {G G' : Mem} {S W Tx v : Nat → Nat} {nx h n b : Nat}
/-! settings, contracts, the debt, the slots -/
theorem canBeSet_c {x1 x2 : Int32} : fX8_canBeSet x1 x2 G = some (if (x1 = nI 0 ∨ x1 = nI 1) ∧ inW 0 51 x2 ∨ x1 = nI 2 ∧ inW 1 100 x2 then nI 1 else nI 0, G) := by
  unfold fX8_canBeSet
  by_cases h0 : x1 = nI 0
  · subst h0
    rw [if_pos rfl, inW_c (by omega) (by omega), bd_some', zk_N]
    by_cases hw : inW 0 51 x2
    · rw [if_pos hw, if_pos (Or.inl ⟨Or.inl rfl, hw⟩)]
    · rw [if_neg hw, if_neg (fun z => z.elim (fun z => hw z.2) (fun z => absurd z.1 (by decide)))]
  · rw [if_neg h0]
    by_cases h1 : x1 = nI 1
    · subst h1
      rw [if_pos rfl, inW_c (by omega) (by omega), bd_some', zk_N]
      by_cases hw : inW 0 51 x2
      · rw [if_pos hw, if_pos (Or.inl ⟨Or.inr rfl, hw⟩)]
      · rw [if_neg hw, if_neg (fun z => z.elim (fun z => hw z.2) (fun z => absurd z.1 (by decide)))]
    · rw [if_neg h1]
      by_cases h2 : x1 = nI 2
      · subst h2
        rw [if_pos rfl, inW_c (by omega) (by omega), bd_some', zk_N]
        by_cases hw : inW 1 100 x2
        · rw [if_pos hw, if_pos (Or.inr ⟨rfl, hw⟩)]
        · rw [if_neg hw, if_neg (fun z => z.elim (fun z => z.1.elim h0 h1) (fun z => hw z.2))]
      · rw [if_neg h2, if_neg (fun z => z.elim (fun z => z.1.elim h0 h1) (fun z => h2 z.1))]
abbrev okSet (x1 x2 : Int32) : Prop := (x1 = nI 0 ∨ x1 = nI 1) ∧ inW 0 51 x2 ∨ x1 = nI 2 ∧ inW 1 100 x2
def oSet (x1 x2 : Int32) (S : Nat → Nat) : Oc := if okSet x1 x2 then .inr (S (9 + tn x1), setV S (tn x1) (tn x2)) else .inl (-1)
theorem okSet_k {x1 x2 : Int32} (h : okSet x1 x2) : ∃ k x, x1 = nI k ∧ x2 = nI x ∧ k < 3 ∧ x ≤ 100 ∧ (k < 2 → x ≤ 51) ∧ (k = 2 → 1 ≤ x) := by
  rcases h with ⟨h1, h2⟩ | ⟨h1, h2⟩
  · have q := tn_eq (x := x2) (by have := h2.1; omega)
    have e := tn_int (x := x2) (by have := h2.1; omega)
    have := h2.2
    rcases h1 with h1 | h1
    · exact ⟨0, tn x2, h1, q, by omega, by omega, fun _ => by omega, fun _ => by omega⟩
    · exact ⟨1, tn x2, h1, q, by omega, by omega, fun _ => by omega, fun _ => by omega⟩
  · have q := tn_eq (x := x2) (by have := h2.1; omega)
    have e := tn_int (x := x2) (by have := h2.1; omega)
    have := h2.1
    have := h2.2
    exact ⟨2, tn x2, h1, q, by omega, by omega, fun _ => by omega, fun _ => by omega⟩
theorem tn_nI {k : Nat} (h : k < 2 ^ 31) : tn (nI k) = k := nI_clamp h
theorem setV_hi {k x j : Nat} (h : 222 ≤ j) : setV v k x j = v j := by
  unfold setV
  split
  · exact vs_ne (by omega)
  · split
    · exact vs_ne (by omega)
    · rw [vs_ne (by omega), vs_ne (by omega)]
theorem c_set (x1 x2 : Int32) : ActC b (fX8_set 0 x1 x2) (oSet x1 x2) := by
  intro nx S W Tx h n G hC hI
  have hL : LR 2 S G := hC.1.1
  have hLI := hI.1.1
  unfold fX8_set oSet
  rw [canBeSet_c, bd_some']
  by_cases hc : okSet x1 x2
  · rw [if_pos hc, if_neg (by decide), if_pos hc]
    obtain ⟨k, x, q1, q2, hk, hx, -, -⟩ := okSet_k hc
    subst q1 q2
    rw [tn_nI (by omega), tn_nI (by omega)]
    obtain ⟨G1, a1, a2, a3, a4⟩ := hC.keep hI
    obtain ⟨G2, b1, b2, b3⟩ := changeSetting_c (a2.1.1) hLI hk hx
    obtain ⟨c1, c2⟩ := a2.land b2 b3 (fun j hj => setV_hi hj)
    rw [show (0 : Nat) + 103 = 103 from rfl, show (0 : Nat) + 1 = 1 from rfl, show (0 : Nat) + 2 = 2 from rfl, a1, bv_some', settingOf_c (a2.1.1) hk, bd_some', b1, bv_some']
    exact ⟨G2, _, rfl, c1, a3.tr c2⟩
  · rw [if_neg hc, if_pos rfl, if_neg hc]
    exact ⟨G, nx, rfl, hC, FrX.rf⟩
def oContract (x1 x2 x3 x4 : Int32) (S : Nat → Nat) : Oc := if inF x1 ∧ inW 0 20 x2 ∧ inW 0 100 x3 ∧ inW 0 9 x4 then (if S (18 + 4 * tn x1) = 0 ∧ cn S (tn x1) 0 ≠ 0 then .inr (cn S (tn x1) 0, makeV S (tn x1) (tn x2) (S 0 + tn x3) (tn x4)) else .inl (-2)) else .inl (-1)
theorem makeV_hi {f x y z j : Nat} (hf : f < 6) (h : 222 ≤ j) : makeV v f x y z j = v j := by
  unfold makeV
  rw [vs_ne (by omega), vs_ne (by omega), vs_ne (by omega), vs_ne (by omega)]
theorem nat_in {x : Int32} {hi : Nat} (h : inW 0 hi x) : x = nI (tn x) ∧ tn x ≤ hi := by
  have h1 := h.1
  have h2 := h.2
  have := tn_int (x := x) (by omega)
  exact ⟨tn_eq (by omega), by omega⟩
theorem c_contract (x1 x2 x3 x4 : Int32) : ActC b (fX8_contract 0 x1 x2 x3 x4) (oContract x1 x2 x3 x4) := by
  intro nx S W Tx h n G hC hI
  have hL : LR 2 S G := hC.1.1
  have hLI := hI.1.1
  unfold fX8_contract oContract
  rw [isField_c, bd_some']
  by_cases h1 : inF x1
  · rw [if_pos h1, if_neg (by decide), inW_c (by omega) (by omega), bd_some']
    by_cases h2 : inW 0 20 x2
    · rw [if_pos h2, if_neg (by decide), inW_c (by omega) (by omega), bd_some']
      by_cases h3 : inW 0 100 x3
      · rw [if_pos h3, if_neg (by decide), inW_c (by omega) (by omega), bd_some']
        by_cases h4 : inW 0 9 x4
        · rw [if_pos h4, if_neg (by decide), if_pos ⟨h1, h2, h3, h4⟩]
          obtain ⟨q1, l1⟩ := nat_in (hi := 5) (show inW 0 5 x1 from h1)
          obtain ⟨q2, l2⟩ := nat_in h2
          obtain ⟨q3, l3⟩ := nat_in h3
          obtain ⟨q4, l4⟩ := nat_in h4
          generalize tn x1 = f at *
          generalize tn x2 = x at *
          generalize tn x3 = y at *
          generalize tn x4 = z at *
          subst q1 q2 q3 q4
          have hl := hLI.len (f := f) (by omega)
          have hm := (hLI.2 f (by omega)).2.2.1
          have hcn : cn S f 0 ≤ 30 := Nat.le_trans (cnt_le _ _ _) hl.2
          rw [nI_ix (by omega) (by omega), nI_clamp (by omega), show (0 : Nat) + 2 = 2 from rfl, numberOf_eq (k := 0) (hL.2.1 f (by omega)) hl.2 (by omega), bd_some', nI_ix (by omega) (by omega), (hL.2.2 f (by omega)).1]
          by_cases h5 : S (18 + 4 * f) = 0
          · rw [if_pos (by rw [h5])]
            by_cases h6 : cn S f 0 = 0
            · rw [if_pos (by rw [show cnt (fun c => S (42 + 30 * f + c)) 0 (S (12 + f)) = 0 from h6]), if_neg (fun z => z.2 h6)]
              exact ⟨G, nx, rfl, hC, FrX.rf⟩
            · rw [if_neg (by rw [nI_eq (by show cn S f 0 < _; omega) (by omega)]; exact h6), if_pos ⟨h5, h6⟩]
              obtain ⟨G1, a1, a2, a3, a4⟩ := hC.keep hI
              rw [show (0 : Nat) + 103 = 103 from rfl, show (0 : Nat) + 1 = 1 from rfl, a1, bv_some', nI_ix (by omega) (by omega), show G1 2 2 = nI (S 0) from a2.1.1.1 2 (by omega) (by omega), nI_add]
              obtain ⟨G2, b1, b2, b3⟩ := make_c (f := f) (a := x) (b := S 0 + y) (c := z) (a2.1.1) (by omega) (fun g hg => (hLI.len hg).2)
              obtain ⟨c1, c2⟩ := a2.land b2 b3 (fun j hj => makeV_hi (by omega) hj)
              rw [b1, bv_some']
              exact ⟨G2, _, rfl, c1, a3.tr c2⟩
          · rw [if_neg (by rw [nI_eq (by omega) (by omega)]; exact h5), if_neg (fun z => h5 z.1)]
            exact ⟨G, nx, rfl, hC, FrX.rf⟩
        · rw [if_neg h4, if_pos rfl, if_neg (fun z => h4 z.2.2.2)]
          exact ⟨G, nx, rfl, hC, FrX.rf⟩
      · rw [if_neg h3, if_pos rfl, if_neg (fun z => h3 z.2.2.1)]
        exact ⟨G, nx, rfl, hC, FrX.rf⟩
    · rw [if_neg h2, if_pos rfl, if_neg (fun z => h2 z.2.1)]
      exact ⟨G, nx, rfl, hC, FrX.rf⟩
  · rw [if_neg h1, if_pos rfl, if_neg (fun z => h1 z.1)]
    exact ⟨G, nx, rfl, hC, FrX.rf⟩
def oGive (x1 : Int32) (S : Nat → Nat) : Oc := if inF x1 then (if S (18 + 4 * tn x1) = 0 then .inl (-2) else .inr (5 * S (21 + 4 * tn x1), noC (spendV S (5 * S (21 + 4 * tn x1))) (tn x1))) else .inl (-1)
theorem spendV_ne {x j : Nat} (h3 : j ≠ 3) (h4 : j ≠ 4) : spendV v x j = v j := by
  unfold spendV
  rw [vs_ne h4, vs_ne h3]
theorem c_give (hb : b < 89000000) (x1 : Int32) : ActC b (fX8_giveBack 0 x1) (oGive x1) := by
  intro nx S W Tx h n G hC hI
  have hL : LR 2 S G := hC.1.1
  have hLI := hI.1.1
  unfold fX8_giveBack oGive
  rw [isField_c, bd_some']
  by_cases h1 : inF x1
  · rw [if_pos h1, if_neg (by decide), if_pos h1]
    obtain ⟨q1, l1⟩ := nat_in (hi := 5) (show inW 0 5 x1 from h1)
    generalize tn x1 = f at *
    subst q1
    have hm := hLI.2 f (by omega)
    rw [nI_ix (by omega) (by omega), nI_clamp (by omega), show (0 : Nat) + 2 = 2 from rfl, (hL.2.2 f (by omega)).1]
    by_cases h5 : S (18 + 4 * f) = 0
    · rw [if_pos (by rw [h5]), if_pos h5]
      exact ⟨G, nx, rfl, hC, FrX.rf⟩
    · rw [if_neg (by rw [nI_eq (by omega) (by omega)]; exact h5), if_neg h5]
      obtain ⟨G1, a1, a2, a3, a4⟩ := hC.keep hI
      obtain ⟨G2, b1, b2, b3⟩ := spend_c (x := 5 * S (21 + 4 * f)) (a2.1.1) hLI (by omega) (by omega)
      have b4 := LR_noC b2 (f := f) (by omega) (fun g hg => by rw [spendV_ne (by omega) (by omega)]; exact (hLI.len hg).2)
      obtain ⟨c1, c2⟩ := a2.land b4 (b3.tr (FrL.m (by omega) (by omega))) (fun j hj => by rw [noC_ne (by omega), spendV_ne (by omega) (by omega)])
      rw [show (0 : Nat) + 103 = 103 from rfl, show (0 : Nat) + 1 = 1 from rfl, a1, bv_some', ((a2.1.1.2.2 f (by omega)).2 (by omega)).2.2, nI_mulN, b1, bv_some', lt_def]
      exact ⟨_, _, rfl, c1, a3.tr c2⟩
  · rw [if_neg h1, if_pos rfl, if_neg h1]
    exact ⟨G, nx, rfl, hC, FrX.rf⟩
def payN (S : Nat → Nat) : Nat := if S 4 < S 3 then S 4 else S 3
def oPay (S : Nat → Nat) : Oc := if payN S = 0 then .inl (-2) else .inr (payN S, vs (vs S 3 (S 3 - payN S)) 4 (S 4 - payN S))
theorem c_pay (hb : b < 89000000) : ActC b (fX8_payDebt 0) oPay := by
  intro nx S W Tx h n G hC hI
  have hL : LR 2 S G := hC.1.1
  have hN := hI.1.1.1
  unfold fX8_payDebt oPay
  have e : ∀ G1, LR 2 S G1 → (if G1 2 9 < G1 2 8 then G1 2 9 else G1 2 8) = nI (payN S) := by
    intro G1 h1
    rw [show G1 2 9 = nI (S 4) from h1.1 9 (by omega) (by omega), show G1 2 8 = nI (S 3) from h1.1 8 (by omega) (by omega)]
    unfold payN
    by_cases hlt : S 4 < S 3
    · rw [if_pos (by rw [nI_ltI (by omega) (by omega)]; exact hlt), if_pos hlt]
    · rw [if_neg (by rw [nI_ltI (by omega) (by omega)]; exact hlt), if_neg hlt]
  have hp : payN S ≤ S 3 ∧ payN S ≤ S 4 := by unfold payN; split <;> omega
  rw [show (0 : Nat) + 2 = 2 from rfl, e G hL]
  by_cases h0 : payN S = 0
  · rw [if_pos (by rw [h0]), if_pos h0]
    exact ⟨G, nx, rfl, hC, FrX.rf⟩
  · rw [if_neg (by rw [nI_eq (by omega) (by omega)]; exact h0), if_neg h0]
    obtain ⟨G1, a1, a2, a3, a4⟩ := hC.keep hI
    have hL1 := a2.1.1
    have e8 : G1 2 8 = nI (S 3) := hL1.1 8 (by omega) (by omega)
    have b2 := LR_n (x := S 3 - payN S) hL1 (j := 8) (by omega) (by omega)
    have e9 : (mset G1 2 8 (nI (S 3 - payN S))) 2 9 = nI (S 4) := (b2.1 9 (by omega) (by omega)).trans (by show nI (vs S 3 _ 4) = _; rw [vs_ne (by omega)])
    have b3 := LR_n (x := S 4 - payN S) b2 (j := 9) (by omega) (by omega)
    obtain ⟨c1, c2⟩ := a2.land b3 ((FrL.m (by omega) (by omega)).tr (FrL.m (by omega) (by omega))) (fun j hj => by show vs (vs S 3 _) 4 _ j = _; rw [vs_ne (by omega), vs_ne (by omega)])
    rw [show (0 : Nat) + 103 = 103 from rfl, show (0 : Nat) + 1 = 1 from rfl, a1, bv_some', lt_def, lt_def, e8, pk_sub (by omega), e9, pk_sub (by omega)]
    exact ⟨_, _, rfl, c1, a3.tr c2⟩
end
