section
variable {G G' : Mem} {S W Tx v : Nat → Nat} {nx h n b : Nat}
/-! the slots, undo, the text -/
theorem CRel.state {S' : Nat → Nat} {G2 : Mem} (hC : CRel nx S W Tx h n G) (hS : SR 1 S' G2) (hf : FrS 1 G G2) : CRel nx S' W Tx h n G2 ∧ FrX G G2 := by
  obtain ⟨-, ⟨h3, h4, h5, h6, h7⟩, h8⟩ := hC
  exact ⟨⟨hS, ⟨h3, h4, by rw [hf 103 (by omega)]; exact h5, by rw [hf 103 (by omega)]; exact h6, fun i hi => (h7 i hi).cg (fun a ha hb => hf a (by omega))⟩, h8.cg (hf 615 (by omega)) (hf 616 (by omega))⟩, fun a ha => hf a (by omega)⟩
abbrev inS (x : Int32) : Prop := 0 ≤ x.toInt ∧ x.toInt ≤ 1
def oTake (x1 : Int32) (S : Nat → Nat) : Oc := if inS x1 then .inr (S 0, takeS S (tn x1)) else .inl (-1)
theorem c_take (x1 : Int32) : ActC b (fX8_take 0 x1) (oTake x1) := by
  intro nx S W Tx h n G hC hI
  unfold fX8_take oTake
  rw [isSlot_c, bd_some']
  by_cases h1 : inS x1
  · rw [if_pos h1, if_neg (by decide), if_pos h1]
    obtain ⟨q1, l1⟩ := nat_in (hi := 1) (show inW 0 1 x1 from h1)
    generalize tn x1 = j at *
    subst q1
    obtain ⟨G1, a1, a2, a3, a4⟩ := hC.keep hI
    obtain ⟨G2, b1, b2, b3⟩ := fillSlot_c (j := j) a2.1 hI.1 (by omega)
    obtain ⟨c1, c2⟩ := a2.state b2 b3
    rw [show (0 : Nat) + 103 = 103 from rfl, show (0 : Nat) + 1 = 1 from rfl, show (0 : Nat) + 2 = 2 from rfl, a1, bv_some', b1, bv_some', show G2 2 2 = nI (takeS S j 0) from b2.1.1 2 (by omega) (by omega), takeS_lo (by omega)]
    exact ⟨G2, _, rfl, c1, a3.tr c2⟩
  · rw [if_neg h1, if_pos rfl, if_neg h1]
    exact ⟨G, nx, rfl, hC, FrX.rf⟩
def restS (S : Nat → Nat) (j : Nat) : Nat → Nat := fun k => if k < 222 then S (223 + 223 * j + k) else S k
def oRest (x1 : Int32) (S : Nat → Nat) : Oc := if inS x1 then (if S (222 + 223 * tn x1) = 0 then .inl (-2) else .inr (S (223 + 223 * tn x1), restS S (tn x1))) else .inl (-1)
theorem restS_hi {j k : Nat} (h : 222 ≤ k) : restS S j k = S k := if_neg (by omega)
theorem c_rest (x1 : Int32) : ActC b (fX8_restore 0 x1) (oRest x1) := by
  intro nx S W Tx h n G hC hI
  unfold fX8_restore oRest
  rw [isSlot_c, bd_some']
  by_cases h1 : inS x1
  · rw [if_pos h1, if_neg (by decide), if_pos h1]
    obtain ⟨q1, l1⟩ := nat_in (hi := 1) (show inW 0 1 x1 from h1)
    generalize tn x1 = j at *
    subst q1
    obtain ⟨hm, hz⟩ := hI.1.2 j (by omega)
    rw [nI_ix (by omega) (by omega), nI_clamp (by omega), show (0 : Nat) + 1 + 35 = 1 + 35 from rfl, (hC.1.2 j (by omega)).1]
    by_cases h5 : S (222 + 223 * j) = 0
    · rw [if_pos (by rw [h5]), if_pos h5]
      exact ⟨G, nx, rfl, hC, FrX.rf⟩
    · rw [if_neg (by rw [nI_eq (by omega) (by omega)]; exact h5), if_neg h5]
      obtain ⟨G1, a1, a2, a3, a4⟩ := hC.keep hI
      obtain ⟨G2, b1, b2, b3⟩ := copyLand_c (p := 2) (q := 37 + 33 * j) ((a2.1.2 j (by omega)).2 (by omega)) (hz (by omega)) (by omega)
      have b2' : LR 2 (restS S j) G2 := b2.ext (fun k hk => by unfold restS; rw [if_pos hk]) (fun f hf => ((hz (by omega)).len hf).2)
      obtain ⟨c1, c2⟩ := a2.land b2' b3 (fun k hk => restS_hi hk)
      rw [show (0 : Nat) + 103 = 103 from rfl, show (0 : Nat) + 1 = 1 from rfl, show (0 : Nat) + 2 = 2 from rfl, a1, bv_some', nI_ix (by omega) (by omega), show 1 + 36 + 33 * j = 37 + 33 * j by omega, b1, bv_some', show G2 2 2 = nI (S (223 + 223 * j)) from b2.1 2 (by omega) (by omega)]
      exact ⟨G2, _, rfl, c1, a3.tr c2⟩
  · rw [if_neg h1, if_pos rfl, if_neg h1]
    exact ⟨G, nx, rfl, hC, FrX.rf⟩
theorem c_undo (hC : CRel nx S W Tx h n G) (hI : CInv b S W h) : ∃ (G' : Mem) (nx' : Nat), fX8_undo 0 G = some (if h = 0 then -2 else nI (h - 1), G') ∧ CRel nx' (if h = 0 then S else st W (h - 1)) W Tx (h - 1) n G' ∧ FrX G G' := by
  unfold fX8_undo
  have hH := hC.2.1
  have h5 := hH.2.1
  rw [show (0 : Nat) + 103 = 103 from rfl, show (0 : Nat) + 1 = 1 from rfl, hH.2.2.2.1]
  by_cases h0 : h = 0
  · subst h0
    rw [if_pos rfl, if_pos rfl, if_pos rfl]
    exact ⟨G, nx, rfl, hC, FrX.rf⟩
  · rw [if_neg (by rw [nI_eq (by omega) (by omega)]; exact h0), if_neg h0, if_neg h0]
    obtain ⟨G2, b1, b2, b3, b4⟩ := back_c hH hI.2 (by omega)
    rw [b1, bv_some', b3.2.2.2.1]
    exact ⟨G2, _, rfl, ⟨b2, b3, hC.2.2.cg (b4 615 (by omega)) (b4 616 (by omega))⟩, fun a ha => b4 a (by omega)⟩
/-- the text is another -/
theorem CRel.text {Tx' : Nat → Nat} {n' : Nat} {G2 : Mem} (hC : CRel nx S W Tx h n G) (hT : TXr n' Tx' G2) (hf : ∀ a, (a < 615 ∨ 621 < a) → G2 a = G a) : CRel nx S W Tx' h n' G2 ∧ FrX G G2 := by
  obtain ⟨hS, ⟨h3, h4, h5, h6, h7⟩, h8⟩ := hC
  exact ⟨⟨hS.cg (fun a h1 h2 => hf a (by omega)), ⟨h3, h4, by rw [hf 103 (by omega)]; exact h5, by rw [hf 103 (by omega)]; exact h6, fun i hi => (h7 i hi).cg (fun a ha hb => hf a (by omega))⟩, hT⟩, fun a ha => hf a (by omega)⟩
theorem c_append (x1 : Int32) (hC : CRel nx S W Tx h n G) : ∃ G' : Mem, fX8_append 0 x1 G = some (if inW 1 255 x1 then (if n < 80 then nI (n + 1) else -3) else -1, G') ∧ CRel nx S W (if inW 1 255 x1 ∧ n < 80 then vs Tx n (tn x1) else Tx) h (if inW 1 255 x1 ∧ n < 80 then n + 1 else n) G' ∧ FrX G G' := by
  unfold fX8_append
  obtain ⟨t1, t2, t3⟩ := hC.2.2
  rw [inW_c (by omega) (by omega), bd_some']
  by_cases hw : inW 1 255 x1
  · rw [if_pos hw, if_neg (by decide), if_pos hw, show (0 : Nat) + 615 = 615 from rfl, t2]
    by_cases h80 : n < 80
    · have q3 := tn_eq (x := x1) (by have := hw.1; omega)
      have e3 := tn_int (x := x1) (by have := hw.1; omega)
      have := hw.1
      have := hw.2
      rw [if_pos (by rw [nI_ltI (by omega) (by omega)]; exact h80), if_pos h80, if_pos ⟨hw, h80⟩, if_pos ⟨hw, h80⟩]
      generalize tn x1 = t at *
      subst q3
      unfold fX7_addSign
      have e1 : mset G 616 n (nI t) 615 1 = nI n := by rw [mset_ne (by omega)]; exact t2
      rw [t2, if_neg (by rw [nI_leI (by omega) (by omega)]; omega), nI_ix (by omega) (by omega), nI_clamp (by omega), i2c_ch t (by omega), nar_ch t (by omega), lt_def, lt_def, show (615 : Nat) + 1 = 616 from rfl, e1, nI_add, bv_some']
      have hT : TXr (n + 1) (vs Tx n t) (mset (mset G 616 n (nI t)) 615 1 (nI (n + 1))) := by
        refine ⟨by omega, by rw [mset_at, if_pos ⟨rfl, rfl⟩], fun j hj => ?_⟩
        rw [mset_ne (by omega), mset_at]
        by_cases hjn : j = n
        · subst hjn
          rw [if_pos ⟨rfl, rfl⟩, vs_eq]
          exact ⟨rfl, by omega, by omega⟩
        · rw [if_neg (fun z => hjn z.2), vs_ne hjn]
          exact t3 j (by omega)
      obtain ⟨c1, c2⟩ := hC.text hT (fun a ha => by rw [mset_ne (by omega), mset_ne (by omega)])
      exact ⟨_, by rw [show mset (mset G 616 n (nI t)) 615 1 (nI (n + 1)) 615 1 = nI (n + 1) by rw [mset_at, if_pos ⟨rfl, rfl⟩]], c1, c2⟩
    · rw [if_neg (by rw [nI_ltI (by omega) (by omega)]; exact h80), if_neg h80, if_neg (fun z => h80 z.2), if_neg (fun z => h80 z.2)]
      exact ⟨G, rfl, hC, FrX.rf⟩
  · rw [if_neg hw, if_pos rfl, if_neg hw, if_neg (fun z => hw z.1), if_neg (fun z => hw z.1)]
    exact ⟨G, rfl, hC, FrX.rf⟩
theorem c_clear (hC : CRel nx S W Tx h n G) : ∃ G' : Mem, fX8_clearText 0 G = some (nI n, G') ∧ CRel nx S W Tx h 0 G' ∧ FrX G G' := by
  unfold fX8_clearText
  obtain ⟨t1, t2, t3⟩ := hC.2.2
  rw [show (0 : Nat) + 615 = 615 from rfl, lt_def, t2]
  obtain ⟨c1, c2⟩ := hC.text (Tx' := Tx) (n' := 0) (G2 := mset G 615 1 (nI 0)) ⟨by omega, by rw [mset_at, if_pos ⟨rfl, rfl⟩], fun j hj => by omega⟩ (fun a ha => mset_ne (by omega))
  exact ⟨_, rfl, c1, c2⟩
end
