section
variable {G G' : Mem} {S W Tx v : Nat → Nat} {nx h n b : Nat}
/-! the class's questions -/
theorem iteS {c : Prop} [Decidable c] {x y : Int32} : some (if c then x else y, G) = if c then some (x, G) else some (y, G) := by split <;> rfl
noncomputable def qCount (x1 : Int32) (S : Nat → Nat) (h n : Nat) : Int32 := if x1 = nI 0 then nI (S 0) else if x1 = nI 1 then nI (S 0 % 52) else if x1 = nI 2 then nI (clN S (S 0)) else if x1 = nI 3 then nI (S 1) else if x1 = nI 4 then nI (S 2) else if x1 = nI 5 then nI (S 3) else if x1 = nI 6 then nI (S 4) else if x1 = nI 7 then nI (S 5) else if x1 = nI 8 then nI (S 6) else if x1 = nI 9 then nI (sumF (fun f => S (18 + 4 * f)) 6) else if x1 = nI 10 then nI (S 7) else if x1 = nI 11 then nI (S 8) else if x1 = nI 12 then nI (S 9) else if x1 = nI 13 then nI (S 10) else if x1 = nI 14 then nI (S 11) else if x1 = nI 15 then nI (S 222 + S 445) else if x1 = nI 16 then nI h else if x1 = nI 17 then nI n else -1
theorem c_count (x1 : Int32) (hC : CRel nx S W Tx h n G) (hI : CInv b S W h) : fX8_count 0 x1 G = some (qCount x1 S h n, G) := by
  unfold fX8_count qCount
  have hL : LR 2 S G := hC.1.1
  have hN := hI.1.1.1
  have hcl1 : clN S (S 0) ≤ 1 := clN_le
  rw [show (0 : Nat) + 103 = 103 from rfl, show (0 : Nat) + 1 = 1 from rfl, show (0 : Nat) + 2 = 2 from rfl, show (0 : Nat) + 615 = 615 from rfl]
  rw [show G 2 2 = nI (S 0) from hL.1 2 (by omega) (by omega), nI_rem (by omega) (by omega) (by omega)]
  have ec := closed_c hL hI.1.1
  rw [show G 2 2 = nI (S 0) from hL.1 2 (by omega) (by omega)] at ec
  rw [ec, bd_some', noContracts_c hL hI.1.1, bd_some', settingOf_c hL (by omega), bd_some', settingOf_c hL (by omega), bd_some', settingOf_c hL (by omega), bd_some', snaps_c hC.1 hI.1, bd_some']
  rw [show G 2 6 = nI (S 1) from hL.1 6 (by omega) (by omega), show G 2 7 = nI (S 2) from hL.1 7 (by omega) (by omega), show G 2 8 = nI (S 3) from hL.1 8 (by omega) (by omega), show G 2 9 = nI (S 4) from hL.1 9 (by omega) (by omega), show G 2 10 = nI (S 5) from hL.1 10 (by omega) (by omega), show G 2 11 = nI (S 6) from hL.1 11 (by omega) (by omega), show G 2 12 = nI (S 7) from hL.1 12 (by omega) (by omega), show G 2 13 = nI (S 8) from hL.1 13 (by omega) (by omega), hC.2.1.2.2.2.1, hC.2.2.2.1]
  have e2 : (if nI (clN S (S 0)) = nI 0 then some (nI 0, G) else some (nI 1, G)) = some (nI (clN S (S 0)), G) := by
    by_cases h0 : clN S (S 0) = 0
    · rw [h0, if_pos rfl]
    · rw [show clN S (S 0) = 1 by omega]; rfl
  rw [e2]
  simp only [iteS]
noncomputable def qField (x1 x2 : Int32) (S : Nat → Nat) : Int32 := if inF x1 then (if x2 = nI 0 then nI (S (12 + tn x1)) else if x2 = nI 1 then nI (cn S (tn x1) 0) else if x2 = nI 2 then nI (cn S (tn x1) 1) else if x2 = nI 3 then nI (cn S (tn x1) 2) else if x2 = nI 4 then nI (cn S (tn x1) 3) else if x2 = nI 5 then nI (bs (cf S (tn x1)) (S (12 + tn x1)) (S (12 + tn x1))).1 else if x2 = nI 6 then (if (bs (cf S (tn x1)) (S (12 + tn x1)) (S (12 + tn x1))).1 = 0 then -9 else nI (bs (cf S (tn x1)) (S (12 + tn x1)) (S (12 + tn x1))).2) else if x2 = nI 7 then nI (S (18 + 4 * tn x1)) else if x2 = nI 8 then (if S (18 + 4 * tn x1) = 0 then -9 else nI (S (19 + 4 * tn x1))) else if x2 = nI 9 then (if S (18 + 4 * tn x1) = 0 then -9 else nI (S (20 + 4 * tn x1))) else if x2 = nI 10 then (if S (18 + 4 * tn x1) = 0 then -9 else nI (S (21 + 4 * tn x1))) else -1) else -1
theorem c_field (x1 x2 : Int32) (hC : CRel nx S W Tx h n G) (hI : CInv b S W h) : fX8_field 0 x1 x2 G = some (qField x1 x2 S, G) := by
  unfold fX8_field qField
  have hL : LR 2 S G := hC.1.1
  rw [isField_c, bd_some']
  by_cases h1 : inF x1
  · rw [if_pos h1, if_neg (by decide), if_pos h1]
    obtain ⟨q1, l1⟩ := nat_in (hi := 5) (show inW 0 5 x1 from h1)
    generalize tn x1 = f at *
    subst q1
    have hH := hL.2.1 f (by omega)
    have hl := (hI.1.1.len (f := f) (by omega)).2
    have hm := (hI.1.1.2 f (by omega)).2.2.1
    obtain ⟨c0, c1⟩ := hL.2.2 f (by omega)
    rw [nI_ix (by omega) (by omega), nI_ix (by omega) (by omega), nI_clamp (by omega), show (0 : Nat) + 2 = 2 from rfl, numberOf_eq (k := 0) hH hl (by omega), bd_some', numberOf_eq (k := 1) hH hl (by omega), bd_some', numberOf_eq (k := 2) hH hl (by omega), bd_some', numberOf_eq (k := 3) hH hl (by omega), bd_some', longest_c hH hl, bd_some', longestRun_c hH hl, bd_some', bd_some', hH.1, c0]
    by_cases h0 : S (18 + 4 * f) = 0
    · rw [if_pos (c := nI (S (18 + 4 * f)) = nI 0) (by rw [h0]), if_pos (c := nI (S (18 + 4 * f)) = nI 0) (by rw [h0]), if_pos (c := nI (S (18 + 4 * f)) = nI 0) (by rw [h0]), if_pos (c := nI (S (18 + 4 * f)) = nI 0) (by rw [h0]), if_pos h0, if_pos h0, if_pos h0, h0]
      simp only [iteS]
    · have hs : S (18 + 4 * f) = 1 := by omega
      obtain ⟨d1, d2, d3⟩ := c1 hs
      have hne : ¬ nI (S (18 + 4 * f)) = nI 0 := by rw [hs]; decide
      rw [if_neg hne, if_neg hne, if_neg hne, if_neg hne, if_neg h0, if_neg h0, if_neg h0, d1, d2, d3, hs]
      simp only [iteS]
  · rw [if_neg h1, if_pos rfl, if_neg h1]
noncomputable def qChain (x1 x2 x3 : Int32) (S : Nat → Nat) : Int32 := if inC S x1 x2 then (if x3 = nI 0 then nI (cf S (tn x1) (tn x2) % 4) else if x3 = nI 1 then nI (cf S (tn x1) (tn x2) / 4 % 16) else if x3 = nI 2 then nI (cf S (tn x1) (tn x2) / 64) else -1) else -1
theorem c_chain (x1 x2 x3 : Int32) (hC : CRel nx S W Tx h n G) (hI : CInv b S W h) : fX8_chain 0 x1 x2 x3 G = some (qChain x1 x2 x3 S, G) := by
  unfold fX8_chain qChain
  have hL : LR 2 S G := hC.1.1
  rw [isChain_c hL hI.1.1, bd_some']
  by_cases hc : inC S x1 x2
  · have e1 := tn_int hc.1.1
    have e2 := tn_int hc.2.1
    have hf6 : tn x1 < 6 := by have := hc.1.2; omega
    have hcl : tn x2 < S (12 + tn x1) := by have := hc.2.2; omega
    have hl30 := (hI.1.1.len hf6).2
    have q1 := tn_eq hc.1.1
    have q2 := tn_eq hc.2.1
    rw [if_pos hc, if_neg (by decide), if_pos hc]
    generalize tn x1 = f at *
    generalize tn x2 = c at *
    subst q1 q2
    have hH := hL.2.1 f (by omega)
    rw [nI_ix (by omega) (by omega), nI_clamp (by omega), show (0 : Nat) + 2 = 2 from rfl, kindOf_c hH hl30 hcl, bd_some', thick_c hH hl30 hcl, bd_some', age_c hH hl30 hcl, bd_some']
    simp only [iteS]
  · rw [if_neg hc, if_pos rfl, if_neg hc]
noncomputable def qToLay (x1 x2 : Int32) (S : Nat → Nat) : Int32 := if inF x1 ∧ inW 0 1 x2 then (if x2 = nI 0 then nI (sm tk (cf S (tn x1)) (S (12 + tn x1))) else nI (sm (fun x => if 0 < tk x then 2 else 0) (cf S (tn x1)) (S (12 + tn x1)))) else -1
theorem c_toLay (x1 x2 : Int32) (hC : CRel nx S W Tx h n G) (hI : CInv b S W h) : fX8_toLay 0 x1 x2 G = some (qToLay x1 x2 S, G) := by
  unfold fX8_toLay qToLay
  have hL : LR 2 S G := hC.1.1
  rw [isField_c, bd_some']
  by_cases h1 : inF x1
  · rw [if_pos h1, if_neg (by decide), inW_c (by omega) (by omega), bd_some']
    by_cases h2 : inW 0 1 x2
    · rw [if_pos h2, if_neg (by decide), if_pos (show inF x1 ∧ inW 0 1 x2 from ⟨h1, h2⟩)]
      obtain ⟨q1, l1⟩ := nat_in (hi := 5) (show inW 0 5 x1 from h1)
      generalize tn x1 = f at *
      subst q1
      have hH := hL.2.1 f (by omega)
      have hl := (hI.1.1.len (f := f) (by omega)).2
      rw [nI_ix (by omega) (by omega), nI_clamp (by omega), show (0 : Nat) + 2 = 2 from rfl, workToLay_eq hH hl, bd_some', stakesToLay_eq hH hl, bd_some']
      split <;> rfl
    · rw [if_neg h2, if_pos rfl, if_neg (fun z => h2 z.2)]
  · rw [if_neg h1, if_pos rfl, if_neg (fun z => h1 z.1)]
noncomputable def qStakes (x1 : Int32) (S : Nat → Nat) : Int32 := if inF x1 then nI (sm sc (cf S (tn x1)) (S (12 + tn x1))) else -1
theorem c_stakes (x1 : Int32) (hC : CRel nx S W Tx h n G) (hI : CInv b S W h) : fX8_stakesIn 0 x1 G = some (qStakes x1 S, G) := by
  unfold fX8_stakesIn qStakes
  have hL : LR 2 S G := hC.1.1
  rw [isField_c, bd_some']
  by_cases h1 : inF x1
  · rw [if_pos h1, if_neg (by decide), if_pos h1]
    obtain ⟨q1, l1⟩ := nat_in (hi := 5) (show inW 0 5 x1 from h1)
    generalize tn x1 = f at *
    subst q1
    have hl := (hI.1.1.len (f := f) (by omega)).2
    rw [nI_ix (by omega) (by omega), nI_clamp (by omega), show (0 : Nat) + 2 = 2 from rfl, stakesToCut_eq (hL.2.1 f (by omega)) hl (hI.1.1.2 f (by omega)).2.1, bd_some']
  · rw [if_neg h1, if_pos rfl, if_neg h1]
noncomputable def qDone (x1 : Int32) (S : Nat → Nat) : Int32 := if inF x1 then (match dn S (tn x1) (S (12 + tn x1)) 0 0 (wa S 0) with | some w => nI w | none => -9) else -1
theorem c_done (x1 : Int32) (hC : CRel nx S W Tx h n G) (hI : CInv b S W h) : fX8_doneIn 0 x1 G = some (qDone x1 S, G) := by
  unfold fX8_doneIn qDone
  have hL : LR 2 S G := hC.1.1
  rw [isField_c, bd_some']
  by_cases h1 : inF x1
  · rw [if_pos h1, if_neg (by decide), if_pos h1]
    obtain ⟨q1, l1⟩ := nat_in (hi := 5) (show inW 0 5 x1 from h1)
    generalize tn x1 = f at *
    subst q1
    rw [show (0 : Nat) + 2 = 2 from rfl, until_c hL hI.1.1 (by omega)]
    generalize dn S f (S (12 + f)) 0 0 (wa S 0) = z
    cases z <;> rfl
  · rw [if_neg h1, if_pos rfl, if_neg h1]
end
