section
variable {G G' : Mem} {S S' W Tx B : Nat → Nat} {h n b : Nat}
theorem m_contract (x1 x2 x3 x4 : Int32) : ActM b (fX9_contract 627 x1 x2 x3 x4) (oContract x1 x2 x3 x4) := by
  intro S W Tx h n G hM hI
  unfold fX9_contract oContract
  have hN := hI.1
  rw [isField_m, bd_some']
  by_cases h1 : inF x1
  · rw [if_pos h1, if_neg (by decide), in_m (by omega) (by omega), bd_some']
    by_cases h2 : inW 0 20 x2
    · rw [if_pos h2, if_neg (by decide), in_m (by omega) (by omega), bd_some']
      by_cases h3 : inW 0 100 x3
      · rw [if_pos h3, if_neg (by decide), in_m (by omega) (by omega), bd_some']
        by_cases h4 : inW 0 9 x4
        · rw [if_pos h4, if_neg (by decide), if_pos ⟨h1, h2, h3, h4⟩]
          obtain ⟨f, rfl, l1⟩ : ∃ f, x1 = nI f ∧ f ≤ 5 := ⟨tn x1, nat_in (hi := 5) (show inW 0 5 x1 from h1)⟩
          obtain ⟨x, rfl, l2⟩ : ∃ f, x2 = nI f ∧ f ≤ 20 := ⟨tn x2, nat_in h2⟩
          obtain ⟨y, rfl, l3⟩ : ∃ f, x3 = nI f ∧ f ≤ 100 := ⟨tn x3, nat_in h3⟩
          obtain ⟨z, rfl, l4⟩ : ∃ f, x4 = nI f ∧ f ≤ 9 := ⟨tn x4, nat_in h4⟩
          rw [tn_nI (by omega), tn_nI (by omega), tn_nI (by omega), tn_nI (by omega)]
          have hl := hI.len (f := f) (by omega)
          have hm := (hI.2 f (by omega)).2.2.1
          have hcn : cn S f 0 ≤ 30 := Nat.le_trans (cnt_le _ _ _) hl.2
          have hcx : ∀ c, c < S (12 + f) → S (42 + 30 * f + c) < 2 ^ 31 := fun c hc => hI.cx (by omega) hc
          rw [con_m hM (by omega) (by omega), bd_some', Nat.add_zero]
          by_cases h5 : S (18 + 4 * f) = 0
          · rw [if_neg (by rw [h5]; decide), ofKind_m hM (by omega) (by omega) hl.2 hcx, bd_some']
            by_cases h6 : cn S f 0 = 0
            · rw [if_pos (by rw [h6]), if_neg (fun z => z.2 h6)]
              exact ⟨G, rfl, hM, FrM.rf⟩
            · rw [if_neg (by rw [nI_eq (by omega) (by omega)]; exact h6), if_pos ⟨h5, h6⟩]
              obtain ⟨G1, a1, a2, a3, a4⟩ := keeps_m hM
              have b1 := a2.set (k := 18 + 4 * f) (x := 1)
              have b2 := b1.set (k := 18 + 4 * f + 1) (x := x)
              have b3 := b2.set (k := 18 + 4 * f + 2) (x := S 0 + y)
              have b4 := b3.set (k := 18 + 4 * f + 3) (x := z)
              have e1 := b2.s (k := 0) (by omega)
              rw [vs_ne (by omega), vs_ne (by omega)] at e1
              have hk : ∀ j, ¬ (18 + 4 * f ≤ j ∧ j ≤ 18 + 4 * f + 3) → vs (vs (vs (vs S (18 + 4 * f) 1) (18 + 4 * f + 1) x) (18 + 4 * f + 2) (S 0 + y)) (18 + 4 * f + 3) z j = S j := fun j hj => by rw [vs_ne (by omega), vs_ne (by omega), vs_ne (by omega), vs_ne (by omega)]
              have ho := ofKind_m (f := f) (k := 0) b4 (by omega) (by omega) (by rw [hk _ (by omega)]; exact hl.2) (fun c hc => by rw [hk _ (by omega)] at hc; rw [hk _ (by omega)]; exact hcx c hc)
              have ecn : cn (vs (vs (vs (vs S (18 + 4 * f) 1) (18 + 4 * f + 1) x) (18 + 4 * f + 2) (S 0 + y)) (18 + 4 * f + 3) z) f 0 = cn S f 0 := by
                show cnt _ 0 (vs _ _ _ (12 + f)) = _
                rw [hk (12 + f) (by omega)]
                refine congrArg (fun z => cnt z 0 (S (12 + f))) (funext fun c => ?_)
                exact hk _ (by omega)
              rw [ecn] at ho
              obtain ⟨G2, c1, c2, c3⟩ := acted_m (r := cn S f 0) (by omega) b4 ((((a3.set (by omega)).set (by omega)).set (by omega)).set (by omega))
              rw [a1, bv_some', nI_mulN, nI_add, nI_add, nI_add, nI_add, nI_ix (by omega) (by omega), nI_clamp (by omega), lt_def, nI_ix (by omega) (by omega), nI_clamp (by omega), lt_def, nI_ix (by omega) (by omega), nI_clamp (by omega), lt_def, nI_ix (by omega) (by omega), nI_clamp (by omega), lt_def, show (627 : Nat) + 1 = 628 from rfl, e1, nI_add, ho, bd_some', c1, bd_some']
              refine ⟨G2, rfl, c2.ext (fun j hj => ?_), a4.tr (((FrM.m (by omega)).tr ((FrM.m (by omega)).tr ((FrM.m (by omega)).tr (FrM.m (by omega))))).tr c3)⟩
              show makeV S f x (S 0 + y) z j = _
              unfold makeV vs
              repeat' split
              all_goals first
                | rfl
                | omega
          · rw [if_pos (by rw [show S (18 + 4 * f) = 1 by omega]), if_neg (fun z => h5 z.1)]
            exact ⟨G, rfl, hM, FrM.rf⟩
        · rw [if_neg h4, if_pos rfl, if_neg (fun z => h4 z.2.2.2)]
          exact ⟨G, rfl, hM, FrM.rf⟩
      · rw [if_neg h3, if_pos rfl, if_neg (fun z => h3 z.2.2.1)]
        exact ⟨G, rfl, hM, FrM.rf⟩
    · rw [if_neg h2, if_pos rfl, if_neg (fun z => h2 z.2.1)]
      exact ⟨G, rfl, hM, FrM.rf⟩
  · rw [if_neg h1, if_pos rfl, if_neg (fun z => h1 z.1)]
    exact ⟨G, rfl, hM, FrM.rf⟩
end
