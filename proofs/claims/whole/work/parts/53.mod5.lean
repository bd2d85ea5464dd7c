section
variable {G G' : Mem} {S S' W Tx B : Nat → Nat} {h n b : Nat}
theorem m_pay (hb : b < 90000000) : ActM b (fX9_payDebt 627) oPay := by
  intro S W Tx h n G hM hI
  unfold fX9_payDebt oPay
  have hN := hI.1
  rw [show (627 : Nat) + 1 = 628 from rfl, hM.s (k := 4) (by omega), hM.s (k := 3) (by omega)]
  have hp : payN S = if S 3 ≤ S 4 then S 3 else S 4 := by
    unfold payN
    by_cases hz : S 4 < S 3
    · rw [if_pos hz, if_neg (by omega)]
    · rw [if_neg hz, if_pos (by omega)]
  by_cases h4 : S 4 = 0
  · rw [if_pos (by rw [h4]), if_pos (by rw [hp]; split <;> omega)]
    exact ⟨G, rfl, hM, FrM.rf⟩
  · rw [if_neg (by rw [nI_eq (by omega) (by omega)]; exact h4)]
    by_cases h3 : S 3 = 0
    · rw [if_pos (by rw [h3]), if_pos (by rw [hp]; split <;> omega)]
      exact ⟨G, rfl, hM, FrM.rf⟩
    · rw [if_neg (by rw [nI_eq (by omega) (by omega)]; exact h3), if_neg (by rw [hp]; split <;> omega)]
      obtain ⟨G1, a1, a2, a3, a4⟩ := keeps_m hM
      have go : ∀ y, y = payN S → y ≤ S 4 → y ≤ S 3 → ∃ G', jX9_payDebt_55 627 (nI y) G1 = some (nI y, G') ∧ MR (vs (vs S 3 (S 3 - payN S)) 4 (S 4 - payN S)) (pushW W S h) Tx (pushN h) n G' ∧ FrM G1 G' := by
        intro y hy hy4 hy3
        unfold jX9_payDebt_55
        have b1 := a2.set (k := 4) (x := S 4 - y)
        have b2 := b1.set (k := 3) (x := S 3 - y)
        have e1 := b1.s (k := 3) (by omega)
        rw [vs_ne (by omega)] at e1
        obtain ⟨G2, c1, c2, c3⟩ := acted_m (r := y) (by omega) b2 ((a3.set (by omega)).set (by omega))
        rw [show (627 : Nat) + 1 = 628 from rfl, a2.s (k := 4) (by omega), pk_sub hy4, lt_def, lt_def, e1, pk_sub hy3, c1, bd_some']
        refine ⟨G2, rfl, c2.ext (fun k hk => ?_), (FrM.m (by omega)).tr ((FrM.m (by omega)).tr c3)⟩
        rw [← hy]
        unfold vs
        repeat' split
        all_goals first
          | rfl
          | omega
      rw [a1, bv_some', a2.s (k := 3) (by omega), a2.s (k := 4) (by omega)]
      by_cases h34 : S 3 ≤ S 4
      · rw [if_pos (by rw [nI_leI (by omega) (by omega)]; exact h34)]
        rw [if_pos h34] at hp
        obtain ⟨G2, c1, c2, c3⟩ := go (S 3) hp.symm h34 (Nat.le_refl _)
        rw [c1]
        exact ⟨G2, by rw [hp]; rfl, c2, a4.tr c3⟩
      · rw [if_neg (by rw [nI_leI (by omega) (by omega)]; exact h34)]
        rw [if_neg h34] at hp
        obtain ⟨G2, c1, c2, c3⟩ := go (S 4) hp.symm (Nat.le_refl _) (by omega)
        rw [c1]
        exact ⟨G2, by rw [hp]; rfl, c2, a4.tr c3⟩
theorem m_append (x1 : Int32) (hM : MR S W Tx h n G) : ∃ G' : Mem, fX9_append 627 x1 G = some (if inW 1 255 x1 then (if n < 80 then nI (n + 1) else -3) else -1, G') ∧ MR S W (if inW 1 255 x1 ∧ n < 80 then vs Tx n (tn x1) else Tx) h (if inW 1 255 x1 ∧ n < 80 then n + 1 else n) G' ∧ FrM G G' := by
  unfold fX9_append
  have hM0 := hM
  obtain ⟨m1, m2, m3, m4, m5, m6, m7⟩ := hM
  rw [in_m (by omega) (by omega), bd_some']
  by_cases hw : inW 1 255 x1
  · rw [if_pos hw, if_neg (by decide), if_pos hw, m6]
    by_cases h80 : n < 80
    · have q3 := tn_eq (x := x1) (by have := hw.1; omega)
      rw [if_neg (by rw [nI_eq (by omega) (by omega)]; omega), if_pos h80, if_pos ⟨hw, h80⟩, if_pos ⟨hw, h80⟩]
      have e1 : mset G 632 n x1 627 6 = nI n := by rw [mset_ne (by omega)]; exact m6
      rw [nI_ix (by omega) (by omega), nI_clamp (by omega), lt_def, lt_def, show (627 : Nat) + 5 = 632 from rfl, e1, nI_add]
      refine ⟨_, by rw [show mset (mset G 632 n x1) 627 6 (nI (n + 1)) 627 6 = nI (n + 1) by rw [mset_at, if_pos ⟨rfl, rfl⟩]], ⟨m1, by omega, fun k hk => by rw [mset_ne (by omega), mset_ne (by omega)]; exact m3 k hk, fun k hk => by rw [mset_ne (by omega), mset_ne (by omega)]; exact m4 k hk, by rw [mset_at, if_neg (by omega), mset_ne (by omega)]; exact m5, by rw [mset_at, if_pos ⟨rfl, rfl⟩], fun j hj => ?_⟩, (FrM.m (by omega)).tr (FrM.m (by omega))⟩
      rw [mset_ne (by omega), mset_at]
      by_cases hjn : j = n
      · subst hjn
        rw [if_pos ⟨rfl, rfl⟩, vs_eq]
        exact q3
      · rw [if_neg (fun z => hjn z.2), vs_ne hjn]
        exact m7 j (by omega)
    · have : n = 80 := by omega
      rw [if_pos (by rw [this]), if_neg h80, if_neg (fun z => h80 z.2), if_neg (fun z => h80 z.2)]
      exact ⟨G, rfl, hM0, FrM.rf⟩
  · rw [if_neg hw, if_pos rfl, if_neg hw, if_neg (fun z => hw z.1), if_neg (fun z => hw z.1)]
    exact ⟨G, rfl, hM0, FrM.rf⟩
theorem m_clear (hM : MR S W Tx h n G) : ∃ G' : Mem, fX9_clearText 627 G = some (nI n, G') ∧ MR S W Tx h 0 G' ∧ FrM G G' := by
  unfold fX9_clearText
  obtain ⟨m1, m2, m3, m4, m5, m6, m7⟩ := hM
  rw [lt_def, m6]
  exact ⟨_, rfl, ⟨m1, by omega, fun k hk => by rw [mset_ne (by omega)]; exact m3 k hk, fun k hk => by rw [mset_ne (by omega)]; exact m4 k hk, by rw [mset_at, if_neg (by omega)]; exact m5, by rw [mset_at, if_pos ⟨rfl, rfl⟩], fun j hj => by omega⟩, FrM.m (by omega)⟩
end
