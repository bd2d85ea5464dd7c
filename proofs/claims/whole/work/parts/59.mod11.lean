section
variable {G G' : Mem} {S S' W Tx B : Nat → Nat} {h n b : Nat}
theorem m_take (x1 : Int32) : ActM b (fX9_take 627 x1) (oTake x1) := by
  intro S W Tx h n G hM hI
  unfold fX9_take oTake
  have hN := hI.1
  rw [in_m (by omega) (by omega), bd_some']
  by_cases h1 : inS x1
  · rw [if_pos (show inW 0 1 x1 from h1), if_neg (by decide), if_pos h1]
    obtain ⟨j, rfl, l1⟩ : ∃ f, x1 = nI f ∧ f ≤ 1 := ⟨tn x1, nat_in (hi := 1) (show inW 0 1 x1 from h1)⟩
    rw [tn_nI (by omega)]
    obtain ⟨G1, a1, a2, a3, a4⟩ := keeps_m hM
    have b1 := a2.set (k := 222 + 223 * j) (x := 1)
    have b1' : MR (fun k => if k = 222 + 223 * j then 1 else if 223 + 223 * j ≤ k ∧ k < 223 + 223 * j + 0 then S (k - (223 + 223 * j)) else S k) W Tx h n (mset G1 628 (222 + 223 * j) (nI 1)) := b1.ext (fun k hk => by
      unfold vs
      by_cases hk1 : k = 222 + 223 * j
      · rw [if_pos hk1, if_pos hk1]
      · rw [if_neg hk1, if_neg hk1, if_neg (by omega)])
    rw [a1, bv_some', nI_mulN, nI_add, nI_ix (by omega) (by omega), nI_clamp (by omega), lt_def, show (627 : Nat) + 1 = 628 from rfl]
    have step : ∀ i (s : Int32 × Mem), i < 222 → (s.1 = nI i ∧ MR (fun k => if k = 222 + 223 * j then 1 else if 223 + 223 * j ≤ k ∧ k < 223 + 223 * j + i then S (k - (223 + 223 * j)) else S k) W Tx h n s.2 ∧ MB S s.2 ∧ FrM G1 s.2) → ∃ s' : Int32 × Mem, (s'.1 = nI (i + 1) ∧ MR (fun k => if k = 222 + 223 * j then 1 else if 223 + 223 * j ≤ k ∧ k < 223 + 223 * j + (i + 1) then S (k - (223 + 223 * j)) else S k) W Tx h n s'.2 ∧ MB S s'.2 ∧ FrM G1 s'.2) ∧ ∀ rec, FX9_take_34 627 (nI (222 + 223 * j)) rec s = rec s' := by
      intro i s hi hs
      obtain ⟨s1, Gs⟩ := s
      obtain ⟨h1, h2, h3, h4⟩ := hs
      simp only at h1 h2 h3 h4
      subst h1
      refine ⟨(nI (i + 1), mset Gs 628 (223 + 223 * j + i) (nI (S i))), ⟨rfl, (h2.set (k := 223 + 223 * j + i) (x := S i)).ext (fun k hk => ?_), h3.set (by omega), h4.tr (FrM.m (by omega))⟩, fun rec => ?_⟩
      · unfold vs
        by_cases hj1 : k = 223 + 223 * j + i
        · rw [if_pos hj1, if_neg (by omega), if_pos (by omega)]; exact congrArg S (by omega)
        · rw [if_neg hj1]
          show _ = (if k = 222 + 223 * j then 1 else if 223 + 223 * j ≤ k ∧ k < 223 + 223 * j + i then S (k - (223 + 223 * j)) else S k)
          by_cases hj0 : k = 222 + 223 * j
          · rw [if_pos hj0, if_pos hj0]
          · rw [if_neg hj0, if_neg hj0]
            by_cases hj2 : 223 + 223 * j ≤ k ∧ k < 223 + 223 * j + i
            · rw [if_pos (c := 223 + 223 * j ≤ k ∧ k < 223 + 223 * j + (i + 1)) (by omega), if_pos hj2]
            · rw [if_neg (c := 223 + 223 * j ≤ k ∧ k < 223 + 223 * j + (i + 1)) (by omega), if_neg hj2]
      · show bX9_take_34 627 (nI (222 + 223 * j)) rec (nI i) Gs = _
        unfold bX9_take_34
        have e := h2.s (k := i) (by omega)
        simp only [show ¬ i = 222 + 223 * j by omega, show ¬ (223 + 223 * j ≤ i ∧ i < 223 + 223 * j + i) by omega, if_false] at e
        rw [if_neg (by rw [nI_leI (by omega) (by omega)]; omega), nI_add, nI_add, nI_ix (by omega) (by omega), nI_ix (by omega) (by omega), nI_clamp (by omega), nI_clamp (by omega), lt_def, show (627 : Nat) + 1 = 628 from rfl, e, nI_add, show 222 + 223 * j + 1 + i = 223 + 223 * j + i by omega]
    obtain ⟨⟨s1, G3⟩, ⟨h1, h2, h3, h4⟩, rec', hrec⟩ := itr_inv (F := FX9_take_34 627 (nI (222 + 223 * j))) (fun i (s : Int32 × Mem) => s.1 = nI i ∧ MR (fun k => if k = 222 + 223 * j then 1 else if 223 + 223 * j ≤ k ∧ k < 223 + 223 * j + i then S (k - (223 + 223 * j)) else S k) W Tx h n s.2 ∧ MB S s.2 ∧ FrM G1 s.2) 222 step (nI 0, mset G1 628 (222 + 223 * j) (nI 1)) ⟨rfl, b1', a3.set (by omega), FrM.m (by omega)⟩ (by omega)
    simp only at h1 h2 h3 h4
    subst h1
    rw [hrec]
    obtain ⟨G4, c1, c2, c3⟩ := acted_m (r := S 0) (by omega) h2 h3
    have e := h2.s (k := 0) (by omega)
    simp only [show ¬ 0 = 222 + 223 * j by omega, show ¬ (223 + 223 * j ≤ 0 ∧ 0 < 223 + 223 * j + 222) by omega, if_false] at e
    refine ⟨G4, ?_, c2.ext (fun k hk => ?_), a4.tr (h4.tr c3)⟩
    · show bX9_take_34 627 (nI (222 + 223 * j)) rec' (nI 222) G3 = _
      unfold bX9_take_34
      rw [if_pos (by decide), show (627 : Nat) + 1 = 628 from rfl, e, c1, bd_some']
      rfl
    · show takeS S j k = _
      unfold takeS
      by_cases hj0 : k = 222 + 223 * j
      · rw [if_pos hj0, if_pos hj0]
      · rw [if_neg hj0, if_neg hj0, show 223 + 223 * j + 222 = 445 + 223 * j by omega]
  · rw [if_neg (show ¬ inW 0 1 x1 from h1), if_pos rfl, if_neg h1]
    exact ⟨G, rfl, hM, FrM.rf⟩
end
