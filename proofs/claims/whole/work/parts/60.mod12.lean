section
variable {G G' : Mem} {S S' W Tx B : Nat → Nat} {h n b : Nat}
theorem m_rest (x1 : Int32) (hM : MR S W Tx h n G) (hI : SI b S) : ∃ G' : Mem, fX9_restore 627 x1 G = some (oR (oRest x1 S), G') ∧ MR (oS (oRest x1 S) S) (oW (oRest x1 S) W S h) Tx (oH (oRest x1 S) h) n G' ∧ FrM G G' := by
  unfold fX9_restore oRest
  rw [in_m (by omega) (by omega), bd_some']
  by_cases h1 : inS x1
  · rw [if_pos (show inW 0 1 x1 from h1), if_neg (by decide), if_pos h1]
    obtain ⟨j, rfl, l1⟩ : ∃ f, x1 = nI f ∧ f ≤ 1 := ⟨tn x1, nat_in (hi := 1) (show inW 0 1 x1 from h1)⟩
    rw [tn_nI (by omega)]
    obtain ⟨hm, hz⟩ := hI.2 j (by omega)
    rw [nI_mulN, nI_add, nI_ix (by omega) (by omega), nI_clamp (by omega), show (627 : Nat) + 1 = 628 from rfl, hM.s (by omega)]
    by_cases h5 : S (222 + 223 * j) = 0
    · rw [if_pos (by rw [h5]), if_pos h5]
      exact ⟨G, rfl, hM, FrM.rf⟩
    · rw [if_neg (by rw [nI_eq (by omega) (by omega)]; exact h5), if_neg h5]
      have h1000 : S (223 + 223 * j) ≤ 1000 := (hz (by omega)).1.1
      obtain ⟨G1, a1, a2, a3, a4⟩ := keeps_m hM
      rw [a1, bv_some']
      have step : ∀ i (s : Int32 × Mem), i < 222 → (s.1 = nI i ∧ MR (fun k => if k < i then S (223 + 223 * j + k) else S k) W Tx h n s.2 ∧ MB S s.2 ∧ FrM G1 s.2) → ∃ s' : Int32 × Mem, (s'.1 = nI (i + 1) ∧ MR (fun k => if k < i + 1 then S (223 + 223 * j + k) else S k) W Tx h n s'.2 ∧ MB S s'.2 ∧ FrM G1 s'.2) ∧ ∀ rec, FX9_restore_39 627 (nI (222 + 223 * j)) rec s = rec s' := by
        intro i s hi hs
        obtain ⟨s1, Gs⟩ := s
        obtain ⟨h1, h2, h3, h4⟩ := hs
        simp only at h1 h2 h3 h4
        subst h1
        refine ⟨(nI (i + 1), mset Gs 628 i (nI (S (223 + 223 * j + i)))), ⟨rfl, (h2.set (k := i) (x := S (223 + 223 * j + i))).ext (fun k hk => ?_), h3.set (by omega), h4.tr (FrM.m (by omega))⟩, fun rec => ?_⟩
        · unfold vs
          by_cases hj1 : k = i
          · rw [if_pos hj1, if_pos (by omega), hj1]
          · rw [if_neg hj1]
            show _ = (if k < i then S (223 + 223 * j + k) else S k)
            by_cases hj2 : k < i
            · rw [if_pos (c := k < i + 1) (by omega), if_pos hj2]
            · rw [if_neg (c := k < i + 1) (by omega), if_neg hj2]
        · show bX9_restore_39 627 (nI (222 + 223 * j)) rec (nI i) Gs = _
          unfold bX9_restore_39
          have e := h2.s (k := 223 + 223 * j + i) (by omega)
          simp only [show ¬ 223 + 223 * j + i < i by omega, if_false] at e
          rw [if_neg (by rw [nI_leI (by omega) (by omega)]; omega), nI_add, nI_add, nI_ix (by omega) (by omega), nI_ix (by omega) (by omega), nI_clamp (by omega), nI_clamp (by omega), lt_def, show (627 : Nat) + 1 = 628 from rfl, show 222 + 223 * j + 1 + i = 223 + 223 * j + i by omega, e, nI_add]
      obtain ⟨⟨s1, G3⟩, ⟨h1, h2, h3, h4⟩, rec', hrec⟩ := itr_inv (F := FX9_restore_39 627 (nI (222 + 223 * j))) (fun i (s : Int32 × Mem) => s.1 = nI i ∧ MR (fun k => if k < i then S (223 + 223 * j + k) else S k) W Tx h n s.2 ∧ MB S s.2 ∧ FrM G1 s.2) 222 step (nI 0, G1) ⟨rfl, a2.ext (fun k hk => if_neg (by omega)), a3, FrM.rf⟩ (by omega)
      simp only at h1 h2 h3 h4
      subst h1
      rw [hrec]
      obtain ⟨G4, c1, c2, c3⟩ := acted_m (r := S (223 + 223 * j)) (by omega) h2 h3
      have e := h2.s (k := 0) (by omega)
      simp only [show 0 < 222 by omega, if_true, Nat.add_zero] at e
      refine ⟨G4, ?_, c2.ext (fun k hk => rfl), a4.tr (h4.tr c3)⟩
      show bX9_restore_39 627 (nI (222 + 223 * j)) rec' (nI 222) G3 = _
      unfold bX9_restore_39
      rw [if_pos (by decide), show (627 : Nat) + 1 = 628 from rfl, e, c1, bd_some']
      rfl
  · rw [if_neg (show ¬ inW 0 1 x1 from h1), if_pos rfl, if_neg h1]
    exact ⟨G, rfl, hM, FrM.rf⟩
end
