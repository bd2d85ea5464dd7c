section
variable {G G' : Mem} {S S' W Tx B : Nat → Nat} {h n b : Nat}
theorem m_undo (hM : MR S W Tx h n G) : ∃ G' : Mem, fX9_undo 627 G = some (if h = 0 then -2 else nI (h - 1), G') ∧ MR (if h = 0 then S else st W (h - 1)) W Tx (h - 1) n G' ∧ FrM G G' := by
  unfold fX9_undo
  have hM0 := hM
  obtain ⟨m1, m2, m3, m4, m5, m6, m7⟩ := hM
  rw [m5]
  by_cases h0 : h = 0
  · subst h0
    rw [if_pos rfl, if_pos rfl, if_pos rfl]
    exact ⟨G, rfl, hM0, FrM.rf⟩
  · rw [if_neg (by rw [nI_eq (by omega) (by omega)]; exact h0), if_neg h0, if_neg h0, lt_def, pk_sub (by omega)]
    have g4 : mset G 627 4 (nI (h - 1)) 627 4 = nI (h - 1) := by rw [mset_at, if_pos ⟨rfl, rfl⟩]
    have g6 : mset G 627 4 (nI (h - 1)) 627 6 = nI n := by rw [mset_at, if_neg (by omega)]; exact m6
    have gn : ∀ a, a ≠ 627 → mset G 627 4 (nI (h - 1)) a = G a := fun a ha => mset_ne ha
    generalize mset G 627 4 (nI (h - 1)) = G0 at *
    have step : ∀ i (s : Int32 × Mem), i < 668 → (s.1 = nI i ∧ (∀ k, k < i → s.2 628 k = nI (st W (h - 1) k)) ∧ ∀ a, a ≠ 628 → s.2 a = G0 a) → ∃ s' : Int32 × Mem, (s'.1 = nI (i + 1) ∧ (∀ k, k < i + 1 → s'.2 628 k = nI (st W (h - 1) k)) ∧ ∀ a, a ≠ 628 → s'.2 a = G0 a) ∧ ∀ rec, FX9_undo_22 627 rec s = rec s' := by
      intro i s hi hs
      obtain ⟨s1, Gs⟩ := s
      obtain ⟨h1, h2, h3⟩ := hs
      simp only at h1 h2 h3
      subst h1
      refine ⟨(nI (i + 1), mset Gs 628 i (nI (st W (h - 1) i))), ⟨rfl, fun k hk => ?_, fun a ha => (mset_ne ha).trans (h3 a ha)⟩, fun rec => ?_⟩
      · show mset Gs 628 i (nI (st W (h - 1) i)) 628 k = _
        rw [mset_at]
        by_cases hki : k = i
        · subst hki; rw [if_pos ⟨rfl, rfl⟩]
        · rw [if_neg (fun z => hki z.2)]; exact h2 k (by omega)
      · show bX9_undo_22 627 rec (nI i) Gs = _
        unfold bX9_undo_22
        rw [if_neg (by rw [nI_leI (by omega) (by omega)]; omega), h3 627 (by omega), g4, nI_mulN, nI_add, nI_ix (by omega) (by omega), nI_ix (by omega) (by omega), nI_clamp (by omega), nI_clamp (by omega), lt_def, show (627 : Nat) + 1 = 628 from rfl, show (627 : Nat) + 2 = 629 from rfl, h3 629 (by omega), gn 629 (by omega), m4 _ (by omega), nI_add]
        rfl
    obtain ⟨⟨s1, G2⟩, ⟨h1, h2, h3⟩, rec', hrec⟩ := itr_inv (F := FX9_undo_22 627) (fun i (s : Int32 × Mem) => s.1 = nI i ∧ (∀ k, k < i → s.2 628 k = nI (st W (h - 1) k)) ∧ ∀ a, a ≠ 628 → s.2 a = G0 a) 668 step (nI 0, G0) ⟨rfl, fun k hk => absurd hk (by omega), fun a ha => rfl⟩ (by omega)
    simp only at h1 h2 h3
    subst h1
    rw [hrec]
    refine ⟨G2, ?_, ⟨by omega, m2, h2, fun k hk => by rw [h3 629 (by omega), gn 629 (by omega)]; exact m4 k hk, by rw [h3 627 (by omega)]; exact g4, by rw [h3 627 (by omega)]; exact g6, fun j hj => by rw [h3 632 (by omega), gn 632 (by omega)]; exact m7 j hj⟩, fun a ha => by rw [h3 a (by omega), gn a (by omega)]⟩
    show bX9_undo_22 627 rec' (nI 668) G2 = _
    unfold bX9_undo_22
    rw [if_pos (by rw [nI_leI (by omega) (by omega)]; exact Nat.le_refl _), h3 627 (by omega), g4]
end
