section
variable {G G' : Mem} {S S' W Tx B : Nat → Nat} {h n b : Nat}
theorem m_set (x1 x2 : Int32) : ActM b (fX9_set 627 x1 x2) (oSet x1 x2) := by
  intro S W Tx h n G hM hI
  unfold fX9_set oSet
  rw [in_m (by omega) (by omega), bd_some']
  have fin : ∀ (k lo hi : Nat), k < 3 → lo < 2 ^ 31 → hi ≤ 100 → (okSet (nI k) x2 ↔ inW lo hi x2) → ∃ G', jX9_set_32 627 (nI k) x2 (nI hi) (nI lo) x2 G = some (oR (if okSet (nI k) x2 then .inr (S (9 + tn (nI k)), setV S (tn (nI k)) (tn x2)) else .inl (-1) : Oc), G') ∧ MR (oS (if okSet (nI k) x2 then .inr (S (9 + tn (nI k)), setV S (tn (nI k)) (tn x2)) else .inl (-1) : Oc) S) (oW (if okSet (nI k) x2 then .inr (S (9 + tn (nI k)), setV S (tn (nI k)) (tn x2)) else .inl (-1) : Oc) W S h) Tx (oH (if okSet (nI k) x2 then .inr (S (9 + tn (nI k)), setV S (tn (nI k)) (tn x2)) else .inl (-1) : Oc) h) n G' ∧ FrM G G' := by
    intro k lo hi hk h1 h2 hiff
    obtain ⟨G2, c1, c2, c3⟩ := set1_m (lo := lo) (hi := hi) (x := 0) hM hI hk x2 h1 (by omega) h2
    rw [tn_nI (by omega)]
    by_cases hw : inW lo hi x2
    · rw [if_pos hw] at c1
      rw [if_pos hw, if_pos hw, if_pos hw] at c2
      rw [if_pos (hiff.mpr hw)]
      exact ⟨G2, c1, c2, c3⟩
    · rw [if_neg hw] at c1
      rw [if_neg hw, if_neg hw, if_neg hw] at c2
      rw [if_neg (fun z => hw (hiff.mp z))]
      exact ⟨G2, c1, c2, c3⟩
  by_cases hx : inW 0 2 x1
  · rw [if_pos hx, if_neg (by decide)]
    obtain ⟨q1, l1⟩ := nat_in hx
    obtain ⟨k, rfl, hk⟩ : ∃ k, x1 = nI k ∧ k ≤ 2 := ⟨tn x1, q1, l1⟩
    unfold jX9_set_20
    by_cases hk2 : k = 2
    · subst hk2
      rw [if_pos rfl, if_pos rfl]
      exact fin 2 1 100 (by omega) (by omega) (by omega) ⟨fun z => z.elim (fun z => absurd z.1 (by decide)) (fun z => z.2), fun z => Or.inr ⟨rfl, z⟩⟩
    · have hne : ¬ nI k = nI 2 := by rw [nI_eq (by omega) (by omega)]; exact hk2
      rw [if_neg hne, if_neg hne]
      refine fin k 0 51 (by omega) (by omega) (by omega) ⟨fun z => z.elim (fun z => z.2) (fun z => absurd z.1 hne), fun z => Or.inl ⟨?_, z⟩⟩
      rcases (show k = 0 ∨ k = 1 by omega) with rfl | rfl
      · exact Or.inl rfl
      · exact Or.inr rfl
  · rw [if_neg hx, if_pos rfl]
    have hno : ¬ okSet x1 x2 := fun z => by
      obtain ⟨k, x, q1, -, hk, -⟩ := okSet_k z
      exact hx (by rw [q1]; have e := nI_toInt (n := k) (by omega); exact ⟨by rw [e]; omega, by rw [e]; omega⟩)
    rw [if_neg hno]
    exact ⟨G, rfl, hM, FrM.rf⟩
end
