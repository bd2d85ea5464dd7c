section
variable {G G' : Mem} {S S' W Tx B : Nat → Nat} {h n b : Nat}
theorem set1_m {k x : Nat} {lo hi : Nat} (hM : MR S W Tx h n G) (hI : LI b S) (hk : k < 3) (x2 : Int32) (h1 : lo < 2 ^ 31) (h2 : hi < 2 ^ 31) (hhi : hi ≤ 100) : ∃ G', jX9_set_32 627 (nI k) x2 (nI hi) (nI lo) x2 G = some (if inW lo hi x2 then nI (S (9 + k)) else -1, G') ∧ MR (if inW lo hi x2 then setV S k (tn x2) else S) (if inW lo hi x2 then pushW W S h else W) Tx (if inW lo hi x2 then pushN h else h) n G' ∧ FrM G G' := by
  unfold jX9_set_32
  have hN := hI.1
  rw [in_m h1 h2, bd_some']
  by_cases hw : inW lo hi x2
  · rw [if_pos hw, if_neg (by decide), if_pos hw, if_pos hw, if_pos hw, if_pos hw]
    have w1 := hw.1
    have w2 := hw.2
    obtain ⟨x, rfl, hx⟩ : ∃ x, x2 = nI x ∧ x ≤ 100 := ⟨tn x2, tn_eq (by omega), by have := tn_int (x := x2) (by omega); omega⟩
    rw [tn_nI (by omega)]
    obtain ⟨G1, a1, a2, a3, a4⟩ := keeps_m hM
    have b1 := a2.set (k := 9 + k) (x := x)
    have e1 := b1.s (k := 1) (by omega)
    rw [vs_ne (by omega)] at e1
    rw [a1, bv_some', nI_add, nI_ix (by omega) (by omega), nI_ix (by omega) (by omega), nI_clamp (by omega), lt_def, show (627 : Nat) + 1 = 628 from rfl, a2.s (k := 9 + k) (by omega)]
    by_cases hk2 : k = 2
    · subst hk2
      rw [if_pos rfl, e1, nI_add]
      have go : ∀ y, y = S 1 + x - S 11 → ∃ G', jX9_set_97 627 (nI (S (9 + 2))) (nI y) (nI 1) 628 (mset G1 628 (9 + 2) (nI x)) = some (nI (S (9 + 2)), G') ∧ MR (setV S 2 x) (pushW W S h) Tx (pushN h) n G' ∧ FrM G1 G' := by
        intro y hy
        unfold jX9_set_97
        have b2 := b1.set (k := 1) (x := y)
        obtain ⟨G2, c1, c2, c3⟩ := acted_m (r := S (9 + 2)) (by show S 11 < _; omega) b2 ((a3.set (by omega)).set (by omega))
        rw [nI_ix (by omega) (by omega), nI_clamp (by omega), lt_def, c1, bd_some']
        refine ⟨G2, rfl, c2.ext (fun j hj => ?_), (FrM.m (by omega)).tr ((FrM.m (by omega)).tr c3)⟩
        unfold setV
        rw [if_neg (by omega), if_neg (by omega), ← hy]
        unfold vs
        repeat' split
        all_goals first
          | rfl
          | omega
      by_cases hlt : S 1 + x < S 11
      · have e : nI (S 1 + x) - nI (S (9 + 2)) < nI 0 := pk_sneg (by show S 11 < _; omega) hlt
        rw [if_neg (fun z => by have h1 := i_lt.mp e; have h2 := i_le.mp z; omega)]
        obtain ⟨G2, c1, c2, c3⟩ := go 0 (by omega)
        rw [c1]
        exact ⟨G2, rfl, c2, a4.tr c3⟩
      · rw [pk_sub (by show S 11 ≤ _; omega), if_pos (by rw [nI_leI (by omega) (by show S 1 + x - S 11 < _; omega)]; omega)]
        obtain ⟨G2, c1, c2, c3⟩ := go (S 1 + x - S (9 + 2)) rfl
        rw [c1]
        exact ⟨G2, rfl, c2, a4.tr c3⟩
    · obtain ⟨G2, c1, c2, c3⟩ := acted_m (r := S (9 + k)) (by rcases (show k = 0 ∨ k = 1 by omega) with rfl | rfl <;> (simp only [Nat.reduceAdd]; omega)) b1 (a3.set (by omega))
      rw [if_neg (by rw [nI_eq (by omega) (by omega)]; exact hk2), c1, bd_some']
      refine ⟨G2, rfl, c2.ext (fun j hj => ?_), a4.tr ((FrM.m (by omega)).tr c3)⟩
      rcases (show k = 0 ∨ k = 1 by omega) with rfl | rfl <;> rfl
  · rw [if_neg hw, if_pos rfl, if_neg hw, if_neg hw, if_neg hw, if_neg hw]
    exact ⟨G, rfl, hM, FrM.rf⟩
end
