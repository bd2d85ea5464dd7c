section
variable {G G' : Mem} {S S' W Tx B : Nat → Nat} {h n b : Nat}
/-- a due is paid -/
theorem pays_m {x : Nat} (hM : MR S W Tx h n G) (hB : MB B G) (h3 : S 3 < 1000000000) (h4 : S 4 < 1000000000) (hx : x < 1000000000) : ∃ G', fX9_pays 627 (nI x) G = some G' ∧ MR (spendV S x) W Tx h n G' ∧ MB B G' ∧ FrM G G' := by
  unfold fX9_pays
  have go : ∀ y, y = min (S 3) x → ∃ G', jX9_pays_20 627 (nI x) (nI y) G = some G' ∧ MR (spendV S x) W Tx h n G' ∧ MB B G' ∧ FrM G G' := by
    intro y hy
    unfold jX9_pays_20
    have b1 := hM.set (k := 3) (x := S 3 - y)
    have e1 := b1.s (k := 4) (by omega)
    rw [vs_ne (by omega)] at e1
    have b2 := b1.set (k := 4) (x := S 4 + (x - y))
    rw [show (627 : Nat) + 1 = 628 from rfl, hM.s (k := 3) (by omega), pk_sub (by omega), lt_def, lt_def, e1, pk_sub (by omega), nI_add]
    refine ⟨_, rfl, ?_, (hB.set (by omega)).set (by omega), (FrM.m (by omega)).tr (FrM.m (by omega))⟩
    unfold spendV
    rw [← hy]
    exact b2
  rw [show (627 : Nat) + 1 = 628 from rfl, hM.s (k := 3) (by omega)]
  by_cases hle : x ≤ S 3
  · rw [if_pos (by rw [nI_leI (by omega) (by omega)]; exact hle)]
    exact go x (by omega)
  · rw [if_neg (by rw [nI_leI (by omega) (by omega)]; exact hle)]
    exact go (S 3) (by omega)
theorem m_give (hb : b < 90000000) (x1 : Int32) : ActM b (fX9_giveBack 627 x1) (oGive x1) := by
  intro S W Tx h n G hM hI
  unfold fX9_giveBack oGive
  have hN := hI.1
  rw [isField_m, bd_some']
  by_cases h1 : inF x1
  · rw [if_pos h1, if_neg (by decide), if_pos h1]
    obtain ⟨f, rfl, l1⟩ : ∃ f, x1 = nI f ∧ f ≤ 5 := ⟨tn x1, nat_in (hi := 5) (show inW 0 5 x1 from h1)⟩
    rw [tn_nI (by omega)]
    have hm := (hI.2 f (by omega)).2.2
    rw [con_m hM (by omega) (by omega), bd_some', Nat.add_zero]
    by_cases h5 : S (18 + 4 * f) = 0
    · rw [if_pos (by rw [h5]), if_pos h5]
      exact ⟨G, rfl, hM, FrM.rf⟩
    · rw [if_neg (by rw [nI_eq (by omega) (by omega)]; exact h5), if_neg h5]
      obtain ⟨G1, a1, a2, a3, a4⟩ := keeps_m hM
      obtain ⟨G2, p1, p2, p3, p4⟩ := pays_m (x := 5 * S (21 + 4 * f)) a2 a3 (by omega) (by omega) (by omega)
      rw [a1, bv_some', con_m a2 (by omega) (by omega), bd_some', show 18 + 4 * f + 3 = 21 + 4 * f by omega, nI_mulN, p1, bv_some']
      have step : ∀ i (s : Int32 × Mem), i < 4 → (s.1 = nI i ∧ MR (fun j => if 18 + 4 * f ≤ j ∧ j < 18 + 4 * f + i then 0 else spendV S (5 * S (21 + 4 * f)) j) W Tx h n s.2 ∧ MB S s.2 ∧ FrM G2 s.2) → ∃ s' : Int32 × Mem, (s'.1 = nI (i + 1) ∧ MR (fun j => if 18 + 4 * f ≤ j ∧ j < 18 + 4 * f + (i + 1) then 0 else spendV S (5 * S (21 + 4 * f)) j) W Tx h n s'.2 ∧ MB S s'.2 ∧ FrM G2 s'.2) ∧ ∀ rec, FX9_giveBack_41 627 (nI f) (nI (5 * S (21 + 4 * f))) rec s = rec s' := by
        intro i s hi hs
        obtain ⟨s1, Gs⟩ := s
        obtain ⟨h1, h2, h3, h4⟩ := hs
        simp only at h1 h2 h3 h4
        subst h1
        refine ⟨(nI (i + 1), mset Gs 628 (18 + 4 * f + i) (nI 0)), ⟨rfl, (h2.set (k := 18 + 4 * f + i) (x := 0)).ext (fun j hj => ?_), h3.set (by omega), h4.tr (FrM.m (by omega))⟩, fun rec => ?_⟩
        · unfold vs
          by_cases hj1 : j = 18 + 4 * f + i
          · rw [if_pos hj1, if_pos (by omega)]
          · rw [if_neg hj1]
            show _ = (if 18 + 4 * f ≤ j ∧ j < 18 + 4 * f + i then 0 else spendV S (5 * S (21 + 4 * f)) j)
            by_cases hj2 : 18 + 4 * f ≤ j ∧ j < 18 + 4 * f + i
            · rw [if_pos (c := 18 + 4 * f ≤ j ∧ j < 18 + 4 * f + (i + 1)) (by omega), if_pos hj2]
            · rw [if_neg (c := 18 + 4 * f ≤ j ∧ j < 18 + 4 * f + (i + 1)) (by omega), if_neg hj2]
        · show bX9_giveBack_41 627 (nI f) (nI (5 * S (21 + 4 * f))) rec (nI i) Gs = _
          unfold bX9_giveBack_41
          rw [if_neg (by rw [nI_leI (by omega) (by omega)]; omega), nI_mulN, nI_add, nI_add, nI_ix (by omega) (by omega), nI_clamp (by omega), lt_def, nI_add]
      obtain ⟨⟨s1, G3⟩, ⟨h1, h2, h3, h4⟩, rec', hrec⟩ := itr_inv (F := FX9_giveBack_41 627 (nI f) (nI (5 * S (21 + 4 * f)))) (fun i (s : Int32 × Mem) => s.1 = nI i ∧ MR (fun j => if 18 + 4 * f ≤ j ∧ j < 18 + 4 * f + i then 0 else spendV S (5 * S (21 + 4 * f)) j) W Tx h n s.2 ∧ MB S s.2 ∧ FrM G2 s.2) 4 step (nI 0, G2) ⟨rfl, p2.ext (fun j hj => if_neg (by omega)), p3, FrM.rf⟩ (by omega)
      simp only at h1 h2 h3 h4
      subst h1
      rw [hrec]
      obtain ⟨G4, c1, c2, c3⟩ := acted_m (r := 5 * S (21 + 4 * f)) (by omega) h2 h3
      refine ⟨G4, ?_, c2.ext (fun j hj => ?_), a4.tr (p4.tr (h4.tr c3))⟩
      · show bX9_giveBack_41 627 (nI f) (nI (5 * S (21 + 4 * f))) rec' (nI 4) G3 = _
        unfold bX9_giveBack_41
        rw [if_pos (by decide), c1, bd_some']
        rfl
      · show noC (spendV S (5 * S (21 + 4 * f))) f j = _
        unfold noC
        by_cases hj2 : 18 + 4 * f ≤ j ∧ j < 18 + 4 * f + 4
        · rw [if_pos (by omega), if_pos hj2]
        · rw [if_neg (by omega), if_neg hj2]
  · rw [if_neg h1, if_pos rfl, if_neg h1]
    exact ⟨G, rfl, hM, FrM.rf⟩
end
