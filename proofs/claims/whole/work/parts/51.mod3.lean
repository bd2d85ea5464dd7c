section
variable {G G' : Mem} {S W Tx B : Nat → Nat} {h n b : Nat}
theorem thick_m {f c : Nat} (hM : MR S W Tx h n G) (hf : f < 6) (hc : c < 30) (hx : S (42 + 30 * f + c) < 2 ^ 31) : fX9_thickness 627 (nI f) (nI c) G = some (nI (S (42 + 30 * f + c) / 4 % 16), G) := by
  unfold fX9_thickness
  rw [nI_mulN, nI_add, nI_add, nI_ix (by omega) (by omega), nI_clamp (by omega), show (627 : Nat) + 1 = 628 from rfl, hM.s (by omega), pk_div (by omega) (by omega) (by omega), nI_rem (by omega) (by omega) (by omega)]
theorem kind_m {f c : Nat} (hM : MR S W Tx h n G) (hf : f < 6) (hc : c < 30) (hx : S (42 + 30 * f + c) < 2 ^ 31) : fX9_kindOf 627 (nI f) (nI c) G = some (nI (S (42 + 30 * f + c) % 4), G) := by
  unfold fX9_kindOf
  rw [nI_mulN, nI_add, nI_add, nI_ix (by omega) (by omega), nI_clamp (by omega), show (627 : Nat) + 1 = 628 from rfl, hM.s (by omega), nI_rem (by omega) (by omega) (by omega)]
theorem lays_m {f c k t : Nat} (hM : MR S W Tx h n G) (hf : f < 6) (hc : c < 30) : fX9_lays 627 (nI f) (nI c) (nI k) (nI t) G = some (mset G 628 (42 + 30 * f + c) (nI (k + 4 * t))) := by
  unfold fX9_lays
  rw [nI_mulN, nI_add, nI_add, nI_ix (by omega) (by omega), nI_clamp (by omega), lt_def, nI_mulN, nI_add]
theorem con_m {f j : Nat} (hM : MR S W Tx h n G) (hf : f < 6) (hj : j < 4) : fX9_con 627 (nI f) (nI j) G = some (nI (S (18 + 4 * f + j)), G) := by
  unfold fX9_con
  rw [nI_mulN, nI_add, nI_add, nI_ix (by omega) (by omega), nI_clamp (by omega), show (627 : Nat) + 1 = 628 from rfl, hM.s (by omega)]
theorem ofKind_m {f k : Nat} (hM : MR S W Tx h n G) (hf : f < 6) (hk : k < 4) (hl : S (12 + f) ≤ 30) (hx : ∀ c, c < S (12 + f) → S (42 + 30 * f + c) < 2 ^ 31) : fX9_ofKind 627 (nI f) (nI k) G = some (nI (cn S f k), G) := by
  unfold fX9_ofKind
  refine itr_run (fun i : Nat => (nI (cnt (cf S f) k i), nI i, G)) (S (12 + f)) (fun i hi rec => ?_) (by omega) (fun rec => ?_)
  · show bX9_ofKind_5 627 (nI f) (nI k) rec (nI _) (nI i) G = rec (nI _, nI (i + 1), G)
    unfold bX9_ofKind_5
    have hxi := hx i hi
    rw [nI_add, nI_ix (by omega) (by omega), nI_clamp (by omega), show (627 : Nat) + 1 = 628 from rfl, hM.s (by omega), if_neg (by rw [nI_leI (by omega) (by omega)]; omega), kind_m hM hf (by omega) hxi, bd_some']
    unfold jX9_ofKind_36
    by_cases he : S (42 + 30 * f + i) % 4 = k
    · rw [if_pos (by rw [he]), nI_add, nI_add]
      show rec (nI (cnt (cf S f) k i + 1), _) = rec (nI (cnt (cf S f) k i + (if S (42 + 30 * f + i) % 4 = k then 1 else 0)), _)
      rw [if_pos he]
    · rw [if_neg (by rw [nI_eq (by omega) (by omega)]; exact he), nI_add, nI_add]
      show rec (nI (cnt (cf S f) k i + 0), _) = rec (nI (cnt (cf S f) k i + (if S (42 + 30 * f + i) % 4 = k then 1 else 0)), _)
      rw [if_neg he]
  · show bX9_ofKind_5 627 (nI f) (nI k) rec (nI _) (nI (S (12 + f))) G = _
    unfold bX9_ofKind_5
    rw [nI_add, nI_ix (by omega) (by omega), nI_clamp (by omega), show (627 : Nat) + 1 = 628 from rfl, hM.s (by omega), if_pos (by rw [nI_leI (by omega) (by omega)]; exact Nat.le_refl _)]
theorem ends_m {f : Nat} (hM : MR S W Tx h n G) (hB : MB B G) (hf : f < 6) (hl : S (12 + f) ≤ 30) (hx : ∀ c, c < S (12 + f) → S (42 + 30 * f + c) < 2 ^ 31) : ∃ G', fX9_ends 627 (nI f) G = some G' ∧ MR (sEnds S f) W Tx h n G' ∧ MB B G' ∧ FrM G G' := by
  unfold fX9_ends sEnds
  by_cases h0 : cn S f 0 = 0
  · rw [if_pos h0]
    have step : ∀ i (s : Int32 × Mem), i < 4 → (s.1 = nI i ∧ MR (fun j => if 18 + 4 * f ≤ j ∧ j < 18 + 4 * f + i then 0 else S j) W Tx h n s.2 ∧ MB B s.2 ∧ FrM G s.2) → ∃ s' : Int32 × Mem, (s'.1 = nI (i + 1) ∧ MR (fun j => if 18 + 4 * f ≤ j ∧ j < 18 + 4 * f + (i + 1) then 0 else S j) W Tx h n s'.2 ∧ MB B s'.2 ∧ FrM G s'.2) ∧ ∀ rec, FX9_ends_2 627 (nI f) rec s = rec s' := by
      intro i s hi hs
      obtain ⟨s1, Gs⟩ := s
      obtain ⟨h1, h2, h3, h4⟩ := hs
      simp only at h1 h2 h3 h4
      subst h1
      have e : vs (fun j => if 18 + 4 * f ≤ j ∧ j < 18 + 4 * f + i then 0 else S j) (18 + 4 * f + i) 0 = (fun j => if 18 + 4 * f ≤ j ∧ j < 18 + 4 * f + (i + 1) then 0 else S j) := by
        funext j
        unfold vs
        by_cases hj : j = 18 + 4 * f + i
        · rw [if_pos hj, if_pos (by omega)]
        · rw [if_neg hj]
          show (if 18 + 4 * f ≤ j ∧ j < 18 + 4 * f + i then 0 else S j) = _
          by_cases hc : 18 + 4 * f ≤ j ∧ j < 18 + 4 * f + i
          · rw [if_pos hc, if_pos (by omega)]
          · rw [if_neg hc, if_neg (by omega)]
      have h2' := MR.set (k := 18 + 4 * f + i) (x := 0) h2
      rw [e] at h2'
      refine ⟨(nI (i + 1), mset Gs 628 (18 + 4 * f + i) (nI 0)), ⟨rfl, h2', h3.set (by omega), h4.tr (FrM.m (by omega))⟩, fun rec => ?_⟩
      show bX9_ends_2 627 (nI f) rec (nI i) Gs = _
      unfold bX9_ends_2
      have ho := ofKind_m (f := f) (k := 0) h2 hf (by omega) (by show (if _ then _ else _) ≤ 30; rw [if_neg (by omega)]; exact hl) (fun c hc => by
        have hc' : c < S (12 + f) := by
          have hz : (if 18 + 4 * f ≤ 12 + f ∧ 12 + f < 18 + 4 * f + i then 0 else S (12 + f)) = S (12 + f) := if_neg (by omega)
          rw [← hz]; exact hc
        show (if _ then _ else _) < 2 ^ 31
        rw [if_neg (by omega)]; exact hx c hc')
      have hcn : cn (fun j => if 18 + 4 * f ≤ j ∧ j < 18 + 4 * f + i then 0 else S j) f 0 = 0 := by
        have hz : (if 18 + 4 * f ≤ 12 + f ∧ 12 + f < 18 + 4 * f + i then 0 else S (12 + f)) = S (12 + f) := if_neg (by omega)
        refine cnt_0.mpr (fun c hc => ?_)
        show (if _ then _ else _) % 4 ≠ 0
        rw [if_neg (by omega)]
        exact cnt_0.mp h0 c (by rw [← hz]; exact hc)
      rw [if_neg (by rw [nI_leI (by omega) (by omega)]; omega), ho, bd_some', hcn, if_pos rfl, nI_mulN, nI_add, nI_add, nI_ix (by omega) (by omega), nI_clamp (by omega), lt_def, nI_add]
    obtain ⟨⟨s1, G2⟩, ⟨h1, h2, h3, h4⟩, rec', hrec⟩ := itr_inv (F := FX9_ends_2 627 (nI f)) (fun i (s : Int32 × Mem) => s.1 = nI i ∧ MR (fun j => if 18 + 4 * f ≤ j ∧ j < 18 + 4 * f + i then 0 else S j) W Tx h n s.2 ∧ MB B s.2 ∧ FrM G s.2) 4 step (nI 0, G) ⟨rfl, by
      have : (fun j => if 18 + 4 * f ≤ j ∧ j < 18 + 4 * f + 0 then 0 else S j) = S := funext fun j => if_neg (by omega)
      rw [this]; exact hM, hB, FrM.rf⟩ (by omega)
    simp only at h1 h2 h3 h4
    subst h1
    rw [hrec]
    have e4 : (fun j => if 18 + 4 * f ≤ j ∧ j < 18 + 4 * f + 4 then 0 else S j) = noC S f := funext fun j => by
      unfold noC
      by_cases hc : 18 + 4 * f ≤ j ∧ j < 18 + 4 * f + 4
      · rw [if_pos hc, if_pos (by omega)]
      · rw [if_neg hc, if_neg (by omega)]
    rw [e4] at h2
    refine ⟨G2, ?_, h2, h3, h4⟩
    show bX9_ends_2 627 (nI f) rec' (nI 4) G2 = _
    unfold bX9_ends_2
    rw [if_pos (by decide)]
  · rw [if_neg h0]
    refine ⟨G, ?_, hM, hB, FrM.rf⟩
    have hcn : cn S f 0 ≤ S (12 + f) := cnt_le _ _ _
    show bX9_ends_2 627 (nI f) _ (nI 0) G = _
    unfold bX9_ends_2
    rw [if_neg (by decide), ofKind_m hM hf (by omega) hl hx, bd_some', if_neg (by rw [nI_eq (by omega) (by omega)]; exact h0)]
end
