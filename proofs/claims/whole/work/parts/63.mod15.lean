section
variable {G G' : Mem} {S S' W Tx B v : Nat → Nat} {h n b : Nat}
theorem age_m {f c x : Nat} (hM : MR S W Tx h n G) (hf : f < 6) (hc : c < 30) (he : S (42 + 30 * f + c) = x) (hx : x < 2 ^ 31) : fX9_age 627 (nI f) (nI c) G = some (nI (x / 64), G) := by
  unfold fX9_age
  rw [nI_mulN, nI_add, nI_add, nI_ix (by omega) (by omega), nI_clamp (by omega), show (627 : Nat) + 1 = 628 from rfl, hM.so (by omega) he, pk_div hx (by omega) (by omega)]
/-- a chain of the reference grows by a week -/
theorem grows_m {f c w : Nat} (hM : MR v W Tx h n G) (hB : MB B G) (hf : f < 6) (hc : c < 30) (hok : okc (v (42 + 30 * f + c))) (h0 : v 0 = w) (hw : w ≤ 1000) : ∃ G', fX9_grows 627 (nI f) (nI c) G = some G' ∧ MR (vs v (42 + 30 * f + c) (growc w (v (42 + 30 * f + c)))) W Tx h n G' ∧ MB B G' ∧ FrM G G' := by
  unfold fX9_grows
  have hx := okc_lt hok
  rw [kind_m hM hf hc hx, bd_some', thick_m hM hf hc hx, bd_some']
  obtain ⟨g0, g1⟩ := hok
  have set1 : ∀ y, y = growc w (v (42 + 30 * f + c)) → MR (vs v (42 + 30 * f + c) (growc w (v (42 + 30 * f + c)))) W Tx h n (mset G 628 (42 + 30 * f + c) (nI y)) ∧ MB B (mset G 628 (42 + 30 * f + c) (nI y)) ∧ FrM G (mset G 628 (42 + 30 * f + c) (nI y)) := fun y hy => by
    rw [hy]; exact ⟨hM.set, hB.set (by omega), FrM.m (by omega)⟩
  have same : growc w (v (42 + 30 * f + c)) = v (42 + 30 * f + c) → MR (vs v (42 + 30 * f + c) (growc w (v (42 + 30 * f + c)))) W Tx h n G ∧ MB B G ∧ FrM G G := fun hy => by
    refine ⟨hM.ext (fun k hk => ?_), hB, FrM.rf⟩
    unfold vs
    by_cases hk2 : k = 42 + 30 * f + c
    · rw [if_pos hk2, hy, hk2]
    · rw [if_neg hk2]
  have hg : growc w (v (42 + 30 * f + c)) = if v (42 + 30 * f + c) % 4 = 3 then (if v (42 + 30 * f + c) / 64 = 5 then 4 else v (42 + 30 * f + c) + 64) else if v (42 + 30 * f + c) % 4 = 0 ∧ w % 4 = 0 then 4 * (if v (42 + 30 * f + c) / 4 % 16 < 9 then v (42 + 30 * f + c) / 4 % 16 + 1 else 9) else if v (42 + 30 * f + c) % 4 = 1 ∧ w % 52 = 0 then (if 7 < v (42 + 30 * f + c) / 4 % 16 then 36 else 1 + 4 * (v (42 + 30 * f + c) / 4 % 16 + 2)) else v (42 + 30 * f + c) := rfl
  generalize hxx : v (42 + 30 * f + c) = x at *
  by_cases h3 : x % 4 = 3
  · rw [if_pos (by rw [h3]), age_m hM hf hc hxx hx, bd_some']
    by_cases h5 : x / 64 = 5
    · rw [if_pos (by rw [h5]), lays_m hM hf hc, bv_some']
      exact ⟨_, rfl, set1 _ (by rw [hg, if_pos h3, if_pos h5])⟩
    · rw [if_neg (by rw [nI_eq (by omega) (by omega)]; exact h5)]
      unfold jX9_grows_41
      rw [if_pos (by rw [h3]), nI_mulN, nI_add, nI_add, nI_ix (by omega) (by omega), nI_ix (by omega) (by omega), nI_clamp (by omega), lt_def, show (627 : Nat) + 1 = 628 from rfl, hM.so (by omega) hxx, nI_add]
      exact ⟨_, rfl, set1 _ (by rw [hg, if_pos h3, if_neg h5])⟩
  · have n3 : ¬ nI (x % 4) = nI 3 := by rw [nI_eq (by omega) (by omega)]; exact h3
    rw [if_neg n3]
    rw [if_neg h3] at hg
    unfold jX9_grows_41
    have r4 : nI w - nI w / nI 4 * nI 4 = nI (w % 4) := nI_rem (by omega) (by omega) (by omega)
    have r52 : nI w - nI w / nI 52 * nI 52 = nI (w % 52) := nI_rem (by omega) (by omega) (by omega)
    rw [if_neg n3, show (627 : Nat) + 1 = 628 from rfl, hM.so (k := 0) (by omega) h0, r4]
    have g109 : ¬ (x % 4 = 0 ∧ w % 4 = 0) → ∃ G', jX9_grows_109 627 (nI f) (nI c) (nI (x % 4)) (nI (x / 4 % 16)) G = some G' ∧ MR (vs v (42 + 30 * f + c) (growc w x)) W Tx h n G' ∧ MB B G' ∧ FrM G G' := by
      intro hno
      rw [if_neg hno] at hg
      unfold jX9_grows_109
      rw [show (627 : Nat) + 1 = 628 from rfl, hM.so (k := 0) (by omega) h0, r52]
      by_cases h1 : x % 4 = 1
      · rw [if_pos (by rw [h1])]
        by_cases h52 : w % 52 = 0
        · rw [if_pos (by rw [h52])]
          rw [if_pos ⟨h1, h52⟩] at hg
          by_cases h7 : x / 4 % 16 ≤ 7
          · have c7 : nI (x / 4 % 16) ≤ nI 7 := by rw [nI_leI (by omega) (by omega)]; exact h7
            unfold jX9_grows_141
            rw [if_pos c7, if_pos c7, nI_add, lays_m hM hf hc, bv_some']
            exact ⟨_, rfl, set1 _ (by rw [hg, if_neg (by omega)])⟩
          · have c7 : ¬ nI (x / 4 % 16) ≤ nI 7 := by rw [nI_leI (by omega) (by omega)]; exact h7
            unfold jX9_grows_141
            rw [if_neg c7, if_neg c7, lays_m hM hf hc, bv_some']
            exact ⟨_, rfl, set1 _ (by rw [hg, if_pos (by omega)])⟩
        · rw [if_neg (by rw [nI_eq (by omega) (by omega)]; exact h52)]
          rw [if_neg (fun z => h52 z.2)] at hg
          exact ⟨_, rfl, same hg⟩
      · rw [if_neg (by rw [nI_eq (by omega) (by omega)]; exact h1)]
        rw [if_neg (fun z => h1 z.1)] at hg
        exact ⟨_, rfl, same hg⟩
    by_cases k0 : x % 4 = 0
    · rw [if_pos (by rw [k0])]
      by_cases k4 : w % 4 = 0
      · rw [if_pos (by rw [k4])]
        rw [if_pos ⟨k0, k4⟩] at hg
        by_cases k9 : 9 ≤ x / 4 % 16
        · rw [if_pos (by rw [nI_leI (by omega) (by omega)]; exact k9), lays_m hM hf hc, bv_some']
          exact ⟨_, rfl, set1 _ (by rw [hg, if_neg (by omega)])⟩
        · rw [if_neg (by rw [nI_leI (by omega) (by omega)]; exact k9), nI_add, lays_m hM hf hc, bv_some']
          exact ⟨_, rfl, set1 _ (by rw [hg, if_pos (by omega)]; omega)⟩
      · rw [if_neg (by rw [nI_eq (by omega) (by omega)]; exact k4)]
        exact g109 (fun z => k4 z.2)
    · rw [if_neg (by rw [nI_eq (by omega) (by omega)]; exact k0)]
      exact g109 (fun z => k0 z.1)
/-- fields below f have grown, of field f the chains below c -/
def gro2 (v : Nat → Nat) (w f c : Nat) : Nat → Nat := fun j => if 42 ≤ j ∧ j < 42 + 30 * f + c ∧ (j - 42) % 30 < v (12 + (j - 42) / 30) then growc w (v j) else v j
theorem gro2_lo {w f c j : Nat} (h : j < 42) : gro2 v w f c j = v j := if_neg (by omega)
theorem gro2_0 {w f : Nat} : gro2 v w f 0 = growTo v w f := rfl
theorem gro2_end {w f : Nat} (hl : v (12 + f) ≤ 30) : gro2 v w f (v (12 + f)) = growTo v w (f + 1) := by
  funext j
  unfold gro2 growTo
  by_cases h1 : 42 ≤ j ∧ j < 42 + 30 * f + v (12 + f) ∧ (j - 42) % 30 < v (12 + (j - 42) / 30)
  · rw [if_pos h1, if_pos (by omega)]
  · rw [if_neg h1]
    by_cases h2 : 42 ≤ j ∧ j < 42 + 30 * (f + 1) ∧ (j - 42) % 30 < v (12 + (j - 42) / 30)
    · exfalso
      have h3 : (j - 42) / 30 = f := by omega
      rw [h3] at h1 h2
      omega
    · rw [if_neg h2]
theorem gro2_at {w f c : Nat} (hc : c < 30) : gro2 v w f c (42 + 30 * f + c) = v (42 + 30 * f + c) := if_neg (by omega)
theorem gro2_succ {w f c : Nat} (hc : c < 30) (hl : c < v (12 + f)) : vs (gro2 v w f c) (42 + 30 * f + c) (growc w (v (42 + 30 * f + c))) = gro2 v w f (c + 1) := by
  funext j
  unfold vs gro2
  by_cases h1 : j = 42 + 30 * f + c
  · have e1 : (j - 42) / 30 = f := by omega
    have e2 : (j - 42) % 30 = c := by omega
    rw [if_pos h1, e1, e2, if_pos (by omega), h1]
  · rw [if_neg h1]
    by_cases h2 : 42 ≤ j ∧ j < 42 + 30 * f + c ∧ (j - 42) % 30 < v (12 + (j - 42) / 30)
    · rw [if_pos h2, if_pos (by omega)]
    · rw [if_neg h2, if_neg (by omega)]
theorem spendV_add {x y : Nat} : spendV (spendV v x) y = spendV v (x + y) := by
  funext j
  have e3 : spendV v x 3 = v 3 - min (v 3) x := by unfold spendV; rw [vs_ne (by omega), vs_eq]
  have e4 : spendV v x 4 = v 4 + (x - min (v 3) x) := by unfold spendV; rw [vs_eq]
  by_cases h3 : j = 3
  · subst h3
    show vs (vs (spendV v x) 3 _) 4 _ 3 = vs (vs v 3 _) 4 _ 3
    rw [vs_ne (by omega), vs_eq, vs_ne (by omega), vs_eq, e3]
    omega
  · by_cases h4 : j = 4
    · subst h4
      show vs (vs (spendV v x) 3 _) 4 _ 4 = vs (vs v 3 _) 4 _ 4
      rw [vs_eq, vs_eq, e3, e4]
      omega
    · rw [spendV_ne h3 h4, spendV_ne h3 h4, spendV_ne h3 h4]
theorem fineV_spend {x f : Nat} : fineV (spendV v x) f = fineV v f := by
  have e : ∀ j, j ≠ 3 → j ≠ 4 → spendV v x j = v j := fun j h3 h4 => spendV_ne h3 h4
  have ec : cn (spendV v x) f 0 = cn v f 0 := by
    show cnt (cf (spendV v x) f) 0 (spendV v x (12 + f)) = cnt (cf v f) 0 (v (12 + f))
    rw [e _ (by omega) (by omega)]
    exact cnt_ext (fun c hc => by show spendV v x (42 + 30 * f + c) % 4 = v (42 + 30 * f + c) % 4; rw [e _ (by omega) (by omega)])
  unfold fineV
  rw [e _ (by omega) (by omega), e _ (by omega) (by omega), e 0 (by omega) (by omega), e _ (by omega) (by omega), ec]
theorem sumF_lei {g : Nat → Nat} {i m : Nat} (h : i ≤ m) : sumF g i ≤ sumF g m := by
  induction m with
  | zero => have : i = 0 := by omega
            subst this; exact Nat.le_refl _
  | succ m ih =>
    by_cases hi : i = m + 1
    · subst hi; exact Nat.le_refl _
    · have := ih (by omega)
      show sumF g i ≤ sumF g m + g m
      omega
theorem passesOne_m (hM : MR v W Tx h n G) (hB : MB B G) (hI : LI b v) (hb : b < 90000000) (h0 : v 0 < 1000) : ∃ G', fX9_passesOne 627 G = some (nI (dueV v), G') ∧ MR (weekV v) W Tx h n G' ∧ MB B G' ∧ FrM G G' := by
  unfold fX9_passesOne
  have hN := hI.1
  have b1 := hM.set (k := 0) (x := v 0 + 1)
  have b2 := b1.set (k := 1) (x := v 11)
  have hB2 : MB B (mset (mset G 628 0 (nI (v 0 + 1))) 628 1 (nI (v 11))) := (hB.set (by omega)).set (by omega)
  have hF2 : FrM G (mset (mset G 628 0 (nI (v 0 + 1))) 628 1 (nI (v 11))) := (FrM.m (by omega)).tr (FrM.m (by omega))
  rw [show (627 : Nat) + 1 = 628 from rfl, hM.s (k := 0) (by omega), nI_add, lt_def, b1.so (k := 11) (by omega) (vs_ne (by omega)), lt_def]
  generalize mset (mset G 628 0 (nI (v 0 + 1))) 628 1 (nI (v 11)) = G2 at *
  have hI1 := LI_week1 hI h0
  have b2 : MR (week1 v) W Tx h n G2 := b2
  have w0 : week1 v 0 = v 0 + 1 := by unfold week1; rw [vs_ne (by omega), vs_eq]
  -- the chains of one field
  have inner : ∀ (rec27 : (Int32 × Mem) → Option (Int32 × Mem)) (f : Nat) (Gf : Mem), f < 6 → MR (growTo (week1 v) (v 0 + 1) f) W Tx h n Gf → MB B Gf → FrM G Gf → ∃ G' : Mem, itr FU (FX9_passesOne_35 rec27 627 (nI 0) (nI f)) (nI 0, Gf) = rec27 (nI (f + 1), G') ∧ MR (growTo (week1 v) (v 0 + 1) (f + 1)) W Tx h n G' ∧ MB B G' ∧ FrM G G' := by
    intro rec27 f Gf hf hMf hBf hFf
    have hl := hI1.len hf
    have step : ∀ i (s : Int32 × Mem), i < week1 v (12 + f) → (s.1 = nI i ∧ MR (gro2 (week1 v) (v 0 + 1) f i) W Tx h n s.2 ∧ MB B s.2 ∧ FrM G s.2) → ∀ rec, ∃ s' : Int32 × Mem, (s'.1 = nI (i + 1) ∧ MR (gro2 (week1 v) (v 0 + 1) f (i + 1)) W Tx h n s'.2 ∧ MB B s'.2 ∧ FrM G s'.2) ∧ FX9_passesOne_35 rec27 627 (nI 0) (nI f) rec s = rec s' := by
      intro i s hi hs rec
      obtain ⟨s1, Gs⟩ := s
      obtain ⟨h1, h2, h3, h4⟩ := hs
      simp only at h1 h2 h3 h4
      subst h1
      have hat : gro2 (week1 v) (v 0 + 1) f i (42 + 30 * f + i) = week1 v (42 + 30 * f + i) := gro2_at (by omega)
      obtain ⟨G3, d1, d2, d3, d4⟩ := grows_m (f := f) (c := i) (w := v 0 + 1) h2 h3 hf (by omega) (by rw [hat]; exact (hI1.2 f hf).2.1 i hi) (by rw [gro2_lo (by omega), w0]) (by omega)
      rw [hat, gro2_succ (by omega) hi] at d2
      refine ⟨(nI (i + 1), G3), ⟨rfl, d2, d3, h4.tr d4⟩, ?_⟩
      show bX9_passesOne_35 rec27 627 (nI 0) (nI f) rec (nI i) Gs = _
      unfold bX9_passesOne_35
      rw [nI_add 12 f, nI_ix (by omega) (by omega), nI_clamp (by omega), show (627 : Nat) + 1 = 628 from rfl, h2.so (k := 12 + f) (by omega) (gro2_lo (by omega)), if_neg (by rw [nI_leI (by omega) (by omega)]; omega), d1, bv_some', nI_add]
    obtain ⟨⟨s1, G3⟩, ⟨h1, h2, h3, h4⟩, rec', hrec⟩ := itr_inv2 (F := FX9_passesOne_35 rec27 627 (nI 0) (nI f)) (fun i (s : Int32 × Mem) => s.1 = nI i ∧ MR (gro2 (week1 v) (v 0 + 1) f i) W Tx h n s.2 ∧ MB B s.2 ∧ FrM G s.2) (week1 v (12 + f)) step (nI 0, Gf) ⟨rfl, hMf, hBf, hFf⟩ (by omega)
    simp only at h1 h2 h3 h4
    subst h1
    refine ⟨G3, ?_, ?_, h3, h4⟩
    · rw [hrec]
      show bX9_passesOne_35 rec27 627 (nI 0) (nI f) rec' (nI (week1 v (12 + f))) G3 = _
      unfold bX9_passesOne_35
      rw [nI_add 12 f, nI_ix (by omega) (by omega), nI_clamp (by omega), show (627 : Nat) + 1 = 628 from rfl, h2.so (k := 12 + f) (by omega) (gro2_lo (by omega)), if_pos (by rw [nI_leI (by omega) (by omega)]; exact Nat.le_refl _), nI_add]
    · rw [gro2_end hl.2] at h2
      exact h2
  -- all fields
  have step : ∀ i (s : Int32 × Mem), i < 6 → (s.1 = nI i ∧ MR (growTo (week1 v) (v 0 + 1) i) W Tx h n s.2 ∧ MB B s.2 ∧ FrM G s.2) → ∀ rec, ∃ s' : Int32 × Mem, (s'.1 = nI (i + 1) ∧ MR (growTo (week1 v) (v 0 + 1) (i + 1)) W Tx h n s'.2 ∧ MB B s'.2 ∧ FrM G s'.2) ∧ FX9_passesOne_27 627 (nI 0) rec s = rec s' := by
    intro i s hi hs rec
    obtain ⟨s1, Gs⟩ := s
    obtain ⟨h1, h2, h3, h4⟩ := hs
    simp only at h1 h2 h3 h4
    subst h1
    obtain ⟨G3, d1, d2, d3, d4⟩ := inner rec i Gs hi h2 h3 h4
    refine ⟨(nI (i + 1), G3), ⟨rfl, d2, d3, d4⟩, ?_⟩
    show bX9_passesOne_27 627 (nI 0) rec (nI i) Gs = _
    unfold bX9_passesOne_27
    rw [if_neg (by rw [nI_leI (by omega) (by omega)]; omega), d1]
  obtain ⟨⟨s1, G3⟩, ⟨h1, h2, h3, h4⟩, rec', hrec⟩ := itr_inv2 (F := FX9_passesOne_27 627 (nI 0)) (fun i (s : Int32 × Mem) => s.1 = nI i ∧ MR (growTo (week1 v) (v 0 + 1) i) W Tx h n s.2 ∧ MB B s.2 ∧ FrM G s.2) 6 step (nI 0, G2) ⟨rfl, b2.ext (fun k hk => if_neg (by omega)), hB2, hF2⟩ (by omega)
  simp only at h1 h2 h3 h4
  subst h1
  rw [hrec]
  have h2 : MR (week2 v) W Tx h n G3 := h2
  have hI2 := LI_week2 hI h0
  have hN2 := hI2.1
  -- the fines
  have step2 : ∀ i (s : Int32 × Int32 × Mem), i < 6 → (s.1 = nI (sumF (fineV (week2 v)) i) ∧ s.2.1 = nI i ∧ MR (spendV (week2 v) (sumF (fineV (week2 v)) i)) W Tx h n s.2.2 ∧ MB B s.2.2 ∧ FrM G s.2.2) → ∃ s' : Int32 × Int32 × Mem, (s'.1 = nI (sumF (fineV (week2 v)) (i + 1)) ∧ s'.2.1 = nI (i + 1) ∧ MR (spendV (week2 v) (sumF (fineV (week2 v)) (i + 1))) W Tx h n s'.2.2 ∧ MB B s'.2.2 ∧ FrM G s'.2.2) ∧ ∀ rec, FX9_passesOne_68 627 rec s = rec s' := by
    intro i s hi hs
    obtain ⟨s1, s2, Gs⟩ := s
    obtain ⟨h1, h5, h6, h7, h8⟩ := hs
    simp only at h1 h5 h6 h7 h8
    subst h1 h5
    have hd : sumF (fineV (week2 v)) i ≤ 270 * i := sumF_le (fun j hj => fineV_le hI2 (by omega))
    have hfi := fineV_le hI2 hi
    have hIs := LI_spend (x := sumF (fineV (week2 v)) i) hI2
    have hNs := hIs.1
    have e : ∀ j, j ≠ 3 → j ≠ 4 → spendV (week2 v) (sumF (fineV (week2 v)) i) j = week2 v j := fun j q3 q4 => spendV_ne q3 q4
    obtain ⟨G4, p1, p2, p3, p4⟩ := pays_m (x := fineV (week2 v) i) h6 h7 (by omega) (by omega) (by omega)
    rw [spendV_add] at p2
    have hlo := (hI2.2 i hi).2.2
    have hlen := (hI2.len hi).2
    have hcn : cn (week2 v) i 0 ≤ 30 := Nat.le_trans (cnt_le _ _ _) hlen
    have hcn2 : cn (spendV (week2 v) (sumF (fineV (week2 v)) i)) i 0 = cn (week2 v) i 0 := by
      show cnt (cf _ i) 0 (spendV _ _ (12 + i)) = cnt (cf (week2 v) i) 0 (week2 v (12 + i))
      rw [e _ (by omega) (by omega)]
      exact cnt_ext (fun c hc => by show spendV _ _ (42 + 30 * i + c) % 4 = week2 v (42 + 30 * i + c) % 4; rw [e _ (by omega) (by omega)])
    have hok := ofKind_m (f := i) (k := 0) h6 hi (by omega) (hIs.len hi).2 (fun c hc => hIs.cx hi hc)
    rw [hcn2] at hok
    refine ⟨(nI (sumF (fineV (week2 v)) (i + 1)), nI (i + 1), G4), ⟨rfl, rfl, p2, p3, h8.tr p4⟩, fun rec => ?_⟩
    have h116 : ∀ y, y = fineV (week2 v) i → jX9_passesOne_116 rec 627 (nI (sumF (fineV (week2 v)) i)) (nI i) (nI y) Gs = rec (nI (sumF (fineV (week2 v)) (i + 1)), nI (i + 1), G4) := by
      intro y hy
      subst hy
      unfold jX9_passesOne_116
      rw [p1, bv_some', nI_add, nI_add]
      rfl
    show bX9_passesOne_68 627 rec (nI (sumF (fineV (week2 v)) i)) (nI i) Gs = _
    unfold bX9_passesOne_68 jX9_passesOne_115
    rw [if_neg (by rw [nI_leI (by omega) (by omega)]; omega), con_of h6 hi (by omega) (x := week2 v (18 + 4 * i)) (by rw [Nat.add_zero]; exact e _ (by omega) (by omega)), bd_some']
    by_cases k1 : week2 v (18 + 4 * i) = 1
    · rw [if_pos (by rw [k1]), con_of h6 hi (by omega) (x := week2 v (20 + 4 * i)) (by rw [e _ (by omega) (by omega)]; exact congrArg _ (by omega)), bd_some', show (627 : Nat) + 1 = 628 from rfl, h6.so (k := 0) (by omega) (e 0 (by omega) (by omega))]
      by_cases k2 : week2 v 0 ≤ week2 v (20 + 4 * i)
      · rw [if_pos (by rw [nI_leI (by omega) (by omega)]; exact k2)]
        exact h116 0 (by unfold fineV; rw [if_neg (by omega)])
      · rw [if_neg (by rw [nI_leI (by omega) (by omega)]; exact k2), con_of h6 hi (by omega) (x := week2 v (21 + 4 * i)) (by rw [e _ (by omega) (by omega)]; exact congrArg _ (by omega)), bd_some', hok, bd_some', nI_mulN]
        exact h116 _ (by unfold fineV; rw [if_pos ⟨k1, by omega⟩])
    · rw [if_neg (by rw [nI_eq (by omega) (by omega)]; exact k1)]
      exact h116 0 (by unfold fineV; rw [if_neg (fun z => k1 z.1)])
  have hzero : spendV (week2 v) (sumF (fineV (week2 v)) 0) = week2 v := by
    funext j
    show vs (vs (week2 v) 3 (week2 v 3 - min (week2 v 3) 0)) 4 (week2 v 4 + (0 - min (week2 v 3) 0)) j = _
    unfold vs
    by_cases j4 : j = 4
    · rw [if_pos j4, j4]; omega
    · rw [if_neg j4]
      by_cases j3 : j = 3
      · rw [if_pos j3, j3]; omega
      · rw [if_neg j3]
  obtain ⟨⟨s1, s2, G4⟩, ⟨k1, k2, k3, k4, k5⟩, rec2, hrec2⟩ := itr_inv (F := FX9_passesOne_68 627) (fun i (s : Int32 × Int32 × Mem) => s.1 = nI (sumF (fineV (week2 v)) i) ∧ s.2.1 = nI i ∧ MR (spendV (week2 v) (sumF (fineV (week2 v)) i)) W Tx h n s.2.2 ∧ MB B s.2.2 ∧ FrM G s.2.2) 6 step2 (nI 0, nI 0, G3) ⟨rfl, rfl, by rw [hzero]; exact h2, h3, h4⟩ (by omega)
  simp only at k1 k2 k3 k4 k5
  subst k1 k2
  have q6 : week2 v 6 = v 6 := by unfold week2; rw [growTo_lo (by omega)]; unfold week1; rw [vs_ne (by omega), vs_ne (by omega)]
  have b6 := k3.set (k := 6) (x := v 6 + dueV v)
  refine ⟨mset G4 628 6 (nI (v 6 + dueV v)), ?_, b6.ext (fun k hk => ?_), k4.set (by omega), k5.tr (FrM.m (by omega))⟩
  · show bX9_passesOne_27 627 (nI 0) rec' (nI 6) G3 = _
    unfold bX9_passesOne_27
    rw [if_pos (by rw [nI_leI (by omega) (by omega)]; exact Nat.le_refl _), hrec2]
    show bX9_passesOne_68 627 rec2 (nI (sumF (fineV (week2 v)) 6)) (nI 6) G4 = _
    unfold bX9_passesOne_68
    rw [if_pos (by rw [nI_leI (by omega) (by omega)]; exact Nat.le_refl _), show (627 : Nat) + 1 = 628 from rfl, k3.so (k := 6) (by omega) ((spendV_ne (by omega) (by omega)).trans q6), nI_add, lt_def]
    rfl
  · unfold weekV
    show _ = vs (spendV (week2 v) (dueV v)) 6 (v 6 + dueV v) k
    unfold spendV vs
    repeat' split
    all_goals first
      | rfl
      | omega
theorem m_pass (hb : b < 89000000) (x1 : Int32) : ActM b (fX9_pass 627 x1) (oPass x1) := by
  intro S W Tx h n G hM hI
  unfold fX9_pass oPass
  have hN := hI.1
  rw [in_m (by omega) (by omega), bd_some']
  by_cases hx : inW 1 60 x1
  · rw [if_pos hx, if_neg (by decide), if_pos hx]
    obtain ⟨m, rfl, hm⟩ : ∃ m, x1 = nI m ∧ m ≤ 60 := ⟨tn x1, tn_eq (by have := hx.1; omega), by have := tn_int (x := x1) (by have := hx.1; omega); have := hx.2; omega⟩
    rw [tn_nI (by omega), show (627 : Nat) + 1 = 628 from rfl, hM.s (k := 0) (by omega), nI_add]
    by_cases h0 : S 0 + m ≤ 1000
    · rw [if_pos (by rw [nI_leI (by omega) (by omega)]; exact h0), if_pos h0]
      obtain ⟨G1, a1, a2, a3, a4⟩ := keeps_m hM
      rw [a1, bv_some']
      have step : ∀ i (s : Int32 × Int32 × Mem), i < m → (s.1 = nI (dueN S i) ∧ s.2.1 = nI i ∧ MR (weeksV S i) W Tx h n s.2.2 ∧ MB S s.2.2 ∧ FrM G1 s.2.2) → ∃ s' : Int32 × Int32 × Mem, (s'.1 = nI (dueN S (i + 1)) ∧ s'.2.1 = nI (i + 1) ∧ MR (weeksV S (i + 1)) W Tx h n s'.2.2 ∧ MB S s'.2.2 ∧ FrM G1 s'.2.2) ∧ ∀ rec, FX9_pass_37 627 (nI m) rec s = rec s' := by
        intro i s hi hs
        obtain ⟨s1, s2, Gs⟩ := s
        obtain ⟨h1, h2, h3, h4, h5⟩ := hs
        simp only at h1 h2 h3 h4 h5
        subst h1 h2
        obtain ⟨G2, d1, d2, d3, d4⟩ := passesOne_m h3 h4 (LI_sub hI (by omega) (by omega)) (by omega) (by rw [weeksV_0]; omega)
        refine ⟨(nI (dueN S (i + 1)), nI (i + 1), G2), ⟨rfl, rfl, d2, d3, h5.tr d4⟩, fun rec => ?_⟩
        show bX9_pass_37 627 (nI m) rec (nI (dueN S i)) (nI i) Gs = _
        unfold bX9_pass_37
        rw [if_neg (by rw [nI_leI (by omega) (by omega)]; omega), d1, bd_some', nI_add, nI_add]
        rfl
      obtain ⟨⟨s1, s2, G2⟩, ⟨h1, h2, h3, h4, h5⟩, rec', hrec⟩ := itr_inv (F := FX9_pass_37 627 (nI m)) (fun i (s : Int32 × Int32 × Mem) => s.1 = nI (dueN S i) ∧ s.2.1 = nI i ∧ MR (weeksV S i) W Tx h n s.2.2 ∧ MB S s.2.2 ∧ FrM G1 s.2.2) m step (nI 0, nI 0, G1) ⟨rfl, rfl, a2, a3, FrM.rf⟩ (by omega)
      simp only at h1 h2 h3 h4 h5
      subst h1 h2
      rw [hrec]
      have hdue : dueN S m ≤ 1620 * m := sumF_le (fun i hi => dueV_le (LI_sub (m := i) hI (by omega) (by omega)) (by rw [weeksV_0]; omega))
      obtain ⟨G4, c1, c2, c3⟩ := acted_m (r := dueN S m) (by omega) h3 h4
      refine ⟨G4, ?_, c2, a4.tr (h5.tr c3)⟩
      show bX9_pass_37 627 (nI m) rec' (nI (dueN S m)) (nI m) G2 = _
      unfold bX9_pass_37
      rw [if_pos (by rw [nI_leI (by omega) (by omega)]; exact Nat.le_refl _), c1, bd_some']
      rfl
    · rw [if_neg (by rw [nI_leI (by omega) (by omega)]; exact h0), if_neg h0]
      exact ⟨G, rfl, hM, FrM.rf⟩
  · rw [if_neg hx, if_pos rfl, if_neg hx]
    exact ⟨G, rfl, hM, FrM.rf⟩
end
