/-! the class's best order -/
def allN (v : Nat → Nat) : Nat → Nat := sumF (fun k => v (18 + 4 * k) * 2 ^ k)
def FrO (G G' : Mem) : Prop := ∀ a, (a < 622 ∨ 626 < a) → G' a = G a
theorem FrO.rf {G : Mem} : FrO G G := fun _ _ => rfl
theorem FrO.tr {G G1 G2 : Mem} (h1 : FrO G G1) (h2 : FrO G1 G2) : FrO G G2 := fun a h => (h2 a h).trans (h1 a h)
theorem FrO.m {G : Mem} {q j : Nat} {x : Int32} (h1 : 622 ≤ q) (h2 : q ≤ 626) : FrO G (mset G q j x) := fun a ha => mset_ne (by omega)
/-- what Orders looks at -/
def OR (v : Nat → Nat) (G : Mem) : Prop := G 622 4 = nI (allN v 6) ∧ G 622 5 = nI (v 0) ∧ ∀ f, f < 6 → G 623 f = nI (wks v f) ∧ (v (18 + 4 * f) = 1 → G 624 f = nI (v (20 + 4 * f)) ∧ G 625 f = nI (v (21 + 4 * f) * cn v f 0))
section
variable {G G' : Mem} {v : Nat → Nat} {b : Nat}
theorem allN_lt (hI : LI b v) : ∀ i, i ≤ 6 → allN v i < 2 ^ i := by
  intro i
  induction i with
  | zero => intro _; show 0 < 2 ^ 0; decide
  | succ i ih =>
    intro hi
    have h1 := ih (by omega)
    have h2 := (hI.2 i (by omega)).2.2.1
    show allN v i + v (18 + 4 * i) * 2 ^ i < 2 ^ (i + 1)
    have h3 : v (18 + 4 * i) * 2 ^ i ≤ 1 * 2 ^ i := Nat.mul_le_mul h2 (Nat.le_refl _)
    rw [Nat.pow_succ]
    omega
theorem allN_bt (hI : LI b v) {k : Nat} (hk : k < 6) : bt (allN v 6) k = v (18 + 4 * k) := by
  have e : allN v 6 = v 18 + v 22 * 2 + v 26 * 4 + v 30 * 8 + v 34 * 16 + v 38 * 32 := by
    show 0 + v (18 + 4 * 0) * 2 ^ 0 + v (18 + 4 * 1) * 2 ^ 1 + v (18 + 4 * 2) * 2 ^ 2 + v (18 + 4 * 3) * 2 ^ 3 + v (18 + 4 * 4) * 2 ^ 4 + v (18 + 4 * 5) * 2 ^ 5 = _
    simp
  have h0 := (hI.2 0 (by omega)).2.2.1
  have h1 := (hI.2 1 (by omega)).2.2.1
  have h2 := (hI.2 2 (by omega)).2.2.1
  have h3 := (hI.2 3 (by omega)).2.2.1
  have h4 := (hI.2 4 (by omega)).2.2.1
  have h5 := (hI.2 5 (by omega)).2.2.1
  simp only [Nat.mul_zero, Nat.add_zero, Nat.reduceMul, Nat.reduceAdd] at h0 h1 h2 h3 h4 h5
  rw [e]
  show (v 18 + v 22 * 2 + v 26 * 4 + v 30 * 8 + v 34 * 16 + v 38 * 32) / 2 ^ k % 2 = _
  rcases (show k = 0 ∨ k = 1 ∨ k = 2 ∨ k = 3 ∨ k = 4 ∨ k = 5 by omega) with rfl | rfl | rfl | rfl | rfl | rfl <;> simp only [Nat.reducePow, Nat.reduceMul, Nat.reduceAdd] <;> omega
theorem all64 (hI : LI b v) : allN v 6 < 64 := allN_lt hI 6 (by omega)
theorem finePerWeek_any {f : Nat} (h : LR 2 v G) (hI : LI b v) (hf : f < 6) : ∃ z, fX4_finePerWeek 2 (nI f) G = some (z, G) ∧ (v (18 + 4 * f) = 1 → z = nI (v (21 + 4 * f) * cn v f 0)) := by
  refine ⟨G (2 + 7 + 5 * f) 3 * nI (cn v f 0), ?_, fun hm => ?_⟩
  · unfold fX4_finePerWeek
    have hn : fX1_numberOf (2 + 3 + 5 * f) (nI 0) G = some (nI (cn v f 0), G) := numberOf_eq (k := 0) (h.2.1 f hf) (hI.len hf).2 (by omega)
    rw [nI_ix (by omega) (by omega), nI_ix (by omega) (by omega), cl_nI hf, hn, bd_some']
  · rw [((h.2.2 f hf).2 hm).2.2, nI_mulN]
theorem look45 {i : Nat} (h : LR 2 v G) (hI : LI b v) (hi : i < 6) : ∃ (z y : Int32), (∀ rec, jX5_lookAt_45 rec 622 2 (nI i) G = rec (nI (i + 1), mset (mset (mset G 623 i (nI (wks v i))) 624 i z) 625 i y)) ∧ (v (18 + 4 * i) = 1 → z = nI (v (20 + 4 * i)) ∧ y = nI (v (21 + 4 * i) * cn v i 0)) := by
  have h2 : LR 2 v (mset (mset G 623 i (nI (wks v i))) 624 i (G (2 + 7 + 5 * i) 2)) := h.cg (fun a ha ha2 => by rw [mset_ne (by omega), mset_ne (by omega)])
  obtain ⟨y, e1, e2⟩ := finePerWeek_any h2 hI hi
  refine ⟨G (2 + 7 + 5 * i) 2, y, fun rec => ?_, fun hm => ⟨((h.2.2 i hi).2 hm).2.1, e2 hm⟩⟩
  unfold jX5_lookAt_45
  have hw : fX4_weeksOfWork 2 (nI i) G = some (nI (wks v i), G) := weeksOfWork_c h hI hi
  have e3 : mset G 623 i (nI (wks v i)) (2 + 7 + 5 * i) 2 = G (2 + 7 + 5 * i) 2 := by rw [mset_ne (by omega)]
  rw [hw, bd_some', nI_ix (by omega) (by omega), nI_clamp (by omega), lt_def, nI_ix (by omega) (by omega), nI_ix (by omega) (by omega), lt_def, show (622 : Nat) + 1 = 623 from rfl, show (622 : Nat) + 2 = 624 from rfl, e3, e1, bd_some', nI_ix (by omega) (by omega), lt_def, nI_add]
theorem lookAt_c (h : LR 2 v G) (hI : LI b v) : ∃ G', fX5_lookAt 622 2 G = some G' ∧ OR v G' ∧ FrO G G' := by
  unfold fX5_lookAt
  have hN := hI.1
  have g0 : FrO G (mset (mset G 622 4 (nI 0)) 622 5 (nI (v 0))) := (FrO.m (by omega) (by omega)).tr (FrO.m (by omega) (by omega))
  rw [lt_def, lt_def, mset_ne (show (2 : Nat) ≠ 622 by omega), show G 2 2 = nI (v 0) from h.1 2 (by omega) (by omega)]
  have step : ∀ i (s : Int32 × Mem), i < 6 → (s.1 = nI i ∧ s.2 622 4 = nI (allN v i) ∧ s.2 622 5 = nI (v 0) ∧ (∀ f, f < i → s.2 623 f = nI (wks v f) ∧ (v (18 + 4 * f) = 1 → s.2 624 f = nI (v (20 + 4 * f)) ∧ s.2 625 f = nI (v (21 + 4 * f) * cn v f 0))) ∧ FrO G s.2) → ∃ s' : Int32 × Mem, (s'.1 = nI (i + 1) ∧ s'.2 622 4 = nI (allN v (i + 1)) ∧ s'.2 622 5 = nI (v 0) ∧ (∀ f, f < i + 1 → s'.2 623 f = nI (wks v f) ∧ (v (18 + 4 * f) = 1 → s'.2 624 f = nI (v (20 + 4 * f)) ∧ s'.2 625 f = nI (v (21 + 4 * f) * cn v f 0))) ∧ FrO G s'.2) ∧ ∀ rec, FX5_lookAt_15 622 2 rec s = rec s' := by
    intro i s hi hs
    obtain ⟨s1, Gs⟩ := s
    obtain ⟨h1, h2, h3, h4, h5⟩ := hs
    simp only at h1 h2 h3 h4 h5
    subst h1
    have hL : LR 2 v Gs := h.cg (fun a ha ha2 => h5 a (by omega))
    have hm1 := (hI.2 i hi).2.2.1
    have hlt := allN_lt hI i (by omega)
    have hA : allN v (i + 1) = allN v i + v (18 + 4 * i) * 2 ^ i := rfl
    have go : ∀ Gx : Mem, LR 2 v Gx → Gx 622 4 = nI (allN v (i + 1)) → (∀ q, q ≠ 622 → Gx q = Gs q) → Gx 622 5 = nI (v 0) → ∃ G', (∀ rec, jX5_lookAt_45 rec 622 2 (nI i) Gx = rec (nI (i + 1), G')) ∧ G' 622 4 = nI (allN v (i + 1)) ∧ G' 622 5 = nI (v 0) ∧ (∀ f, f < i + 1 → G' 623 f = nI (wks v f) ∧ (v (18 + 4 * f) = 1 → G' 624 f = nI (v (20 + 4 * f)) ∧ G' 625 f = nI (v (21 + 4 * f) * cn v f 0))) ∧ FrO G G' := by
      intro Gx hLx h4x hqx h5x
      obtain ⟨z, y, e1, e2⟩ := look45 hLx hI hi
      refine ⟨_, e1, ?_, ?_, fun f hf => ?_, fun a ha => ?_⟩
      · rw [mset_ne (by omega), mset_ne (by omega), mset_ne (by omega)]; exact h4x
      · rw [mset_ne (by omega), mset_ne (by omega), mset_ne (by omega)]; exact h5x
      · by_cases hfi : f = i
        · subst hfi
          refine ⟨?_, fun hm => ⟨?_, ?_⟩⟩
          · rw [mset_ne (by omega), mset_ne (by omega), mset_at, if_pos ⟨rfl, rfl⟩]
          · rw [mset_ne (by omega), mset_at, if_pos ⟨rfl, rfl⟩]; exact (e2 hm).1
          · rw [mset_at, if_pos ⟨rfl, rfl⟩]; exact (e2 hm).2
        · obtain ⟨k1, k2⟩ := h4 f (by omega)
          refine ⟨?_, fun hm => ⟨?_, ?_⟩⟩
          · rw [mset_ne (by omega), mset_ne (by omega), mset_at, if_neg (fun z => hfi z.2), hqx 623 (by omega)]; exact k1
          · rw [mset_ne (by omega), mset_at, if_neg (fun z => hfi z.2), mset_ne (by omega), hqx 624 (by omega)]; exact (k2 hm).1
          · rw [mset_at, if_neg (fun z => hfi z.2), mset_ne (by omega), mset_ne (by omega), hqx 625 (by omega)]; exact (k2 hm).2
      · rw [mset_ne (by omega), mset_ne (by omega), mset_ne (by omega), hqx a (by omega)]; exact h5 a ha
    have hF : ∀ rec, FX5_lookAt_15 622 2 rec (nI i, Gs) = if nI (v (18 + 4 * i)) = nI 0 then jX5_lookAt_45 rec 622 2 (nI i) Gs else jX5_lookAt_45 rec 622 2 (nI i) (mset Gs 622 4 (nI (allN v i) ||| (nI 1 <<< (nI i &&& 31)))) := fun rec => by
      show bX5_lookAt_15 622 2 rec (nI i) Gs = _
      unfold bX5_lookAt_15
      rw [if_neg (by rw [nI_leI (by omega) (by omega)]; omega), nI_ix (by omega) (by omega), nI_clamp (by omega), (hL.2.2 i hi).1, lt_def, h2]
    by_cases h0 : v (18 + 4 * i) = 0
    · obtain ⟨G', e1, e2, e3, e4, e5⟩ := go Gs hL (by rw [h2, hA, h0, Nat.zero_mul, Nat.add_zero]) (fun q hq => rfl) h3
      exact ⟨(nI (i + 1), G'), ⟨rfl, e2, e3, e4, e5⟩, fun rec => by rw [hF, if_pos (by rw [h0]), e1]⟩
    · have hv1 : v (18 + 4 * i) = 1 := by omega
      have h64 : allN v i < 64 := Nat.lt_of_lt_of_le hlt (Nat.le_trans (Nat.pow_le_pow_right (by omega) (show i ≤ 6 by omega)) (by decide))
      have hor := bt_or (allN v i) h64 i hi
      have hb0 : bt (allN v i) i = 0 := by show allN v i / 2 ^ i % 2 = 0; rw [Nat.div_eq_of_lt hlt]
      rw [if_neg (by omega)] at hor
      obtain ⟨G', e1, e2, e3, e4, e5⟩ := go (mset Gs 622 4 (nI (allN v i + 2 ^ i))) (hL.cg (fun a ha ha2 => mset_ne (by omega))) (by rw [mset_at, if_pos ⟨rfl, rfl⟩, hA, hv1, Nat.one_mul]) (fun q hq => mset_ne hq) (by rw [mset_at, if_neg (by omega)]; exact h3)
      exact ⟨(nI (i + 1), G'), ⟨rfl, e2, e3, e4, e5⟩, fun rec => by rw [hF, if_neg (by rw [hv1]; decide), hor, e1]⟩
  have i4 : mset (mset G 622 4 (nI 0)) 622 5 (nI (v 0)) 622 4 = nI (allN v 0) := by rw [mset_at, if_neg (by omega), mset_at, if_pos ⟨rfl, rfl⟩]; rfl
  have i5 : mset (mset G 622 4 (nI 0)) 622 5 (nI (v 0)) 622 5 = nI (v 0) := by rw [mset_at, if_pos ⟨rfl, rfl⟩]
  obtain ⟨⟨s1, G2⟩, ⟨h1, h2, h3, h4, h5⟩, rec', hrec⟩ := itr_inv (F := FX5_lookAt_15 622 2) (fun i (s : Int32 × Mem) => s.1 = nI i ∧ s.2 622 4 = nI (allN v i) ∧ s.2 622 5 = nI (v 0) ∧ (∀ f, f < i → s.2 623 f = nI (wks v f) ∧ (v (18 + 4 * f) = 1 → s.2 624 f = nI (v (20 + 4 * f)) ∧ s.2 625 f = nI (v (21 + 4 * f) * cn v f 0))) ∧ FrO G s.2) 6 step (nI 0, mset (mset G 622 4 (nI 0)) 622 5 (nI (v 0))) ⟨rfl, i4, i5, fun f hf => absurd hf (Nat.not_lt_zero f), g0⟩ (by omega)
  simp only at h1 h2 h3 h4 h5
  subst h1
  rw [hrec]
  refine ⟨G2, ?_, ⟨h2, h3, h4⟩, h5⟩
  show bX5_lookAt_15 622 2 rec' (nI 6) G2 = _
  unfold bX5_lookAt_15
  rw [if_pos (by decide)]
theorem isIn_c {T k : Nat} (hT : T < 64) (hk : k < 6) : fX5_isIn (nI k) (nI T) G = some (if bt T k = 0 then nI 0 else nI 1, G) := by
  unfold fX5_isIn
  have := bt_and T hT k hk
  by_cases h0 : bt T k = 0
  · rw [if_pos (this.mpr h0), if_pos h0]
  · rw [if_neg (fun z => h0 (this.mp z)), if_neg h0]
theorem sumF_upd {a c : Nat → Nat} {f : Nat} : ∀ n, f < n → (∀ k, k < n → k ≠ f → c k = a k) → a f = 0 → sumF c n = sumF a n + c f := by
  intro n
  induction n with
  | zero => intro h; omega
  | succ n ih =>
    intro hf h h0
    show sumF c n + c n = sumF a n + a n + c f
    by_cases hfn : f = n
    · have e : ∀ m, m ≤ n → sumF c m = sumF a m := by
        intro m
        induction m with
        | zero => intro _; rfl
        | succ m ihm =>
          intro hm
          show sumF c m + c m = sumF a m + a m
          rw [ihm (by omega), h m (by omega) (by omega)]
      rw [e n (Nat.le_refl _), ← hfn, h0]
      rfl
    · rw [ih (by omega) (fun k hk hkf => h k (by omega) hkf) h0, h n (by omega) (by omega)]
      omega
theorem next_c {f l : Nat} (hO : OR v G) (hI : LI b v) (hf : f < 6) (hl : l < 64) (hs : ∀ k, k < 6 → bt l k ≤ bt (allN v 6) k) (hb : bt l f = 1) (hrow : G 626 (l - 2 ^ f) = nI (lsN v (allN v 6 - (l - 2 ^ f)))) : fX5_finesIfNext 622 (nI f) (nI l) G = some (nI (gN v (allN v 6 - l) f), G) := by
  unfold fX5_finesIfNext
  obtain ⟨o1, o2, o3⟩ := hO
  have hA64 := all64 hI
  have hN := hI.1
  obtain ⟨d1, d2⟩ := bt_dif l hl (allN v 6) hA64 hs
  obtain ⟨r1, r2, r3⟩ := bt_rm l hl f hf hb
  have hbA : bt (allN v 6) f = 1 := by have := hs f hf; have := bt_le1 (allN v 6) f; omega
  have hmade : v (18 + 4 * f) = 1 := by rw [← allN_bt hI hf]; exact hbA
  obtain ⟨p1, p2, p3⟩ := bt_add (allN v 6 - l) (by omega) f hf (by rw [d2 f hf]; omega)
  have hlo := (hI.2 f hf).2.2
  have hwf := wks_le hI hf
  rw [nI_ix (by omega) (by omega), nI_clamp (by omega), o2, show (622 : Nat) + 1 = 623 from rfl, (o3 f hf).1, nI_add]
  have hX : ∀ i, i ≤ 6 → sumF (fun k => if bt (allN v 6) k = 1 ∧ bt l k = 0 then wks v k else 0) i ≤ 550 * i := fun i hi => sumF_le (fun k hk => by
    have := wks_le hI (show k < 6 by omega)
    split <;> omega)
  have hsum : wsum v (allN v 6 - l + 2 ^ f) 6 = sumF (fun k => if bt (allN v 6) k = 1 ∧ bt l k = 0 then wks v k else 0) 6 + wks v f := by
    have := sumF_upd (a := fun k => if bt (allN v 6) k = 1 ∧ bt l k = 0 then wks v k else 0) (c := fun k => if bt (allN v 6 - l + 2 ^ f) k = 1 then wks v k else 0) (f := f) 6 hf (fun k hk hkf => by
      have e1 := p3 k hk
      rw [if_neg hkf, d2 k hk] at e1
      have e2 := hs k hk
      have e3 := bt_le1 (allN v 6) k
      show (if bt (allN v 6 - l + 2 ^ f) k = 1 then wks v k else 0) = (if bt (allN v 6) k = 1 ∧ bt l k = 0 then wks v k else 0)
      by_cases hc : bt (allN v 6) k = 1 ∧ bt l k = 0
      · rw [if_pos hc, if_pos (by omega)]
      · rw [if_neg hc, if_neg (by omega)]) (by show (if bt (allN v 6) f = 1 ∧ bt l f = 0 then wks v f else 0) = 0; rw [if_neg (by omega)])
    have e4 : (if bt (allN v 6 - l + 2 ^ f) f = 1 then wks v f else 0) = wks v f := by
      rw [if_pos (by rw [p3 f hf, if_pos rfl])]
    show sumF (fun k => if bt (allN v 6 - l + 2 ^ f) k = 1 then wks v k else 0) 6 = _
    rw [this, e4]
  have hst : ((nI (v 0 + wks v f), nI 0, G) : Int32 × Int32 × Mem) = (fun i : Nat => (nI (v 0 + wks v f + sumF (fun k => if bt (allN v 6) k = 1 ∧ bt l k = 0 then wks v k else 0) i), nI i, G)) 0 := rfl
  rw [hst]
  refine itr_run (fun i : Nat => (nI (v 0 + wks v f + sumF (fun k => if bt (allN v 6) k = 1 ∧ bt l k = 0 then wks v k else 0) i), nI i, G)) 6 (fun i hi rec => ?_) (by omega) (fun rec => ?_)
  · show bX5_finesIfNext_15 622 (nI f) (nI l) rec (nI _) (nI i) G = rec (nI (v 0 + wks v f + (sumF (fun k => if bt (allN v 6) k = 1 ∧ bt l k = 0 then wks v k else 0) i + (if bt (allN v 6) i = 1 ∧ bt l i = 0 then wks v i else 0))), nI (i + 1), G)
    unfold bX5_finesIfNext_15
    have e3 := bt_le1 (allN v 6) i
    rw [if_neg (by rw [nI_leI (by omega) (by omega)]; omega), o1, isIn_c hA64 hi, bd_some']
    by_cases h1 : bt (allN v 6) i = 0
    · rw [if_pos h1, if_pos rfl, if_neg (by omega), nI_add]
      rfl
    · rw [if_neg h1, if_neg (by decide), isIn_c hl hi, bd_some']
      by_cases h2 : bt l i = 0
      · rw [if_pos h2, if_pos rfl, nI_ix (by omega) (by omega), nI_clamp (by omega), show (622 : Nat) + 1 = 623 from rfl, (o3 i hi).1, nI_add, nI_add, if_pos (by omega), Nat.add_assoc]
      · rw [if_neg h2, if_neg (by decide), nI_add, if_neg (by omega)]
        rfl
  · show bX5_finesIfNext_15 622 (nI f) (nI l) rec (nI _) (nI 6) G = _
    unfold bX5_finesIfNext_15
    have hX6 := hX 6 (by omega)
    obtain ⟨q4, q5⟩ := (o3 f hf).2 hmade
    rw [if_pos (by decide), nI_ix (by omega) (by omega), nI_ix (by omega) (by omega), r1, nI_ix (by omega) (by omega), nI_clamp (by omega), nI_clamp (by omega), show (622 : Nat) + 3 = 625 from rfl, show (622 : Nat) + 2 = 624 from rfl, show (622 : Nat) + 4 = 626 from rfl, q4, q5, hrow]
    have e5 : (if nI (v 0 + wks v f + sumF (fun k => if bt (allN v 6) k = 1 ∧ bt l k = 0 then wks v k else 0) 6) - nI (v (20 + 4 * f)) < nI 0 then nI 0 else nI (v 0 + wks v f + sumF (fun k => if bt (allN v 6) k = 1 ∧ bt l k = 0 then wks v k else 0) 6) - nI (v (20 + 4 * f))) = nI (v 0 + wsum v (allN v 6 - l + 2 ^ f) 6 - v (20 + 4 * f)) := by
      rw [hsum]
      generalize sumF (fun k => if bt (allN v 6) k = 1 ∧ bt l k = 0 then wks v k else 0) 6 = X at *
      by_cases hlt : v 0 + wks v f + X < v (20 + 4 * f)
      · rw [if_pos (show nI (v 0 + wks v f + X) - nI (v (20 + 4 * f)) < nI 0 from pk_sneg (by omega) hlt)]
        refine congrArg nI ?_
        omega
      · rw [pk_sub (by omega), if_neg (by rw [nI_ltI (by omega) (by omega)]; omega)]
        refine congrArg nI ?_
        omega
    rw [e5, nI_mulN, nI_add, show allN v 6 - (l - 2 ^ f) = allN v 6 - l + 2 ^ f by omega]
    refine congrArg some (congrArg (fun z => (nI z, G)) ?_)
    show _ = cst v f (allN v 6 - l + 2 ^ f) + lsN v (allN v 6 - l + 2 ^ f)
    unfold cst
    rw [Nat.mul_comm (v (21 + 4 * f) * cn v f 0), Nat.mul_assoc]
theorem okb_l {l f : Nat} (hI : LI b v) (hf : f < 6) (hl : l < 64) (hs : ∀ k, k < 6 → bt l k ≤ bt (allN v 6) k) : okb v (allN v 6 - l) f = true ↔ bt l f = 1 := by
  obtain ⟨d1, d2⟩ := bt_dif l hl (allN v 6) (all64 hI) hs
  rw [okb_iff, d2 f hf, ← allN_bt hI hf]
  have := hs f hf
  have := bt_le1 (allN v 6) f
  have := bt_le1 l f
  omega
theorem leastOf_c {l : Nat} (hO : OR v G) (hI : LI b v) (hl : l < 64) (h0 : 0 < l) (hs : ∀ k, k < 6 → bt l k ≤ bt (allN v 6) k) (hrow : ∀ j, j < l → (∀ k, k < 6 → bt j k ≤ bt (allN v 6) k) → G 626 j = nI (lsN v (allN v 6 - j))) : fX5_leastOf 622 (nI l) G = some (nI (lsN v (allN v 6 - l)), G) := by
  unfold fX5_leastOf
  have hA64 := all64 hI
  refine itr_run (fun i : Nat => ((match mo (okb v (allN v 6 - l)) (gN v (allN v 6 - l)) i with | none => nI 1000000000 | some p => nI p.1), nI i, G)) 6 (fun i hi rec => ?_) (by omega) (fun rec => ?_)
  · show bX5_leastOf_5 622 (nI l) rec (match mo (okb v (allN v 6 - l)) (gN v (allN v 6 - l)) i with | none => nI 1000000000 | some p => nI p.1) (nI i) G = rec ((match mo (okb v (allN v 6 - l)) (gN v (allN v 6 - l)) (i + 1) with | none => nI 1000000000 | some p => nI p.1), nI (i + 1), G)
    unfold bX5_leastOf_5
    have hmo : mo (okb v (allN v 6 - l)) (gN v (allN v 6 - l)) (i + 1) = if okb v (allN v 6 - l) i = true then (match mo (okb v (allN v 6 - l)) (gN v (allN v 6 - l)) i with | none => some (gN v (allN v 6 - l) i, i) | some p => if gN v (allN v 6 - l) i < p.1 then some (gN v (allN v 6 - l) i, i) else some p) else mo (okb v (allN v 6 - l)) (gN v (allN v 6 - l)) i := rfl
    have hiff := okb_l hI hi hl hs
    have hb1 := bt_le1 l i
    rw [if_neg (by rw [nI_leI (by omega) (by omega)]; omega), isIn_c hl hi, bd_some', hmo]
    by_cases hb : bt l i = 1
    · obtain ⟨r1, r2, r3⟩ := bt_rm l hl i hi hb
      have hpos : 0 < 2 ^ i := Nat.two_pow_pos i
      have hnx := next_c hO hI hi hl hs hb (hrow (l - 2 ^ i) (by omega) (fun k hk => by rw [r3 k hk]; split; exact Nat.zero_le _; exact hs k hk))
      have hg := gN_le (T := allN v 6 - l) hI hi
      rw [if_neg (show ¬ bt l i = 0 by omega), if_neg (show ¬ nI 1 = nI 0 by decide), hnx, bd_some', if_pos (hiff.mpr hb), nI_add]
      cases hm : mo (okb v (allN v 6 - l)) (gN v (allN v 6 - l)) i with
      | none =>
        show rec ((if nI (gN v (allN v 6 - l) i) < nI 1000000000 then nI (gN v (allN v 6 - l) i) else nI 1000000000), _, _) = rec (nI (gN v (allN v 6 - l) i), _, _)
        rw [if_pos (by rw [nI_ltI (by omega) (by omega)]; omega)]
      | some p =>
        obtain ⟨p1, p2, p3, p4, p5⟩ := mo_spec hm
        have hpl : p.1 ≤ 80000000 := by rw [← p3]; exact gN_le hI (by omega)
        show rec ((if nI (gN v (allN v 6 - l) i) < nI p.1 then nI (gN v (allN v 6 - l) i) else nI p.1), _, _) = rec ((match (if gN v (allN v 6 - l) i < p.1 then some (gN v (allN v 6 - l) i, i) else some p) with | none => nI 1000000000 | some p => nI p.1), _, _)
        by_cases hlt : gN v (allN v 6 - l) i < p.1
        · rw [if_pos (by rw [nI_ltI (by omega) (by omega)]; exact hlt), if_pos hlt]
        · rw [if_neg (by rw [nI_ltI (by omega) (by omega)]; exact hlt), if_neg hlt]
    · rw [if_pos (show bt l i = 0 by omega), if_pos (show nI 0 = nI 0 from rfl), if_neg (fun z => hb (hiff.mp z)), nI_add]
  · show bX5_leastOf_5 622 (nI l) rec _ (nI 6) G = _
    unfold bX5_leastOf_5
    obtain ⟨k, hk, hbk⟩ := bt_ex l hl h0
    obtain ⟨p, hp⟩ := mo_some (g := gN v (allN v 6 - l)) (P := okb v (allN v 6 - l)) hk ((okb_l hI hk hl hs).mpr hbk)
    rw [if_pos (by decide), lsN_eq (by omega), hp]
    rfl
theorem lsN_all (hI : LI b v) : lsN v (allN v 6) = 0 := by
  rw [lsN_eq (all64 hI), mo_none (fun j hj => ?_)]
  · rfl
  · have hiff := okb_iff (v := v) (T := allN v 6) (f := j)
    rw [allN_bt hI hj] at hiff
    cases hz : okb v (allN v 6) j with
    | false => rfl
    | true => have := hiff.mp hz; omega
theorem reckon_c (h : LR 2 v G) (hI : LI b v) : ∃ G', fX5_reckon 622 2 G = some G' ∧ OR v G' ∧ (∀ j, j < 64 → (∀ k, k < 6 → bt j k ≤ bt (allN v 6) k) → G' 626 j = nI (lsN v (allN v 6 - j))) ∧ FrO G G' := by
  unfold fX5_reckon
  obtain ⟨G1, a1, a2, a3⟩ := lookAt_c h hI
  have hA64 := all64 hI
  rw [a1, bv_some', lt_def, show (622 : Nat) + 4 = 626 from rfl]
  have orm : ∀ (Gx : Mem) j y, OR v Gx → OR v (mset Gx 626 j y) := fun Gx j y ho => ⟨by rw [mset_ne (by omega)]; exact ho.1, by rw [mset_ne (by omega)]; exact ho.2.1, fun f hf => by rw [mset_ne (by omega), mset_ne (by omega), mset_ne (by omega)]; exact ho.2.2 f hf⟩
  have step : ∀ i (s : Int32 × Mem), i < 63 → (s.1 = nI (i + 1) ∧ OR v s.2 ∧ (∀ j, j < i + 1 → (∀ k, k < 6 → bt j k ≤ bt (allN v 6) k) → s.2 626 j = nI (lsN v (allN v 6 - j))) ∧ FrO G s.2) → ∃ s' : Int32 × Mem, (s'.1 = nI (i + 1 + 1) ∧ OR v s'.2 ∧ (∀ j, j < i + 1 + 1 → (∀ k, k < 6 → bt j k ≤ bt (allN v 6) k) → s'.2 626 j = nI (lsN v (allN v 6 - j))) ∧ FrO G s'.2) ∧ ∀ rec, FX5_reckon_14 622 rec s = rec s' := by
    intro i s hi hs
    obtain ⟨s1, Gs⟩ := s
    obtain ⟨h1, h2, h3, h4⟩ := hs
    simp only at h1 h2 h3 h4
    subst h1
    have hsb := bt_sub (i + 1) (by omega) (allN v 6) hA64
    by_cases hs : ∀ k, k < 6 → bt (i + 1) k ≤ bt (allN v 6) k
    · have hlo := leastOf_c (l := i + 1) h2 hI (by omega) (by omega) hs h3
      refine ⟨(nI (i + 1 + 1), mset Gs 626 (i + 1) (nI (lsN v (allN v 6 - (i + 1))))), ⟨rfl, orm _ _ _ h2, fun j hj hsj => ?_, h4.tr (FrO.m (by omega) (by omega))⟩, fun rec => ?_⟩
      · show mset Gs 626 (i + 1) (nI (lsN v (allN v 6 - (i + 1)))) 626 j = _
        rw [mset_at]
        by_cases hji : j = i + 1
        · subst hji; rw [if_pos ⟨rfl, rfl⟩]
        · rw [if_neg (fun z => hji z.2)]; exact h3 j (by omega) hsj
      · show bX5_reckon_14 622 rec (nI (i + 1)) Gs = _
        unfold bX5_reckon_14
        rw [if_neg (by rw [nI_leI (by omega) (by omega)]; omega), h2.1, if_pos (hsb.mpr hs), hlo, bd_some', nI_ix (by omega) (by omega), nI_clamp (by omega), lt_def, nI_add]
    · refine ⟨(nI (i + 1 + 1), Gs), ⟨rfl, h2, fun j hj hsj => ?_, h4⟩, fun rec => ?_⟩
      · by_cases hji : j = i + 1
        · subst hji; exact absurd hsj hs
        · exact h3 j (by omega) hsj
      · show bX5_reckon_14 622 rec (nI (i + 1)) Gs = _
        unfold bX5_reckon_14
        rw [if_neg (by rw [nI_leI (by omega) (by omega)]; omega), h2.1, if_neg (fun z => hs (hsb.mp z)), nI_add]
  obtain ⟨⟨s1, G2⟩, ⟨h1, h2, h3, h4⟩, rec', hrec⟩ := itr_inv (F := FX5_reckon_14 622) (fun i (s : Int32 × Mem) => s.1 = nI (i + 1) ∧ OR v s.2 ∧ (∀ j, j < i + 1 → (∀ k, k < 6 → bt j k ≤ bt (allN v 6) k) → s.2 626 j = nI (lsN v (allN v 6 - j))) ∧ FrO G s.2) 63 step (nI 1, mset G1 626 0 (nI 0)) ⟨rfl, orm _ _ _ a2, fun j hj hsj => by
    have : j = 0 := by omega
    subst this
    show mset G1 626 0 (nI 0) 626 0 = _
    rw [mset_at, if_pos ⟨rfl, rfl⟩, Nat.sub_zero, lsN_all hI], a3.tr (FrO.m (by omega) (by omega))⟩ (by omega)
  simp only at h1 h2 h3 h4
  subst h1
  rw [hrec]
  refine ⟨G2, ?_, h2, h3, h4⟩
  show bX5_reckon_14 622 rec' (nI 64) G2 = _
  unfold bX5_reckon_14
  rw [if_pos (by decide)]
end
section
variable {G G' : Mem} {S W Tx v : Nat → Nat} {nx h n b : Nat}
theorem CRel.ord {G2 : Mem} (hC : CRel nx S W Tx h n G) (hf : FrO G G2) : CRel nx S W Tx h n G2 ∧ FrX G G2 := by
  obtain ⟨hS, ⟨h3, h4, h5, h6, h7⟩, h8⟩ := hC
  exact ⟨⟨hS.cg (fun a h1 h2 => hf a (by omega)), ⟨h3, h4, by rw [hf 103 (by omega)]; exact h5, by rw [hf 103 (by omega)]; exact h6, fun i hi => (h7 i hi).cg (fun a ha hb => hf a (by omega))⟩, h8.cg (hf 615 (by omega)) (hf 616 (by omega))⟩, fun a ha => hf a (by omega)⟩
theorem c_best (x1 : Int32) (hC : CRel nx S W Tx h n G) (hI : CInv b S W h) : ∃ G', fX8_bestOrder 0 x1 G = some (qBest x1 S, G') ∧ CRel nx S W Tx h n G' ∧ FrX G G' := by
  unfold fX8_bestOrder qBest
  have hL : LR 2 S G := hC.1.1
  have hLI := hI.1.1
  have hsum : sumF (fun f => S (18 + 4 * f)) 6 ≤ 6 := Nat.le_trans (sumF_le (m := 1) (fun i hi => (hLI.2 i (by omega)).2.2.1)) (by decide)
  rw [inW_c (by omega) (by omega), bd_some']
  by_cases hw : inW 0 1 x1
  · rw [if_pos hw, if_neg (by decide), if_pos hw, show (0 : Nat) + 2 = 2 from rfl, noContracts_c hL hLI, bd_some']
    by_cases h0 : sumF (fun f => S (18 + 4 * f)) 6 = 0
    · rw [if_pos (by rw [h0]), if_pos h0]
      exact ⟨G, rfl, hC, FrX.rf⟩
    · rw [if_neg (by rw [nI_eq (by omega) (by omega)]; exact h0), if_neg h0]
      obtain ⟨G1, a1, a2, a3, a4⟩ := reckon_c hL hLI
      obtain ⟨c1, c2⟩ := hC.ord a4
      have hA64 := all64 hLI
      have hAA : ∀ k, k < 6 → bt (allN S 6) k ≤ bt (allN S 6) k := fun k hk => Nat.le_refl _
      have hlast := a3 (allN S 6) hA64 hAA
      rw [Nat.sub_self] at hlast
      rw [show (0 : Nat) + 622 = 622 from rfl, a1, bv_some']
      refine ⟨G1, ?_, c1, c2⟩
      refine iteq (fun z => ?_) (fun z => ?_)
      · unfold fX5_leastFines
        rw [a2.1, nI_ix (by omega) (by omega), nI_clamp (by omega), show (622 : Nat) + 4 = 626 from rfl, hlast, bd_some']
      · obtain ⟨j, hj, hmj⟩ : ∃ j, j < 6 ∧ S (18 + 4 * j) = 1 := by
          by_cases hall : ∀ j, j < 6 → S (18 + 4 * j) = 0
          · exfalso
            apply h0
            have : sumF (fun f => S (18 + 4 * f)) 6 ≤ 0 * 6 := sumF_le (fun i hi => by rw [hall i hi]; exact Nat.le_refl _)
            omega
          · have : ∃ j, ¬ (j < 6 → S (18 + 4 * j) = 0) := Classical.not_forall.mp hall
            obtain ⟨j, hj⟩ := this
            have hj6 : j < 6 := Classical.byContradiction fun z => hj (fun y => absurd y z)
            refine ⟨j, hj6, ?_⟩
            have := (hLI.2 j hj6).2.2.1
            have : S (18 + 4 * j) ≠ 0 := fun z => hj (fun _ => z)
            omega
        obtain ⟨p, hp⟩ := mo_some (g := gN S 0) (P := okb S 0) hj (okb_iff.mpr ⟨hmj, by show 0 / 2 ^ j % 2 = 0; rw [Nat.zero_div]⟩)
        obtain ⟨p1, p2, p3, p4, p5⟩ := mo_spec hp
        have hls : lsN S 0 = p.1 := by rw [lsN_eq (by omega), hp]; rfl
        have hpl : p.1 ≤ 80000000 := by rw [← p3]; exact gN_le hLI (by omega)
        rw [hp]
        have hnext : ∀ f, f < 6 → S (18 + 4 * f) = 1 → fX5_finesIfNext 622 (nI f) (nI (allN S 6)) G1 = some (nI (gN S 0 f), G1) := by
          intro f hf hmf
          have hbf : bt (allN S 6) f = 1 := by rw [allN_bt hLI hf]; exact hmf
          obtain ⟨r1, r2, r3⟩ := bt_rm (allN S 6) hA64 f hf hbf
          have hpos : 0 < 2 ^ f := Nat.two_pow_pos f
          have := next_c a2 hLI hf hA64 hAA hbf (a3 (allN S 6 - 2 ^ f) (by omega) (fun k hk => by rw [r3 k hk]; split; exact Nat.zero_le _; exact Nat.le_refl _))
          rwa [Nat.sub_self] at this
        have hrun : fX5_firstField 622 G1 = some (nI p.2, G1) := by
          unfold fX5_firstField
          refine itr_run (fun i : Nat => (nI i, G1)) p.2 (fun i hi rec => ?_) (by omega) (fun rec => ?_)
          · show bX5_firstField_2 622 rec (nI i) G1 = _
            unfold bX5_firstField_2
            have hi6 : i < 6 := by omega
            have hb1 := bt_le1 (allN S 6) i
            have hbt := allN_bt hLI hi6
            rw [if_neg (by rw [nI_leI (by omega) (by omega)]; omega), a2.1, isIn_c hA64 hi6, bd_some']
            by_cases hb : bt (allN S 6) i = 0
            · rw [if_pos hb, if_pos rfl, nI_add]
            · have hm1 : S (18 + 4 * i) = 1 := by omega
              have hgt := p5 i hi (okb_iff.mpr ⟨hm1, by show 0 / 2 ^ i % 2 = 0; rw [Nat.zero_div]⟩)
              have hgl := gN_le (T := 0) hLI hi6
              rw [if_neg hb, if_neg (by decide), a2.1, hnext i hi6 hm1, bd_some', a2.1, nI_ix (by omega) (by omega), nI_clamp (by omega), show (622 : Nat) + 4 = 626 from rfl, hlast, hls, if_neg (by rw [nI_eq (by omega) (by omega)]; omega), nI_add]
          · show bX5_firstField_2 622 rec (nI p.2) G1 = _
            unfold bX5_firstField_2
            have hm1 := (okb_iff.mp p2).1
            have hbt := allN_bt hLI p1
            rw [if_neg (by rw [nI_leI (by omega) (by omega)]; omega), a2.1, isIn_c hA64 p1, bd_some', if_neg (show ¬ bt (allN S 6) p.2 = 0 by omega), if_neg (show ¬ nI 1 = nI 0 by decide), a2.1, hnext p.2 p1 hm1, bd_some', a2.1, nI_ix (by omega) (by omega), nI_clamp (by omega), show (622 : Nat) + 4 = 626 from rfl, hlast, hls, p3, if_pos rfl]
        rw [hrun, bd_some']
  · rw [if_neg hw, if_pos rfl, if_neg hw]
    exact ⟨G, rfl, hC, FrX.rf⟩
end
