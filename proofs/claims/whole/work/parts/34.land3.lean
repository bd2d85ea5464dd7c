/-! a week passes; copies; settings; contracts -/
def growTo (v : Nat → Nat) (w i : Nat) : Nat → Nat := fun j => if 42 ≤ j ∧ j < 42 + 30 * i ∧ (j - 42) % 30 < v (12 + (j - 42) / 30) then growc w (v j) else v j
def week1 (v : Nat → Nat) : Nat → Nat := vs (vs v 0 (v 0 + 1)) 1 (v 11)
def week2 (v : Nat → Nat) : Nat → Nat := growTo (week1 v) (v 0 + 1) 6
def dueV (v : Nat → Nat) : Nat := sumF (fineV (week2 v)) 6
def weekV (v : Nat → Nat) : Nat → Nat := spendV (vs (week2 v) 6 (v 6 + dueV v)) (dueV v)
def setV (v : Nat → Nat) (k x : Nat) : Nat → Nat := if k = 0 then vs v 9 x else if k = 1 then vs v 10 x else vs (vs v 1 (v 1 + x - v 11)) 11 x
def makeV (v : Nat → Nat) (f a b c : Nat) : Nat → Nat := vs (vs (vs (vs v (18 + 4 * f) 1) (19 + 4 * f) a) (20 + 4 * f) b) (21 + 4 * f) c
section
variable {p : Nat} {v v' : Nat → Nat} {G G' : Mem}
theorem growTo_lo {w i j : Nat} (h : j < 42) : growTo v w i j = v j := if_neg (by omega)
theorem growTo_ch {w i f c : Nat} (hf : f < 6) (hc : c < 30) : growTo v w i (42 + 30 * f + c) = if f < i ∧ c < v (12 + f) then growc w (v (42 + 30 * f + c)) else v (42 + 30 * f + c) := by
  unfold growTo
  rw [show (42 + 30 * f + c - 42) % 30 = c by omega, show (42 + 30 * f + c - 42) / 30 = f by omega]
  by_cases h : f < i ∧ c < v (12 + f)
  · rw [if_pos h, if_pos ⟨by omega, by omega, h.2⟩]
  · rw [if_neg h, if_neg (by omega)]
theorem LI_growTo {b w i : Nat} (h : LI b v) : LI b (growTo v w i) := by
  refine ⟨?_, fun f hf => ?_⟩
  · simp only [growTo_lo (show 0 < 42 by omega), growTo_lo (show 1 < 42 by omega), growTo_lo (show 2 < 42 by omega), growTo_lo (show 3 < 42 by omega), growTo_lo (show 4 < 42 by omega), growTo_lo (show 5 < 42 by omega), growTo_lo (show 6 < 42 by omega), growTo_lo (show 7 < 42 by omega), growTo_lo (show 8 < 42 by omega), growTo_lo (show 9 < 42 by omega), growTo_lo (show 10 < 42 by omega), growTo_lo (show 11 < 42 by omega)]
    exact h.1
  · obtain ⟨h1, h2, h3⟩ := h.2 f hf
    rw [growTo_lo (show 12 + f < 42 by omega), growTo_lo (show 18 + 4 * f < 42 by omega), growTo_lo (show 19 + 4 * f < 42 by omega), growTo_lo (show 20 + 4 * f < 42 by omega), growTo_lo (show 21 + 4 * f < 42 by omega)]
    refine ⟨h1, fun c hc => ?_, h3⟩
    rw [growTo_ch hf (by omega)]
    split
    · exact okc_grow (h2 c hc)
    · exact h2 c hc
theorem LI.vs0 {b x : Nat} (h : LI b v) (hx : x ≤ 1000) : LI b (vs v 0 x) := by
  refine ⟨?_, fun f hf => ?_⟩
  · have := h.1
    unfold vs
    simp
    omega
  · rw [vs_ne (by omega), vs_ne (by omega), vs_ne (by omega), vs_ne (by omega), vs_ne (by omega)]
    refine ⟨(h.2 f hf).1, fun c hc => ?_, (h.2 f hf).2.2⟩
    rw [vs_ne (by omega)]
    exact (h.2 f hf).2.1 c hc
/-- numbers 1 to 8 changed within bounds -/
theorem LI.vsn {b b' k x : Nat} (h : LI b v) (hk : 1 ≤ k ∧ k ≤ 8) (hx : x ≤ b') (hb : b ≤ b') (h1 : k = 1 → x ≤ v 11) : LI b' (vs v k x) := by
  refine ⟨?_, fun f hf => ?_⟩
  · have := h.1
    unfold vs
    rcases (show k = 1 ∨ k = 2 ∨ k = 3 ∨ k = 4 ∨ k = 5 ∨ k = 6 ∨ k = 7 ∨ k = 8 by omega) with rfl | rfl | rfl | rfl | rfl | rfl | rfl | rfl <;> simp <;> omega
  · rw [vs_ne (by omega), vs_ne (by omega), vs_ne (by omega), vs_ne (by omega), vs_ne (by omega)]
    refine ⟨(h.2 f hf).1, fun c hc => ?_, (h.2 f hf).2.2⟩
    rw [vs_ne (by omega)]
    exact (h.2 f hf).2.1 c hc
theorem LI.mono {b b' : Nat} (h : LI b v) (hb : b ≤ b') : LI b' v := ⟨by have := h.1; omega, h.2⟩
theorem LI_week1 {b : Nat} (h : LI b v) (h0 : v 0 < 1000) : LI b (week1 v) := by
  unfold week1
  refine ⟨?_, fun f hf => ?_⟩
  · have := h.1
    unfold vs
    simp
    omega
  · obtain ⟨h1, h2, h3⟩ := h.2 f hf
    have e : ∀ j, 12 ≤ j → vs (vs v 0 (v 0 + 1)) 1 (v 11) j = v j := fun j hj => by rw [vs_ne (by omega), vs_ne (by omega)]
    rw [e _ (by omega), e (18 + 4 * f) (by omega), e (19 + 4 * f) (by omega), e (20 + 4 * f) (by omega), e (21 + 4 * f) (by omega)]
    refine ⟨h1, fun c hc => ?_, h3⟩
    rw [e _ (by omega)]
    exact h2 c hc
theorem LI_week2 {b : Nat} (h : LI b v) (h0 : v 0 < 1000) : LI b (week2 v) := LI_growTo (LI_week1 h h0)
theorem dueV_le {b : Nat} (h : LI b v) (h0 : v 0 < 1000) : dueV v ≤ 1620 := sumF_le (m := 270) (n := 6) (fun i hi => fineV_le (LI_week2 h h0) hi)
theorem LI_spend {b x : Nat} (h : LI b v) : LI (b + x) (spendV v x) := by
  unfold spendV
  have h1 := h.1
  refine (h.vsn (k := 3) (by omega) (b' := b + x) (by omega) (by omega) (fun z => by omega)).vsn (k := 4) (by omega) (by omega) (by omega) (fun z => by omega)
theorem LI_weekV {b : Nat} (h : LI b v) (h0 : v 0 < 1000) : LI (b + 3240) (weekV v) := by
  unfold weekV
  have hd := dueV_le h h0
  have h2 := LI_week2 h h0
  have h6 : v 6 ≤ b := h.1.2.2.2.2.2.2.1
  exact (LI_spend (h2.vsn (k := 6) (by omega) (b' := b + dueV v) (by omega) (by omega) (fun z => by omega))).mono (by omega)
theorem weekV_0 : weekV v 0 = v 0 + 1 := by
  unfold weekV spendV
  rw [vs_ne (by omega), vs_ne (by omega), vs_ne (by omega)]
  unfold week2
  rw [growTo_lo (by omega)]
  unfold week1
  rw [vs_ne (by omega), vs_eq]
/-- all hedges grow -/
theorem growAll {w b : Nat} (h : LR p v G) (hI : LI b v) (hw : v 0 = w) {R : Type} (F : ((Int32 × Mem) → Option R) → (Int32 × Mem) → Option R) (hF : ∀ rec i G1, i < 6 → LR p (growTo v w i) G1 → F rec (nI i, G1) = bv (fX1_grow (p + 3 + 5 * i) (nI w) G1) (fun G2 => rec (nI (i + 1), G2))) : ∃ (G' : Mem) (rec' : (Int32 × Mem) → Option R), itr FU F (nI 0, G) = F rec' (nI 6, G') ∧ LR p (growTo v w 6) G' ∧ FrL p G G' := by
  have hw0 : w ≤ 1000 := by have := hI.1; omega
  have step : ∀ i (s : Int32 × Mem), i < 6 → (s.1 = nI i ∧ LR p (growTo v w i) s.2 ∧ FrL p G s.2) → ∃ s' : Int32 × Mem, (s'.1 = nI (i + 1) ∧ LR p (growTo v w (i + 1)) s'.2 ∧ FrL p G s'.2) ∧ ∀ rec, F rec s = rec s' := by
    intro i s hi hs
    obtain ⟨i', Gi⟩ := s
    obtain ⟨h1, h2, h3⟩ := hs
    dsimp only at h1 h2 h3
    subst h1
    have hIi : LI b (growTo v w i) := LI_growTo hI
    have hlen : ∀ g, g < 6 → growTo v w i (12 + g) ≤ 30 := fun g hg => (hIi.len hg).2
    obtain ⟨G2, a1, a2, a3⟩ := grow_eq (w := w) (h2.2.1 i hi) (hlen i hi) (hIi.2 i hi).2.1 (by omega)
    refine ⟨(nI (i + 1), G2), ⟨rfl, LR_h h2 hi hlen a3 ?_ (fun j hj hj2 => ?_), h3.tr (a3.L hi)⟩, fun rec => by rw [hF rec i Gi hi h2, a1, bv_some']⟩
    · rw [growTo_lo (show 12 + i < 42 by omega)] at a2 ⊢
      have := (hI.len hi).2
      refine a2.ext (fun c hc => ?_)
      rw [growTo_ch hi (by omega), growTo_ch hi (by omega), if_pos ⟨by omega, hc⟩, if_neg (by omega)]
    · unfold growTo
      by_cases hj3 : 42 ≤ j ∧ j < 42 + 30 * i ∧ (j - 42) % 30 < v (12 + (j - 42) / 30)
      · rw [if_pos hj3, if_pos (by omega)]
      · rw [if_neg hj3, if_neg (by omega)]
  obtain ⟨s', ⟨e1, e2, e3⟩, r, e4⟩ := itr_inv (F := F) (fun i s => s.1 = nI i ∧ LR p (growTo v w i) s.2 ∧ FrL p G s.2) 6 step (nI 0, G) ⟨rfl, h.ext (fun j _ => by unfold growTo; rw [if_neg (by omega)]) (fun f hf => (hI.len hf).2), FrL.rf⟩ (by omega)
  refine ⟨s'.2, r, ?_, e2, e3⟩
  rw [e4, ← e1]
theorem passWeek_c {b : Nat} (h : LR p v G) (hI : LI b v) (hb : b < 90000000) (h0 : v 0 < 1000) : ∃ G', fX4_passWeek p G = some (nI (dueV v), G') ∧ LR p (weekV v) G' ∧ FrL p G G' := by
  unfold fX4_passWeek
  have hd := dueV_le hI h0
  rw [lt_def, lt_def, show G p 2 = nI (v 0) from h.1 2 (by omega) (by omega), nI_add]
  have h1 := LR_n (x := v 0 + 1) h (j := 2) (by omega) (by omega)
  rw [show mset G p 2 (nI (v 0 + 1)) p 5 = nI (v 11) from h1.1 5 (by omega) (by omega)]
  have h2 : LR p (week1 v) (mset (mset G p 2 (nI (v 0 + 1))) p 6 (nI (v 11))) := LR_n (x := v 11) h1 (j := 6) (by omega) (by omega)
  have fr2 : FrL p G (mset (mset G p 2 (nI (v 0 + 1))) p 6 (nI (v 11))) := (FrL.m (by omega) (by omega)).tr (FrL.m (by omega) (by omega))
  generalize mset (mset G p 2 (nI (v 0 + 1))) p 6 (nI (v 11)) = G2 at h2 fr2 ⊢
  have w0 : week1 v 0 = v 0 + 1 := by unfold week1; rw [vs_ne (by omega), vs_eq]
  obtain ⟨G3, r, a1, a2, a3⟩ := growAll (w := v 0 + 1) h2 (LI_week1 hI h0) w0 (FX4_passWeek_20 p) (fun rec i G1 hi hL => by
    show bX4_passWeek_20 p rec (nI i) G1 = _
    unfold bX4_passWeek_20
    rw [if_neg (by rw [nI_leI (by omega) (by omega)]; omega), nI_ix (by omega) (by omega), nI_clamp (by omega), show G1 p 2 = nI (v 0 + 1) from (hL.1 2 (by omega) (by omega)).trans (congrArg nI (by show growTo _ _ _ 0 = _; rw [growTo_lo (by omega), w0])), nI_add])
  rw [a1]
  show ∃ G', bX4_passWeek_20 p r (nI 6) G3 = _ ∧ _
  unfold bX4_passWeek_20
  have a2 : LR p (week2 v) G3 := a2
  have hI2 := LI_week2 hI h0
  have q6 : week2 v 6 = v 6 := by unfold week2; rw [growTo_lo (by omega)]; unfold week1; rw [vs_ne (by omega), vs_ne (by omega)]
  rw [if_pos (by rw [nI_leI (by omega) (by omega)]; omega), finesDue_c a2 hI2, bd_some', lt_def, show G3 p 11 = nI (v 6) from (a2.1 11 (by omega) (by omega)).trans (congrArg nI q6), nI_add]
  have h4 : LR p (vs (week2 v) 6 (v 6 + dueV v)) (mset G3 p 11 (nI (v 6 + dueV v))) := LR_n a2 (j := 11) (by omega) (by omega)
  have h6 : v 6 ≤ b := hI.1.2.2.2.2.2.2.1
  obtain ⟨G5, b1, b2, b3⟩ := spend_c (x := dueV v) h4 (hI2.vsn (k := 6) (by omega) (b' := b + dueV v) (by omega) (by omega) (fun z => by omega)) (by omega) (by omega)
  have b1 : fX4_spend p (nI (sumF (fineV (week2 v)) 6)) (mset G3 p 11 (nI (v 6 + sumF (fineV (week2 v)) 6))) = some G5 := b1
  rw [b1, bv_some']
  exact ⟨G5, rfl, b2, ((fr2.tr a3).tr (FrL.m (by omega) (by omega))).tr b3⟩
end
