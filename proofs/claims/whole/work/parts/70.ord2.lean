section
variable {G G' : Mem} {S S' W Tx B v : Nat → Nat} {h n b : Nat}
/-! the reference's best order -/
theorem MR.cg (hM : MR S W Tx h n G) (hf : ∀ q, q ≠ 631 → G' q = G q) : MR S W Tx h n G' := ⟨hM.1, hM.2.1, fun k hk => by rw [hf 628 (by omega)]; exact hM.2.2.1 k hk, fun k hk => by rw [hf 629 (by omega)]; exact hM.2.2.2.1 k hk, by rw [hf 627 (by omega)]; exact hM.2.2.2.2.1, by rw [hf 627 (by omega)]; exact hM.2.2.2.2.2.1, fun j hj => by rw [hf 632 (by omega)]; exact hM.2.2.2.2.2.2 j hj⟩
theorem weeksOf_m {f : Nat} (hM : MR v W Tx h n G) (hI : LI b v) (hf : f < 6) : fX9_weeksOf 627 (nI f) G = some (nI (wks v f), G) := by
  unfold fX9_weeksOf wks
  have hN := hI.1
  have hl := (hI.len hf).2
  have hs : sm tk (cf v f) (v (12 + f)) ≤ 15 * v (12 + f) := sm_le (fun c _ => tk_le _)
  rw [workOf_m hM hI hf, bd_some', show (627 : Nat) + 1 = 628 from rfl, hM.s (k := 11) (by omega)]
  unfold nz
  rw [if_neg (by rw [show (0 : Int32) = nI 0 from rfl, nI_eq (by omega) (by omega)]; omega), nI_add, pk_sub (by omega), pk_div (by omega) (by omega) (by omega)]
theorem costs_m {f T : Nat} (hM : MR v W Tx h n G) (hI : LI b v) (hf : f < 6) (hT : T < 64) : fX9_costs 627 (nI f) (nI T) G = some (nI (cst v f T), G) := by
  unfold fX9_costs
  have hN := hI.1
  have hl := (hI.len hf).2
  have hlo := (hI.2 f hf).2.2
  rw [show (627 : Nat) + 1 = 628 from rfl, hM.s (k := 0) (by omega)]
  refine itr_run (fun i : Nat => (nI (v 0 + wsum v T i), nI i, G)) 6 (fun i hi rec => ?_) (by omega) (fun rec => ?_)
  · show bX9_costs_10 627 (nI f) (nI T) rec (nI (v 0 + wsum v T i)) (nI i) G = rec (nI (v 0 + (wsum v T i + (if bt T i = 1 then wks v i else 0))), nI (i + 1), G)
    unfold bX9_costs_10 jX9_costs_38
    have hb := bt_le1 T i
    rw [if_neg (by rw [nI_leI (by omega) (by omega)]; omega), bt_shr T hT i hi]
    by_cases h1 : bt T i = 1
    · rw [if_pos (by rw [h1]), weeksOf_m hM hI hi, bd_some', nI_add, nI_add, if_pos h1, Nat.add_assoc]
    · rw [if_neg (by rw [nI_eq (by omega) (by omega)]; exact h1), nI_add, nI_add, if_neg h1, Nat.add_assoc]
  · show bX9_costs_10 627 (nI f) (nI T) rec (nI (v 0 + wsum v T 6)) (nI 6) G = _
    unfold bX9_costs_10
    have hw := wsum_le (T := T) (i := 6) hI (by omega)
    have et := pk_sub_toInt (a := v 0 + wsum v T 6) (b := v (20 + 4 * f)) (by omega) (by omega)
    rw [if_pos (by decide), con_of hM hf (by omega) (x := v (20 + 4 * f)) (congrArg v (by omega)), bd_some']
    by_cases hle : v 0 + wsum v T 6 ≤ v (20 + 4 * f)
    · rw [if_pos (i_le.mpr (by rw [et, show (nI 0).toInt = 0 from rfl]; omega))]
      refine congrArg some (congrArg (fun z => (nI z, G)) ?_)
      unfold cst
      rw [show v 0 + wsum v T 6 - v (20 + 4 * f) = 0 by omega, Nat.zero_mul, Nat.zero_mul]
    · rw [if_neg (fun z => by have := i_le.mp z; rw [et, show (nI 0).toInt = 0 from rfl] at this; omega), con_of hM hf (by omega) (x := v (21 + 4 * f)) (congrArg v (by omega)), bd_some', ofKind_m hM hf (by omega) hl (fun c hc => hI.cx hf hc), bd_some', pk_sub (by omega), nI_mulN, nI_mulN]
      rfl
theorem pk_pm {T : Nat} : nI (T + 1) + Int32.ofInt (-1) = nI T := pk_m1 T
theorem mset_0 {p j : Nat} {x : Int32} (hx : G p j = x) : mset G p j x = G := by
  funext q i
  rw [mset_at]
  by_cases hq : q = p ∧ i = j
  · rw [if_pos hq, hq.1, hq.2, hx]
  · rw [if_neg hq]
/-- one set of the reference's table -/
theorem set_m {T : Nat} {x1 x2 : Int32} (hM : MR v W Tx h n G) (hI : LI b v) (hT : T < 64) (hrow : ∀ t, T < t → t < 64 → G 631 t = nI (lsN v t)) (h0 : G 631 T = -1) (rec27 : (Int32 × Int32 × Mem) → Option (Int32 × Mem)) : ∃ G', itr FU (FX9_bestOrder_41 rec27 627 x1 (nI T)) (x2, nI 0, G) = rec27 ((match mo (okb v T) (gN v T) 6 with | none => x2 | some p => nI p.2), nI T + Int32.ofInt (-1), G') ∧ (∀ t, T ≤ t → t < 64 → G' 631 t = nI (lsN v t)) ∧ ∀ q, q ≠ 631 → G' q = G q := by
  have step : ∀ i (s : Int32 × Int32 × Mem), i < 6 → (s.1 = (match mo (okb v T) (gN v T) i with | none => x2 | some p => nI p.2) ∧ s.2.1 = nI i ∧ s.2.2 631 T = (match mo (okb v T) (gN v T) i with | none => -1 | some p => nI p.1) ∧ (∀ t, t ≠ T → s.2.2 631 t = G 631 t) ∧ ∀ q, q ≠ 631 → s.2.2 q = G q) → ∀ rec, ∃ s' : Int32 × Int32 × Mem, (s'.1 = (match mo (okb v T) (gN v T) (i + 1) with | none => x2 | some p => nI p.2) ∧ s'.2.1 = nI (i + 1) ∧ s'.2.2 631 T = (match mo (okb v T) (gN v T) (i + 1) with | none => -1 | some p => nI p.1) ∧ (∀ t, t ≠ T → s'.2.2 631 t = G 631 t) ∧ ∀ q, q ≠ 631 → s'.2.2 q = G q) ∧ FX9_bestOrder_41 rec27 627 x1 (nI T) rec s = rec s' := by
    intro i s hi hs rec
    obtain ⟨s1, s2, Gs⟩ := s
    obtain ⟨h1, h2, h3, h4, h5⟩ := hs
    simp only at h1 h2 h3 h4 h5
    have hMs := hM.cg h5
    have hmo : mo (okb v T) (gN v T) (i + 1) = if okb v T i = true then (match mo (okb v T) (gN v T) i with | none => some (gN v T i, i) | some p => if gN v T i < p.1 then some (gN v T i, i) else some p) else mo (okb v T) (gN v T) i := rfl
    have hb1 := bt_le1 T i
    have hor := bt_or T hT i hi
    subst h2
    by_cases hok : okb v T i = true
    · obtain ⟨m1, m2⟩ := okb_iff.mp hok
      obtain ⟨b1, b2, b3⟩ := bt_add T hT i hi m2
      rw [if_neg (by omega)] at hor
      have hgl := gN_le (T := T) hI hi
      have hx6 : nI (cst v i (T + 2 ^ i)) + Gs 631 (T + 2 ^ i) = nI (gN v T i) := by
        rw [h4 _ (by omega), hrow _ (by omega) b1, nI_add]
        rfl
      have ms : ∀ y : Int32, mset Gs 631 T y 631 T = y := fun y => by rw [mset_at, if_pos ⟨rfl, rfl⟩]
      have mt : ∀ (y : Int32) t, t ≠ T → mset Gs 631 T y 631 t = G 631 t := fun y t ht => by rw [mset_at, if_neg (fun z => ht z.2)]; exact h4 t ht
      have mq : ∀ (y : Int32) q, q ≠ 631 → mset Gs 631 T y q = G q := fun y q hq => (mset_ne hq).trans (h5 q hq)
      rw [if_pos hok] at hmo
      have hpre : bX9_bestOrder_41 rec27 627 x1 (nI T) rec s1 (nI i) Gs = (if Gs 631 T < nI 0 then jX9_bestOrder_111 rec27 rec 627 x1 (nI T) (nI i) (nI (gN v T i)) Gs else ix (nI T) 64 (if Gs 631 T ≤ nI (gN v T i) then jX9_bestOrder_117 rec27 rec 627 x1 (nI T) (nI i) (nI (gN v T i)) s1 Gs else jX9_bestOrder_111 rec27 rec 627 x1 (nI T) (nI i) (nI (gN v T i)) Gs)) := by
        unfold bX9_bestOrder_41
        rw [if_neg (by rw [nI_leI (by omega) (by omega)]; omega), hor, if_neg (by rw [nI_eq (by omega) (by omega)]; omega), con_of hMs hi (by omega) (x := v (18 + 4 * i)) (by rw [Nat.add_zero]), bd_some', if_pos (by rw [m1]), costs_m hMs hI hi b1, bd_some', nI_ix (by omega) (by omega), nI_ix (by omega) (by omega), nI_clamp (by omega), nI_clamp (by omega), show (627 : Nat) + 4 = 631 from rfl, hx6]
      generalize hm : mo (okb v T) (gN v T) i = o at *
      cases o with
      | none =>
        have h3 : Gs 631 T = -1 := h3
        have hmo : mo (okb v T) (gN v T) (i + 1) = some (gN v T i, i) := hmo
        refine ⟨(nI i, nI (i + 1), mset Gs 631 T (nI (gN v T i))), ⟨by rw [hmo], rfl, by rw [hmo]; exact ms _, mt _, mq _⟩, ?_⟩
        show bX9_bestOrder_41 rec27 627 x1 (nI T) rec s1 (nI i) Gs = _
        rw [hpre, h3, if_pos (by decide)]
        unfold jX9_bestOrder_111 jX9_bestOrder_117 jX9_bestOrder_143
        rw [nI_ix (by omega) (by omega), nI_clamp (by omega), show (627 : Nat) + 4 = 631 from rfl, h3, if_pos (by decide), nI_ix (by omega) (by omega), lt_def, nI_add]
      | some p =>
        have h3 : Gs 631 T = nI p.1 := h3
        have h1 : s1 = nI p.2 := h1
        have hmo : mo (okb v T) (gN v T) (i + 1) = if gN v T i < p.1 then some (gN v T i, i) else some p := hmo
        obtain ⟨p1, p2, p3, p4, p5⟩ := mo_spec hm
        have hpl : p.1 ≤ 80000000 := by rw [← p3]; exact gN_le hI (by omega)
        have hn0 : ¬ nI p.1 < nI 0 := by rw [nI_ltI (by omega) (by omega)]; omega
        by_cases hlt : gN v T i < p.1
        · rw [if_pos hlt] at hmo
          have hnl : ¬ nI p.1 ≤ nI (gN v T i) := by rw [nI_leI (by omega) (by omega)]; omega
          refine ⟨(nI i, nI (i + 1), mset Gs 631 T (nI (gN v T i))), ⟨by rw [hmo], rfl, by rw [hmo]; exact ms _, mt _, mq _⟩, ?_⟩
          show bX9_bestOrder_41 rec27 627 x1 (nI T) rec s1 (nI i) Gs = _
          rw [hpre, h3, if_neg hn0, nI_ix (by omega) (by omega), if_neg hnl]
          unfold jX9_bestOrder_111 jX9_bestOrder_117 jX9_bestOrder_143
          rw [nI_ix (by omega) (by omega), nI_clamp (by omega), show (627 : Nat) + 4 = 631 from rfl, h3, if_neg hn0, nI_ix (by omega) (by omega), if_neg hnl, nI_ix (by omega) (by omega), lt_def, nI_add]
        · rw [if_neg hlt] at hmo
          have hnl : nI p.1 ≤ nI (gN v T i) := by rw [nI_leI (by omega) (by omega)]; omega
          refine ⟨(s1, nI (i + 1), Gs), ⟨by rw [hmo]; exact h1, rfl, by rw [hmo]; exact h3, h4, h5⟩, ?_⟩
          show bX9_bestOrder_41 rec27 627 x1 (nI T) rec s1 (nI i) Gs = _
          rw [hpre, h3, if_neg hn0, nI_ix (by omega) (by omega), if_pos hnl]
          unfold jX9_bestOrder_117
          rw [nI_ix (by omega) (by omega), nI_clamp (by omega), show (627 : Nat) + 4 = 631 from rfl, h3, if_neg hn0, nI_ix (by omega) (by omega), if_pos hnl, nI_ix (by omega) (by omega), nI_ix (by omega) (by omega), lt_def, nI_add, mset_0 h3]
    · rw [if_neg hok] at hmo
      refine ⟨(s1, nI (i + 1), Gs), ⟨by rw [hmo]; exact h1, rfl, by rw [hmo]; exact h3, h4, h5⟩, ?_⟩
      show bX9_bestOrder_41 rec27 627 x1 (nI T) rec s1 (nI i) Gs = _
      unfold bX9_bestOrder_41
      rw [if_neg (by rw [nI_leI (by omega) (by omega)]; omega), hor]
      by_cases hbt : bt T i = 1
      · rw [if_pos hbt, if_pos rfl, nI_add]
      · obtain ⟨b1, b2, b3⟩ := bt_add T hT i hi (by omega)
        have hmv : v (18 + 4 * i) ≠ 1 := fun z => hok (okb_iff.mpr ⟨z, by omega⟩)
        have hm1 := (hI.2 i hi).2.2.1
        rw [if_neg hbt, if_neg (by rw [nI_eq (by omega) (by omega)]; omega), con_of hMs hi (by omega) (x := v (18 + 4 * i)) (by rw [Nat.add_zero]), bd_some', if_neg (by rw [nI_eq (by omega) (by omega)]; exact hmv), nI_add]
  obtain ⟨⟨s1, s2, G2⟩, ⟨h1, h2, h3, h4, h5⟩, rec', hrec⟩ := itr_inv2 (F := FX9_bestOrder_41 rec27 627 x1 (nI T)) (fun i (s : Int32 × Int32 × Mem) => s.1 = (match mo (okb v T) (gN v T) i with | none => x2 | some p => nI p.2) ∧ s.2.1 = nI i ∧ s.2.2 631 T = (match mo (okb v T) (gN v T) i with | none => -1 | some p => nI p.1) ∧ (∀ t, t ≠ T → s.2.2 631 t = G 631 t) ∧ ∀ q, q ≠ 631 → s.2.2 q = G q) 6 step (x2, nI 0, G) ⟨rfl, rfl, h0, fun t ht => rfl, fun q hq => rfl⟩ (by omega)
  simp only at h1 h2 h3 h4 h5
  rw [hrec]
  show ∃ G', bX9_bestOrder_41 rec27 627 x1 (nI T) rec' s1 s2 G2 = _ ∧ _
  unfold bX9_bestOrder_41
  have hls := lsN_eq (v := v) hT
  rw [h2, if_pos (by decide), nI_ix (by omega) (by omega), nI_clamp (by omega), show (627 : Nat) + 4 = 631 from rfl, h1]
  generalize hm : mo (okb v T) (gN v T) 6 = o at *
  cases o with
  | none =>
    have h3 : G2 631 T = -1 := h3
    have hls : lsN v T = 0 := hls
    rw [h3, if_neg (by decide), nI_ix (by omega) (by omega), lt_def]
    refine ⟨_, rfl, fun t ht ht2 => ?_, fun q hq => (mset_ne hq).trans (h5 q hq)⟩
    rw [mset_at]
    by_cases htT : t = T
    · subst htT; rw [if_pos ⟨rfl, rfl⟩, hls]
    · rw [if_neg (fun z => htT z.2), h4 t htT]; exact hrow t (by omega) ht2
  | some p =>
    have h3 : G2 631 T = nI p.1 := h3
    have hls : lsN v T = p.1 := hls
    obtain ⟨p1, p2, p3, p4, p5⟩ := mo_spec hm
    have hpl : p.1 ≤ 80000000 := by rw [← p3]; exact gN_le hI (by omega)
    rw [h3, if_pos (by rw [nI_leI (by omega) (by omega)]; omega), nI_ix (by omega) (by omega), nI_ix (by omega) (by omega), lt_def, mset_0 h3]
    refine ⟨_, rfl, fun t ht ht2 => ?_, h5⟩
    by_cases htT : t = T
    · subst htT; rw [h3, hls]
    · rw [h4 t htT]; exact hrow t (by omega) ht2
/-- what bestOrder answers -/
def qBest (x1 : Int32) (S : Nat → Nat) : Int32 := if inW 0 1 x1 then (if sumF (fun f => S (18 + 4 * f)) 6 = 0 then -9 else if x1 = nI 0 then nI (lsN S 0) else (match mo (okb S 0) (gN S 0) 6 with | none => -9 | some p => nI p.2)) else -1
theorem m_best (x1 : Int32) (hM : MR S W Tx h n G) (hI : LI b S) : ∃ G', fX9_bestOrder 627 x1 G = some (qBest x1 S, G') ∧ MR S W Tx h n G' ∧ FrM G G' := by
  unfold fX9_bestOrder qBest
  have hsum : sumF (fun f => S (18 + 4 * f)) 6 ≤ 6 := Nat.le_trans (sumF_le (m := 1) (fun i hi => (hI.2 i (by omega)).2.2.1)) (by decide)
  rw [in_m (by omega) (by omega), bd_some']
  by_cases hw : inW 0 1 x1
  · rw [if_pos hw, if_neg (by decide), if_pos hw, contracts_m hM, bd_some']
    by_cases h0 : sumF (fun f => S (18 + 4 * f)) 6 = 0
    · rw [if_pos (by rw [h0]), if_pos h0]
      exact ⟨G, rfl, hM, FrM.rf⟩
    · rw [if_neg (by rw [nI_eq (by omega) (by omega)]; exact h0), if_neg h0]
      have step : ∀ i (s : Int32 × Int32 × Mem), i < 64 → (s.2.1 = (if i < 64 then nI (63 - i) else -1) ∧ (i = 64 → s.1 = (match mo (okb S 0) (gN S 0) 6 with | none => s.1 | some p => nI p.2)) ∧ (∀ t, 64 - i ≤ t → t < 64 → s.2.2 631 t = nI (lsN S t)) ∧ ∀ q, q ≠ 631 → s.2.2 q = G q) → ∀ rec, ∃ s' : Int32 × Int32 × Mem, (s'.2.1 = (if i + 1 < 64 then nI (63 - (i + 1)) else -1) ∧ (i + 1 = 64 → s'.1 = (match mo (okb S 0) (gN S 0) 6 with | none => s'.1 | some p => nI p.2)) ∧ (∀ t, 64 - (i + 1) ≤ t → t < 64 → s'.2.2 631 t = nI (lsN S t)) ∧ ∀ q, q ≠ 631 → s'.2.2 q = G q) ∧ FX9_bestOrder_27 627 x1 rec s = rec s' := by
        intro i s hi hs rec
        obtain ⟨s1, s2, Gs⟩ := s
        obtain ⟨h1, h2, h3, h4⟩ := hs
        simp only at h1 h2 h3 h4
        rw [if_pos hi] at h1
        subst h1
        obtain ⟨G2, d1, d2, d3⟩ := set_m (T := 63 - i) (x1 := x1) (x2 := s1) (G := mset Gs 631 (63 - i) (-1)) (hM.cg (fun q hq => (mset_ne hq).trans (h4 q hq))) hI (by omega) (fun t ht ht2 => by rw [mset_at, if_neg (by omega)]; exact h3 t (by omega) ht2) (by rw [mset_at, if_pos ⟨rfl, rfl⟩]) rec
        refine ⟨((match mo (okb S (63 - i)) (gN S (63 - i)) 6 with | none => s1 | some p => nI p.2), nI (63 - i) + Int32.ofInt (-1), G2), ⟨?_, fun z => ?_, fun t ht ht2 => d2 t (by omega) ht2, fun q hq => (d3 q hq).trans ((mset_ne hq).trans (h4 q hq))⟩, ?_⟩
        · show nI (63 - i) + Int32.ofInt (-1) = _
          by_cases hi2 : i + 1 < 64
          · rw [if_pos hi2, show 63 - i = (63 - (i + 1)) + 1 by omega, pk_pm]
          · rw [if_neg hi2, show i = 63 by omega]
            decide
        · have hi63 : i = 63 := by omega
          subst hi63
          show (match mo (okb S 0) (gN S 0) 6 with | none => s1 | some p => nI p.2) = (match mo (okb S 0) (gN S 0) 6 with | none => (match mo (okb S 0) (gN S 0) 6 with | none => s1 | some p => nI p.2) | some p => nI p.2)
          cases mo (okb S 0) (gN S 0) 6 <;> rfl
        · show bX9_bestOrder_27 627 x1 rec s1 (nI (63 - i)) Gs = _
          unfold bX9_bestOrder_27
          rw [if_neg (by rw [nI_ltI (by omega) (by omega)]; omega), nI_ix (by omega) (by omega), nI_clamp (by omega), lt_def, show (627 : Nat) + 4 = 631 from rfl, d1]
      obtain ⟨⟨s1, s2, G2⟩, ⟨h1, h2, h3, h4⟩, rec', hrec⟩ := itr_inv2 (F := FX9_bestOrder_27 627 x1) (fun i (s : Int32 × Int32 × Mem) => s.2.1 = (if i < 64 then nI (63 - i) else -1) ∧ (i = 64 → s.1 = (match mo (okb S 0) (gN S 0) 6 with | none => s.1 | some p => nI p.2)) ∧ (∀ t, 64 - i ≤ t → t < 64 → s.2.2 631 t = nI (lsN S t)) ∧ ∀ q, q ≠ 631 → s.2.2 q = G q) 64 step (-9, nI 63, G) ⟨rfl, fun z => (by omega), fun t ht ht2 => (by omega), fun q hq => rfl⟩ (by omega)
      simp only at h1 h2 h3 h4
      rw [hrec, h1]
      refine ⟨G2, ?_, hM.cg h4, fun q hq => h4 q (by omega)⟩
      show bX9_bestOrder_27 627 x1 rec' s1 (-1) G2 = _
      unfold bX9_bestOrder_27
      rw [if_pos (by decide)]
      refine iteq (fun z => ?_) (fun z => ?_)
      · rw [show (627 : Nat) + 4 = 631 from rfl, h3 0 (by omega) (by omega)]
      · have h2 := h2 trivial
        obtain ⟨j, hj, hmj⟩ : ∃ j, j < 6 ∧ S (18 + 4 * j) = 1 := by
          by_cases hall : ∀ j, j < 6 → S (18 + 4 * j) = 0
          · exfalso
            apply h0
            have : sumF (fun f => S (18 + 4 * f)) 6 ≤ 0 * 6 := sumF_le (fun i hi => by rw [hall i hi]; exact Nat.le_refl _)
            omega
          · have : ∃ j, ¬ (j < 6 → S (18 + 4 * j) = 0) := Classical.not_forall.mp hall
            obtain ⟨j, hj⟩ := this
            have hj6 : j < 6 := Classical.byContradiction fun z => hj (fun y => absurd y z)
            refine ⟨j, hj6, ?_⟩
            have := (hI.2 j hj6).2.2.1
            have : S (18 + 4 * j) ≠ 0 := fun z => hj (fun _ => z)
            omega
        obtain ⟨p, hp⟩ := mo_some (g := gN S 0) (P := okb S 0) hj (okb_iff.mpr ⟨hmj, by show 0 / 2 ^ j % 2 = 0; rw [Nat.zero_div]⟩)
        rw [hp] at h2 ⊢
        have h2 : s1 = nI p.2 := h2
        rw [h2]
  · rw [if_neg hw, if_pos rfl, if_neg hw]
    exact ⟨G, rfl, hM, FrM.rf⟩
end
