/-! A HEDGE OF THE CLASS, by the codes of its chains: kind + 4 * thickness + 64 * age -/
def HR (q n : Nat) (ch : Nat → Nat) (G : Mem) : Prop := G q 3 = nI n ∧ ∀ c, c < n → G (q + 1) c = nI (ch c % 4) ∧ G (q + 2) c = nI (ch c / 4 % 16) ∧ G (q + 3) c = nI (ch c / 64)
/-- a chain's code is one of a chain -/
def okc (x : Nat) : Prop := x < 1024 ∧ ((x % 4 = 0 ∧ 1 ≤ x / 4 % 16 ∧ x / 4 % 16 ≤ 9 ∧ x / 64 = 0) ∨ (x % 4 = 1 ∧ 1 ≤ x / 4 % 16 ∧ x / 4 % 16 ≤ 9 ∧ x / 64 = 0) ∨ (x % 4 = 2 ∧ x / 4 % 16 = 0 ∧ x / 64 = 0) ∨ (x % 4 = 3 ∧ x / 4 % 16 = 0 ∧ x / 64 ≤ 5))
def Fr (q : Nat) (G G' : Mem) : Prop := ∀ a, (a < q ∨ q + 3 < a) → G' a = G a
theorem Fr.rf {q : Nat} {G : Mem} : Fr q G G := fun _ _ => rfl
theorem Fr.tr {q : Nat} {G G1 G2 : Mem} (h1 : Fr q G G1) (h2 : Fr q G1 G2) : Fr q G G2 := fun a h => (h2 a h).trans (h1 a h)
theorem HR.cg {q n : Nat} {ch : Nat → Nat} {G G' : Mem} (h : HR q n ch G) (h0 : G' q = G q) (h1 : G' (q + 1) = G (q + 1)) (h2 : G' (q + 2) = G (q + 2)) (h3 : G' (q + 3) = G (q + 3)) : HR q n ch G' := by
  unfold HR
  rw [h0, h1, h2, h3]
  exact h
theorem HR.ext {q n : Nat} {ch ch' : Nat → Nat} {G : Mem} (h : HR q n ch G) (he : ∀ c, c < n → ch' c = ch c) : HR q n ch' G := ⟨h.1, fun c hc => by rw [he c hc]; exact h.2 c hc⟩
section
variable {q n : Nat} {ch : Nat → Nat} {G : Mem}
theorem has_c {c : Nat} (h : HR q n ch G) (hn : n ≤ 30) (hc : c < n) : fX1_has q (nI c) G = some (nI 1, G) := by
  rw [has_eq h.1 (by omega), nI_toInt (by omega), if_pos (by omega)]
theorem has_no {x : Int32} (h : HR q n ch G) (hn : n ≤ 30) (hx : ¬ (0 ≤ x.toInt ∧ x.toInt < n)) : fX1_has q x G = some (nI 0, G) := by
  rw [has_eq h.1 (by omega), if_neg hx]
theorem kindOf_c {c : Nat} (h : HR q n ch G) (hn : n ≤ 30) (hc : c < n) : fX1_kindOf q (nI c) G = some (nI (ch c % 4), G) := by
  unfold fX1_kindOf
  rw [has_c h hn hc, bd_some', if_neg (by decide), nI_ix (by omega) (by omega), nI_clamp (by omega), (h.2 c hc).1]
theorem kindOf_no {x : Int32} (h : HR q n ch G) (hn : n ≤ 30) (hx : ¬ (0 ≤ x.toInt ∧ x.toInt < n)) : fX1_kindOf q x G = some (-1, G) := by
  unfold fX1_kindOf
  rw [has_no h hn hx, bd_some', if_pos rfl]
theorem thick_c {c : Nat} (h : HR q n ch G) (hn : n ≤ 30) (hc : c < n) : fX1_thicknessOf q (nI c) G = some (nI (ch c / 4 % 16), G) := by
  unfold fX1_thicknessOf
  rw [has_c h hn hc, bd_some', if_neg (by decide), nI_ix (by omega) (by omega), nI_clamp (by omega), (h.2 c hc).2.1]
theorem age_c {c : Nat} (h : HR q n ch G) (hn : n ≤ 30) (hc : c < n) : fX1_ageOf q (nI c) G = some (nI (ch c / 64), G) := by
  unfold fX1_ageOf
  rw [has_c h hn hc, bd_some', if_neg (by decide), nI_ix (by omega) (by omega), nI_clamp (by omega), (h.2 c hc).2.2]
theorem isToLay_c {c : Nat} (h : HR q n ch G) (hn : n ≤ 30) (hc : c < n) : fX1_isToLay q (nI c) G = some (if ch c % 4 = 0 ∧ 2 ≤ ch c / 4 % 16 then nI 1 else nI 0, G) := by
  unfold fX1_isToLay
  rw [has_c h hn hc, bd_some', if_neg (by decide), nI_ix (by omega) (by omega), nI_clamp (by omega), (h.2 c hc).1, nI_ix (by omega) (by omega), (h.2 c hc).2.1]
  by_cases h1 : ch c % 4 = 0
  · rw [if_pos (by rw [h1])]
    by_cases h2 : 2 ≤ ch c / 4 % 16
    · rw [if_neg (by rw [nI_ltI (by omega) (by omega)]; omega), if_pos ⟨h1, h2⟩]
    · rw [if_pos (by rw [nI_ltI (by omega) (by omega)]; omega), if_neg (fun z => h2 z.2)]
  · rw [if_neg (by rw [nI_eq (by omega) (by omega)]; omega), if_neg (fun z => h1 z.1)]
theorem isToLay_no {x : Int32} (h : HR q n ch G) (hn : n ≤ 30) (hx : ¬ (0 ≤ x.toInt ∧ x.toInt < n)) : fX1_isToLay q x G = some (nI 0, G) := by
  unfold fX1_isToLay
  rw [has_no h hn hx, bd_some', if_pos rfl]
theorem isToCut_c {c : Nat} (h : HR q n ch G) (hn : n ≤ 30) (hc : c < n) : fX1_isToCut q (nI c) G = some (if ch c % 4 = 0 ∧ 3 ≤ ch c / 4 % 16 then nI 1 else nI 0, G) := by
  unfold fX1_isToCut
  rw [has_c h hn hc, bd_some', if_neg (by decide), nI_ix (by omega) (by omega), nI_clamp (by omega), (h.2 c hc).1, nI_ix (by omega) (by omega), (h.2 c hc).2.1]
  by_cases h1 : ch c % 4 = 0
  · rw [if_pos (by rw [h1])]
    by_cases h2 : 3 ≤ ch c / 4 % 16
    · rw [if_neg (by rw [nI_ltI (by omega) (by omega)]; omega), if_pos ⟨h1, h2⟩]
    · rw [if_pos (by rw [nI_ltI (by omega) (by omega)]; omega), if_neg (fun z => h2 z.2)]
  · rw [if_neg (by rw [nI_eq (by omega) (by omega)]; omega), if_neg (fun z => h1 z.1)]
/-- how many of the first n are of a kind -/
def cnt (ch : Nat → Nat) (k : Nat) : Nat → Nat
  | 0 => 0
  | n + 1 => cnt ch k n + (if ch n % 4 = k then 1 else 0)
theorem cnt_le (ch : Nat → Nat) (k n : Nat) : cnt ch k n ≤ n := by
  induction n with
  | zero => exact Nat.le_refl 0
  | succ n ih => show cnt ch k n + _ ≤ _; split <;> omega
theorem cnt_ext {ch ch' : Nat → Nat} {k n : Nat} (h : ∀ c, c < n → ch' c % 4 = ch c % 4) : cnt ch' k n = cnt ch k n := by
  induction n with
  | zero => rfl
  | succ n ih => show cnt ch' k n + _ = cnt ch k n + _; rw [ih (fun c hc => h c (by omega)), h n (by omega)]
theorem cnt_0 {ch : Nat → Nat} {k n : Nat} : cnt ch k n = 0 ↔ ∀ c, c < n → ch c % 4 ≠ k := by
  induction n with
  | zero => exact ⟨fun _ c hc => absurd hc (Nat.not_lt_zero c), fun _ => rfl⟩
  | succ n ih =>
    show cnt ch k n + _ = 0 ↔ _
    constructor
    · intro h c hc
      by_cases hcn : c = n
      · subst hcn
        intro hk
        rw [if_pos hk] at h
        omega
      · exact ih.mp (by omega) c (by omega)
    · intro h
      rw [ih.mpr (fun c hc => h c (by omega)), if_neg (h n (by omega))]
theorem numberOf_eq {k : Nat} (h : HR q n ch G) (hn : n ≤ 30) (hk : k < 4) : fX1_numberOf q (nI k) G = some (nI (cnt ch k n), G) := by
  unfold fX1_numberOf
  refine itr_run (fun i : Nat => (nI (cnt ch k i), nI i, G)) n (fun i hi rec => ?_) (by omega) (fun rec => ?_)
  · show bX1_numberOf_4 q (nI k) rec (nI (cnt ch k i)) (nI i) G = rec (nI (cnt ch k (i + 1)), nI (i + 1), G)
    unfold bX1_numberOf_4
    have := cnt_le ch k i
    rw [h.1, if_neg (by rw [nI_leI (by omega) (by omega)]; omega), kindOf_c h hn hi, bd_some', nI_add, nI_add]
    show _ = rec (nI (cnt ch k i + _), _, _)
    by_cases h1 : ch i % 4 = k
    · rw [if_pos (by rw [h1]), if_pos h1]
    · rw [if_neg (by rw [nI_eq (by omega) (by omega)]; exact h1), if_neg h1]; rfl
  · show bX1_numberOf_4 q (nI k) rec (nI (cnt ch k n)) (nI n) G = _
    unfold bX1_numberOf_4
    rw [h.1, if_pos (by rw [nI_leI (by omega) (by omega)]; omega)]
/-- a chain is changed -/
theorem hSet_HR {c k t : Nat} (h : HR q n ch G) (hc : c < n) (hk : k < 4) (ht : t < 16) : HR q n (fun j => if j = c then k + 4 * t else ch j) (hSet q c (nI k) (nI t) G) := by
  refine ⟨?_, fun j hj => ?_⟩
  · unfold hSet
    rw [mset_at, mset_at, mset_at, if_neg (by omega), if_neg (by omega), if_neg (by omega)]
    exact h.1
  · unfold hSet
    rw [mset_at, mset_at, mset_at, mset_at, mset_at, mset_at, mset_at, mset_at, mset_at]
    by_cases hjc : j = c
    · subst hjc
      have e1 : (k + 4 * t) % 4 = k := by omega
      have e2 : (k + 4 * t) / 4 % 16 = t := by omega
      have e3 : (k + 4 * t) / 64 = 0 := by omega
      simp [e1, e2, e3]
    · simpa [hjc] using h.2 j hj
theorem hSet_Fr {c : Nat} {k t : Int32} : Fr q G (hSet q c k t G) := fun a ha => by
  unfold hSet
  rw [mset_ne (by omega), mset_ne (by omega), mset_ne (by omega)]
theorem copyHedge {q1 : Nat} (h : HR q1 n ch G) (hn : n ≤ 30) (hq : q + 3 < q1 ∨ q1 + 3 < q) : ∃ G', fX1_copyFrom q q1 G = some G' ∧ HR q n ch G' ∧ Fr q G G' := by
  refine ⟨_, rfl, ⟨?_, fun c hc => ?_⟩, fun a ha => ?_⟩
  · show mset _ q 3 _ q 3 = _
    rw [mset_at, if_pos ⟨rfl, rfl⟩, mrow_ne (by omega), mrow_ne (by omega), mrow_ne (by omega)]
    exact h.1
  · have e : ∀ (f g : Nat → Int32), va_cpy f g 0 0 30 c = f c := fun f g => by
      rw [pk_cpy_in (by omega) (by omega)]
      congr 1
      omega
    refine ⟨?_, ?_, ?_⟩
    · show mset _ q 3 _ (q + 1) c = _
      rw [mset_ne (by omega), mrow_ne (by omega), mrow_ne (by omega), mrow_same, e]
      exact (h.2 c hc).1
    · show mset _ q 3 _ (q + 2) c = _
      rw [mset_ne (by omega), mrow_ne (by omega), mrow_same, e, mrow_ne (by omega)]
      exact (h.2 c hc).2.1
    · show mset _ q 3 _ (q + 3) c = _
      rw [mset_ne (by omega), mrow_same, e, mrow_ne (by omega), mrow_ne (by omega)]
      exact (h.2 c hc).2.2
  · show mset _ q 3 _ a = _
    rw [mset_ne (by omega), mrow_ne (by omega), mrow_ne (by omega), mrow_ne (by omega)]
end
