section
variable {G G' : Mem} {S W Tx v : Nat → Nat} {nx h n b : Nat}
abbrev inW (lo hi : Nat) (x : Int32) : Prop := (lo : Int) ≤ x.toInt ∧ x.toInt ≤ (hi : Int)
theorem inW_c {x : Int32} {lo hi : Nat} (h1 : lo < 2 ^ 31) (h2 : hi < 2 ^ 31) : fX8_isWithin x (nI lo) (nI hi) G = some (if inW lo hi x then nI 1 else nI 0, G) := within_c h1 h2
/-! pass -/
def weeksV (v : Nat → Nat) : Nat → Nat → Nat
  | 0 => v
  | k + 1 => weekV (weeksV v k)
def dueN (v : Nat → Nat) (k : Nat) : Nat := sumF (fun i => dueV (weeksV v i)) k
theorem weekV_hi {k : Nat} (hk : 222 ≤ k) : weekV v k = v k := by
  unfold weekV spendV
  rw [vs_ne (by omega), vs_ne (by omega), vs_ne (by omega)]
  unfold week2 growTo
  rw [if_neg (by omega)]
  unfold week1
  rw [vs_ne (by omega), vs_ne (by omega)]
theorem weeksV_hi {k m : Nat} (hk : 222 ≤ k) : weeksV v m k = v k := by
  induction m with
  | zero => rfl
  | succ m ih => exact (weekV_hi hk).trans ih
theorem weeksV_0 {m : Nat} : weeksV v m 0 = v 0 + m := by
  induction m with
  | zero => rfl
  | succ m ih => exact weekV_0.trans (by omega)
theorem LI_weeks {m : Nat} (h : LI b v) (h0 : v 0 + m ≤ 1000) : LI (b + 3240 * m) (weeksV v m) := by
  induction m with
  | zero => exact h
  | succ m ih =>
    have := LI_weekV (ih (by omega)) (by rw [weeksV_0]; omega)
    exact this.mono (by omega)
theorem LI_sub {m : Nat} (h : LI b v) (h0 : v 0 + m ≤ 1000) (hm : m ≤ 60) : LI (b + 194400) (weeksV v m) := (LI_weeks h h0).mono (by omega)
def oPass (x : Int32) (S : Nat → Nat) : Oc := if inW 1 60 x then (if S 0 + tn x ≤ 1000 then .inr (dueN S (tn x), weeksV S (tn x)) else .inl (-3)) else .inl (-1)
theorem c_pass (hb : b < 89000000) (x1 : Int32) : ActC b (fX8_pass 0 x1) (oPass x1) := by
  intro nx S W Tx h n G hC hI
  have hL : LR 2 S G := hC.1.1
  have hLI := hI.1.1
  have hN := hLI.1
  unfold fX8_pass oPass
  rw [inW_c (by omega) (by omega), bd_some']
  by_cases hx : inW 1 60 x1
  · have e1 := tn_int (x := x1) (by omega)
    have e2 := tn_eq (x := x1) (by omega)
    generalize hm : tn x1 = m at e1 e2
    have hm60 : m ≤ 60 := by omega
    subst e2
    rw [if_pos hx, if_neg (by decide), if_pos hx, show G (0 + 2) 2 = nI (S 0) from hL.1 2 (by omega) (by omega), nI_add]
    by_cases h0 : S 0 + m ≤ 1000
    · rw [if_pos (by rw [nI_leI (by omega) (by omega)]; exact h0), if_pos h0]
      obtain ⟨G1, a1, a2, a3, a4⟩ := hC.keep hI
      rw [show (0 : Nat) + 103 = 103 from rfl, show (0 : Nat) + 1 = 1 from rfl, a1, bv_some']
      have step : ∀ i (s : Int32 × Int32 × Mem), i < m → (s.1 = nI (dueN S i) ∧ s.2.1 = nI i ∧ LR 2 (weeksV S i) s.2.2 ∧ FrL 2 G1 s.2.2) → ∃ s' : Int32 × Int32 × Mem, (s'.1 = nI (dueN S (i + 1)) ∧ s'.2.1 = nI (i + 1) ∧ LR 2 (weeksV S (i + 1)) s'.2.2 ∧ FrL 2 G1 s'.2.2) ∧ ∀ rec, FX8_pass_45 0 (nI m) rec s = rec s' := by
        intro i s hi hs
        obtain ⟨s1, s2, Gs⟩ := s
        obtain ⟨h1, h2, h3, h4⟩ := hs
        simp only at h1 h2 h3 h4
        subst h1 h2
        obtain ⟨G2, b1, b2, b3⟩ := passWeek_c h3 (LI_sub hLI (by omega) (by omega)) (by omega) (by rw [weeksV_0]; omega)
        refine ⟨(nI (dueN S (i + 1)), nI (i + 1), G2), ⟨rfl, rfl, b2, h4.tr b3⟩, fun rec => ?_⟩
        show bX8_pass_45 0 (nI m) rec (nI (dueN S i)) (nI i) Gs = _
        unfold bX8_pass_45
        rw [if_neg (by rw [nI_leI (by omega) (by omega)]; omega), show (0 : Nat) + 2 = 2 from rfl, b1, bd_some', nI_add, nI_add]
        rfl
      obtain ⟨⟨s1, s2, G2⟩, ⟨h1, h2, h3, h4⟩, rec', hrec⟩ := itr_inv (F := FX8_pass_45 0 (nI m)) (fun i (s : Int32 × Int32 × Mem) => s.1 = nI (dueN S i) ∧ s.2.1 = nI i ∧ LR 2 (weeksV S i) s.2.2 ∧ FrL 2 G1 s.2.2) m step (nI 0, nI 0, G1) ⟨rfl, rfl, a2.1.1, FrL.rf⟩ (by omega)
      simp only at h1 h2 h3 h4
      subst h1 h2
      rw [hrec]
      obtain ⟨c1, c2⟩ := a2.land h3 h4 (fun k hk => weeksV_hi hk)
      refine ⟨G2, _, ?_, c1, a3.tr c2⟩
      show bX8_pass_45 0 (nI m) rec' (nI (dueN S m)) (nI m) G2 = _
      unfold bX8_pass_45
      rw [if_pos (by rw [nI_leI (by omega) (by omega)]; exact Nat.le_refl _)]
      rfl
    · rw [if_neg (by rw [nI_leI (by omega) (by omega)]; exact h0), if_neg h0]
      exact ⟨G, nx, rfl, hC, FrX.rf⟩
  · rw [if_neg hx, if_pos rfl, if_neg hx]
    exact ⟨G, nx, rfl, hC, FrX.rf⟩
end
