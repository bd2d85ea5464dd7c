/-! THE ORDER OF THE FIELDS, pure: sets of fields as numbers below 64, the least fines from a set on -/
abbrev bt (T k : Nat) : Nat := T / 2 ^ k % 2
def sbs (l A : Nat) : Prop := ∀ k, k < 6 → bt l k ≤ bt A k
theorem bt_le1 (T k : Nat) : bt T k ≤ 1 := by have := Nat.mod_lt (T / 2 ^ k) (show 2 > 0 by omega); show T / 2 ^ k % 2 ≤ 1; omega
theorem bt_or : ∀ T, T < 64 → ∀ f, f < 6 → (nI T ||| (nI 1 <<< (nI f &&& 31))) = if bt T f = 1 then nI T else nI (T + 2 ^ f) := by decide +kernel
theorem bt_shr : ∀ T, T < 64 → ∀ k, k < 6 → ((nI T >>> (nI k &&& 31)) &&& nI 1) = nI (bt T k) := by decide +kernel
theorem bt_and : ∀ T, T < 64 → ∀ k, k < 6 → ((nI T &&& (nI 1 <<< (nI k &&& 31))) = nI 0 ↔ bt T k = 0) := by decide +kernel
theorem bt_rm : ∀ T, T < 64 → ∀ f, f < 6 → bt T f = 1 → (nI T &&& ((nI 1 <<< (nI f &&& 31)) ^^^ (-1))) = nI (T - 2 ^ f) ∧ 2 ^ f ≤ T ∧ ∀ k, k < 6 → bt (T - 2 ^ f) k = if k = f then 0 else bt T k := by decide +kernel
theorem bt_sub : ∀ l, l < 64 → ∀ A, A < 64 → ((nI l &&& (nI A ^^^ (-1))) = nI 0 ↔ ∀ k, k < 6 → bt l k ≤ bt A k) := by decide +kernel
theorem bt_add : ∀ T, T < 64 → ∀ f, f < 6 → bt T f = 0 → T + 2 ^ f < 64 ∧ 0 < 2 ^ f ∧ ∀ k, k < 6 → bt (T + 2 ^ f) k = if k = f then 1 else bt T k := by decide +kernel
theorem bt_dif : ∀ l, l < 64 → ∀ A, A < 64 → (∀ k, k < 6 → bt l k ≤ bt A k) → l ≤ A ∧ ∀ k, k < 6 → bt (A - l) k = bt A k - bt l k := by decide +kernel
theorem bt_ex : ∀ l, l < 64 → 0 < l → ∃ k, k < 6 ∧ bt l k = 1 := by decide +kernel
/-- the least of g among the first i that are asked for, and the first place where it is -/
def mo (P : Nat → Bool) (g : Nat → Nat) : Nat → Option (Nat × Nat)
  | 0 => none
  | i + 1 => if P i = true then (match mo P g i with | none => some (g i, i) | some p => if g i < p.1 then some (g i, i) else some p) else mo P g i
def mv (o : Option (Nat × Nat)) : Nat := match o with
  | none => 0
  | some p => p.1
theorem mo_congr {P : Nat → Bool} {g g' : Nat → Nat} {i : Nat} (h : ∀ j, j < i → P j = true → g j = g' j) : mo P g i = mo P g' i := by
  induction i with
  | zero => rfl
  | succ i ih =>
    unfold mo
    rw [ih (fun j hj => h j (by omega))]
    by_cases hp : P i = true
    · rw [if_pos hp, if_pos hp, h i (by omega) hp]
    · rw [if_neg hp, if_neg hp]
theorem mo_congrP {P P' : Nat → Bool} {g : Nat → Nat} {i : Nat} (h : ∀ j, j < i → P j = P' j) : mo P g i = mo P' g i := by
  induction i with
  | zero => rfl
  | succ i ih =>
    unfold mo
    rw [ih (fun j hj => h j (by omega)), h i (by omega)]
theorem mo_spec {P : Nat → Bool} {g : Nat → Nat} : ∀ {i : Nat} {p : Nat × Nat}, mo P g i = some p → p.2 < i ∧ P p.2 = true ∧ g p.2 = p.1 ∧ (∀ j, j < i → P j = true → p.1 ≤ g j) ∧ ∀ j, j < p.2 → P j = true → p.1 < g j := by
  intro i
  induction i with
  | zero => intro p h; cases h
  | succ i ih =>
    intro p h
    unfold mo at h
    by_cases hp : P i = true
    · rw [if_pos hp] at h
      generalize hm : mo P g i = o at h ih
      cases o with
      | none =>
        have hz : some (g i, i) = some p := h
        have hz := Option.some.inj hz
        subst hz
        have hno : ∀ j, j < i → P j = true → False := by
          intro j hj hpj
          have key : ∀ m, j < m → mo P g m ≠ none := by
            intro m
            induction m with
            | zero => intro hjm; omega
            | succ m ihm =>
              intro hjm
              unfold mo
              by_cases hjm2 : j = m
              · subst hjm2
                rw [if_pos hpj]
                split
                · exact fun z => by cases z
                · split
                  · exact fun z => by cases z
                  · exact fun z => by cases z
              · have := ihm (by omega)
                by_cases hpm : P m = true
                · rw [if_pos hpm]
                  split
                  · exact fun z => by cases z
                  · split
                    · exact fun z => by cases z
                    · exact fun z => by cases z
                · rw [if_neg hpm]; exact this
          exact key i hj hm
        refine ⟨by show i < i + 1; omega, hp, rfl, fun j hj hpj => ?_, fun j hj hpj => ?_⟩
        · by_cases hji : j = i
          · subst hji; exact Nat.le_refl _
          · exact absurd hpj (fun z => hno j (by omega) z)
        · exact absurd hpj (fun z => hno j hj z)
      | some q =>
        obtain ⟨a1, a2, a3, a4, a5⟩ := ih rfl
        have hz : (if g i < q.1 then some (g i, i) else some q) = some p := h
        by_cases hlt : g i < q.1
        · rw [if_pos hlt] at hz
          have hz := Option.some.inj hz
          subst hz
          refine ⟨by show i < i + 1; omega, hp, rfl, fun j hj hpj => ?_, fun j hj hpj => ?_⟩
          · by_cases hji : j = i
            · subst hji; exact Nat.le_refl _
            · have := a4 j (by omega) hpj; show g i ≤ g j; omega
          · have := a4 j hj hpj; show g i < g j; omega
        · rw [if_neg hlt] at hz
          have hz := Option.some.inj hz
          subst hz
          refine ⟨by omega, a2, a3, fun j hj hpj => ?_, a5⟩
          by_cases hji : j = i
          · subst hji; omega
          · exact a4 j (by omega) hpj
    · rw [if_neg hp] at h
      obtain ⟨a1, a2, a3, a4, a5⟩ := ih h
      refine ⟨by omega, a2, a3, fun j hj hpj => ?_, a5⟩
      by_cases hji : j = i
      · subst hji; exact absurd hpj hp
      · exact a4 j (by omega) hpj
theorem mo_some {P : Nat → Bool} {g : Nat → Nat} {j i : Nat} (hj : j < i) (hp : P j = true) : ∃ p, mo P g i = some p := by
  induction i with
  | zero => omega
  | succ i ih =>
    unfold mo
    by_cases hpi : P i = true
    · rw [if_pos hpi]
      split
      · exact ⟨_, rfl⟩
      · split
        · exact ⟨_, rfl⟩
        · exact ⟨_, rfl⟩
    · rw [if_neg hpi]
      by_cases hji : j = i
      · subst hji; exact absurd hp hpi
      · exact ih (by omega)
theorem mo_none {P : Nat → Bool} {g : Nat → Nat} {i : Nat} (h : ∀ j, j < i → P j = false) : mo P g i = none := by
  induction i with
  | zero => rfl
  | succ i ih =>
    unfold mo
    rw [if_neg (by rw [h i (by omega)]; decide)]
    exact ih (fun j hj => h j (by omega))
theorem mo_le {P : Nat → Bool} {g : Nat → Nat} {i M : Nat} (h : ∀ j, j < i → g j ≤ M) : mv (mo P g i) ≤ M := by
  cases hm : mo P g i with
  | none => exact Nat.zero_le _
  | some p =>
    obtain ⟨a1, a2, a3, a4, a5⟩ := mo_spec hm
    show p.1 ≤ M
    rw [← a3]; exact h _ a1
/-- weeks, fines, what a field costs when a set is done -/
def wks (v : Nat → Nat) (f : Nat) : Nat := (sm tk (cf v f) (v (12 + f)) + v 11 - 1) / v 11
def wsum (v : Nat → Nat) (T : Nat) : Nat → Nat := sumF (fun k => if bt T k = 1 then wks v k else 0)
def cst (v : Nat → Nat) (f T : Nat) : Nat := (v 0 + wsum v T 6 - v (20 + 4 * f)) * v (21 + 4 * f) * cn v f 0
def okb (v : Nat → Nat) (T f : Nat) : Bool := decide (v (18 + 4 * f) = 1) && decide (bt T f = 0)
def lsF (v : Nat → Nat) : Nat → Nat → Nat
  | 0, _ => 0
  | k + 1, T => mv (mo (okb v T) (fun f => cst v f (T + 2 ^ f) + lsF v k (T + 2 ^ f)) 6)
def lsN (v : Nat → Nat) (T : Nat) : Nat := lsF v (64 - T) T
def gN (v : Nat → Nat) (T f : Nat) : Nat := cst v f (T + 2 ^ f) + lsN v (T + 2 ^ f)
section
variable {v : Nat → Nat} {b : Nat}
theorem okb_iff {T f : Nat} : okb v T f = true ↔ v (18 + 4 * f) = 1 ∧ bt T f = 0 := by
  unfold okb
  simp
theorem wks_le {f : Nat} (hI : LI b v) (hf : f < 6) : wks v f ≤ 550 := by
  unfold wks
  have hN := hI.1
  have hl := (hI.len hf).2
  have hs : sm tk (cf v f) (v (12 + f)) ≤ 15 * v (12 + f) := sm_le (fun c _ => tk_le _)
  exact Nat.le_trans (Nat.div_le_self _ _) (by omega)
theorem wsum_le {T i : Nat} (hI : LI b v) (hi : i ≤ 6) : wsum v T i ≤ 550 * i := sumF_le (fun k hk => by
  have := wks_le hI (show k < 6 by omega)
  split <;> omega)
theorem cst_le {f T : Nat} (hI : LI b v) (hf : f < 6) : cst v f T ≤ 1161000 := by
  unfold cst
  have hw := wsum_le (T := T) (i := 6) hI (by omega)
  have hN := hI.1
  have hl := (hI.len hf).2
  have h9 := (hI.2 f hf).2.2.2.2.2
  have hcn : cn v f 0 ≤ 30 := Nat.le_trans (cnt_le _ _ _) hl
  exact Nat.le_trans (Nat.mul_le_mul (Nat.mul_le_mul (show _ ≤ 4300 by omega) h9) hcn) (by decide)
theorem lsF_le (hI : LI b v) : ∀ k T, lsF v k T ≤ 1161000 * k := by
  intro k
  induction k with
  | zero => intro T; exact Nat.le_refl 0
  | succ k ih =>
    intro T
    refine mo_le (fun f hf => ?_)
    have h1 := cst_le (T := T + 2 ^ f) hI hf
    have h2 := ih (T + 2 ^ f)
    omega
theorem lsN_le {T : Nat} (hI : LI b v) : lsN v T ≤ 74304000 := by
  have := lsF_le hI (64 - T) T
  unfold lsN
  omega
theorem gN_le {T f : Nat} (hI : LI b v) (hf : f < 6) : gN v T f ≤ 80000000 := by
  have h1 := cst_le (T := T + 2 ^ f) hI hf
  have h2 := lsN_le (T := T + 2 ^ f) hI
  unfold gN
  omega
theorem lsF_fuel : ∀ d T, T < 64 → 64 - T ≤ d → ∀ k, 64 - T ≤ k → lsF v k T = lsN v T := by
  intro d
  induction d with
  | zero => intro T hT hd; omega
  | succ d ih =>
    intro T hT hd k hk
    obtain ⟨k, rfl⟩ : ∃ q, k = q + 1 := ⟨k - 1, by omega⟩
    unfold lsN
    obtain ⟨j, hj⟩ : ∃ j, 64 - T = j + 1 := ⟨63 - T, by omega⟩
    rw [hj]
    show mv (mo (okb v T) (fun f => cst v f (T + 2 ^ f) + lsF v k (T + 2 ^ f)) 6) = mv (mo (okb v T) (fun f => cst v f (T + 2 ^ f) + lsF v j (T + 2 ^ f)) 6)
    refine congrArg mv (mo_congr (fun f hf hp => ?_))
    obtain ⟨b1, b2, b3⟩ := bt_add T hT f hf (okb_iff.mp hp).2
    show cst v f (T + 2 ^ f) + lsF v k (T + 2 ^ f) = cst v f (T + 2 ^ f) + lsF v j (T + 2 ^ f)
    rw [ih (T + 2 ^ f) b1 (by omega) k (by omega), ih (T + 2 ^ f) b1 (by omega) j (by omega)]
/-- the least fines from a set on, by those of the greater sets -/
theorem lsN_eq {T : Nat} (hT : T < 64) : lsN v T = mv (mo (okb v T) (gN v T) 6) := by
  have h := lsF_fuel (v := v) 64 T hT (by omega) 65 (by omega)
  rw [← h]
  show mv (mo (okb v T) (fun f => cst v f (T + 2 ^ f) + lsF v 64 (T + 2 ^ f)) 6) = _
  refine congrArg mv (mo_congr (fun f hf hp => ?_))
  obtain ⟨b1, b2, b3⟩ := bt_add T hT f hf (okb_iff.mp hp).2
  show _ = cst v f (T + 2 ^ f) + lsN v (T + 2 ^ f)
  rw [lsF_fuel (v := v) 64 (T + 2 ^ f) b1 (by omega) 64 (by omega)]
end
