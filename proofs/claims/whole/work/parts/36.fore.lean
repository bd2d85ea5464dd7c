/-! in how many weeks a field is done; the longest run -/
noncomputable def wa (v : Nat → Nat) (k : Nat) : Nat := if clN v (v 0 + k) = 0 then (if k = 0 then v 1 else v 11) else 0
noncomputable def wkL (v : Nat → Nat) (t : Nat) : Nat → Nat → Nat → Nat × Nat
  | 0, pw, l => (pw, l)
  | k + 1, pw, l => if t ≤ l then (pw, l) else wkL v t k (pw + 1) (wa v (pw + 1))
noncomputable def dn (v : Nat → Nat) (f : Nat) : Nat → Nat → Nat → Nat → Option Nat
  | 0, _, pw, _ => some pw
  | k + 1, c, pw, l => if tk (cf v f c) ≤ (wkL v (tk (cf v f c)) (200 - pw) pw l).2 then dn v f k (c + 1) (wkL v (tk (cf v f c)) (200 - pw) pw l).1 ((wkL v (tk (cf v f c)) (200 - pw) pw l).2 - tk (cf v f c)) else none
theorem itr_S {σ ρ : Type} {F : (σ → Option ρ) → σ → Option ρ} {n : Nat} {s : σ} : itr (n + 1) F s = F (itr n F) s := rfl
section
variable {p q : Nat} {v v' : Nat → Nat} {G G' : Mem}
theorem clN_le {w : Nat} : clN v w ≤ 1 := by unfold clN; split <;> split <;> omega
theorem wa_le {b k : Nat} (hI : LI b v) : wa v k ≤ 100 ∧ wa v k ≤ v 11 := by
  have := hI.1
  unfold wa
  split
  · split <;> omega
  · omega
theorem wkL_bd {t b : Nat} (hI : LI b v) : ∀ (k pw l : Nat), l ≤ 100 → pw ≤ (wkL v t k pw l).1 ∧ (wkL v t k pw l).1 ≤ pw + k ∧ (wkL v t k pw l).2 ≤ 100 := by
  intro k
  induction k with
  | zero => intro pw l hl; exact ⟨Nat.le_refl _, Nat.le_refl _, hl⟩
  | succ k ih =>
    intro pw l hl
    unfold wkL
    split
    · exact ⟨Nat.le_refl _, by show pw ≤ _; omega, hl⟩
    · have := ih (pw + 1) (wa v (pw + 1)) (wa_le hI).1
      omega
theorem workAfter_c {k b : Nat} (h : LR p v G) (hI : LI b v) (hk : k ≤ 1000) : fX4_workAfter p (nI k) G = some (nI (wa v k), G) := by
  unfold fX4_workAfter wa
  have hN := hI.1
  have hle : clN v (v 0 + k) ≤ 1 := clN_le
  rw [show G p 2 = nI (v 0) from h.1 2 (by omega) (by omega), nI_add, isClosed_eq h (by omega) (by omega) (by omega), bd_some', show G p 6 = nI (v 1) from h.1 6 (by omega) (by omega), show G p 5 = nI (v 11) from h.1 5 (by omega) (by omega)]
  by_cases h1 : clN v (v 0 + k) = 0
  · rw [if_pos (by rw [h1]), if_pos h1]
    by_cases h2 : k = 0
    · rw [if_pos (by rw [h2]), if_pos h2]
    · rw [if_neg (by rw [nI_eq (by omega) (by omega)]; exact h2), if_neg h2]
  · rw [if_neg (by rw [nI_eq (by omega) (by omega)]; exact h1), if_neg h1]
theorem until_in {b t c k : Nat} (h : LR p v G) (hI : LI b v) (ht : t < 100) (rec19 : (Int32 × Int32 × Int32 × Mem) → Option (Int32 × Mem)) : ∀ (n pw l : Nat), l ≤ 100 → pw + k ≤ 200 → k = 200 - pw → k < n → itr n (FX4_weeksUntilLaid_49 rec19 p q (nI c) (nI t)) (nI pw, nI l, G) = (if t ≤ (wkL v t k pw l).2 then rec19 (nI (wkL v t k pw l).1, nI ((wkL v t k pw l).2 - t), nI (c + 1), G) else some (-9, G)) := by
  induction k with
  | zero =>
    intro n pw l hl h2 h3 hn
    obtain ⟨m, rfl⟩ : ∃ m, n = m + 1 := ⟨n - 1, by omega⟩
    rw [itr_S]
    show bX4_weeksUntilLaid_49 rec19 p q (nI c) (nI t) _ (nI pw) (nI l) G = _
    unfold bX4_weeksUntilLaid_49 jX4_weeksUntilLaid_76 wkL
    dsimp only
    by_cases h1 : t ≤ l
    · rw [if_pos (by rw [nI_leI (by omega) (by omega)]; exact h1), if_pos (by rw [nI_leI (by omega) (by omega)]; exact h1), if_pos h1, pk_sub h1, nI_add]
    · have hno : ¬ nI t ≤ nI l := by rw [nI_leI (by omega) (by omega)]; exact h1
      rw [if_neg hno, if_pos (by rw [nI_leI (by omega) (by omega)]; omega), if_neg hno, if_neg h1]
  | succ k ih =>
    intro n pw l hl h2 h3 hn
    obtain ⟨m, rfl⟩ : ∃ m, n = m + 1 := ⟨n - 1, by omega⟩
    rw [itr_S]
    show bX4_weeksUntilLaid_49 rec19 p q (nI c) (nI t) _ (nI pw) (nI l) G = _
    unfold bX4_weeksUntilLaid_49 jX4_weeksUntilLaid_76 wkL
    by_cases h1 : t ≤ l
    · rw [if_pos (by rw [nI_leI (by omega) (by omega)]; exact h1), if_pos (by rw [nI_leI (by omega) (by omega)]; exact h1), if_pos h1]
      dsimp only
      rw [if_pos h1, pk_sub h1, nI_add]
    · have hno : ¬ nI t ≤ nI l := by rw [nI_leI (by omega) (by omega)]; exact h1
      rw [if_neg hno, if_neg (by rw [nI_leI (by omega) (by omega)]; omega), if_neg h1, nI_add, workAfter_c h hI (by omega), bd_some']
      exact ih m (pw + 1) (wa v (pw + 1)) (wa_le hI).1 (by omega) (by omega) (by omega)
theorem until_out {b f : Nat} (h : LR p v G) (hI : LI b v) (hf : f < 6) : ∀ (k n c pw l : Nat), l ≤ 100 → pw ≤ 200 → c + k = v (12 + f) → k < n → itr n (FX4_weeksUntilLaid_19 p (p + 3 + 5 * f)) (nI pw, nI l, nI c, G) = (match dn v f k c pw l with | some w => some (nI w, G) | none => some (-9, G)) := by
  have hl30 := (hI.len hf).2
  have hH := h.2.1 f hf
  intro k
  induction k with
  | zero =>
    intro n c pw l hl h2 h3 hn
    obtain ⟨m, rfl⟩ : ∃ m, n = m + 1 := ⟨n - 1, by omega⟩
    rw [itr_S]
    show bX4_weeksUntilLaid_19 p (p + 3 + 5 * f) _ (nI pw) (nI l) (nI c) G = _
    unfold bX4_weeksUntilLaid_19 dn
    rw [hH.1, if_pos (by rw [nI_leI (by omega) (by omega)]; omega)]
  | succ k ih =>
    intro n c pw l hl h2 h3 hn
    obtain ⟨m, rfl⟩ : ∃ m, n = m + 1 := ⟨n - 1, by omega⟩
    rw [itr_S]
    show bX4_weeksUntilLaid_19 p (p + 3 + 5 * f) _ (nI pw) (nI l) (nI c) G = _
    unfold bX4_weeksUntilLaid_19 dn
    have hc : c < v (12 + f) := by omega
    have htk := tk_le (cf v f c)
    have hbd := wkL_bd (t := tk (cf v f c)) hI (200 - pw) pw l hl
    have hgo : ∀ t, t = tk (cf v f c) → itr FU (FX4_weeksUntilLaid_49 (itr m (FX4_weeksUntilLaid_19 p (p + 3 + 5 * f))) p (p + 3 + 5 * f) (nI c) (nI t)) (nI pw, nI l, G) = (match (if tk (cf v f c) ≤ (wkL v (tk (cf v f c)) (200 - pw) pw l).2 then dn v f k (c + 1) (wkL v (tk (cf v f c)) (200 - pw) pw l).1 ((wkL v (tk (cf v f c)) (200 - pw) pw l).2 - tk (cf v f c)) else none) with | some w => some (nI w, G) | none => some (-9, G)) := by
      intro t ht
      subst ht
      rw [until_in (k := 200 - pw) h hI (by omega) _ FU pw l hl (by omega) rfl (by show _ < 10000; omega)]
      by_cases h1 : tk (cf v f c) ≤ (wkL v (tk (cf v f c)) (200 - pw) pw l).2
      · rw [if_pos h1, if_pos h1]
        exact ih m (c + 1) _ _ (by omega) (by omega) (by omega) (by omega)
      · rw [if_neg h1, if_neg h1]
    rw [hH.1, if_neg (by rw [nI_leI (by omega) (by omega)]; omega), isToLay_c hH hl30 hc, bd_some']
    by_cases h1 : v (42 + 30 * f + c) % 4 = 0 ∧ 2 ≤ v (42 + 30 * f + c) / 4 % 16
    · rw [if_pos h1, if_neg (by decide), thick_c hH hl30 hc, bd_some']
      exact hgo _ (by unfold tk; rw [if_pos h1])
    · rw [if_neg h1, if_pos rfl]
      exact hgo 0 (by unfold tk; rw [if_neg h1])
theorem until_c {b f : Nat} (h : LR p v G) (hI : LI b v) (hf : f < 6) : fX4_weeksUntilLaid p (nI f) G = (match dn v f (v (12 + f)) 0 0 (wa v 0) with | some w => some (nI w, G) | none => some (-9, G)) := by
  unfold fX4_weeksUntilLaid
  rw [nI_ix (by omega) (by omega), workAfter_c h hI (by omega), bd_some', cl_nI hf]
  have := (hI.len hf).2
  exact until_out h hI hf (v (12 + f)) FU 0 0 (wa v 0) (wa_le hI).1 (by omega) (by omega) (by show _ < 10000; omega)
end
