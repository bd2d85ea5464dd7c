section
variable {G G' : Mem} {S W Tx v : Nat → Nat} {nx h n b : Nat}
/-! lay -/
/-- k chains are laid, from c on, the contract as it was -/
def layN (v : Nat → Nat) (f c : Nat) : Nat → Nat → Nat
  | 0 => v
  | k + 1 => lay1 (layN v f c k) f (c + k)
theorem lay1_hi {f c k : Nat} (hf : f < 6) (hc : c < 30) (hk : 222 ≤ k) : lay1 v f c k = v k := by
  unfold lay1
  rw [vs_ne (by omega), vs_ne (by omega), vs_ne (by omega), vs_ne (by omega), vs_ne (by omega), vs_ne (by omega)]
theorem lay1_ne {f c j : Nat} (hj : j ≠ 1) (hj2 : j ≠ 2) (hj3 : j ≠ 3) (hj5 : j ≠ 5) (hj7 : j ≠ 7) (hjc : j ≠ 42 + 30 * f + c) : lay1 v f c j = v j := by
  unfold lay1
  rw [vs_ne hj7, vs_ne hj5, vs_ne hj3, vs_ne hjc, vs_ne hj2, vs_ne hj]
theorem sEnds_ne {f j : Nat} (h : ¬ (18 + 4 * f ≤ j ∧ j < 22 + 4 * f)) : sEnds v f j = v j := by
  unfold sEnds
  split
  · exact noC_ne h
  · rfl
theorem LI_ends {f : Nat} (hf : f < 6) (h : LI b v) : LI b (sEnds v f) := by
  unfold sEnds
  split
  · refine ⟨?_, fun g hg => ?_⟩
    · rw [noC_ne (by omega), noC_ne (by omega), noC_ne (by omega), noC_ne (by omega), noC_ne (by omega), noC_ne (by omega), noC_ne (by omega), noC_ne (by omega), noC_ne (by omega), noC_ne (by omega), noC_ne (by omega), noC_ne (by omega)]
      exact h.1
    · obtain ⟨h1, h2, h3⟩ := h.2 g hg
      rw [noC_ne (j := 12 + g) (by omega)]
      refine ⟨h1, fun c hc => by rw [noC_ne (by omega)]; exact h2 c hc, ?_⟩
      by_cases hgf : g = f
      · subst hgf
        rw [noC_in (by omega), noC_in (by omega), noC_in (by omega), noC_in (by omega)]
        omega
      · rw [noC_ne (by omega), noC_ne (by omega), noC_ne (by omega), noC_ne (by omega)]
        exact h3
  · exact h
/-- a chain is laid: what holds of a land holds, 20 coins more -/
theorem LI_lay1 {f c : Nat} (h : LI b v) (hf : f < 6) (hL : cL v f c) : LI (b + 20) (lay1 v f c) := by
  obtain ⟨hc, hk, ht2, htw, hs⟩ := hL
  obtain ⟨hl, hok, hm, hp, hla, hfi⟩ := h.2 f hf
  have hpay : v (18 + 4 * f) * v (19 + 4 * f) ≤ 20 := Nat.le_trans (Nat.mul_le_mul hm hp) (by decide)
  have hx := hok c hc
  unfold lay1
  refine ⟨?_, fun g hg => ?_⟩
  · have := h.1
    unfold vs
    simp only [show ¬ (0 = 42 + 30 * f + c) by omega, show ¬ (1 = 42 + 30 * f + c) by omega, show ¬ (2 = 42 + 30 * f + c) by omega, show ¬ (3 = 42 + 30 * f + c) by omega, show ¬ (4 = 42 + 30 * f + c) by omega, show ¬ (5 = 42 + 30 * f + c) by omega, show ¬ (6 = 42 + 30 * f + c) by omega, show ¬ (7 = 42 + 30 * f + c) by omega, show ¬ (8 = 42 + 30 * f + c) by omega, show ¬ (9 = 42 + 30 * f + c) by omega, show ¬ (10 = 42 + 30 * f + c) by omega, show ¬ (11 = 42 + 30 * f + c) by omega, if_false]
    simp
    omega
  · obtain ⟨g1, g2, g3⟩ := h.2 g hg
    have e : ∀ j, 12 ≤ j → j ≠ 42 + 30 * f + c → vs (vs (vs (vs (vs (vs v 1 (v 1 - v (42 + 30 * f + c) / 4 % 16)) 2 (v 2 - 2)) (42 + 30 * f + c) (1 + 4 * (v (42 + 30 * f + c) / 4 % 16))) 3 (v 3 + v (18 + 4 * f) * v (19 + 4 * f))) 5 (v 5 + v (18 + 4 * f) * v (19 + 4 * f))) 7 (v 7 + 1) j = v j := fun j h1 h2 => by
      rw [vs_ne (by omega), vs_ne (by omega), vs_ne (by omega), vs_ne h2, vs_ne (by omega), vs_ne (by omega)]
    rw [e (12 + g) (by omega) (by omega), e (18 + 4 * g) (by omega) (by omega), e (19 + 4 * g) (by omega) (by omega), e (20 + 4 * g) (by omega) (by omega), e (21 + 4 * g) (by omega) (by omega)]
    refine ⟨g1, fun d hd => ?_, g3⟩
    by_cases hdc : 42 + 30 * g + d = 42 + 30 * f + c
    · rw [hdc, vs_ne (by omega), vs_ne (by omega), vs_ne (by omega), vs_eq]
      unfold okc at hx ⊢
      omega
    · rw [e _ (by omega) hdc]
      exact g2 d hd
/-- where a chain can be laid, a chain stands: the contract is as it was -/
theorem ends_id {f c : Nat} (hc : c < v (12 + f)) (hk : v (42 + 30 * f + c) % 4 = 0) : sEnds v f = v := by
  unfold sEnds
  rw [if_neg]
  intro h0
  exact (cnt_0.mp h0) c hc hk
theorem cL_ends {f c g : Nat} (hf : f < 6) (hg : g < 6) : cL (sEnds v g) f c ↔ cL v f c := by
  unfold cL
  rw [sEnds_ne (by omega), sEnds_ne (by omega), sEnds_ne (by omega), sEnds_ne (by omega)]
/-- how many are laid at most: up to the first that can't be -/
noncomputable def layK (v : Nat → Nat) (f c : Nat) : Nat → Nat → Nat
  | 0, k => k
  | m + 1, k => if cL (layN v f c k) f (c + k) then layK v f c m (k + 1) else k
end
