/-! runs of laid chains -/
def rnF (ch : Nat → Nat) : Nat → Nat → Nat
  | 0, _ => 0
  | k + 1, c => if ch c % 4 = 1 then rnF ch k (c + 1) + 1 else 0
def rn (ch : Nat → Nat) (n c : Nat) : Nat := rnF ch (n - c) c
theorem rnF_le (ch : Nat → Nat) : ∀ k c, rnF ch k c ≤ k := by
  intro k
  induction k with
  | zero => intro c; exact Nat.le_refl 0
  | succ k ih =>
    intro c
    unfold rnF
    split
    · have := ih (c + 1); omega
    · omega
theorem rnF_in (ch : Nat → Nat) : ∀ k c i, i < rnF ch k c → ch (c + i) % 4 = 1 := by
  intro k
  induction k with
  | zero => intro c i h; exact absurd h (Nat.not_lt_zero i)
  | succ k ih =>
    intro c i h
    unfold rnF at h
    by_cases h1 : ch c % 4 = 1
    · rw [if_pos h1] at h
      cases i with
      | zero => exact h1
      | succ i =>
        have := ih (c + 1) i (by omega)
        rwa [show c + 1 + i = c + (i + 1) by omega] at this
    · rw [if_neg h1] at h
      omega
theorem rnF_end (ch : Nat → Nat) : ∀ k c, rnF ch k c = k ∨ ch (c + rnF ch k c) % 4 ≠ 1 := by
  intro k
  induction k with
  | zero => intro c; exact Or.inl rfl
  | succ k ih =>
    intro c
    unfold rnF
    by_cases h1 : ch c % 4 = 1
    · rw [if_pos h1]
      rcases ih (c + 1) with h | h
      · exact Or.inl (by omega)
      · refine Or.inr ?_
        rwa [show c + 1 + rnF ch k (c + 1) = c + (rnF ch k (c + 1) + 1) by omega] at h
    · rw [if_neg h1]
      exact Or.inr h1
/-- the longest and where it begins, among the first i beginnings -/
def bs (ch : Nat → Nat) (n : Nat) : Nat → Nat × Nat
  | 0 => (0, 0)
  | i + 1 => if rn ch n i ≤ (bs ch n i).1 then bs ch n i else (rn ch n i, i)
theorem bs_spec (ch : Nat → Nat) (n : Nat) : ∀ i, (∀ c, c < i → rn ch n c ≤ (bs ch n i).1) ∧ (0 < (bs ch n i).1 → (bs ch n i).2 < i ∧ rn ch n (bs ch n i).2 = (bs ch n i).1 ∧ ∀ c, c < (bs ch n i).2 → rn ch n c < (bs ch n i).1) := by
  intro i
  induction i with
  | zero => exact ⟨fun c hc => absurd hc (Nat.not_lt_zero c), fun h => absurd h (Nat.lt_irrefl 0)⟩
  | succ i ih =>
    unfold bs
    obtain ⟨h1, h2⟩ := ih
    by_cases h : rn ch n i ≤ (bs ch n i).1
    · rw [if_pos h]
      refine ⟨fun c hc => ?_, fun h0 => ?_⟩
      · by_cases hci : c = i
        · subst hci; exact h
        · exact h1 c (by omega)
      · obtain ⟨a, b, c⟩ := h2 h0
        exact ⟨by omega, b, c⟩
    · rw [if_neg h]
      refine ⟨fun c hc => ?_, fun h0 => ⟨by show i < i + 1; omega, rfl, fun c hc => ?_⟩⟩
      · by_cases hci : c = i
        · subst hci; exact Nat.le_refl _
        · have := h1 c (by omega); show _ ≤ rn ch n i; omega
      · have hc : c < i := hc
        have := h1 c hc
        show _ < rn ch n i
        omega
theorem bs_le (ch : Nat → Nat) (n i : Nat) : (bs ch n i).1 ≤ n := by
  induction i with
  | zero => exact Nat.zero_le n
  | succ i ih =>
    unfold bs
    split
    · exact ih
    · have := rnF_le ch (n - i) i
      show rn ch n i ≤ n
      unfold rn
      omega
section
variable {q n : Nat} {ch : Nat → Nat} {G : Mem}
theorem runFrom_c {c : Nat} (h : HR q n ch G) (hn : n ≤ 30) (hc : c < n) : fX1_runFrom q (nI c) G = some (nI (rn ch n c), G) := by
  unfold fX1_runFrom
  have hle := rnF_le ch (n - c) c
  refine itr_run (fun i : Nat => (nI i, G)) (rn ch n c) (fun i hi rec => ?_) (by unfold rn; omega) (fun rec => ?_)
  · show bX1_runFrom_2 q (nI c) rec (nI i) G = _
    unfold rn at hi
    have hk := rnF_in ch (n - c) c i hi
    unfold bX1_runFrom_2
    rw [h.1, if_neg (by rw [nI_leI (by omega) (by omega)]; omega), nI_add, kindOf_c h hn (show c + i < n by omega), bd_some', if_pos (by rw [hk]), nI_add]
  · show bX1_runFrom_2 q (nI c) rec (nI (rn ch n c)) G = _
    unfold bX1_runFrom_2 rn
    have he := rnF_end ch (n - c) c
    rw [h.1]
    by_cases h1 : n ≤ rnF ch (n - c) c
    · rw [if_pos (by rw [nI_leI (by omega) (by omega)]; omega)]
    · rw [if_neg (by rw [nI_leI (by omega) (by omega)]; omega), nI_add]
      by_cases h2 : c + rnF ch (n - c) c < n
      · rw [kindOf_c h hn h2, bd_some', if_neg (by rw [nI_eq (by omega) (by omega)]; rcases he with he | he; omega; exact he)]
      · rw [kindOf_no h hn (by rw [nI_toInt (by omega)]; omega), bd_some', if_neg (by decide)]
theorem runFrom_neg {x : Int32} (h : HR q n ch G) (hn : n ≤ 30) (hx : x.toInt < 0) : fX1_runFrom q x G = some (nI 0, G) := by
  unfold fX1_runFrom
  refine itr_run (fun i : Nat => (nI i, G)) 0 (fun i hi rec => absurd hi (Nat.not_lt_zero i)) (by omega) (fun rec => ?_)
  show bX1_runFrom_2 q x rec (nI 0) G = _
  unfold bX1_runFrom_2
  rw [h.1]
  by_cases h1 : nI n ≤ nI 0
  · rw [if_pos h1]
  · rw [if_neg h1, show nI 0 = (0 : Int32) from rfl, Int32.add_zero, kindOf_no h hn (by omega), bd_some', if_neg (by decide)]
theorem longest_c (h : HR q n ch G) (hn : n ≤ 30) : fX1_longestRunBegin q G = some (if (bs ch n n).1 = 0 then -9 else nI (bs ch n n).2, G) := by
  unfold fX1_longestRunBegin
  refine itr_run (fun i : Nat => (if (bs ch n i).1 = 0 then -9 else nI (bs ch n i).2, nI (bs ch n i).1, nI i, G)) n (fun i hi rec => ?_) (by omega) (fun rec => ?_)
  · show bX1_longestRunBegin_7 q rec _ (nI (bs ch n i).1) (nI i) G = rec (if (bs ch n (i + 1)).1 = 0 then -9 else nI (bs ch n (i + 1)).2, nI (bs ch n (i + 1)).1, nI (i + 1), G)
    have h1 := bs_le ch n i
    have h2 := rnF_le ch (n - i) i
    have h2 : rn ch n i ≤ n - i := h2
    unfold bX1_longestRunBegin_7
    rw [h.1, if_neg (by rw [nI_leI (by omega) (by omega)]; omega), runFrom_c h hn hi, bd_some', nI_add]
    have e : bs ch n (i + 1) = if rn ch n i ≤ (bs ch n i).1 then bs ch n i else (rn ch n i, i) := rfl
    rw [e]
    by_cases h3 : rn ch n i ≤ (bs ch n i).1
    · rw [if_pos (by rw [nI_leI (by omega) (by omega)]; exact h3), if_pos h3]
    · rw [if_neg (by rw [nI_leI (by omega) (by omega)]; exact h3), if_neg h3]
      dsimp only
      rw [if_neg (by omega)]
  · show bX1_longestRunBegin_7 q rec _ _ (nI n) G = _
    unfold bX1_longestRunBegin_7
    rw [h.1, if_pos (by rw [nI_leI (by omega) (by omega)]; omega)]
theorem longestRun_c (h : HR q n ch G) (hn : n ≤ 30) : fX1_runFrom q (if (bs ch n n).1 = 0 then -9 else nI (bs ch n n).2) G = some (nI (bs ch n n).1, G) := by
  obtain ⟨-, h2⟩ := bs_spec ch n n
  by_cases h0 : (bs ch n n).1 = 0
  · rw [if_pos h0, runFrom_neg h hn (by decide), h0]
  · obtain ⟨a, b, -⟩ := h2 (by omega)
    rw [if_neg h0, runFrom_c h hn a, b]
end
