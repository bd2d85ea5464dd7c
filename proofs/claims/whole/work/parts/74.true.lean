/-! the beginning, the script -/
def S00 : Nat → Nat := fun j => if j = 1 then 30 else if j = 2 then 10 else if j = 3 then 50 else if j = 9 then 10 else if j = 10 then 30 else if j = 11 then 30 else if 12 ≤ j ∧ j < 18 then 10 else if 42 ≤ j ∧ j < 222 ∧ (j - 42) % 30 < 10 then 16 else 0
theorem GL0_lo {q : Nat} (h : q < 627) : GL0 q = gX q := by
  unfold GL0 ovg
  rw [if_pos h, if_neg (by omega)]
  rfl
theorem GL0_hi {q : Nat} : GL0 (627 + q) = gM q := by
  unfold GL0 ovg
  rw [if_neg (by omega), show 627 + q - 627 = q by omega]
theorem S00_f {f c : Nat} (hf : f < 6) (hc : c < 10) : S00 (42 + 30 * f + c) = 16 := by
  unfold S00
  rw [if_neg (by omega), if_neg (by omega), if_neg (by omega), if_neg (by omega), if_neg (by omega), if_neg (by omega), if_neg (by omega), if_pos (by omega)]
theorem S00_len {f : Nat} (hf : f < 6) : S00 (12 + f) = 10 := by
  unfold S00
  rw [if_neg (by omega), if_neg (by omega), if_neg (by omega), if_neg (by omega), if_neg (by omega), if_neg (by omega), if_pos (by omega)]
theorem S00_con {j : Nat} (h1 : 18 ≤ j) (h2 : j < 42) : S00 j = 0 := by
  unfold S00
  rw [if_neg (by omega), if_neg (by omega), if_neg (by omega), if_neg (by omega), if_neg (by omega), if_neg (by omega), if_neg (by omega), if_neg (by omega)]
theorem S00_hi {j : Nat} (h1 : 222 ≤ j) : S00 j = 0 := by
  unfold S00
  rw [if_neg (by omega), if_neg (by omega), if_neg (by omega), if_neg (by omega), if_neg (by omega), if_neg (by omega), if_neg (by omega), if_neg (by omega)]
theorem GL0_land {i : Nat} (hi : i < 33) : GL0 (2 + i) = gL i := by
  rw [GL0_lo (by omega)]
  unfold gX
  rw [if_neg (by omega), if_pos (by omega)]
  unfold gS
  rw [if_neg (by omega), if_pos (by omega)]
  exact congrArg gL (by omega)
theorem LR0 : LR 2 S00 GL0 := by
  refine ⟨fun j h2 h3 => ?_, fun f hf => ?_, fun f hf => ?_⟩
  · rw [show (2 : Nat) = 2 + 0 from rfl, GL0_land (by omega)]
    rcases (show j = 2 ∨ j = 3 ∨ j = 4 ∨ j = 5 ∨ j = 6 ∨ j = 7 ∨ j = 8 ∨ j = 9 ∨ j = 10 ∨ j = 11 ∨ j = 12 ∨ j = 13 by omega) with rfl | rfl | rfl | rfl | rfl | rfl | rfl | rfl | rfl | rfl | rfl | rfl <;> rfl
  · rw [S00_len hf]
    have e0 : GL0 (2 + 3 + 5 * f) = gL (3 + 5 * f) := by rw [show 2 + 3 + 5 * f = 2 + (3 + 5 * f) by omega]; exact GL0_land (by omega)
    have e1 : GL0 (2 + 3 + 5 * f + 1) = gL (4 + 5 * f) := by rw [show 2 + 3 + 5 * f + 1 = 2 + (4 + 5 * f) by omega]; exact GL0_land (by omega)
    have e2 : GL0 (2 + 3 + 5 * f + 2) = gL (5 + 5 * f) := by rw [show 2 + 3 + 5 * f + 2 = 2 + (5 + 5 * f) by omega]; exact GL0_land (by omega)
    have e3 : GL0 (2 + 3 + 5 * f + 3) = gL (6 + 5 * f) := by rw [show 2 + 3 + 5 * f + 3 = 2 + (6 + 5 * f) by omega]; exact GL0_land (by omega)
    refine ⟨?_, fun c hc => ?_⟩
    · rw [e0]
      unfold gL
      rw [if_neg (by omega), if_neg (by omega), if_pos (by omega), if_pos rfl]
      rfl
    · dsimp only
      rw [S00_f hf hc, e1, e2, e3]
      unfold gL
      refine ⟨?_, ?_, ?_⟩
      · rw [if_neg (by omega), if_neg (by omega), if_neg (by omega), if_neg (by omega)]; rfl
      · rw [if_neg (by omega), if_neg (by omega), if_neg (by omega), if_pos (by omega), if_pos hc]; rfl
      · rw [if_neg (by omega), if_neg (by omega), if_neg (by omega), if_neg (by omega)]; rfl
  · unfold CR
    rw [S00_con (by omega) (by omega)]
    refine ⟨?_, fun z => absurd z (by omega)⟩
    rw [show 2 + 7 + 5 * f = 2 + (7 + 5 * f) by omega, GL0_land (by omega)]
    unfold gL
    rw [if_neg (by omega), if_neg (by omega), if_neg (by omega), if_neg (by omega)]; rfl
theorem LI0 : LI 50 S00 := by
  refine ⟨by decide, fun f hf => ?_⟩
  rw [S00_len hf, S00_con (j := 18 + 4 * f) (by omega) (by omega), S00_con (j := 19 + 4 * f) (by omega) (by omega), S00_con (j := 20 + 4 * f) (by omega) (by omega), S00_con (j := 21 + 4 * f) (by omega) (by omega)]
  refine ⟨by omega, fun c hc => ?_, by omega, by omega, by omega, by omega⟩
  rw [S00_f hf hc]
  unfold okc
  omega
theorem StP0 : StP 50 GL0 := by
  refine ⟨0, S00, fun _ => 0, fun _ => 0, 0, 0, ⟨⟨LR0, fun j hj => ⟨?_, fun z => ?_⟩⟩, ⟨by omega, by omega, ?_, ?_, fun i hi => absurd hi (Nat.not_lt_zero i)⟩, ⟨by omega, ?_, fun j hj => absurd hj (Nat.not_lt_zero j)⟩⟩, ⟨by omega, by omega, fun k hk => ?_, fun k hk => ?_, ?_, ?_, fun j hj => absurd hj (Nat.not_lt_zero j)⟩, ⟨⟨LI0, fun j hj => ⟨?_, fun z => ?_⟩⟩, fun i hi => absurd hi (Nat.not_lt_zero i)⟩⟩
  · rw [S00_hi (by omega), GL0_lo (by omega)]; rfl
  · rw [S00_hi (by omega)] at z; omega
  · rw [GL0_lo (by omega)]; rfl
  · rw [GL0_lo (by omega)]; rfl
  · rw [GL0_lo (by omega)]; rfl
  · rw [show (628 : Nat) = 627 + 1 from rfl, GL0_hi]
    unfold gM S00
    rw [if_pos rfl]
    repeat' split
    all_goals rfl
  · rw [show (629 : Nat) = 627 + 2 from rfl, GL0_hi]; rfl
  · rw [show (627 : Nat) = 627 + 0 from rfl, GL0_hi]; rfl
  · rw [show (627 : Nat) = 627 + 0 from rfl, GL0_hi]; rfl
  · rw [S00_hi (by omega)]; omega
  · rw [S00_hi (by omega)] at z; omega
theorem law_true {L : Nat} {xs : Nat → Int32} (hL : L ≤ 2560) : ∃ G', itr FU (FL L xs) (0, GL0) = some G' := by
  have step : ∀ i (s : Int32 × Mem), i < L / 5 → (s.1 = nI (5 * i) ∧ StP (50 + 100000 * i) s.2) → ∀ rec18, ∃ s' : Int32 × Mem, (s'.1 = nI (5 * (i + 1)) ∧ StP (50 + 100000 * (i + 1)) s'.2) ∧ FL L xs rec18 s = rec18 s' := by
    intro i s hi hs rec18
    obtain ⟨s1, G⟩ := s
    obtain ⟨h1, hS⟩ := hs
    simp only at h1 hS
    subst h1
    have hb : 50 + 100000 * i < 89000000 := by omega
    have hix : ∀ k, k < 5 → ∀ {α : Type} (K : Option α), ix (nI (5 * i + k)) L K = K := fun k hk α K => nI_ix (by omega) (by omega)
    have h0 : ∀ {α : Type} (K : Option α), ix (nI (5 * i)) L K = K := fun K => nI_ix (by omega) (by omega)
    have h1 : ∀ {α : Type} (K : Option α), ix (nI (5 * i + 1)) L K = K := fun K => hix 1 (by omega) K
    have h2 : ∀ {α : Type} (K : Option α), ix (nI (5 * i + 2)) L K = K := fun K => hix 2 (by omega) K
    have h3 : ∀ {α : Type} (K : Option α), ix (nI (5 * i + 3)) L K = K := fun K => hix 3 (by omega) K
    have h4 : ∀ {α : Type} (K : Option α), ix (nI (5 * i + 4)) L K = K := fun K => hix 4 (by omega) K
    have go : ∀ {b : Nat} {P : Option Mem}, (∃ G2, StP (b + 100000) G2 ∧ P = rec18 (nI (5 * i + 5), G2)) → b = 50 + 100000 * i → ∃ s' : Int32 × Mem, (s'.1 = nI (5 * (i + 1)) ∧ StP (50 + 100000 * (i + 1)) s'.2) ∧ P = rec18 s' := by
      rintro b P ⟨G2, a1, a2⟩ rfl
      exact ⟨(nI (5 * i + 5), G2), ⟨rfl, by rw [show 50 + 100000 * (i + 1) = 50 + 100000 * i + 100000 by omega]; exact a1⟩, a2⟩
    show ∃ s' : Int32 × Mem, _ ∧ bL L xs rec18 (nI (5 * i)) G = rec18 s'
    unfold bL
    rw [pk_sub (by omega), if_neg (by rw [nI_ltI (by omega) (by omega)]; omega)]
    simp only [nI_add, h0, h1, h2, h3, h4]
    by_cases c0 : xs (nI (5 * i)).toNatClampNeg &&& nI 31 = nI 0
    · rw [if_pos c0]; exact go (fin_p (pr_lay hb _ _ _) hS) rfl
    rw [if_neg c0]
    by_cases c1 : xs (nI (5 * i)).toNatClampNeg &&& nI 31 = nI 1
    · rw [if_pos c1]; exact go (fin_p (pr_cut hb _ _) hS) rfl
    rw [if_neg c1]
    by_cases c2 : xs (nI (5 * i)).toNatClampNeg &&& nI 31 = nI 2
    · rw [if_pos c2]; exact go (fin_p (pr_plant hb _ _) hS) rfl
    rw [if_neg c2]
    by_cases c3 : xs (nI (5 * i)).toNatClampNeg &&& nI 31 = nI 3
    · rw [if_pos c3]; exact go (fin_p (pr_grub _ _) hS) rfl
    rw [if_neg c3]
    by_cases c4 : xs (nI (5 * i)).toNatClampNeg &&& nI 31 = nI 4
    · rw [if_pos c4]; exact go (fin_p (pr_pass hb _) hS) rfl
    rw [if_neg c4]
    by_cases c5 : xs (nI (5 * i)).toNatClampNeg &&& nI 31 = nI 5
    · rw [if_pos c5]; exact go (fin_p (pr_set _ _) hS) rfl
    rw [if_neg c5]
    by_cases c6 : xs (nI (5 * i)).toNatClampNeg &&& nI 31 = nI 6
    · rw [if_pos c6]; exact go (fin_p (pr_contract _ _ _ _) hS) rfl
    rw [if_neg c6]
    by_cases c7 : xs (nI (5 * i)).toNatClampNeg &&& nI 31 = nI 7
    · rw [if_pos c7]; exact go (fin_p (pr_give hb _) hS) rfl
    rw [if_neg c7]
    by_cases c8 : xs (nI (5 * i)).toNatClampNeg &&& nI 31 = nI 8
    · rw [if_pos c8]; exact go (fin_p (pr_pay hb) hS) rfl
    rw [if_neg c8]
    by_cases c9 : xs (nI (5 * i)).toNatClampNeg &&& nI 31 = nI 9
    · rw [if_pos c9]; exact go (fin_p (pr_take _) hS) rfl
    rw [if_neg c9]
    by_cases c10 : xs (nI (5 * i)).toNatClampNeg &&& nI 31 = nI 10
    · rw [if_pos c10]; exact go (fin_p (pr_rest _) hS) rfl
    rw [if_neg c10]
    by_cases c11 : xs (nI (5 * i)).toNatClampNeg &&& nI 31 = nI 11
    · rw [if_pos c11]; exact go (fin_p pr_undo hS) rfl
    rw [if_neg c11]
    by_cases c12 : xs (nI (5 * i)).toNatClampNeg &&& nI 31 = nI 12
    · rw [if_pos c12]; exact go (fin_p (pr_append _) hS) rfl
    rw [if_neg c12]
    by_cases c13 : xs (nI (5 * i)).toNatClampNeg &&& nI 31 = nI 13
    · rw [if_pos c13]; exact go (fin_p pr_clear hS) rfl
    rw [if_neg c13]
    by_cases c14 : xs (nI (5 * i)).toNatClampNeg &&& nI 31 = nI 14
    · rw [if_pos c14]; exact go (fin_p (pr_read hb _) hS) rfl
    rw [if_neg c14]
    by_cases c15 : xs (nI (5 * i)).toNatClampNeg &&& nI 31 = nI 15
    · rw [if_pos c15]; exact go (fin_p (pr_count _) hS) rfl
    rw [if_neg c15]
    by_cases c16 : xs (nI (5 * i)).toNatClampNeg &&& nI 31 = nI 16
    · rw [if_pos c16]; exact go (fin_p (pr_field _ _) hS) rfl
    rw [if_neg c16]
    by_cases c17 : xs (nI (5 * i)).toNatClampNeg &&& nI 31 = nI 17
    · rw [if_pos c17]; exact go (fin_p (pr_chain _ _ _) hS) rfl
    rw [if_neg c17]
    by_cases c18 : xs (nI (5 * i)).toNatClampNeg &&& nI 31 = nI 18
    · rw [if_pos c18]; exact go (fin_p (pr_toLay _ _) hS) rfl
    rw [if_neg c18]
    by_cases c19 : xs (nI (5 * i)).toNatClampNeg &&& nI 31 = nI 19
    · rw [if_pos c19]; exact go (fin_p (pr_stakes _) hS) rfl
    rw [if_neg c19]
    by_cases c20 : xs (nI (5 * i)).toNatClampNeg &&& nI 31 = nI 20
    · rw [if_pos c20]; exact go (fin_p (pr_done _) hS) rfl
    rw [if_neg c20]
    by_cases c21 : xs (nI (5 * i)).toNatClampNeg &&& nI 31 = nI 21
    · rw [if_pos c21]; exact go (fin_p (pr_best _) hS) rfl
    rw [if_neg c21]
    obtain ⟨nx, S, W, Tx, h, n, hC, hM, hI⟩ := hS
    exact go ⟨G, ⟨nx, S, W, Tx, h, n, hC, hM, hI.mono (by omega)⟩, rfl⟩ rfl
  obtain ⟨⟨s1, G⟩, ⟨h1, hS⟩, rec', hrec⟩ := itr_inv2 (F := FL L xs) (fun i (s : Int32 × Mem) => s.1 = nI (5 * i) ∧ StP (50 + 100000 * i) s.2) (L / 5) step (0, GL0) ⟨rfl, StP0⟩ (by omega)
  simp only at h1 hS
  subst h1
  rw [hrec]
  refine ⟨G, ?_⟩
  show bL L xs rec' (nI (5 * (L / 5))) G = some G
  unfold bL
  by_cases h5 : 5 ≤ L
  · rw [pk_sub h5, if_pos (by rw [nI_ltI (by omega) (by omega)]; omega)]
  · have e : nI L - nI 5 < nI 0 := pk_sneg (by omega) (by omega)
    rw [show 5 * (L / 5) = 0 by omega, if_pos e]
