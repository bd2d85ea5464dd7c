/-! the longest run by the reference's way, the weeks by its way -/
def rl (ch : Nat → Nat) : Nat → Nat
  | 0 => 0
  | c + 1 => if ch c % 4 = 1 then rl ch c + 1 else 0
def bv1 (ch : Nat → Nat) (c : Nat) : Nat := if rl ch (c + 1) = 0 then 0 else 100 * rl ch (c + 1) - (c + 1 - rl ch (c + 1))
def bb (ch : Nat → Nat) : Nat → Nat
  | 0 => 0
  | c + 1 => if bv1 ch c ≤ bb ch c then bb ch c else bv1 ch c
theorem rl_le (ch : Nat → Nat) : ∀ c, rl ch c ≤ c := by
  intro c
  induction c with
  | zero => exact Nat.le_refl 0
  | succ c ih => unfold rl; split <;> omega
theorem rl_in (ch : Nat → Nat) : ∀ c i, i < rl ch c → ch (c - rl ch c + i) % 4 = 1 := by
  intro c
  induction c with
  | zero => intro i h; exact absurd h (Nat.not_lt_zero i)
  | succ c ih =>
    intro i h
    have hle := rl_le ch c
    unfold rl at h ⊢
    by_cases h1 : ch c % 4 = 1
    · rw [if_pos h1] at h
      rw [if_pos h1]
      by_cases hi : i = rl ch c
      · rw [show c + 1 - (rl ch c + 1) + i = c by omega]; exact h1
      · have := ih i (by omega)
        rwa [show c + 1 - (rl ch c + 1) + i = c - rl ch c + i by omega]
    · rw [if_neg h1] at h; omega
theorem rl_ge (ch : Nat → Nat) (c : Nat) : ∀ r, (∀ i, i < r → ch (c + i) % 4 = 1) → r ≤ rl ch (c + r) := by
  intro r
  induction r with
  | zero => intro _; exact Nat.zero_le _
  | succ r ih =>
    intro h
    have h1 := ih (fun i hi => h i (by omega))
    have h2 := h r (by omega)
    show r + 1 ≤ rl ch ((c + r) + 1)
    unfold rl
    rw [if_pos h2]
    omega
theorem rn_ge (ch : Nat → Nat) {n c r : Nat} (h : ∀ i, i < r → ch (c + i) % 4 = 1) (hr : c + r ≤ n) : r ≤ rn ch n c := by
  unfold rn
  rcases rnF_end ch (n - c) c with h1 | h1
  · omega
  · by_cases h2 : r ≤ rnF ch (n - c) c
    · exact h2
    · exact absurd (h _ (by omega)) h1
theorem bb_max (ch : Nat → Nat) : ∀ m, (∀ c, c < m → bv1 ch c ≤ bb ch m) ∧ (bb ch m = 0 ∨ ∃ c, c < m ∧ bb ch m = bv1 ch c) := by
  intro m
  induction m with
  | zero => exact ⟨fun c hc => absurd hc (Nat.not_lt_zero c), Or.inl rfl⟩
  | succ m ih =>
    obtain ⟨h1, h2⟩ := ih
    unfold bb
    by_cases h : bv1 ch m ≤ bb ch m
    · rw [if_pos h]
      refine ⟨fun c hc => ?_, ?_⟩
      · by_cases hcm : c = m
        · subst hcm; exact h
        · exact h1 c (by omega)
      · rcases h2 with h2 | ⟨c, hc, h2⟩
        · exact Or.inl h2
        · exact Or.inr ⟨c, by omega, h2⟩
    · rw [if_neg h]
      refine ⟨fun c hc => ?_, Or.inr ⟨m, by omega, rfl⟩⟩
      by_cases hcm : c = m
      · subst hcm; exact Nat.le_refl _
      · have := h1 c (by omega); omega
/-- both ways agree -/
theorem bb_bs (ch : Nat → Nat) {n : Nat} (hn : n ≤ 30) : bb ch n = if (bs ch n n).1 = 0 then 0 else 100 * (bs ch n n).1 - (bs ch n n).2 := by
  obtain ⟨s1, s2⟩ := bs_spec ch n n
  obtain ⟨m1, m2⟩ := bb_max ch n
  have key : ∀ d, d < n → bv1 ch d ≤ if (bs ch n n).1 = 0 then 0 else 100 * (bs ch n n).1 - (bs ch n n).2 := by
    intro d hd
    unfold bv1
    have hle := rl_le ch (d + 1)
    by_cases h0 : rl ch (d + 1) = 0
    · rw [if_pos h0]; exact Nat.zero_le _
    · rw [if_neg h0]
      have hin := rl_in ch (d + 1)
      have hge := rn_ge ch (n := n) hin (by omega)
      have hb := s1 (d + 1 - rl ch (d + 1)) (by omega)
      rw [if_neg (by omega)]
      obtain ⟨t1, t2, t3⟩ := s2 (by omega)
      by_cases hlt : d + 1 - rl ch (d + 1) < (bs ch n n).2
      · have := t3 _ hlt
        omega
      · omega
  by_cases h0 : (bs ch n n).1 = 0
  · rw [if_pos h0] at key ⊢
    rcases m2 with m2 | ⟨c, hc, m2⟩
    · exact m2
    · have := key c hc; omega
  · rw [if_neg h0] at key ⊢
    obtain ⟨t1, t2, t3⟩ := s2 (by omega)
    have hl : rn ch n (bs ch n n).2 ≤ n - (bs ch n n).2 := rnF_le ch _ _
    have hin : ∀ i, i < (bs ch n n).1 → ch ((bs ch n n).2 + i) % 4 = 1 := fun i hi => rnF_in ch (n - (bs ch n n).2) _ i (by rw [show rnF ch (n - (bs ch n n).2) (bs ch n n).2 = (bs ch n n).1 from t2]; exact hi)
    have hge := rl_ge ch (bs ch n n).2 (bs ch n n).1 hin
    have hd : (bs ch n n).2 + (bs ch n n).1 - 1 < n := by omega
    have h3 := m1 _ hd
    have h5 : bv1 ch ((bs ch n n).2 + (bs ch n n).1 - 1) ≥ 100 * (bs ch n n).1 - (bs ch n n).2 := by
      unfold bv1
      rw [show (bs ch n n).2 + (bs ch n n).1 - 1 + 1 = (bs ch n n).2 + (bs ch n n).1 by omega]
      rw [if_neg (by omega)]
      omega
    rcases m2 with m2 | ⟨c, hc, m2⟩
    · omega
    · have := key c hc; omega
section
variable {G G' : Mem} {S S' W Tx B v : Nat → Nat} {h n b : Nat}
theorem longest_m {f : Nat} (hM : MR S W Tx h n G) (hI : LI b S) (hf : f < 6) : fX9_longest 627 (nI f) G = some (nI (bb (cf S f) (S (12 + f))), G) := by
  unfold fX9_longest
  have hl := (hI.len hf).2
  have hbb : ∀ m, m ≤ 30 → bb (cf S f) m ≤ 3000 := by
    intro m hm
    rcases (bb_max (cf S f) m).2 with h0 | ⟨c, hc, h0⟩
    · omega
    · have := rl_le (cf S f) (c + 1)
      rw [h0]
      unfold bv1
      split <;> omega
  refine itr_run (fun i : Nat => (nI (bb (cf S f) i), nI (rl (cf S f) i), nI i, G)) (S (12 + f)) (fun i hi rec => ?_) (by omega) (fun rec => ?_)
  · show bX9_longest_7 627 (nI f) rec (nI _) (nI _) (nI i) G = rec (nI (bb (cf S f) (i + 1)), nI (rl (cf S f) (i + 1)), nI (i + 1), G)
    have h1 := hbb i (by omega)
    have h2 := rl_le (cf S f) i
    have h3 := rl_le (cf S f) (i + 1)
    unfold bX9_longest_7
    rw [nI_add 12 f, nI_ix (by omega) (by omega), nI_clamp (by omega), show (627 : Nat) + 1 = 628 from rfl, hM.s (by omega), if_neg (by rw [nI_leI (by omega) (by omega)]; omega), kind_m hM hf (by omega) (hI.cx hf hi), bd_some']
    have e59 : ∀ y, y = bv1 (cf S f) i → jX9_longest_59 rec 627 (nI f) (nI (bb (cf S f) i)) (nI (rl (cf S f) (i + 1))) (nI i) (nI y) G = rec (nI (bb (cf S f) (i + 1)), nI (rl (cf S f) (i + 1)), nI (i + 1), G) := by
      intro y hy
      have hy2 : y ≤ 3000 := by
        rw [hy]; unfold bv1
        split <;> omega
      unfold jX9_longest_59
      have eb : bb (cf S f) (i + 1) = if bv1 (cf S f) i ≤ bb (cf S f) i then bb (cf S f) i else bv1 (cf S f) i := rfl
      rw [eb, ← hy, nI_add]
      by_cases hc : y ≤ bb (cf S f) i
      · rw [if_pos (by rw [nI_leI (by omega) (by omega)]; exact hc), if_pos hc]
      · rw [if_neg (by rw [nI_leI (by omega) (by omega)]; exact hc), if_neg hc]
    have e39 : ∀ r, r = rl (cf S f) (i + 1) → jX9_longest_39 rec 627 (nI f) (nI (bb (cf S f) i)) (nI i) (nI r) G = rec (nI (bb (cf S f) (i + 1)), nI (rl (cf S f) (i + 1)), nI (i + 1), G) := by
      intro r hr
      unfold jX9_longest_39
      by_cases h0 : r = 0
      · rw [if_pos (by rw [h0]), hr]
        exact e59 0 (by unfold bv1; rw [if_pos (by omega)])
      · rw [if_neg (by rw [nI_eq (by omega) (by omega)]; exact h0), nI_mulN, nI_add i 1, pk_sub (by omega), pk_sub (by omega), hr]
        exact e59 _ (by unfold bv1; rw [if_neg (by omega)])
    by_cases hk : S (42 + 30 * f + i) % 4 = 1
    · rw [if_pos (by rw [hk]), nI_add]
      exact e39 _ (by show _ = (if S (42 + 30 * f + i) % 4 = 1 then _ else _); rw [if_pos hk])
    · rw [if_neg (by rw [nI_eq (by omega) (by omega)]; exact hk)]
      exact e39 0 (by show _ = (if S (42 + 30 * f + i) % 4 = 1 then _ else _); rw [if_neg hk])
  · show bX9_longest_7 627 (nI f) rec (nI _) (nI _) (nI (S (12 + f))) G = _
    unfold bX9_longest_7
    rw [nI_add 12 f, nI_ix (by omega) (by omega), nI_clamp (by omega), show (627 : Nat) + 1 = 628 from rfl, hM.s (by omega), if_pos (by rw [nI_leI (by omega) (by omega)]; exact Nat.le_refl _)]
theorem m_field (x1 x2 : Int32) (hM : MR S W Tx h n G) (hI : LI b S) : fX9_field 627 x1 x2 G = some (qField x1 x2 S, G) := by
  unfold fX9_field qField
  rw [isField_m, bd_some']
  by_cases h1 : inF x1
  · rw [if_pos h1, if_neg (by decide), if_pos h1, in_m (by omega) (by omega), bd_some']
    obtain ⟨f, rfl, l1⟩ : ∃ f, x1 = nI f ∧ f ≤ 5 := ⟨tn x1, nat_in (hi := 5) (show inW 0 5 x1 from h1)⟩
    rw [tn_nI (by omega)]
    by_cases hw : inW 0 10 x2
    · rw [if_pos hw, if_neg (by decide), longest_m hM hI (by omega), bd_some']
      have hl := (hI.len (f := f) (by omega)).2
      have hm := (hI.2 f (by omega)).2.2.1
      have hcx : ∀ c, c < S (12 + f) → S (42 + 30 * f + c) < 2 ^ 31 := fun c hc => hI.cx (by omega) hc
      rw [bb_bs (cf S f) hl]
      obtain ⟨s1, s2⟩ := bs_spec (cf S f) (S (12 + f)) (S (12 + f))
      have hble := bs_le (cf S f) (S (12 + f)) (S (12 + f))
      generalize bs (cf S f) (S (12 + f)) (S (12 + f)) = q at *
      have hq2 : 0 < q.1 → q.2 < 30 := fun z => by have := (s2 z).1; omega
      have hdiv : (nI (if q.1 = 0 then 0 else 100 * q.1 - q.2) + nI 99) / nI 100 = nI q.1 := by
        rw [nI_add, pk_div (by split <;> omega) (by omega) (by omega)]
        refine congrArg nI ?_
        by_cases h0 : q.1 = 0
        · rw [if_pos h0, h0]
        · have := hq2 (by omega)
          rw [if_neg h0]
          omega
      rw [hdiv]
      have okk : ∀ k, k < 4 → ∀ x : Int32, x = nI (k + 1) → bd (fX9_ofKind 627 (nI f) (x - nI 1) G) (fun r95 G95 => some (r95, G95)) = some (nI (cn S f k), G) := by
        intro k hk x hx
        rw [hx, pk_sub (by omega), Nat.add_sub_cancel, ofKind_m hM (by omega) hk hl hcx, bd_some']
      refine iteq (fun z => ?_) (fun z0 => ?_)
      · rw [nI_add 12 f, nI_ix (by omega) (by omega), nI_clamp (by omega), show (627 : Nat) + 1 = 628 from rfl, hM.s (by omega)]
      refine iteq (fun z => okk 0 (by omega) x2 z) (fun z1 => ?_)
      refine iteq (fun z => okk 1 (by omega) x2 z) (fun z2 => ?_)
      refine iteq (fun z => okk 2 (by omega) x2 z) (fun z3 => ?_)
      refine iteq (fun z => okk 3 (by omega) x2 z) (fun z4 => ?_)
      refine iteq (fun z => rfl) (fun z5 => ?_)
      refine iteq (fun z => ?_) (fun z6 => ?_)
      · by_cases h0 : q.1 = 0
        · rw [if_pos (by rw [h0]), if_pos h0]
        · have := hq2 (by omega)
          rw [if_neg (by rw [nI_eq (by omega) (by omega)]; exact h0), if_neg h0, if_neg h0, nI_mulN, pk_sub (by omega)]
          refine congrArg some (congrArg (fun z => (nI z, G)) ?_)
          omega
      refine iteq (fun z => ?_) (fun z7 => ?_)
      · rw [con_of hM (by omega) (by omega) (x := S (18 + 4 * f)) (by rw [Nat.add_zero]), bd_some']
      rw [con_of hM (by omega) (by omega) (x := S (18 + 4 * f)) (by rw [Nat.add_zero]), bd_some']
      obtain ⟨j, hj, hj2⟩ : ∃ j, x2 = nI j ∧ j ≤ 10 := by
        obtain ⟨q, l⟩ := nat_in hw
        exact ⟨tn x2, q, l⟩
      by_cases h5 : S (18 + 4 * f) = 0
      · rw [if_neg (by rw [h5]; decide), if_pos h5, if_pos h5, if_pos h5]
        rcases (show j = 0 ∨ j = 1 ∨ j = 2 ∨ j = 3 ∨ j = 4 ∨ j = 5 ∨ j = 6 ∨ j = 7 ∨ j = 8 ∨ j = 9 ∨ j = 10 by omega) with rfl | rfl | rfl | rfl | rfl | rfl | rfl | rfl | rfl | rfl | rfl
        · exact absurd hj z0
        · exact absurd hj z1
        · exact absurd hj z2
        · exact absurd hj z3
        · exact absurd hj z4
        · exact absurd hj z5
        · exact absurd hj z6
        · exact absurd hj z7
        · rw [if_pos hj]
        · subst hj; rfl
        · subst hj; rfl
      · rw [if_pos (by rw [show S (18 + 4 * f) = 1 by omega]), if_neg h5, if_neg h5, if_neg h5]
        rcases (show j = 0 ∨ j = 1 ∨ j = 2 ∨ j = 3 ∨ j = 4 ∨ j = 5 ∨ j = 6 ∨ j = 7 ∨ j = 8 ∨ j = 9 ∨ j = 10 by omega) with rfl | rfl | rfl | rfl | rfl | rfl | rfl | rfl | rfl | rfl | rfl
        · exact absurd hj z0
        · exact absurd hj z1
        · exact absurd hj z2
        · exact absurd hj z3
        · exact absurd hj z4
        · exact absurd hj z5
        · exact absurd hj z6
        · exact absurd hj z7
        · subst hj
          rw [if_pos rfl, pk_sub (by omega), con_of hM (by omega) (by omega) (x := S (19 + 4 * f)) (congrArg S (by omega)), bd_some']
        · subst hj
          rw [if_neg (by decide), if_pos rfl, pk_sub (by omega), con_of hM (by omega) (by omega) (x := S (20 + 4 * f)) (congrArg S (by omega)), bd_some']
        · subst hj
          rw [if_neg (by decide), if_neg (by decide), if_pos rfl, pk_sub (by omega), con_of hM (by omega) (by omega) (x := S (21 + 4 * f)) (congrArg S (by omega)), bd_some']
    · have hne : ∀ k, k ≤ 10 → x2 ≠ nI k := fun k hk z => hw (by rw [z]; have e := nI_toInt (n := k) (by omega); exact ⟨by rw [e]; omega, by rw [e]; omega⟩)
      rw [if_neg hw, if_pos rfl, if_neg (hne 0 (by omega)), if_neg (hne 1 (by omega)), if_neg (hne 2 (by omega)), if_neg (hne 3 (by omega)), if_neg (hne 4 (by omega)), if_neg (hne 5 (by omega)), if_neg (hne 6 (by omega)), if_neg (hne 7 (by omega)), if_neg (hne 8 (by omega)), if_neg (hne 9 (by omega)), if_neg (hne 10 (by omega))]
  · rw [if_neg h1, if_pos rfl, if_neg h1]
end
