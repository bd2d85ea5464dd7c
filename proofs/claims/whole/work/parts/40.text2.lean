section
variable {Tx : Nat → Nat} {n : Nat} {G B : Mem}
theorem kf_c {c : Nat} (hc : c ≤ 255) : fX2_kindFor (nI c) G = some (match kf c with | none => -1 | some k => nI k, G) := by
  unfold fX2_kindFor kf
  by_cases h1 : c = 103
  · rw [if_pos (by rw [h1]), if_pos h1]
  · rw [if_neg (by rw [nI_eq (by omega) (by omega)]; exact h1), if_neg h1]
    by_cases h2 : c = 108
    · rw [if_pos (by rw [h2]), if_pos h2]
    · rw [if_neg (by rw [nI_eq (by omega) (by omega)]; exact h2), if_neg h2]
      by_cases h3 : c = 112
      · rw [if_pos (by rw [h3]), if_pos h3]
      · rw [if_neg (by rw [nI_eq (by omega) (by omega)]; exact h3), if_neg h3]
        by_cases h4 : c = 116
        · rw [if_pos (by rw [h4]), if_pos h4]
        · rw [if_neg (by rw [nI_eq (by omega) (by omega)]; exact h4), if_neg h4]
theorem kf_lt {c k : Nat} (h : kf c = some k) : k < 4 := by
  unfold kf at h
  repeat' split at h
  all_goals first | (cases h; omega) | cases h
/-- what a part that is well says of itself -/
theorem ptR_ok {k t a : Nat} (h : (ptR Tx n k t a).1 = true) : a ≤ (ptR Tx n k t a).2.1 ∧ (ptR Tx n k t a).2.2.1 = k ∧ (ptR Tx n k t a).2.2.2.1 = t ∧ 1 ≤ (ptR Tx n k t a).2.2.2.2 ∧ (ptR Tx n k t a).2.2.2.2 ≤ 30 ∧ (a ≤ n → (ptR Tx n k t a).2.1 ≤ n) := by
  unfold ptR at h ⊢
  by_cases hs : chr Tx n a = 42
  · rw [if_pos hs] at h ⊢
    have han : a < n := by
      unfold chr at hs
      by_cases hl : a < n
      · exact hl
      · rw [if_neg hl] at hs; omega
    by_cases hd : 49 ≤ chr Tx n (a + 1) ∧ chr Tx n (a + 1) ≤ 57
    · rw [if_pos hd] at h ⊢
      have han1 : a + 1 < n := by
        have h1 := hd.1
        unfold chr at h1
        by_cases hl : a + 1 < n
        · exact hl
        · rw [if_neg hl] at h1; omega
      obtain ⟨b1, b2, b3, b4⟩ := nmL_bd (Tx := Tx) (n := n) (n - (a + 2)) (a + 2) (chr Tx n (a + 1) - 48) (by omega) (by omega)
      dsimp only
      exact ⟨by omega, rfl, rfl, b3, b4, fun _ => by omega⟩
    · rw [if_neg hd] at h
      cases h
  · rw [if_neg hs]
    exact ⟨Nat.le_refl _, rfl, rfl, Nat.le_refl _, by show 1 ≤ 30; omega, fun h => h⟩
theorem pt_ok {a : Nat} (h : (pt Tx n a).1 = true) : a < (pt Tx n a).2.1 ∧ okc ((pt Tx n a).2.2.1 + 4 * (pt Tx n a).2.2.2.1) ∧ 1 ≤ (pt Tx n a).2.2.2.2 ∧ (pt Tx n a).2.2.2.2 ≤ 30 ∧ (pt Tx n a).2.1 ≤ n := by
  unfold pt at h ⊢
  cases hk : kf (chr Tx n a) with
  | none => rw [hk] at h; cases h
  | some k =>
    rw [hk] at h
    dsimp only at h ⊢
    have hk4 := kf_lt hk
    have han : a < n := by
      by_cases hl : a < n
      · exact hl
      · have : chr Tx n a = 0 := by unfold chr; rw [if_neg hl]
        rw [this] at hk
        cases hk
    by_cases h2 : k < 2
    · rw [if_pos h2] at h ⊢
      by_cases hd : 49 ≤ chr Tx n (a + 1) ∧ chr Tx n (a + 1) ≤ 57
      · rw [if_pos hd] at h ⊢
        have han1 : a + 1 < n := by
          have h1 := hd.1
          unfold chr at h1
          by_cases hl : a + 1 < n
          · exact hl
          · rw [if_neg hl] at h1; omega
        obtain ⟨b1, b2, b3, b4, b5, b6⟩ := ptR_ok h
        rw [b2, b3]
        refine ⟨by omega, ?_, b4, b5, b6 (by omega)⟩
        unfold okc
        omega
      · rw [if_neg hd] at h; cases h
    · rw [if_neg h2] at h ⊢
      obtain ⟨b1, b2, b3, b4, b5, b6⟩ := ptR_ok h
      rw [b2, b3]
      refine ⟨by omega, ?_, b4, b5, b6 (by omega)⟩
      unfold okc
      omega
theorem readPart_c {a T : Nat} {ch : Nat → Nat} (h : RD a T ch G) (hX : TXr n Tx G) (ha : a ≤ 80) (hT : T ≤ 3000) : ∃ G', fX2_readPart 617 615 G = some (if (pt Tx n a).1 = true then nI 1 else nI 0, G') ∧ (if (pt Tx n a).1 = true then RD (pt Tx n a).2.1 (T + (pt Tx n a).2.2.2.2) (chU ch T (pt Tx n a).2.2.2.2 ((pt Tx n a).2.2.1 + 4 * (pt Tx n a).2.2.2.1)) G' else RD (pt Tx n a).2.1 T ch G') ∧ FrR G G' := by
  unfold fX2_readPart
  have hcl := chr_le hX a
  rw [h.1, signAt_c hX (by omega), bd_some', kf_c hcl, bd_some']
  unfold pt
  cases hk : kf (chr Tx n a) with
  | none =>
    dsimp only
    rw [if_pos rfl]
    exact ⟨G, rfl, h, fun _ _ => rfl⟩
  | some k =>
    dsimp only
    have hk4 := kf_lt hk
    have hne : ¬ nI k = -1 := by
      intro z
      have := congrArg Int32.toInt z
      rw [nI_toInt (by omega)] at this
      have e : (-1 : Int32).toInt = -1 := rfl
      omega
    rw [if_neg hne, h.1, nI_add, lt_def]
    have h1 := h.at (x := a + 1)
    have hX1 : TXr n Tx (mset G 617 2 (nI (a + 1))) := hX.fr FrR.m
    have hcl1 := chr_le hX1 (a + 1)
    have star : ∀ (t x : Nat) (G1 : Mem), RD x T ch G1 → FrR G G1 → x ≤ 85 → t < 16 → ∃ G', jX2_readPart_69 617 615 (nI k) (nI t) G1 = some (if (ptR Tx n k t x).1 = true then nI 1 else nI 0, G') ∧ (if (ptR Tx n k t x).1 = true then RD (ptR Tx n k t x).2.1 (T + (ptR Tx n k t x).2.2.2.2) (chU ch T (ptR Tx n k t x).2.2.2.2 ((ptR Tx n k t x).2.2.1 + 4 * (ptR Tx n k t x).2.2.2.1)) G' else RD (ptR Tx n k t x).2.1 T ch G') ∧ FrR G G' := by
      intro t x G1 hR hf hx ht
      obtain ⟨G', c1, c2, c3⟩ := part_star hR (hX.fr hf) hx hk4 ht hT
      refine ⟨G', c1, ?_, hf.tr c3⟩
      by_cases ho : (ptR Tx n k t x).1 = true
      · rw [if_pos ho] at c2 ⊢
        obtain ⟨d1, -, -, d4, d5⟩ := c2
        rw [d4, d5]
        exact d1
      · rw [if_neg ho] at c2 ⊢
        exact c2
    have dig : k < 2 → ∃ G', jX2_readPart_40 617 615 (nI k) (mset G 617 2 (nI (a + 1))) = some (if (if 49 ≤ chr Tx n (a + 1) ∧ chr Tx n (a + 1) ≤ 57 then ptR Tx n k (chr Tx n (a + 1) - 48) (a + 2) else (false, a + 1, k, 0, 0)).1 = true then nI 1 else nI 0, G') ∧ (if (if 49 ≤ chr Tx n (a + 1) ∧ chr Tx n (a + 1) ≤ 57 then ptR Tx n k (chr Tx n (a + 1) - 48) (a + 2) else (false, a + 1, k, 0, 0)).1 = true then RD (if 49 ≤ chr Tx n (a + 1) ∧ chr Tx n (a + 1) ≤ 57 then ptR Tx n k (chr Tx n (a + 1) - 48) (a + 2) else (false, a + 1, k, 0, 0)).2.1 (T + (if 49 ≤ chr Tx n (a + 1) ∧ chr Tx n (a + 1) ≤ 57 then ptR Tx n k (chr Tx n (a + 1) - 48) (a + 2) else (false, a + 1, k, 0, 0)).2.2.2.2) (chU ch T (if 49 ≤ chr Tx n (a + 1) ∧ chr Tx n (a + 1) ≤ 57 then ptR Tx n k (chr Tx n (a + 1) - 48) (a + 2) else (false, a + 1, k, 0, 0)).2.2.2.2 ((if 49 ≤ chr Tx n (a + 1) ∧ chr Tx n (a + 1) ≤ 57 then ptR Tx n k (chr Tx n (a + 1) - 48) (a + 2) else (false, a + 1, k, 0, 0)).2.2.1 + 4 * (if 49 ≤ chr Tx n (a + 1) ∧ chr Tx n (a + 1) ≤ 57 then ptR Tx n k (chr Tx n (a + 1) - 48) (a + 2) else (false, a + 1, k, 0, 0)).2.2.2.1)) G' else RD (if 49 ≤ chr Tx n (a + 1) ∧ chr Tx n (a + 1) ≤ 57 then ptR Tx n k (chr Tx n (a + 1) - 48) (a + 2) else (false, a + 1, k, 0, 0)).2.1 T ch G') ∧ FrR G G' := by
      intro hk2
      unfold jX2_readPart_40
      rw [h1.1, signAt_c hX1 (by omega), bd_some']
      by_cases hd : 48 ≤ chr Tx n (a + 1) ∧ chr Tx n (a + 1) ≤ 57
      · rw [digitFor_in hd.1 hd.2, bd_some', h1.1, nI_add, lt_def]
        by_cases h9 : 49 ≤ chr Tx n (a + 1)
        · rw [if_pos (by rw [nI_leI (by omega) (by omega)]; omega)]
          simp only [if_pos (show 49 ≤ chr Tx n (a + 1) ∧ chr Tx n (a + 1) ≤ 57 from ⟨h9, hd.2⟩)]
          exact star _ (a + 2) _ (h1.at) (FrR.m.tr FrR.m) (by omega) (by omega)
        · rw [if_neg (by rw [nI_leI (by omega) (by omega)]; omega)]
          simp only [if_neg (show ¬ (49 ≤ chr Tx n (a + 1) ∧ chr Tx n (a + 1) ≤ 57) from fun z => h9 z.1)]
          exact ⟨_, rfl, h1, FrR.m⟩
      · rw [digitFor_no hcl1 hd, bd_some', if_neg (by decide)]
        simp only [if_neg (show ¬ (49 ≤ chr Tx n (a + 1) ∧ chr Tx n (a + 1) ≤ 57) from fun z => hd ⟨by omega, z.2⟩)]
        exact ⟨_, rfl, h1, FrR.m⟩
    by_cases k0 : k = 0
    · rw [if_pos (by rw [k0])]
      simp only [if_pos (show k < 2 by omega)]
      exact dig (by omega)
    · rw [if_neg (by rw [nI_eq (by omega) (by omega)]; exact k0)]
      by_cases k1 : k = 1
      · rw [if_pos (by rw [k1])]
        simp only [if_pos (show k < 2 by omega)]
        exact dig (by omega)
      · rw [if_neg (by rw [nI_eq (by omega) (by omega)]; exact k1)]
        simp only [if_neg (show ¬ k < 2 by omega)]
        exact star 0 (a + 1) _ h1 FrR.m (by omega) (by omega)
theorem fault_c (hn : n ≤ 80) : ∀ (k m a T i : Nat) (ch : Nat → Nat) (G : Mem), RD a T ch G → TXr n Tx G → i + k = 80 → i ≤ a → a ≤ 80 → (a < n ∨ a = 0) → T ≤ 30 * i → k < m → ∃ G' x, itr m (FX2_faultOf_20 617 615) (nI i, G) = some (match (prs Tx n k a T ch).1 with | some f => nI f | none => -1, G') ∧ RD x (prs Tx n k a T ch).2.1 (prs Tx n k a T ch).2.2 G' ∧ FrR G G' := by
  intro k
  induction k with
  | zero =>
    intro m a T i ch G h hX h1 h2 h3 h4 hT hm
    exact absurd h2 (by omega)
  | succ k ih =>
    intro m a T i ch G h hX h1 h2 h3 h4 hT hm
    obtain ⟨m', rfl⟩ : ∃ m', m = m' + 1 := ⟨m - 1, by omega⟩
    rw [itr_S]
    show ∃ G' x, bX2_faultOf_20 617 615 _ (nI i) G = _ ∧ _
    unfold bX2_faultOf_20 prs
    obtain ⟨G1, c1, c2, c3⟩ := readPart_c h hX h3 (by omega)
    rw [if_neg (by rw [nI_leI (by omega) (by omega)]; omega), c1, bd_some']
    by_cases ho : (pt Tx n a).1 = true
    · obtain ⟨b1, b2, b3, b4, b5⟩ := pt_ok ho
      rw [if_pos ho] at c2
      rw [if_pos ho, if_pos ho, if_neg (by decide), c2.1, (hX.fr c3).2.1, nI_add]
      by_cases hl : (pt Tx n a).2.1 < n
      · rw [if_pos (by rw [nI_ltI (by omega) (by omega)]; exact hl), if_pos hl]
        obtain ⟨G2, x, d1, d2, d3⟩ := ih m' _ _ (i + 1) _ G1 c2 (hX.fr c3) (by omega) (by omega) (by omega) (Or.inl hl) (by omega) (by omega)
        exact ⟨G2, x, d1, d2, c3.tr d3⟩
      · rw [if_neg (by rw [nI_ltI (by omega) (by omega)]; exact hl), if_neg hl]
        exact ⟨G1, _, rfl, c2, c3⟩
    · rw [if_neg ho] at c2
      rw [if_neg ho, if_neg ho, if_pos rfl, c2.1]
      exact ⟨G1, _, rfl, c2, c3⟩
theorem faultOf_c (hX : TXr n Tx G) : ∃ G' x, fX2_faultOf 617 615 G = some (match (prs Tx n 80 0 0 (fun _ => 0)).1 with | some f => nI f | none => -1, G') ∧ RD x (prs Tx n 80 0 0 (fun _ => 0)).2.1 (prs Tx n 80 0 0 (fun _ => 0)).2.2 G' ∧ FrR G G' := by
  unfold fX2_faultOf
  rw [lt_def, lt_def, lt_def]
  have hf : FrR G (mset (mset (mset G 618 3 (nI 0)) 617 1 (nI 0)) 617 2 (nI 0)) := fun a ha => by rw [mset_ne (by omega), mset_ne (by omega), mset_ne (by omega)]
  have hR : RD 0 0 (fun _ => 0) (mset (mset (mset G 618 3 (nI 0)) 617 1 (nI 0)) 617 2 (nI 0)) := by
    refine ⟨by rw [mset_at, if_pos ⟨rfl, rfl⟩], by rw [mset_at, if_neg (by omega), mset_at, if_pos ⟨rfl, rfl⟩], ?_, fun c hc => absurd hc (by omega)⟩
    rw [mset_at, if_neg (by omega), mset_at, if_neg (by omega), mset_at, if_pos ⟨rfl, rfl⟩]; rfl
  obtain ⟨G', x, d1, d2, d3⟩ := fault_c hX.1 80 FU 0 0 0 (fun _ => 0) _ hR (hX.fr hf) rfl (Nat.le_refl _) (by omega) (Or.inr rfl) (by omega) (by show 80 < 10000; omega)
  exact ⟨G', x, d1, d2, hf.tr d3⟩
end
