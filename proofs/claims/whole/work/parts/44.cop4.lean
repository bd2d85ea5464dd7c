section
variable {G G' : Mem} {S W Tx v : Nat → Nat} {nx h n b : Nat}
/-! lay -/
theorem layK_spec (v : Nat → Nat) (f c : Nat) : ∀ m k, k ≤ layK v f c m k ∧ layK v f c m k ≤ k + m ∧ (∀ i, k ≤ i → i < layK v f c m k → cL (layN v f c i) f (c + i)) ∧ (layK v f c m k = k + m ∨ ¬ cL (layN v f c (layK v f c m k)) f (c + layK v f c m k)) := by
  intro m
  induction m with
  | zero => exact fun k => ⟨Nat.le_refl _, Nat.le_refl _, fun i h1 h2 => absurd h2 (by show ¬ i < k; omega), Or.inl rfl⟩
  | succ m ih =>
    intro k
    unfold layK
    by_cases hL : cL (layN v f c k) f (c + k)
    · rw [if_pos hL]
      obtain ⟨h1, h2, h3, h4⟩ := ih (k + 1)
      refine ⟨by omega, by omega, fun i h5 h6 => ?_, ?_⟩
      · rcases Nat.lt_or_ge k i with h7 | h7
        · exact h3 i h7 h6
        · have : i = k := by omega
          subst this; exact hL
      · rcases h4 with h4 | h4
        · exact Or.inl (by omega)
        · exact Or.inr h4
    · rw [if_neg hL]
      exact ⟨Nat.le_refl _, by omega, fun i h1 h2 => absurd h2 (by omega), Or.inr hL⟩
theorem LI_layN {f c k : Nat} (h : LI b v) (hf : f < 6) (hk : ∀ i, i < k → cL (layN v f c i) f (c + i)) : LI (b + 20 * k) (layN v f c k) := by
  induction k with
  | zero => exact h
  | succ k ih =>
    have := LI_lay1 (ih (fun i hi => hk i (by omega))) hf (hk k (by omega))
    exact this.mono (by omega)
theorem layN_hi {f c k j : Nat} (h : LI b v) (hf : f < 6) (hk : ∀ i, i < k → cL (layN v f c i) f (c + i)) (hj : 222 ≤ j) : layN v f c k j = v j := by
  induction k with
  | zero => rfl
  | succ k ih =>
    have h1 := LI_layN h hf (fun i hi => hk i (by omega : i < k + 1))
    have h2 := (h1.len hf).2
    have h3 := (hk k (by omega)).1
    have h4 := (LI_layN (k := k) h hf (fun i hi => hk i (by omega))).len hf
    exact (lay1_hi hf (by omega) hj).trans (ih (fun i hi => hk i (by omega)))
theorem canLay_any {f c : Nat} (h : LR 2 v G) (hI : LI b v) (hb : b < 100000000) (hf : f < 6) (hc : c < 1000) : fX4_canLay 2 (nI f) (nI c) G = some (if cL v f c then nI 1 else nI 0, G) := by
  by_cases hcl : c < v (12 + f)
  · exact canLay_c h hI hb hf hcl
  · rw [canLay_no h hI hf (by rw [nI_toInt (by omega)]; omega), if_neg (fun z => hcl z.1)]
noncomputable def oLay (x1 x2 x3 : Int32) (S : Nat → Nat) : Oc := if inC S x1 x2 ∧ inW 1 30 x3 then (if clN S (S 0) = 0 ∧ cL S (tn x1) (tn x2) then .inr (layK S (tn x1) (tn x2) (tn x3) 0, sEnds (layN S (tn x1) (tn x2) (layK S (tn x1) (tn x2) (tn x3) 0)) (tn x1)) else .inl (-2)) else .inl (-1)
theorem c_lay (hb : b < 89000000) (x1 x2 x3 : Int32) : ActC b (fX8_lay 0 x1 x2 x3) (oLay x1 x2 x3) := by
  intro nx S W Tx h n G hC hI
  have hL : LR 2 S G := hC.1.1
  have hLI := hI.1.1
  unfold fX8_lay oLay
  rw [isChain_c hL hLI, bd_some']
  by_cases hc : inC S x1 x2
  · have e1 := tn_int hc.1.1
    have e2 := tn_int hc.2.1
    have hf6 : tn x1 < 6 := by have := hc.1.2; omega
    have hcl : tn x2 < S (12 + tn x1) := by have := hc.2.2; omega
    have hl30 := (hLI.len hf6).2
    have q1 := tn_eq hc.1.1
    have q2 := tn_eq hc.2.1
    rw [if_pos hc, if_neg (by decide), inW_c (by omega) (by omega), bd_some']
    by_cases hw : inW 1 30 x3
    · have e3 := tn_int (x := x3) (by have := hw.1; omega)
      have q3 := tn_eq (x := x3) (by have := hw.1; omega)
      have hw2 := hw.2
      rw [if_pos hw, if_neg (by decide), if_pos ⟨hc, hw⟩, Nat.zero_add, closed_c hL hLI, bd_some']
      generalize tn x1 = f at *
      generalize tn x2 = c at *
      generalize tn x3 = m at *
      subst q1 q2 q3
      have hcl1 : clN S (S 0) ≤ 1 := clN_le
      by_cases h0 : clN S (S 0) = 0
      · rw [if_pos (by rw [h0]), canLay_any hL hLI (by omega) hf6 (by omega), bd_some']
        by_cases h2 : cL S f c
        · rw [if_pos h2, if_neg (by decide), if_pos ⟨h0, h2⟩]
          obtain ⟨G1, a1, a2, a3, a4⟩ := hC.keep hI
          rw [show (0 : Nat) + 103 = 103 from rfl, show (0 : Nat) + 1 = 1 from rfl, a1, bv_some']
          obtain ⟨k1, k2, k3, k4⟩ := layK_spec S f c m 0
          generalize layK S f c m 0 = K at *
          have hm30 : m ≤ 30 := by omega
          have k3' : ∀ i, i ≤ K → ∀ j, j < i → cL (layN S f c j) f (c + j) := fun i hi j hj => k3 j (by omega) (by omega)
          have step : ∀ i (s : Int32 × Mem), i < K → (s.1 = nI i ∧ LR 2 (sEnds (layN S f c i) f) s.2 ∧ FrL 2 G1 s.2) → ∃ s' : Int32 × Mem, (s'.1 = nI (i + 1) ∧ LR 2 (sEnds (layN S f c (i + 1)) f) s'.2 ∧ FrL 2 G1 s'.2) ∧ ∀ rec, FX8_lay_67 0 (nI f) (nI c) (nI m) rec s = rec s' := by
            intro i s hi hs
            obtain ⟨s1, Gs⟩ := s
            obtain ⟨h1, h3, h4⟩ := hs
            simp only at h1 h3 h4
            subst h1
            have hcl := k3 i (by omega) hi
            have hI2 := LI_layN hLI hf6 (k3' i (by omega))
            have hid := ends_id hcl.1 hcl.2.1
            rw [hid] at h3
            obtain ⟨G2, b1, b2, b3⟩ := layChain_c h3 hI2 (by omega) hf6 hcl
            refine ⟨(nI (i + 1), G2), ⟨rfl, b2, h4.tr b3⟩, fun rec => ?_⟩
            show bX8_lay_67 0 (nI f) (nI c) (nI m) rec (nI i) Gs = _
            unfold bX8_lay_67
            rw [if_neg (by rw [nI_leI (by omega) (by omega)]; omega), nI_add, nI_add, show (0 : Nat) + 2 = 2 from rfl, canLay_any h3 hI2 (by omega) hf6 (by have := hI2.len hf6; omega), bd_some', if_pos hcl, if_neg (by decide), b1, bv_some']
          obtain ⟨⟨s1, G2⟩, ⟨h3, h4, h5⟩, rec', hrec⟩ := itr_inv (F := FX8_lay_67 0 (nI f) (nI c) (nI m)) (fun i (s : Int32 × Mem) => s.1 = nI i ∧ LR 2 (sEnds (layN S f c i) f) s.2 ∧ FrL 2 G1 s.2) K step (nI 0, G1) ⟨rfl, by show LR 2 (sEnds S f) G1; rw [ends_id h2.1 h2.2.1]; exact a2.1.1, FrL.rf⟩ (by omega)
          simp only at h3 h4 h5
          subst h3
          rw [hrec]
          have hI2 := LI_layN hLI hf6 (k3' K (by omega))
          obtain ⟨c1, c2⟩ := a2.land h4 h5 (fun k hk => (hi_ends hf6 hk).trans (layN_hi hLI hf6 (k3' K (by omega)) hk))
          refine ⟨G2, _, ?_, c1, a3.tr c2⟩
          show bX8_lay_67 0 (nI f) (nI c) (nI m) rec' (nI K) G2 = some (nI K, G2)
          unfold bX8_lay_67
          by_cases hKm : m ≤ K
          · rw [if_pos (by rw [nI_leI (by omega) (by omega)]; exact hKm)]
          · have hn : ¬ cL (layN S f c K) f (c + K) := by
              rcases k4 with k4 | k4
              · omega
              · exact k4
            rw [if_neg (by rw [nI_leI (by omega) (by omega)]; exact hKm), nI_add, show (0 : Nat) + 2 = 2 from rfl, canLay_any h4 (LI_ends hf6 hI2) (by omega) hf6 (by omega), bd_some', if_neg (fun z => hn ((cL_ends hf6 hf6).mp z)), if_pos rfl]
        · rw [if_neg h2, if_pos rfl, if_neg (fun z => h2 z.2)]
          exact ⟨G, nx, rfl, hC, FrX.rf⟩
      · rw [if_neg (by rw [nI_eq (by omega) (by omega)]; exact h0), if_neg (fun z => h0 z.1)]
        exact ⟨G, nx, rfl, hC, FrX.rf⟩
    · rw [if_neg hw, if_pos rfl, if_neg (fun z => hw z.2)]
      exact ⟨G, nx, rfl, hC, FrX.rf⟩
  · rw [if_neg hc, if_pos rfl, if_neg (fun z => hc z.1)]
    exact ⟨G, nx, rfl, hC, FrX.rf⟩
end
