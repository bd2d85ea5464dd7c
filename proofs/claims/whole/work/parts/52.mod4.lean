section
variable {G G' : Mem} {S S' W Tx B : Nat → Nat} {h n b : Nat}
theorem MR.ext (hM : MR S W Tx h n G) (he : ∀ k, k < 668 → S' k = S k) : MR S' W Tx h n G := ⟨hM.1, hM.2.1, fun k hk => by rw [he k hk]; exact hM.2.2.1 k hk, hM.2.2.2⟩
theorem okc_lt {x : Nat} (hx : okc x) : x < 2 ^ 31 := by unfold okc at hx; omega
theorem LI.cx {f c : Nat} (hI : LI b S) (hf : f < 6) (hc : c < S (12 + f)) : S (42 + 30 * f + c) < 2 ^ 31 := okc_lt ((hI.2 f hf).2.1 c hc)
theorem inC_k {x1 x2 : Int32} (hI : LI b S) (hc : inC S x1 x2) : ∃ f c, x1 = nI f ∧ x2 = nI c ∧ f < 6 ∧ c < S (12 + f) ∧ c < 30 ∧ tn x1 = f ∧ tn x2 = c := by
  have e1 := tn_int hc.1.1
  have e2 := tn_int hc.2.1
  have h1 := hc.1.2
  have h2 := hc.2.2
  have := (hI.len (f := tn x1) (by omega)).2
  exact ⟨tn x1, tn x2, tn_eq hc.1.1, tn_eq hc.2.1, by omega, by omega, by omega, rfl, rfl⟩
theorem m_cut (hb : b < 90000000) (x1 x2 : Int32) : ActM b (fX9_cut 627 x1 x2) (oCut x1 x2) := by
  intro S W Tx h n G hM hI
  unfold fX9_cut oCut
  have hN := hI.1
  rw [isChain_m hM hI, bd_some']
  by_cases hc : inC S x1 x2
  · rw [if_pos hc, if_neg (by decide), if_pos hc]
    obtain ⟨f, c, q1, q2, hf, hcl, hc30, t1, t2⟩ := inC_k hI hc
    rw [t1, t2]
    subst q1 q2
    have hx := hI.cx hf hcl
    have hxo := (hI.2 f hf).2.1 c hcl
    rw [thick_m hM hf hc30 hx, bd_some', show (627 : Nat) + 1 = 628 from rfl, hM.s (k := 0) (by omega), closed_m hM hI (by omega), bd_some']
    have hcl1 : clN S (S 0) ≤ 1 := clN_le
    by_cases h0 : clN S (S 0) = 0
    · rw [if_pos (by rw [h0]), kind_m hM hf hc30 hx, bd_some']
      by_cases h1 : S (42 + 30 * f + c) % 4 = 0
      · rw [if_pos (by rw [h1])]
        by_cases h2 : 3 ≤ S (42 + 30 * f + c) / 4 % 16
        · rw [if_neg (by rw [nI_ltI (by omega) (by omega)]; omega), hM.s (k := 1) (by omega)]
          by_cases h3 : 1 ≤ S 1
          · rw [if_pos (by rw [nI_leI (by omega) (by omega)]; exact h3), if_pos (show clN S (S 0) = 0 ∧ cC S f c from ⟨h0, h1, h2, h3⟩)]
            obtain ⟨G1, a1, a2, a3, a4⟩ := keeps_m hM
            have b1 := a2.set (k := 2) (x := S 2 + S (42 + 30 * f + c) / 4 % 16)
            have b2 := b1.set (k := 42 + 30 * f + c) (x := 0 + 4 * (S (42 + 30 * f + c) / 4 % 16 - 2))
            have b3 := b2.set (k := 1) (x := S 1 - 1)
            have e1 := b2.s (k := 1) (by omega)
            rw [vs_ne (by omega), vs_ne (by omega)] at e1
            have e2 := b3.s (k := 2) (by omega)
            rw [vs_ne (by omega), vs_ne (by omega), vs_eq] at e2
            obtain ⟨G2, c1, c2, c3⟩ := acted_m (r := S 2 + S (42 + 30 * f + c) / 4 % 16) (by omega) b3 (((a3.set (by omega)).set (by omega)).set (by omega))
            rw [a1, bv_some', lt_def, a2.s (k := 2) (by omega), nI_add, pk_sub (by omega), lays_m b1 hf hc30, bv_some', lt_def, e1, pk_sub (by omega), e2, c1, bd_some']
            refine ⟨G2, rfl, c2.ext (fun k hk => ?_), a4.tr (((FrM.m (by omega)).tr ((FrM.m (by omega)).tr (FrM.m (by omega)))).tr c3)⟩
            have et : tc S f c = S (42 + 30 * f + c) / 4 % 16 := rfl
            show cutV S f c k = _
            unfold cutV vs
            repeat' split
            all_goals first
              | rfl
              | omega
          · rw [if_neg (by rw [nI_leI (by omega) (by omega)]; exact h3), if_neg (fun z => h3 z.2.2.2)]
            exact ⟨G, rfl, hM, FrM.rf⟩
        · rw [if_pos (by rw [nI_ltI (by omega) (by omega)]; omega), if_neg (fun z => h2 z.2.2.1)]
          exact ⟨G, rfl, hM, FrM.rf⟩
      · rw [if_neg (by rw [nI_eq (by omega) (by omega)]; exact h1), if_neg (fun z => h1 z.2.1)]
        exact ⟨G, rfl, hM, FrM.rf⟩
    · rw [if_neg (by rw [nI_eq (by omega) (by omega)]; exact h0), if_neg (fun z => h0 z.1)]
      exact ⟨G, rfl, hM, FrM.rf⟩
  · rw [if_neg hc, if_pos rfl, if_neg hc]
    exact ⟨G, rfl, hM, FrM.rf⟩
theorem m_plant (hb : b < 90000000) (x1 x2 : Int32) : ActM b (fX9_plant 627 x1 x2) (oPlant x1 x2) := by
  intro S W Tx h n G hM hI
  unfold fX9_plant oPlant
  have hN := hI.1
  rw [isChain_m hM hI, bd_some']
  by_cases hc : inC S x1 x2
  · rw [if_pos hc, if_neg (by decide), if_pos hc]
    obtain ⟨f, c, q1, q2, hf, hcl, hc30, t1, t2⟩ := inC_k hI hc
    rw [t1, t2]
    subst q1 q2
    have hx := hI.cx hf hcl
    rw [kind_m hM hf hc30 hx, bd_some', show (627 : Nat) + 1 = 628 from rfl, hM.s (k := 1) (by omega), hM.s (k := 3) (by omega)]
    by_cases h1 : S (42 + 30 * f + c) % 4 = 2
    · rw [if_pos (by rw [h1])]
      by_cases h2 : 2 ≤ S 1
      · rw [if_neg (by rw [nI_ltI (by omega) (by omega)]; omega)]
        by_cases h3 : 3 ≤ S 3
        · rw [if_pos (by rw [nI_leI (by omega) (by omega)]; exact h3), if_pos (show cP S f c from ⟨h1, h2, h3⟩)]
          obtain ⟨G1, a1, a2, a3, a4⟩ := keeps_m hM
          have b1 := a2.set (k := 1) (x := S 1 - 2)
          have b2 := b1.set (k := 3) (x := S 3 - 3)
          have b3 := b2.set (k := 42 + 30 * f + c) (x := 3 + 4 * 0)
          have b4 := b3.set (k := 8) (x := S 8 + 1)
          have e1 := b1.s (k := 3) (by omega)
          rw [vs_ne (by omega)] at e1
          have e2 := b3.s (k := 8) (by omega)
          rw [vs_ne (by omega), vs_ne (by omega), vs_ne (by omega)] at e2
          have e3 := b4.s (k := 1) (by omega)
          rw [vs_ne (by omega), vs_ne (by omega), vs_ne (by omega), vs_eq] at e3
          obtain ⟨G2, c1, c2, c3⟩ := acted_m (r := S 1 - 2) (by omega) b4 ((((a3.set (by omega)).set (by omega)).set (by omega)).set (by omega))
          rw [a1, bv_some', lt_def, a2.s (k := 1) (by omega), pk_sub (by omega), lt_def, e1, pk_sub (by omega), lays_m b2 hf hc30, bv_some', lt_def, e2, nI_add, e3, c1, bd_some']
          refine ⟨G2, rfl, c2.ext (fun k hk => ?_), a4.tr (((FrM.m (by omega)).tr ((FrM.m (by omega)).tr ((FrM.m (by omega)).tr (FrM.m (by omega))))).tr c3)⟩
          show plantV S f c k = _
          unfold plantV vs
          repeat' split
          all_goals first
            | rfl
            | omega
        · rw [if_neg (by rw [nI_leI (by omega) (by omega)]; exact h3), if_neg (fun z => h3 z.2.2)]
          exact ⟨G, rfl, hM, FrM.rf⟩
      · rw [if_pos (by rw [nI_ltI (by omega) (by omega)]; omega), if_neg (fun z => h2 z.2.1)]
        exact ⟨G, rfl, hM, FrM.rf⟩
    · rw [if_neg (by rw [nI_eq (by omega) (by omega)]; exact h1), if_neg (fun z => h1 z.1)]
      exact ⟨G, rfl, hM, FrM.rf⟩
  · rw [if_neg hc, if_pos rfl, if_neg hc]
    exact ⟨G, rfl, hM, FrM.rf⟩
theorem m_grub (x1 x2 : Int32) : ActM b (fX9_grub 627 x1 x2) (oGrub x1 x2) := by
  intro S W Tx h n G hM hI
  unfold fX9_grub oGrub
  rw [isChain_m hM hI, bd_some']
  by_cases hc : inC S x1 x2
  · rw [if_pos hc, if_neg (by decide), if_pos hc]
    obtain ⟨f, c, q1, q2, hf, hcl, hc30, t1, t2⟩ := inC_k hI hc
    rw [t1, t2]
    subst q1 q2
    have hx := hI.cx hf hcl
    have hl := (hI.len hf).2
    rw [kind_m hM hf hc30 hx, bd_some']
    by_cases h2 : kc S f c = 2
    · rw [if_pos (by rw [show S (42 + 30 * f + c) % 4 = 2 from h2]), if_pos h2]
      exact ⟨G, rfl, hM, FrM.rf⟩
    · have hk : S (42 + 30 * f + c) % 4 = kc S f c := rfl
      rw [if_neg (by rw [nI_eq (by omega) (by omega)]; exact h2), if_neg h2]
      obtain ⟨G1, a1, a2, a3, a4⟩ := keeps_m hM
      have b1 := a2.set (k := 42 + 30 * f + c) (x := 2 + 4 * 0)
      obtain ⟨G2, d1, d2, d3, d4⟩ := ends_m b1 (a3.set (by omega)) hf (by rw [vs_ne (by omega)]; exact hl) (fun d hd => by
        rw [vs_ne (by omega)] at hd
        unfold vs
        split
        · omega
        · exact hI.cx hf hd)
      obtain ⟨G3, c1, c2, c3⟩ := acted_m (r := S (42 + 30 * f + c) % 4) (by omega) d2 d3
      rw [a1, bv_some', lays_m a2 hf hc30, bv_some', d1, bv_some', c1, bd_some']
      exact ⟨G3, rfl, c2, a4.tr ((FrM.m (by omega)).tr (d4.tr c3))⟩
  · rw [if_neg hc, if_pos rfl, if_neg hc]
    exact ⟨G, rfl, hM, FrM.rf⟩
end
