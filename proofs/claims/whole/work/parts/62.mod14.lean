theorem itr_inv2 {σ ρ : Type} {F : (σ → Option ρ) → σ → Option ρ} (I : Nat → σ → Prop) (L : Nat) (hs : ∀ i s, i < L → I i s → ∀ rec, ∃ s', I (i + 1) s' ∧ F rec s = rec s') (s0 : σ) (h0 : I 0 s0) (hL : L < 10000) : ∃ s', I L s' ∧ ∃ rec', itr FU F s0 = F rec' s' := by
  have key : ∀ (d i n : Nat) (s : σ), i + d = L → d < n → I i s → ∃ s', I L s' ∧ ∃ rec', itr n F s = F rec' s' := by
    intro d
    induction d with
    | zero =>
      intro i n s hi hn hI
      obtain ⟨k, rfl⟩ : ∃ k, n = k + 1 := ⟨n - 1, by omega⟩
      obtain rfl : i = L := by omega
      exact ⟨s, hI, itr k F, rfl⟩
    | succ d ih =>
      intro i n s hi hn hI
      obtain ⟨k, rfl⟩ : ∃ k, n = k + 1 := ⟨n - 1, by omega⟩
      obtain ⟨s1, h1, h2⟩ := hs i s (by omega) hI (itr k F)
      obtain ⟨s', h3, r, h4⟩ := ih (i + 1) k s1 (by omega) (by omega) h1
      exact ⟨s', h3, r, by show F (itr k F) s = _; rw [h2, h4]⟩
  exact key L 0 FU s0 (by omega) (by show L < 10000; omega) h0
section
variable {G G' : Mem} {S S' W Tx B v : Nat → Nat} {h n b : Nat}
theorem MR.so {k x : Nat} (hM : MR S W Tx h n G) (hk : k < 668) (hx : S k = x) : G 628 k = nI x := by rw [hM.s hk, hx]
theorem con_of {f j x : Nat} (hM : MR S W Tx h n G) (hf : f < 6) (hj : j < 4) (hx : S (18 + 4 * f + j) = x) : fX9_con 627 (nI f) (nI j) G = some (nI x, G) := by rw [con_m hM hf hj, hx]
theorem thick_of {f c x : Nat} (hM : MR S W Tx h n G) (hf : f < 6) (hc : c < 30) (he : S (42 + 30 * f + c) = x) (hx : x < 2 ^ 31) : fX9_thickness 627 (nI f) (nI c) G = some (nI (x / 4 % 16), G) := by rw [thick_m hM hf hc (by rw [he]; exact hx), he]
/-- one chain is laid -/
theorem lay1_m {f c m i : Nat} (hM : MR v W Tx h n G) (hB : MB B G) (hI : LI b v) (hb : b < 100000000) (hf : f < 6) (hL : cL v f c) (him : i < m) (hm : m ≤ 30) : ∃ G', (∀ rec, bX9_lay_56 627 (nI f) (nI m) rec (nI i) (nI c) G = rec (nI (i + 1), nI (c + 1), G')) ∧ MR (lay1 v f c) W Tx h n G' ∧ MB B G' ∧ FrM G G' := by
  have hL0 := hL
  obtain ⟨hc, hk, ht2, htw, hs⟩ := hL
  have hN := hI.1
  have hl := (hI.len hf).2
  have hx := hI.cx hf hc
  have b1 := hM.set (k := 1) (x := v 1 - v (42 + 30 * f + c) / 4 % 16)
  have b2 := b1.set (k := 2) (x := v 2 - 2)
  have b3 := b2.set (k := 42 + 30 * f + c) (x := 1 + 4 * (v (42 + 30 * f + c) / 4 % 16))
  have b4 := b3.set (k := 3) (x := v 3 + v (18 + 4 * f) * v (19 + 4 * f))
  have b5 := b4.set (k := 5) (x := v 5 + v (18 + 4 * f) * v (19 + 4 * f))
  have b6 := b5.set (k := 7) (x := v 7 + 1)
  refine ⟨_, fun rec => ?_, b6, (((((hB.set (by omega)).set (by omega)).set (by omega)).set (by omega)).set (by omega)).set (by omega), (FrM.m (by omega)).tr ((FrM.m (by omega)).tr ((FrM.m (by omega)).tr ((FrM.m (by omega)).tr ((FrM.m (by omega)).tr (FrM.m (by omega))))))⟩
  unfold bX9_lay_56
  have hcl := canLay_m hM hI hb hf hc
  rw [if_pos hL0] at hcl
  rw [nI_add 12 f, nI_ix (by omega) (by omega), nI_clamp (by omega), show (627 : Nat) + 1 = 628 from rfl, hM.s (k := 12 + f) (by omega), if_neg (by rw [nI_leI (by omega) (by omega)]; omega), if_neg (by rw [nI_leI (by omega) (by omega)]; omega), hcl, bd_some', if_neg (by decide), thick_m hM hf (by omega) hx, bd_some', hM.s (k := 1) (by omega), pk_sub htw, lt_def, b1.so (k := 2) (by omega) (vs_ne (by omega)), pk_sub hs, lt_def]
  rw [thick_of b2 hf (by omega) (by rw [vs_ne (by omega), vs_ne (by omega)]) hx, bd_some', lays_m b2 hf (by omega), bv_some']
  rw [con_of b3 hf (by omega) (x := v (18 + 4 * f)) (by rw [vs_ne (by omega), vs_ne (by omega), vs_ne (by omega), Nat.add_zero]), bd_some', con_of b3 hf (by omega) (x := v (19 + 4 * f)) (by rw [vs_ne (by omega), vs_ne (by omega), vs_ne (by omega)]; exact congrArg v (by omega)), bd_some', b3.so (k := 3) (by omega) (show _ = v 3 by rw [vs_ne (by omega), vs_ne (by omega), vs_ne (by omega)]), nI_mulN, nI_add, lt_def]
  rw [con_of b4 hf (by omega) (x := v (18 + 4 * f)) (by rw [vs_ne (by omega), vs_ne (by omega), vs_ne (by omega), vs_ne (by omega), Nat.add_zero]), bd_some', con_of b4 hf (by omega) (x := v (19 + 4 * f)) (by rw [vs_ne (by omega), vs_ne (by omega), vs_ne (by omega), vs_ne (by omega)]; exact congrArg v (by omega)), bd_some', b4.so (k := 5) (by omega) (show _ = v 5 by rw [vs_ne (by omega), vs_ne (by omega), vs_ne (by omega), vs_ne (by omega)]), nI_mulN, nI_add, lt_def]
  rw [b5.so (k := 7) (by omega) (show _ = v 7 by rw [vs_ne (by omega), vs_ne (by omega), vs_ne (by omega), vs_ne (by omega), vs_ne (by omega)]), nI_add, lt_def, nI_add, nI_add]
theorem m_lay (hb : b < 89000000) (x1 x2 x3 : Int32) : ActM b (fX9_lay 627 x1 x2 x3) (oLay x1 x2 x3) := by
  intro S W Tx h n G hM hI
  unfold fX9_lay oLay
  have hN := hI.1
  rw [isChain_m hM hI, bd_some']
  by_cases hc : inC S x1 x2
  · rw [if_pos hc, if_neg (by decide), in_m (by omega) (by omega), bd_some']
    by_cases hw : inW 1 30 x3
    · rw [if_pos hw, if_neg (by decide), if_pos (show inC S x1 x2 ∧ inW 1 30 x3 from ⟨hc, hw⟩)]
      obtain ⟨f, c, q1, q2, hf, hcl, hc30, t1, t2⟩ := inC_k hI hc
      rw [t1, t2]
      obtain ⟨m, rfl, hm⟩ : ∃ m, x3 = nI m ∧ m ≤ 30 := ⟨tn x3, tn_eq (by have := hw.1; omega), by have := tn_int (x := x3) (by have := hw.1; omega); have := hw.2; omega⟩
      rw [tn_nI (by omega)]
      subst q1 q2
      rw [show (627 : Nat) + 1 = 628 from rfl, hM.s (k := 0) (by omega), closed_m hM hI (by omega), bd_some']
      have hcl1 : clN S (S 0) ≤ 1 := clN_le
      by_cases h0 : clN S (S 0) = 0
      · rw [if_pos (by rw [h0]), canLay_m hM hI (by omega) hf hcl, bd_some']
        by_cases h2 : cL S f c
        · rw [if_pos h2, if_neg (by decide), if_pos (show clN S (S 0) = 0 ∧ cL S f c from ⟨h0, h2⟩)]
          obtain ⟨G1, a1, a2, a3, a4⟩ := keeps_m hM
          rw [a1, bv_some']
          obtain ⟨k1, k2, k3, k4⟩ := layK_spec S f c m 0
          generalize layK S f c m 0 = K at *
          have k3' : ∀ i, i ≤ K → ∀ j, j < i → cL (layN S f c j) f (c + j) := fun i hi j hj => k3 j (by omega) (by omega)
          have step : ∀ i (s : Int32 × Int32 × Mem), i < K → (s.1 = nI i ∧ s.2.1 = nI (c + i) ∧ MR (layN S f c i) W Tx h n s.2.2 ∧ MB S s.2.2 ∧ FrM G1 s.2.2) → ∃ s' : Int32 × Int32 × Mem, (s'.1 = nI (i + 1) ∧ s'.2.1 = nI (c + (i + 1)) ∧ MR (layN S f c (i + 1)) W Tx h n s'.2.2 ∧ MB S s'.2.2 ∧ FrM G1 s'.2.2) ∧ ∀ rec, FX9_lay_56 627 (nI f) (nI m) rec s = rec s' := by
            intro i s hi hs
            obtain ⟨s1, s2, Gs⟩ := s
            obtain ⟨h1, h2, h3, h4, h5⟩ := hs
            simp only at h1 h2 h3 h4 h5
            subst h1 h2
            have hI2 := LI_layN hI hf (k3' i (by omega))
            obtain ⟨G2, d1, d2, d3, d4⟩ := lay1_m (i := i) (m := m) h3 h4 hI2 (by omega) hf (k3 i (by omega) hi) (by omega) hm
            exact ⟨(nI (i + 1), nI (c + i + 1), G2), ⟨rfl, rfl, d2, d3, h5.tr d4⟩, fun rec => d1 rec⟩
          obtain ⟨⟨s1, s2, G2⟩, ⟨h3, h4, h5, h6, h7⟩, rec', hrec⟩ := itr_inv (F := FX9_lay_56 627 (nI f) (nI m)) (fun i (s : Int32 × Int32 × Mem) => s.1 = nI i ∧ s.2.1 = nI (c + i) ∧ MR (layN S f c i) W Tx h n s.2.2 ∧ MB S s.2.2 ∧ FrM G1 s.2.2) K step (nI 0, nI c, G1) ⟨rfl, rfl, a2, a3, FrM.rf⟩ (by omega)
          simp only at h3 h4 h5 h6 h7
          subst h3 h4
          rw [hrec]
          have hI2 := LI_layN hI hf (k3' K (by omega))
          have hl2 := (hI2.len hf).2
          obtain ⟨G3, e1, e2, e3, e4⟩ := ends_m h5 h6 hf hl2 (fun d hd => hI2.cx hf hd)
          obtain ⟨G4, c1, c2, c3⟩ := acted_m (r := K) (by omega) e2 e3
          refine ⟨G4, ?_, c2, a4.tr (h7.tr (e4.tr c3))⟩
          have hj : jX9_lay_191 627 (nI f) (nI K) G2 = some (nI K, G4) := by
            unfold jX9_lay_191
            rw [e1, bv_some', c1, bd_some']
          show bX9_lay_56 627 (nI f) (nI m) rec' (nI K) (nI (c + K)) G2 = some (nI K, G4)
          unfold bX9_lay_56
          rw [nI_add 12 f, nI_ix (by omega) (by omega), nI_clamp (by omega), show (627 : Nat) + 1 = 628 from rfl, h5.s (k := 12 + f) (by omega), hj]
          by_cases g1 : layN S f c K (12 + f) ≤ c + K
          · rw [if_pos (by rw [nI_leI (by omega) (by omega)]; exact g1)]
          · rw [if_neg (by rw [nI_leI (by omega) (by omega)]; exact g1)]
            by_cases g2 : m ≤ K
            · rw [if_pos (by rw [nI_leI (by omega) (by omega)]; exact g2)]
            · have hn : ¬ cL (layN S f c K) f (c + K) := by
                rcases k4 with k4 | k4
                · omega
                · exact k4
              rw [if_neg (by rw [nI_leI (by omega) (by omega)]; exact g2), canLay_m h5 hI2 (by omega) hf (by omega), bd_some', if_neg hn, if_pos rfl, hj]
        · rw [if_neg h2, if_pos rfl, if_neg (fun z => h2 z.2)]
          exact ⟨G, rfl, hM, FrM.rf⟩
      · rw [if_neg (by rw [nI_eq (by omega) (by omega)]; exact h0), if_neg (fun z => h0 z.1)]
        exact ⟨G, rfl, hM, FrM.rf⟩
    · rw [if_neg hw, if_pos rfl, if_neg (fun z => hw z.2)]
      exact ⟨G, rfl, hM, FrM.rf⟩
  · rw [if_neg hc, if_pos rfl, if_neg (fun z => hc z.1)]
    exact ⟨G, rfl, hM, FrM.rf⟩
end
