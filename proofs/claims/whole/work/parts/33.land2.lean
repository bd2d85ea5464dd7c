/-! what else is done to a land -/
abbrev tc (v : Nat → Nat) (f c : Nat) : Nat := v (42 + 30 * f + c) / 4 % 16
abbrev kc (v : Nat → Nat) (f c : Nat) : Nat := v (42 + 30 * f + c) % 4
abbrev cC (v : Nat → Nat) (f c : Nat) : Prop := kc v f c = 0 ∧ 3 ≤ tc v f c ∧ 1 ≤ v 1
abbrev cP (v : Nat → Nat) (f c : Nat) : Prop := kc v f c = 2 ∧ 2 ≤ v 1 ∧ 3 ≤ v 3
def cutV (v : Nat → Nat) (f c : Nat) : Nat → Nat := vs (vs (vs v 1 (v 1 - 1)) 2 (v 2 + tc v f c)) (42 + 30 * f + c) (4 * (tc v f c - 2))
def plantV (v : Nat → Nat) (f c : Nat) : Nat → Nat := vs (vs (vs (vs v 1 (v 1 - 2)) 3 (v 3 - 3)) (42 + 30 * f + c) 3) 8 (v 8 + 1)
def spendV (v : Nat → Nat) (x : Nat) : Nat → Nat := vs (vs v 3 (v 3 - min (v 3) x)) 4 (v 4 + (x - min (v 3) x))
section
variable {p : Nat} {v v' : Nat → Nat} {G G' : Mem}
/-- one chain's code is another -/
theorem LR_ch {f c k t : Nat} (h : LR p v G) (hf : f < 6) (hb : ∀ g, g < 6 → v (12 + g) ≤ 30) (hc : c < v (12 + f)) (hk : k < 4) (ht : t < 16) : ∃ G', fX1_changeChain (p + 3 + 5 * f) (nI c) (nI k) (nI t) G = some G' ∧ LR p (vs v (42 + 30 * f + c) (k + 4 * t)) G' ∧ FrL p G G' := by
  have := hb f hf
  obtain ⟨G3, a1, a2, a3⟩ := chg_c (k := k) (t := t) (h.2.1 f hf) (hb f hf) hc hk ht
  refine ⟨G3, a1, LR_h h hf hb a3 ?_ (fun j hj hj2 => vs_ne (by omega)), a3.L hf⟩
  rw [vs_ne (by omega)]
  refine a2.ext (fun j hj => ?_)
  by_cases hjc : j = c
  · subst hjc; rw [vs_eq, if_pos rfl]
  · rw [vs_ne (by omega), if_neg hjc]
theorem canCut_c {f c b : Nat} (h : LR p v G) (hI : LI b v) (hf : f < 6) (hc : c < v (12 + f)) : fX4_canCut p (nI f) (nI c) G = some (if cC v f c then nI 1 else nI 0, G) := by
  unfold fX4_canCut
  have hl := hI.len hf
  obtain ⟨hN, -⟩ := hI
  rw [nI_ix (by omega) (by omega), cl_nI hf, isToCut_c (h.2.1 f hf) hl.2 hc, bd_some']
  by_cases h1 : kc v f c = 0 ∧ 3 ≤ tc v f c
  · rw [if_pos h1, if_neg (by decide), show G p 6 = nI (v 1) from h.1 6 (by omega) (by omega)]
    by_cases h2 : 1 ≤ v 1
    · rw [if_neg (by rw [nI_ltI (by omega) (by omega)]; omega), if_pos ⟨h1.1, h1.2, h2⟩]
    · rw [if_pos (by rw [nI_ltI (by omega) (by omega)]; omega), if_neg (fun z => h2 z.2.2)]
  · rw [if_neg h1, if_pos rfl, if_neg (fun z => h1 ⟨z.1, z.2.1⟩)]
theorem cutChain_c {f c b : Nat} (h : LR p v G) (hI : LI b v) (hb : b < 100000000) (hf : f < 6) (hc : c < v (12 + f)) (hC : cC v f c) : ∃ G', fX4_cutChain p (nI f) (nI c) G = some G' ∧ LR p (cutV v f c) G' ∧ FrL p G G' := by
  unfold fX4_cutChain cutV
  have hl := hI.len hf
  have hlg : ∀ g, g < 6 → v (12 + g) ≤ 30 := fun g hg => (hI.len hg).2
  obtain ⟨hk, ht, hw⟩ := hC
  have ht : 3 ≤ v (42 + 30 * f + c) / 4 % 16 := ht
  have hok := (hI.2 f hf).2.1 c hc
  unfold okc at hok
  rw [nI_ix (by omega) (by omega), cl_nI hf, thick_c (h.2.1 f hf) hl.2 hc, bd_some', lt_def, lt_def, show G p 6 = nI (v 1) from h.1 6 (by omega) (by omega), pk_sub hw]
  have h1 := LR_n (x := v 1 - 1) h (j := 6) (by omega) (by omega)
  rw [show mset G p 6 (nI (v 1 - 1)) p 7 = nI (v 2) from h1.1 7 (by omega) (by omega), nI_add, nI_ix (by omega) (by omega), pk_sub (by omega)]
  have h2 := LR_n (x := v 2 + tc v f c) h1 (j := 7) (by omega) (by omega)
  obtain ⟨G3, a1, a2, a3⟩ := LR_ch (k := 0) (t := tc v f c - 2) h2 hf (fun g hg => by rw [vs_ne (by show 12 + g ≠ 2; omega), vs_ne (by show 12 + g ≠ 1; omega)]; exact hlg g hg) (c := c) (by rw [vs_ne (by show 12 + f ≠ 2; omega), vs_ne (by show 12 + f ≠ 1; omega)]; exact hc) (by omega) (by show v (42 + 30 * f + c) / 4 % 16 - 2 < 16; omega)
  rw [a1, bv_some']
  rw [Nat.zero_add] at a2
  exact ⟨G3, rfl, a2, ((FrL.m (by omega) (by omega)).tr (FrL.m (by omega) (by omega))).tr a3⟩
theorem canPlant_c {f c b : Nat} (h : LR p v G) (hI : LI b v) (hb : b < 100000000) (hf : f < 6) (hc : c < v (12 + f)) : fX4_canPlant p (nI f) (nI c) G = some (if cP v f c then nI 1 else nI 0, G) := by
  unfold fX4_canPlant
  have hl := hI.len hf
  obtain ⟨hN, -⟩ := hI
  rw [nI_ix (by omega) (by omega), cl_nI hf, kindOf_c (h.2.1 f hf) hl.2 hc, bd_some', show G p 6 = nI (v 1) from h.1 6 (by omega) (by omega), show G p 8 = nI (v 3) from h.1 8 (by omega) (by omega)]
  by_cases h1 : kc v f c = 2
  · rw [if_pos (by rw [show v (42 + 30 * f + c) % 4 = 2 from h1])]
    by_cases h2 : 2 ≤ v 1
    · rw [if_neg (by rw [nI_ltI (by omega) (by omega)]; omega)]
      by_cases h3 : 3 ≤ v 3
      · rw [if_neg (by rw [nI_ltI (by omega) (by omega)]; omega), if_pos ⟨h1, h2, h3⟩]
      · rw [if_pos (by rw [nI_ltI (by omega) (by omega)]; omega), if_neg (fun z => h3 z.2.2)]
    · rw [if_pos (by rw [nI_ltI (by omega) (by omega)]; omega), if_neg (fun z => h2 z.2.1)]
  · rw [if_neg (by rw [nI_eq (by omega) (by omega)]; exact h1), if_neg (fun z => h1 z.1)]
theorem plantChain_c {f c b : Nat} (h : LR p v G) (hI : LI b v) (hb : b < 100000000) (hf : f < 6) (hc : c < v (12 + f)) (hC : cP v f c) : ∃ G', fX4_plantChain p (nI f) (nI c) G = some G' ∧ LR p (plantV v f c) G' ∧ FrL p G G' := by
  unfold fX4_plantChain plantV
  have hl := hI.len hf
  have hlg : ∀ g, g < 6 → v (12 + g) ≤ 30 := fun g hg => (hI.len hg).2
  obtain ⟨hk, hw, hpu⟩ := hC
  rw [lt_def, lt_def, show G p 6 = nI (v 1) from h.1 6 (by omega) (by omega), pk_sub hw]
  have h1 := LR_n (x := v 1 - 2) h (j := 6) (by omega) (by omega)
  rw [show mset G p 6 (nI (v 1 - 2)) p 8 = nI (v 3) from h1.1 8 (by omega) (by omega), pk_sub hpu, nI_ix (by omega) (by omega), cl_nI hf]
  have h2 := LR_n (x := v 3 - 3) h1 (j := 8) (by omega) (by omega)
  obtain ⟨G3, a1, a2, a3⟩ := LR_ch (k := 3) (t := 0) h2 hf (fun g hg => by rw [vs_ne (by show 12 + g ≠ 3; omega), vs_ne (by show 12 + g ≠ 1; omega)]; exact hlg g hg) (c := c) (by rw [vs_ne (by show 12 + f ≠ 3; omega), vs_ne (by show 12 + f ≠ 1; omega)]; exact hc) (by omega) (by omega)
  rw [a1, bv_some', lt_def]
  have e8 : G3 p 13 = nI (v 8) := (a2.1 13 (by omega) (by omega)).trans (congrArg nI (by show vs (vs (vs v 1 _) 3 _) _ _ 8 = _; rw [vs_ne (by omega), vs_ne (by omega), vs_ne (by omega)]))
  rw [e8, nI_add]
  exact ⟨_, rfl, LR_n (x := v 8 + 1) a2 (j := 13) (by omega) (by omega), (((FrL.m (by omega) (by omega)).tr (FrL.m (by omega) (by omega))).tr a3).tr (FrL.m (by omega) (by omega))⟩
theorem grubChain_c {f c b : Nat} (h : LR p v G) (hI : LI b v) (hf : f < 6) (hc : c < v (12 + f)) : ∃ G', fX4_grubChain p (nI f) (nI c) G = some G' ∧ LR p (sEnds (vs v (42 + 30 * f + c) 2) f) G' ∧ FrL p G G' := by
  unfold fX4_grubChain
  have hlg : ∀ g, g < 6 → v (12 + g) ≤ 30 := fun g hg => (hI.len hg).2
  rw [nI_ix (by omega) (by omega), cl_nI hf]
  obtain ⟨G3, a1, a2, a3⟩ := LR_ch (k := 2) (t := 0) h hf hlg hc (by omega) (by omega)
  obtain ⟨G4, b1, b2, b3⟩ := ends_eq a2 hf (fun g hg => by rw [vs_ne (by omega)]; exact hlg g hg)
  rw [a1, bv_some', b1, bv_some']
  exact ⟨G4, rfl, b2, a3.tr b3⟩
theorem kind_c {f c b : Nat} (h : LR p v G) (hI : LI b v) (hf : f < 6) (hc : c < v (12 + f)) : fX1_kindOf (p + 3 + 5 * f) (nI c) G = some (nI (kc v f c), G) := kindOf_c (h.2.1 f hf) (hI.len hf).2 hc
/-- a field's hedge is the one at q -/
def newH (v : Nat → Nat) (f n : Nat) (ch : Nat → Nat) : Nat → Nat := fun j => if j = 12 + f then n else if 42 + 30 * f ≤ j ∧ j < 72 + 30 * f then (if j - (42 + 30 * f) < n then ch (j - (42 + 30 * f)) else 0) else v j
theorem replaceHedge_c {f n q b : Nat} {ch : Nat → Nat} (h : LR p v G) (hI : LI b v) (hf : f < 6) (hH : HR q n ch G) (hn : n ≤ 30) (hq : p + 32 < q) : ∃ G', fX4_replaceHedge p (nI f) q G = some G' ∧ LR p (sEnds (newH v f n ch) f) G' ∧ FrL p G G' := by
  unfold fX4_replaceHedge
  have hlg : ∀ g, g < 6 → v (12 + g) ≤ 30 := fun g hg => (hI.len hg).2
  rw [nI_ix (by omega) (by omega), cl_nI hf]
  obtain ⟨G3, a1, a2, a3⟩ := copyHedge (q := p + 3 + 5 * f) hH hn (Or.inl (by omega))
  have h3 : LR p (newH v f n ch) G3 := by
    refine LR_h h hf hlg a3 ?_ (fun j hj hj2 => by unfold newH; rw [if_neg hj, if_neg hj2])
    have e : newH v f n ch (12 + f) = n := if_pos rfl
    rw [e]
    refine a2.ext (fun c hc => ?_)
    unfold newH
    rw [if_neg (by omega), if_pos (by omega), if_pos (by omega)]
    congr 1
    omega
  have hl3 : ∀ g, g < 6 → newH v f n ch (12 + g) ≤ 30 := fun g hg => by
    unfold newH
    by_cases hgf : 12 + g = 12 + f
    · rw [if_pos hgf]; exact hn
    · rw [if_neg hgf, if_neg (by omega)]; exact hlg g hg
  obtain ⟨G4, b1, b2, b3⟩ := ends_eq h3 hf hl3
  rw [a1, bv_some', b1, bv_some']
  exact ⟨G4, rfl, b2, (a3.L hf).tr b3⟩
theorem spend_c {x b : Nat} (h : LR p v G) (hI : LI b v) (hb : b < 100000000) (hx : x < 100000000) : ∃ G', fX4_spend p (nI x) G = some G' ∧ LR p (spendV v x) G' ∧ FrL p G G' := by
  unfold fX4_spend spendV
  obtain ⟨hN, -⟩ := hI
  have e3 : G p 8 = nI (v 3) := h.1 8 (by omega) (by omega)
  have em : (if nI x < nI (v 3) then nI x else nI (v 3)) = nI (min (v 3) x) := by
    by_cases hlt : x < v 3
    · rw [if_pos (by rw [nI_ltI (by omega) (by omega)]; exact hlt)]; congr 1; omega
    · rw [if_neg (by rw [nI_ltI (by omega) (by omega)]; exact hlt)]; congr 1; omega
  rw [e3, em, lt_def, lt_def, pk_sub (by omega), pk_sub (by omega)]
  have h1 := LR_n (x := v 3 - min (v 3) x) h (j := 8) (by omega) (by omega)
  rw [show mset G p 8 (nI (v 3 - min (v 3) x)) p 9 = nI (v 4) from h1.1 9 (by omega) (by omega), nI_add]
  exact ⟨_, rfl, LR_n (x := v 4 + (x - min (v 3) x)) h1 (j := 9) (by omega) (by omega), (FrL.m (by omega) (by omega)).tr (FrL.m (by omega) (by omega))⟩
theorem finePerWeek_c {f b : Nat} (h : LR p v G) (hI : LI b v) (hf : f < 6) (hm : v (18 + 4 * f) = 1) : fX4_finePerWeek p (nI f) G = some (nI (v (21 + 4 * f) * cn v f 0), G) := by
  unfold fX4_finePerWeek
  have hn : fX1_numberOf (p + 3 + 5 * f) (nI 0) G = some (nI (cn v f 0), G) := numberOf_eq (k := 0) (h.2.1 f hf) (hI.len hf).2 (by omega)
  rw [nI_ix (by omega) (by omega), nI_ix (by omega) (by omega), cl_nI hf, hn, bd_some', ((h.2.2 f hf).2 hm).2.2, nI_mulN]
/-- the fine of a field that is due -/
def fineV (v : Nat → Nat) (f : Nat) : Nat := if v (18 + 4 * f) = 1 ∧ v (20 + 4 * f) < v 0 then v (21 + 4 * f) * cn v f 0 else 0
def sumF (g : Nat → Nat) : Nat → Nat
  | 0 => 0
  | n + 1 => sumF g n + g n
theorem sumF_le {g : Nat → Nat} {m n : Nat} (h : ∀ i, i < n → g i ≤ m) : sumF g n ≤ m * n := by
  induction n with
  | zero => exact Nat.le_refl 0
  | succ n ih =>
    show sumF g n + g n ≤ m * (n + 1)
    have := ih (fun i hi => h i (by omega))
    have := h n (by omega)
    rw [Nat.mul_add]
    omega
theorem fineV_le {f b : Nat} (hI : LI b v) (hf : f < 6) : fineV v f ≤ 270 := by
  unfold fineV
  have h9 := (hI.2 f hf).2.2.2.2.2
  have hl := (hI.len hf).2
  have hle : cn v f 0 ≤ v (12 + f) := cnt_le (cf v f) 0 (v (12 + f))
  split
  · exact Nat.le_trans (Nat.mul_le_mul h9 (Nat.le_trans hle hl)) (by decide)
  · omega
theorem finesDue_c {b : Nat} (h : LR p v G) (hI : LI b v) : fX4_finesDue p G = some (nI (sumF (fineV v) 6), G) := by
  unfold fX4_finesDue
  refine itr_run (fun i : Nat => (nI (sumF (fineV v) i), nI i, G)) 6 (fun i hi rec => ?_) (by omega) (fun rec => ?_)
  · show bX4_finesDue_4 p rec (nI (sumF (fineV v) i)) (nI i) G = rec (nI (sumF (fineV v) i + fineV v i), nI (i + 1), G)
    unfold bX4_finesDue_4 fineV
    obtain ⟨-, -, hm, -, hla, -⟩ := hI.2 i hi
    have hN := hI.1
    have hC := h.2.2 i hi
    rw [if_neg (by rw [nI_leI (by omega) (by omega)]; omega), nI_ix (by omega) (by omega), nI_clamp (by omega), hC.1, nI_add]
    by_cases h1 : v (18 + 4 * i) = 1
    · rw [if_neg (by rw [h1]; decide), nI_ix (by omega) (by omega), (hC.2 h1).2.1, show G p 2 = nI (v 0) from h.1 2 (by omega) (by omega)]
      by_cases h2 : v (20 + 4 * i) < v 0
      · rw [if_neg (by rw [nI_leI (by omega) (by omega)]; omega), finePerWeek_c h hI hi h1, bd_some', nI_add, if_pos ⟨h1, h2⟩]
      · rw [if_pos (by rw [nI_leI (by omega) (by omega)]; omega), if_neg (fun z => h2 z.2)]; rfl
    · have h0 : v (18 + 4 * i) = 0 := by omega
      rw [if_pos (by rw [h0]), if_neg (fun z => h1 z.1)]; rfl
  · show bX4_finesDue_4 p rec _ (nI 6) G = _
    unfold bX4_finesDue_4
    rw [if_pos (by rw [nI_leI (by omega) (by omega)]; omega)]
theorem noContracts_c {b : Nat} (h : LR p v G) (hI : LI b v) : fX4_numberOfContracts p G = some (nI (sumF (fun f => v (18 + 4 * f)) 6), G) := by
  unfold fX4_numberOfContracts
  refine itr_run (fun i : Nat => (nI (sumF (fun f => v (18 + 4 * f)) i), nI i, G)) 6 (fun i hi rec => ?_) (by omega) (fun rec => ?_)
  · show bX4_numberOfContracts_4 p rec (nI _) (nI i) G = rec (nI (sumF (fun f => v (18 + 4 * f)) i + v (18 + 4 * i)), nI (i + 1), G)
    unfold bX4_numberOfContracts_4
    obtain ⟨-, -, hm, -, -, -⟩ := hI.2 i hi
    rw [if_neg (by rw [nI_leI (by omega) (by omega)]; omega), nI_ix (by omega) (by omega), nI_clamp (by omega), (h.2.2 i hi).1, nI_add, nI_add]
    by_cases h1 : v (18 + 4 * i) = 1
    · rw [if_neg (by rw [h1]; decide), h1]
    · have h0 : v (18 + 4 * i) = 0 := by omega
      rw [if_pos (by rw [h0]), h0]; rfl
  · show bX4_numberOfContracts_4 p rec _ (nI 6) G = _
    unfold bX4_numberOfContracts_4
    rw [if_pos (by rw [nI_leI (by omega) (by omega)]; omega)]
end
