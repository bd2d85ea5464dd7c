/-! A LAND OF THE CLASS, by a row of numbers: 0 week, 1 work, 2 stakes, 3 purse, 4 debt, 5 coins, 6 fines, 7 laid, 8 planted, 9 first, 10 last, 11 strength, 12.. lengths, 18.. contracts, 42.. chains -/
def vs (v : Nat → Nat) (k x : Nat) : Nat → Nat := fun j => if j = k then x else v j
theorem vs_eq {v : Nat → Nat} {k x : Nat} : vs v k x k = x := if_pos rfl
theorem vs_ne {v : Nat → Nat} {k x j : Nat} (h : j ≠ k) : vs v k x j = v j := if_neg h
def li (j : Nat) : Nat := if j = 2 then 0 else if j = 3 then 9 else if j = 4 then 10 else if j = 5 then 11 else j - 5
theorem li_inj {i j : Nat} (hi : 2 ≤ i) (hi2 : i < 14) (hj : 2 ≤ j) (hj2 : j < 14) (h : li i = li j) : i = j := by
  unfold li at h
  repeat' split at h
  all_goals omega
theorem li_lt {j : Nat} (h2 : j < 14) : li j < 12 := by
  unfold li
  repeat' split
  all_goals omega
def LN (p : Nat) (v : Nat → Nat) (G : Mem) : Prop := ∀ j, 2 ≤ j → j < 14 → G p j = nI (v (li j))
def CR (q : Nat) (v : Nat → Nat) (f : Nat) (G : Mem) : Prop := G q 0 = nI (v (18 + 4 * f)) ∧ (v (18 + 4 * f) = 1 → G q 1 = nI (v (19 + 4 * f)) ∧ G q 2 = nI (v (20 + 4 * f)) ∧ G q 3 = nI (v (21 + 4 * f)))
def LR (p : Nat) (v : Nat → Nat) (G : Mem) : Prop := LN p v G ∧ (∀ f, f < 6 → HR (p + 3 + 5 * f) (v (12 + f)) (fun c => v (42 + 30 * f + c)) G) ∧ ∀ f, f < 6 → CR (p + 7 + 5 * f) v f G
def LI (b : Nat) (v : Nat → Nat) : Prop := (v 0 ≤ 1000 ∧ v 1 ≤ v 11 ∧ v 2 ≤ b ∧ v 3 ≤ b ∧ v 4 ≤ b ∧ v 5 ≤ b ∧ v 6 ≤ b ∧ v 7 ≤ b ∧ v 8 ≤ b ∧ v 9 ≤ 51 ∧ v 10 ≤ 51 ∧ 1 ≤ v 11 ∧ v 11 ≤ 100) ∧ ∀ f, f < 6 → (1 ≤ v (12 + f) ∧ v (12 + f) ≤ 30) ∧ (∀ c, c < v (12 + f) → okc (v (42 + 30 * f + c))) ∧ v (18 + 4 * f) ≤ 1 ∧ v (19 + 4 * f) ≤ 20 ∧ v (20 + 4 * f) ≤ 1100 ∧ v (21 + 4 * f) ≤ 9
def FrL (p : Nat) (G G' : Mem) : Prop := ∀ a, (a < p ∨ p + 32 < a) → G' a = G a
theorem FrL.rf {p : Nat} {G : Mem} : FrL p G G := fun _ _ => rfl
theorem FrL.tr {p : Nat} {G G1 G2 : Mem} (h1 : FrL p G G1) (h2 : FrL p G1 G2) : FrL p G G2 := fun a h => (h2 a h).trans (h1 a h)
theorem Fr.L {p f : Nat} {G G' : Mem} (hf : f < 6) (h : Fr (p + 3 + 5 * f) G G') : FrL p G G' := fun a ha => h a (by omega)
theorem FrL.m {p q j : Nat} {G : Mem} {x : Int32} (h1 : p ≤ q) (h2 : q ≤ p + 32) : FrL p G (mset G q j x) := fun a ha => mset_ne (by omega)
theorem LR.cg {p : Nat} {v : Nat → Nat} {G G' : Mem} (h : LR p v G) (he : ∀ a, p ≤ a → a ≤ p + 32 → G' a = G a) : LR p v G' := by
  refine ⟨fun j h2 h3 => ?_, fun f hf => (h.2.1 f hf).cg (he _ (by omega) (by omega)) (he _ (by omega) (by omega)) (he _ (by omega) (by omega)) (he _ (by omega) (by omega)), fun f hf => ?_⟩
  · rw [he p (by omega) (by omega)]; exact h.1 j h2 h3
  · unfold CR
    rw [he _ (by omega) (by omega)]
    exact h.2.2 f hf
theorem LR.ext {p : Nat} {v v' : Nat → Nat} {G : Mem} (h : LR p v G) (he : ∀ j, j < 222 → v' j = v j) (hb : ∀ f, f < 6 → v (12 + f) ≤ 30) : LR p v' G := by
  refine ⟨fun j h2 h3 => ?_, fun f hf => ?_, fun f hf => ?_⟩
  · rw [he _ (by have := li_lt h3; omega)]; exact h.1 j h2 h3
  · have := hb f hf
    rw [he _ (by omega)]
    exact (h.2.1 f hf).ext (fun c hc => he _ (by omega))
  · unfold CR
    rw [he _ (by omega), he _ (by omega), he _ (by omega), he _ (by omega)]
    exact h.2.2 f hf
section
variable {p : Nat} {v v' : Nat → Nat} {G G' : Mem}
/-- one hedge is another -/
theorem LR_h {f : Nat} (h : LR p v G) (hf : f < 6) (hb : ∀ g, g < 6 → v (12 + g) ≤ 30) (hFr : Fr (p + 3 + 5 * f) G G') (hH : HR (p + 3 + 5 * f) (v' (12 + f)) (fun c => v' (42 + 30 * f + c)) G') (he : ∀ j, j ≠ 12 + f → ¬ (42 + 30 * f ≤ j ∧ j < 72 + 30 * f) → v' j = v j) : LR p v' G' := by
  refine ⟨fun j h2 h3 => ?_, fun g hg => ?_, fun g hg => ?_⟩
  · have := li_lt h3
    rw [hFr p (by omega), he _ (by omega) (by omega)]
    exact h.1 j h2 h3
  · by_cases hgf : g = f
    · subst hgf; exact hH
    · have := hb g hg
      rw [he (12 + g) (by omega) (by omega)]
      refine ((h.2.1 g hg).cg (hFr _ (by omega)) (hFr _ (by omega)) (hFr _ (by omega)) (hFr _ (by omega))).ext (fun c hc => he _ (by omega) (by omega))
  · unfold CR
    rw [hFr _ (by omega), he (18 + 4 * g) (by omega) (by omega), he (19 + 4 * g) (by omega) (by omega), he (20 + 4 * g) (by omega) (by omega), he (21 + 4 * g) (by omega) (by omega)]
    exact h.2.2 g hg
/-- one number is another -/
theorem LR_n {j x : Nat} (h : LR p v G) (h2 : 2 ≤ j) (h3 : j < 14) : LR p (vs v (li j) x) (mset G p j (nI x)) := by
  have hl := li_lt h3
  refine ⟨fun i i2 i3 => ?_, fun f hf => ?_, fun f hf => ?_⟩
  · rw [mset_at]
    by_cases hij : i = j
    · subst hij
      rw [if_pos ⟨rfl, rfl⟩, vs_eq]
    · rw [if_neg (fun z => hij z.2), vs_ne (fun z => hij (li_inj i2 i3 h2 h3 z))]
      exact h.1 i i2 i3
  · rw [vs_ne (by omega)]
    refine ((h.2.1 f hf).cg (mset_ne (by omega)) (mset_ne (by omega)) (mset_ne (by omega)) (mset_ne (by omega))).ext (fun c hc => vs_ne (by omega))
  · unfold CR
    rw [mset_ne (by omega), vs_ne (by omega), vs_ne (by omega), vs_ne (by omega), vs_ne (by omega)]
    exact h.2.2 f hf
def noC (v : Nat → Nat) (f : Nat) : Nat → Nat := fun j => if 18 + 4 * f ≤ j ∧ j < 22 + 4 * f then 0 else v j
theorem noC_ne {f j : Nat} (h : ¬ (18 + 4 * f ≤ j ∧ j < 22 + 4 * f)) : noC v f j = v j := if_neg h
theorem noC_in {f j : Nat} (h : 18 + 4 * f ≤ j ∧ j < 22 + 4 * f) : noC v f j = 0 := if_pos h
/-- a contract is no more -/
theorem LR_noC {f : Nat} (h : LR p v G) (hf : f < 6) (hb : ∀ g, g < 6 → v (12 + g) ≤ 30) : LR p (noC v f) (mset G (p + 7 + 5 * f) 0 (nI 0)) := by
  refine ⟨fun j h2 h3 => ?_, fun g hg => ?_, fun g hg => ?_⟩
  · have := li_lt h3
    rw [mset_ne (by omega), noC_ne (by omega)]
    exact h.1 j h2 h3
  · have := hb g hg
    rw [noC_ne (by omega)]
    exact ((h.2.1 g hg).cg (mset_ne (by omega)) (mset_ne (by omega)) (mset_ne (by omega)) (mset_ne (by omega))).ext (fun c hc => noC_ne (by omega))
  · unfold CR
    by_cases hgf : g = f
    · subst hgf
      rw [mset_at, if_pos ⟨rfl, rfl⟩, noC_in (by omega)]
      exact ⟨rfl, fun z => by omega⟩
    · rw [mset_ne (by omega), noC_ne (by omega), noC_ne (by omega), noC_ne (by omega), noC_ne (by omega)]
      exact h.2.2 g hg
/-- the chains of a field, the field's chains of a kind -/
abbrev cf (v : Nat → Nat) (f : Nat) : Nat → Nat := fun c => v (42 + 30 * f + c)
abbrev cn (v : Nat → Nat) (f k : Nat) : Nat := cnt (cf v f) k (v (12 + f))
/-- a contract ends if no chain stands -/
def sEnds (v : Nat → Nat) (f : Nat) : Nat → Nat := if cn v f 0 = 0 then noC v f else v
theorem cl_nI {f : Nat} (hf : f < 6) : (nI f).toNatClampNeg = f := nI_clamp (by omega)
theorem ends_eq {f : Nat} (h : LR p v G) (hf : f < 6) (hb : ∀ g, g < 6 → v (12 + g) ≤ 30) : ∃ G', fX4_endContractIfNoneStands p (nI f) G = some G' ∧ LR p (sEnds v f) G' ∧ FrL p G G' := by
  unfold fX4_endContractIfNoneStands sEnds
  have hn : fX1_numberOf (p + 3 + 5 * f) (nI 0) G = some (nI (cn v f 0), G) := numberOf_eq (k := 0) (h.2.1 f hf) (hb f hf) (by omega)
  have hle : cn v f 0 ≤ v (12 + f) := cnt_le (cf v f) 0 (v (12 + f))
  have := hb f hf
  rw [nI_ix (by omega) (by omega), cl_nI hf, hn, bd_some']
  by_cases h0 : cn v f 0 = 0
  · rw [if_pos (by rw [h0]), nI_ix (by omega) (by omega), lt_def, if_pos h0]
    exact ⟨_, rfl, LR_noC h hf hb, FrL.m (by omega) (by omega)⟩
  · rw [if_neg (by rw [nI_eq (by omega) (by omega)]; exact h0), if_neg h0]
    exact ⟨G, rfl, h, FrL.rf⟩
/-- a closed week -/
def cl (v : Nat → Nat) (w : Nat) : Prop := if v 9 ≤ v 10 then v 9 ≤ w % 52 ∧ w % 52 ≤ v 10 else v 9 ≤ w % 52 ∨ w % 52 ≤ v 10
noncomputable def clN (v : Nat → Nat) (w : Nat) : Nat := if v 9 ≤ v 10 then (if v 9 ≤ w % 52 ∧ w % 52 ≤ v 10 then 1 else 0) else (if v 9 ≤ w % 52 ∨ w % 52 ≤ v 10 then 1 else 0)
theorem isClosed_eq {w : Nat} (h : LR p v G) (h9 : v 9 ≤ 51) (h10 : v 10 ≤ 51) (hw : w < 100000) : fX4_isClosed p (nI w) G = some (nI (clN v w), G) := by
  unfold fX4_isClosed clN
  rw [show G p 3 = nI (v 9) from h.1 3 (by omega) (by omega), show G p 4 = nI (v 10) from h.1 4 (by omega) (by omega), nI_rem (by omega) (by omega) (by omega)]
  by_cases h1 : v 9 ≤ v 10
  · rw [if_pos (by rw [nI_leI (by omega) (by omega)]; exact h1), if_pos h1]
    by_cases h2 : w % 52 < v 9
    · rw [if_pos (by rw [nI_ltI (by omega) (by omega)]; exact h2), if_neg (by omega)]
    · rw [if_neg (by rw [nI_ltI (by omega) (by omega)]; exact h2)]
      by_cases h3 : v 10 < w % 52
      · rw [if_pos (by rw [nI_ltI (by omega) (by omega)]; exact h3), if_neg (by omega)]
      · rw [if_neg (by rw [nI_ltI (by omega) (by omega)]; exact h3), if_pos (by omega)]
  · rw [if_neg (by rw [nI_leI (by omega) (by omega)]; exact h1), if_neg h1]
    by_cases h2 : v 9 ≤ w % 52
    · rw [if_pos (by rw [nI_leI (by omega) (by omega)]; exact h2), if_pos (Or.inl h2)]
    · rw [if_neg (by rw [nI_leI (by omega) (by omega)]; exact h2)]
      by_cases h3 : v 10 < w % 52
      · rw [if_pos (by rw [nI_ltI (by omega) (by omega)]; exact h3), if_neg (by omega)]
      · rw [if_neg (by rw [nI_ltI (by omega) (by omega)]; exact h3), if_pos (by omega)]
/-- can a chain be laid? -/
abbrev cL (v : Nat → Nat) (f c : Nat) : Prop := c < v (12 + f) ∧ v (42 + 30 * f + c) % 4 = 0 ∧ 2 ≤ v (42 + 30 * f + c) / 4 % 16 ∧ v (42 + 30 * f + c) / 4 % 16 ≤ v 1 ∧ 2 ≤ v 2
end
section
variable {p : Nat} {v v' : Nat → Nat} {G G' : Mem}
theorem LI.len {b f : Nat} (h : LI b v) (hf : f < 6) : 1 ≤ v (12 + f) ∧ v (12 + f) ≤ 30 := (h.2 f hf).1
theorem canLay_c {f c b : Nat} (h : LR p v G) (hI : LI b v) (hb : b < 100000000) (hf : f < 6) (hc : c < v (12 + f)) : fX4_canLay p (nI f) (nI c) G = some (if cL v f c then nI 1 else nI 0, G) := by
  unfold fX4_canLay cL
  have hl := hI.len hf
  have hH := h.2.1 f hf
  obtain ⟨hN, -⟩ := hI
  rw [nI_ix (by omega) (by omega), cl_nI hf, isToLay_c hH hl.2 hc, bd_some']
  by_cases h1 : v (42 + 30 * f + c) % 4 = 0 ∧ 2 ≤ v (42 + 30 * f + c) / 4 % 16
  · rw [if_pos h1, if_neg (by decide), thick_c hH hl.2 hc, bd_some', show G p 6 = nI (v 1) from h.1 6 (by omega) (by omega), show G p 7 = nI (v 2) from h.1 7 (by omega) (by omega)]
    by_cases h2 : v (42 + 30 * f + c) / 4 % 16 ≤ v 1
    · rw [if_neg (by rw [nI_ltI (by omega) (by omega)]; omega)]
      by_cases h3 : 2 ≤ v 2
      · rw [if_neg (by rw [nI_ltI (by omega) (by omega)]; omega), if_pos ⟨hc, h1.1, h1.2, h2, h3⟩]
      · rw [if_pos (by rw [nI_ltI (by omega) (by omega)]; omega), if_neg (fun z => h3 z.2.2.2.2)]
    · rw [if_pos (by rw [nI_ltI (by omega) (by omega)]; omega), if_neg (fun z => h2 z.2.2.2.1)]
  · rw [if_neg h1, if_pos rfl, if_neg (fun z => h1 ⟨z.2.1, z.2.2.1⟩)]
theorem canLay_no {f b : Nat} {x : Int32} (h : LR p v G) (hI : LI b v) (hf : f < 6) (hc : ¬ (0 ≤ x.toInt ∧ x.toInt < v (12 + f))) : fX4_canLay p (nI f) x G = some (nI 0, G) := by
  unfold fX4_canLay
  rw [nI_ix (by omega) (by omega), cl_nI hf, isToLay_no (h.2.1 f hf) (hI.len hf).2 hc, bd_some', if_pos rfl]
/-- a chain is laid, the contract as it was -/
def lay1 (v : Nat → Nat) (f c : Nat) : Nat → Nat := vs (vs (vs (vs (vs (vs v 1 (v 1 - v (42 + 30 * f + c) / 4 % 16)) 2 (v 2 - 2)) (42 + 30 * f + c) (1 + 4 * (v (42 + 30 * f + c) / 4 % 16))) 3 (v 3 + v (18 + 4 * f) * v (19 + 4 * f))) 5 (v 5 + v (18 + 4 * f) * v (19 + 4 * f))) 7 (v 7 + 1)
theorem layChain_c {f c b : Nat} (h : LR p v G) (hI : LI b v) (hb : b < 100000000) (hf : f < 6) (hL : cL v f c) : ∃ G', fX4_layChain p (nI f) (nI c) G = some G' ∧ LR p (sEnds (lay1 v f c) f) G' ∧ FrL p G G' := by
  obtain ⟨hc, hk, ht2, htw, hs⟩ := hL
  have hl := hI.len hf
  have hlg : ∀ g, g < 6 → v (12 + g) ≤ 30 := fun g hg => (hI.len hg).2
  obtain ⟨-, hok, hm, hpr, hla, hfi⟩ := hI.2 f hf
  have hokc := (hok c hc).1
  unfold fX4_layChain
  rw [nI_ix (by omega) (by omega), cl_nI hf, thick_c (h.2.1 f hf) hl.2 hc, bd_some', lt_def, lt_def]
  -- work and stakes
  have e1 : G p 6 - nI (v (42 + 30 * f + c) / 4 % 16) = nI (v 1 - v (42 + 30 * f + c) / 4 % 16) := by
    rw [show G p 6 = nI (v 1) from h.1 6 (by omega) (by omega), pk_sub htw]
  rw [e1]
  have h1 := LR_n (x := v 1 - v (42 + 30 * f + c) / 4 % 16) h (j := 6) (by omega) (by omega)
  have e2 : mset G p 6 (nI (v 1 - v (42 + 30 * f + c) / 4 % 16)) p 7 - nI 2 = nI (v 2 - 2) := by
    rw [show mset G p 6 (nI (v 1 - v (42 + 30 * f + c) / 4 % 16)) p 7 = nI (vs v (li 6) (v 1 - v (42 + 30 * f + c) / 4 % 16) (li 7)) from h1.1 7 (by omega) (by omega), show vs v (li 6) (v 1 - v (42 + 30 * f + c) / 4 % 16) (li 7) = v 2 from rfl, pk_sub hs]
  rw [e2]
  have h2 := LR_n (x := v 2 - 2) h1 (j := 7) (by omega) (by omega)
  have fr2 : FrL p G (mset (mset G p 6 (nI (v 1 - v (42 + 30 * f + c) / 4 % 16))) p 7 (nI (v 2 - 2))) := (FrL.m (by omega) (by omega)).tr (FrL.m (by omega) (by omega))
  generalize mset (mset G p 6 (nI (v 1 - v (42 + 30 * f + c) / 4 % 16))) p 7 (nI (v 2 - 2)) = G2 at h2 fr2 ⊢
  -- the chain
  obtain ⟨G3, a1, a2, a3⟩ := chg_c (k := 1) (t := v (42 + 30 * f + c) / 4 % 16) (h2.2.1 f hf) (by rw [vs_ne (by show 12 + f ≠ 2; omega), vs_ne (by show 12 + f ≠ 1; omega)]; exact hl.2) (by rw [vs_ne (by show 12 + f ≠ 2; omega), vs_ne (by show 12 + f ≠ 1; omega)]; exact hc) (by omega) (by omega)
  rw [a1, bv_some', lt_def]
  have h3 : LR p (vs (vs (vs v 1 (v 1 - v (42 + 30 * f + c) / 4 % 16)) 2 (v 2 - 2)) (42 + 30 * f + c) (1 + 4 * (v (42 + 30 * f + c) / 4 % 16))) G3 := by
    refine LR_h h2 hf (fun g hg => by rw [vs_ne (by show 12 + g ≠ 2; omega), vs_ne (by show 12 + g ≠ 1; omega)]; exact hlg g hg) a3 ?_ (fun j hj hj2 => vs_ne (by omega))
    rw [vs_ne (by omega)]
    refine a2.ext (fun j hj => ?_)
    by_cases hjc : j = c
    · subst hjc; rw [vs_eq, if_pos rfl]
    · rw [vs_ne (by omega), if_neg hjc]; rfl
  have fr3 : FrL p G G3 := fr2.tr (a3.L hf)
  generalize hv3 : vs (vs (vs v 1 (v 1 - v (42 + 30 * f + c) / 4 % 16)) 2 (v 2 - 2)) (42 + 30 * f + c) (1 + 4 * (v (42 + 30 * f + c) / 4 % 16)) = v3 at h3
  have q3 : v3 3 = v 3 := by rw [← hv3, vs_ne (by omega), vs_ne (by omega), vs_ne (by omega)]
  have q5 : v3 5 = v 5 := by rw [← hv3, vs_ne (by omega), vs_ne (by omega), vs_ne (by omega)]
  have q7 : v3 7 = v 7 := by rw [← hv3, vs_ne (by omega), vs_ne (by omega), vs_ne (by omega)]
  have qm : v3 (18 + 4 * f) = v (18 + 4 * f) := by rw [← hv3, vs_ne (by omega), vs_ne (by omega), vs_ne (by omega)]
  have qp : v3 (19 + 4 * f) = v (19 + 4 * f) := by rw [← hv3, vs_ne (by omega), vs_ne (by omega), vs_ne (by omega)]
  have ql : ∀ g, g < 6 → v3 (12 + g) ≤ 30 := fun g hg => by rw [← hv3, vs_ne (by omega), vs_ne (by omega), vs_ne (by omega)]; exact hlg g hg
  rw [show G3 p 12 = nI (v 7) from by rw [← q7]; exact h3.1 12 (by omega) (by omega), nI_add]
  have h4 := LR_n (x := v 7 + 1) h3 (j := 12) (by omega) (by omega)
  have fr4 : FrL p G (mset G3 p 12 (nI (v 7 + 1))) := fr3.tr (FrL.m (by omega) (by omega))
  generalize mset G3 p 12 (nI (v 7 + 1)) = G4 at h4 fr4 ⊢
  have h4 : LR p (vs v3 7 (v 7 + 1)) G4 := h4
  have hC := h4.2.2 f hf
  rw [nI_ix (by omega) (by omega), show G4 (p + 7 + 5 * f) 0 = nI (v (18 + 4 * f)) from by rw [← qm, hC.1, vs_ne (by omega)]]
  by_cases hmade : v (18 + 4 * f) = 0
  · rw [if_pos (by rw [hmade])]
    obtain ⟨G5, b1, b2, b3⟩ := ends_eq h4 hf (fun g hg => by rw [vs_ne (by omega)]; exact ql g hg)
    rw [b1, bv_some']
    refine ⟨G5, rfl, ?_, fr4.tr b3⟩
    have : lay1 v f c = vs v3 7 (v 7 + 1) := by
      unfold lay1
      rw [hv3, hmade, Nat.zero_mul, Nat.add_zero, Nat.add_zero]
      have s3 : vs v3 3 (v 3) = v3 := by funext j; unfold vs; split; rename_i z; rw [z, q3]; rfl
      have s5 : vs v3 5 (v 5) = v3 := by funext j; unfold vs; split; rename_i z; rw [z, q5]; rfl
      rw [s3, s5]
    rw [this]
    exact b2
  · have hm1 : v (18 + 4 * f) = 1 := by omega
    rw [if_neg (by rw [nI_eq (by omega) (by omega)]; exact hmade)]
    obtain ⟨c1, c2, c3⟩ := hC.2 (by rw [vs_ne (by omega), qm, hm1])
    rw [nI_ix (by omega) (by omega), lt_def, nI_ix (by omega) (by omega), lt_def, c1, vs_ne (by omega), qp, show G4 p 8 = nI (v 3) from by rw [← q3]; exact (h4.1 8 (by omega) (by omega)).trans (congrArg nI (vs_ne (by decide))), nI_add]
    have h5 := LR_n (x := v 3 + v (19 + 4 * f)) h4 (j := 8) (by omega) (by omega)
    have fr5 : FrL p G (mset G4 p 8 (nI (v 3 + v (19 + 4 * f)))) := fr4.tr (FrL.m (by omega) (by omega))
    have e5 : mset G4 p 8 (nI (v 3 + v (19 + 4 * f))) (p + 7 + 5 * f) 1 = nI (v (19 + 4 * f)) := by rw [mset_ne (by omega), c1, vs_ne (by omega), qp]
    have e6 : mset G4 p 8 (nI (v 3 + v (19 + 4 * f))) p 10 = nI (v 5) := by
      rw [mset_at, if_neg (by omega), ← q5]; exact (h4.1 10 (by omega) (by omega)).trans (congrArg nI (vs_ne (by decide)))
    rw [e5, e6, nI_add]
    have h6 := LR_n (x := v 5 + v (19 + 4 * f)) h5 (j := 10) (by omega) (by omega)
    have fr6 := fr5.tr (FrL.m (p := p) (q := p) (j := 10) (x := nI (v 5 + v (19 + 4 * f))) (by omega) (by omega))
    obtain ⟨G7, b1, b2, b3⟩ := ends_eq h6 hf (fun g hg => by rw [vs_ne (by show 12 + g ≠ 5; omega), vs_ne (by show 12 + g ≠ 3; omega), vs_ne (by omega)]; exact ql g hg)
    rw [b1, bv_some']
    refine ⟨G7, rfl, ?_, fr6.tr b3⟩
    have : lay1 v f c = vs (vs (vs v3 7 (v 7 + 1)) 3 (v 3 + v (19 + 4 * f))) 5 (v 5 + v (19 + 4 * f)) := by
      unfold lay1
      rw [hv3, hm1, Nat.one_mul]
      funext j
      unfold vs
      by_cases j7 : j = 7
      · subst j7; rfl
      · rw [if_neg j7, if_neg j7]
    rw [this]
    exact b2
end
