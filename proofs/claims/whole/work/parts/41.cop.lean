/-! THE CLASS'S CALLS -/
def CRel (nx : Nat) (S W Tx : Nat → Nat) (h n : Nat) (G : Mem) : Prop := SR 1 S G ∧ HC nx h W G ∧ TXr n Tx G
def CInv (b : Nat) (S W : Nat → Nat) (h : Nat) : Prop := SI b S ∧ ∀ i, i < h → SI b (st W i)
def FrX (G G' : Mem) : Prop := ∀ a, 627 ≤ a → G' a = G a
theorem FrX.rf {G : Mem} : FrX G G := fun _ _ => rfl
theorem FrX.tr {G G1 G2 : Mem} (h1 : FrX G G1) (h2 : FrX G1 G2) : FrX G G2 := fun a h => (h2 a h).trans (h1 a h)
/-- an action's outcome: an error, or an answer and the new state -/
abbrev Oc : Type := Int32 ⊕ (Nat × (Nat → Nat))
def oR (o : Oc) : Int32 := match o with
  | .inl e => e
  | .inr p => nI p.1
def oS (o : Oc) (S : Nat → Nat) : Nat → Nat := match o with
  | .inl _ => S
  | .inr p => p.2
def oW (o : Oc) (W S : Nat → Nat) (h : Nat) : Nat → Nat := match o with
  | .inl _ => W
  | .inr _ => pushW W S h
def oH (o : Oc) (h : Nat) : Nat := match o with
  | .inl _ => h
  | .inr _ => pushN h
def ActC (b : Nat) (op : Mem → Option (Int32 × Mem)) (o : (Nat → Nat) → Oc) : Prop := ∀ (nx : Nat) (S W Tx : Nat → Nat) (h n : Nat) (G : Mem), CRel nx S W Tx h n G → CInv b S W h → ∃ (G' : Mem) (nx' : Nat), op G = some (oR (o S), G') ∧ CRel nx' (oS (o S) S) (oW (o S) W S h) Tx (oH (o S) h) n G' ∧ FrX G G'
abbrev inF (x : Int32) : Prop := 0 ≤ x.toInt ∧ x.toInt ≤ 5
abbrev tn (x : Int32) : Nat := x.toNatClampNeg
theorem tn_eq {x : Int32} (h : 0 ≤ x.toInt) : x = nI (tn x) := by
  have h1 : ((tn x : Nat) : Int) = x.toInt := clampN h
  have h2 : x.toInt < 2147483648 := x.toInt_lt
  have h3 : (nI (tn x)).toInt = ((tn x : Nat) : Int) := nI_toInt (by omega)
  exact Int32.toInt_inj.mp (by rw [h3, h1])
theorem tn_int {x : Int32} (h : 0 ≤ x.toInt) : (tn x : Int) = x.toInt := clampN h
abbrev inC (S : Nat → Nat) (x1 x2 : Int32) : Prop := inF x1 ∧ 0 ≤ x2.toInt ∧ x2.toInt < S (12 + tn x1)
section
variable {G G' : Mem} {S W Tx : Nat → Nat} {nx h n b : Nat}
theorem within_c {x : Int32} {lo hi : Nat} (h1 : lo < 2 ^ 31) (h2 : hi < 2 ^ 31) : fX8_isWithin x (nI lo) (nI hi) G = some (if (lo : Int) ≤ x.toInt ∧ x.toInt ≤ hi then nI 1 else nI 0, G) := by
  unfold fX8_isWithin
  have e1 := nI_toInt h1
  have e2 := nI_toInt h2
  by_cases c1 : x < nI lo
  · have := i_lt.mp c1
    rw [if_pos c1, if_neg (by omega)]
  · have d1 : ¬ x.toInt < (nI lo).toInt := fun q => c1 (i_lt.mpr q)
    rw [if_neg c1]
    by_cases c2 : nI hi < x
    · have := i_lt.mp c2
      rw [if_pos c2, if_neg (by omega)]
    · have d2 : ¬ (nI hi).toInt < x.toInt := fun q => c2 (i_lt.mpr q)
      rw [if_neg c2, if_pos (by omega)]
theorem zk_N {α : Type} {c : Prop} [Decidable c] {k : Option α} : zk (if c then nI 1 else nI 0) k = k := by
  unfold zk
  split
  · exact if_pos (Or.inr rfl)
  · exact if_pos (Or.inl rfl)
theorem isField_c {x : Int32} : fX8_isField x G = some (if inF x then nI 1 else nI 0, G) := by
  unfold fX8_isField
  rw [within_c (by omega) (by omega), bd_some', zk_N]
  rfl
theorem isSlot_c {x : Int32} : fX8_isSlot x G = some (if 0 ≤ x.toInt ∧ x.toInt ≤ 1 then nI 1 else nI 0, G) := by
  unfold fX8_isSlot
  rw [within_c (by omega) (by omega), bd_some', zk_N]
  rfl
theorem isChain_c {x1 x2 : Int32} (hL : LR 2 S G) (hI : LI b S) : fX8_isChain 0 x1 x2 G = some (if inC S x1 x2 then nI 1 else nI 0, G) := by
  unfold fX8_isChain
  rw [isField_c, bd_some']
  by_cases hf : inF x1
  · have e := tn_int hf.1
    have hl := (hI.len (f := tn x1) (by omega)).2
    rw [if_pos hf, if_neg (by decide), ix_eq hf.1 (by omega), show 0 + 2 + 3 + 5 * tn x1 = 2 + 3 + 5 * tn x1 by omega, has_eq (hL.2.1 (tn x1) (by omega)).1 (by omega), bd_some']
    by_cases hc : 0 ≤ x2.toInt ∧ x2.toInt < S (12 + tn x1)
    · rw [if_pos hc, if_neg (by decide), if_pos ⟨hf, hc⟩]
    · rw [if_neg hc, if_pos rfl, if_neg (fun z => hc z.2)]
  · rw [if_neg hf, if_pos rfl, if_neg (fun z => hf z.1)]
/-- the land is another, behind an action's beginning -/
theorem CRel.land {S' : Nat → Nat} {G2 : Mem} (hC : CRel nx S W Tx h n G) (hL : LR 2 S' G2) (hf : FrL 2 G G2) (hS : ∀ k, 222 ≤ k → S' k = S k) : CRel nx S' W Tx h n G2 ∧ FrX G G2 := by
  obtain ⟨⟨h1, h2⟩, ⟨h3, h4, h5, h6, h7⟩, h8⟩ := hC
  refine ⟨⟨⟨hL, fun j hj => ⟨?_, fun z => ?_⟩⟩, ⟨h3, h4, by rw [hf 103 (by omega)]; exact h5, by rw [hf 103 (by omega)]; exact h6, fun i hi => (h7 i hi).cg (fun a ha hb => hf a (by omega))⟩, h8.cg (hf 615 (by omega)) (hf 616 (by omega))⟩, fun a ha => hf a (by omega)⟩
  · rw [hf _ (by omega), hS _ (by omega)]; exact (h2 j hj).1
  · rw [hS _ (by omega)] at z
    have := ((h2 j hj).2 z).cg (G' := G2) (fun a ha hb => hf a (by omega))
    have e : (fun k => S' (223 + 223 * j + k)) = (fun k => S (223 + 223 * j + k)) := funext fun k => hS _ (by omega)
    rw [e]; exact this
theorem CRel.keep (hC : CRel nx S W Tx h n G) (hI : CInv b S W h) : ∃ G1, fX3_keep 103 1 G = some G1 ∧ CRel ((nx + 1) % 5) S (pushW W S h) Tx (pushN h) n G1 ∧ FrX G G1 ∧ ∀ a, (a < 103 ∨ 614 < a) → G1 a = G a := by
  obtain ⟨G1, a1, a2, a3, a4⟩ := keep_c hC.1 hI.1 hC.2.1 hI.2
  exact ⟨G1, a1, ⟨a2, a3, hC.2.2.cg (a4 615 (by omega)) (a4 616 (by omega))⟩, fun a ha => a4 a (by omega), a4⟩
theorem closed_c (hL : LR 2 S G) (hI : LI b S) : fX4_isClosed 2 (G 2 2) G = some (nI (clN S (S 0)), G) := by
  have hN := hI.1
  rw [show G 2 2 = nI (S 0) from hL.1 2 (by omega) (by omega)]
  exact isClosed_eq hL (by omega) (by omega) (by omega)
/-! what each call answers -/
noncomputable def oCut (x1 x2 : Int32) (S : Nat → Nat) : Oc := if inC S x1 x2 then (if clN S (S 0) = 0 ∧ cC S (tn x1) (tn x2) then .inr (S 2 + tc S (tn x1) (tn x2), cutV S (tn x1) (tn x2)) else .inl (-2)) else .inl (-1)
theorem hi_cutV {f c k : Nat} (hf : f < 6) (hc : c < 30) (hk : 222 ≤ k) : cutV S f c k = S k := by
  unfold cutV
  rw [vs_ne (by omega), vs_ne (by omega), vs_ne (by omega)]
theorem c_cut (hb : b < 90000000) (x1 x2 : Int32) : ActC b (fX8_cut 0 x1 x2) (oCut x1 x2) := by
  intro nx S W Tx h n G hC hI
  have hL : LR 2 S G := hC.1.1
  have hLI := hI.1.1
  unfold fX8_cut oCut
  rw [isChain_c hL hLI, bd_some']
  by_cases hc : inC S x1 x2
  · have e1 := tn_int hc.1.1
    have e2 := tn_int hc.2.1
    have hf6 : tn x1 < 6 := by have := hc.1.2; omega
    have hcl : tn x2 < S (12 + tn x1) := by have := hc.2.2; omega
    have hl30 := (hLI.len hf6).2
    rw [if_pos hc, if_neg (by decide), if_pos hc, Nat.zero_add, closed_c hL hLI, bd_some']
    have hcl1 : clN S (S 0) ≤ 1 := clN_le
    by_cases h0 : clN S (S 0) = 0
    · rw [if_pos (by rw [h0])]
      have ec := canCut_c hL hLI hf6 hcl
      rw [← tn_eq hc.1.1, ← tn_eq hc.2.1] at ec
      rw [ec, bd_some']
      by_cases h2 : cC S (tn x1) (tn x2)
      · rw [if_pos h2, if_neg (by decide), if_pos ⟨h0, h2⟩]
        obtain ⟨G1, a1, a2, a3, a4⟩ := hC.keep hI
        obtain ⟨G2, b1, b2, b3⟩ := cutChain_c (a2.1.1) hLI (by omega) hf6 hcl h2
        rw [← tn_eq hc.1.1, ← tn_eq hc.2.1] at b1
        obtain ⟨c1, c2⟩ := a2.land b2 b3 (fun k hk => hi_cutV hf6 (by omega) hk)
        rw [show (0 : Nat) + 103 = 103 from rfl, show (0 : Nat) + 1 = 1 from rfl, a1, bv_some', b1, bv_some']
        refine ⟨G2, _, ?_, c1, a3.tr c2⟩
        rw [show G2 2 7 = nI (cutV S (tn x1) (tn x2) 2) from b2.1 7 (by omega) (by omega)]
        unfold cutV
        rw [vs_ne (by omega), vs_eq]
        rfl
      · rw [if_neg h2, if_pos rfl, if_neg (fun z => h2 z.2)]
        exact ⟨G, nx, rfl, hC, FrX.rf⟩
    · rw [if_neg (by rw [nI_eq (by omega) (by omega)]; exact h0), if_neg (fun z => h0 z.1)]
      exact ⟨G, nx, rfl, hC, FrX.rf⟩
  · rw [if_neg hc, if_pos rfl, if_neg hc]
    exact ⟨G, nx, rfl, hC, FrX.rf⟩
noncomputable def oPlant (x1 x2 : Int32) (S : Nat → Nat) : Oc := if inC S x1 x2 then (if cP S (tn x1) (tn x2) then .inr (S 1 - 2, plantV S (tn x1) (tn x2)) else .inl (-2)) else .inl (-1)
theorem hi_plantV {f c k : Nat} (hf : f < 6) (hc : c < 30) (hk : 222 ≤ k) : plantV S f c k = S k := by
  unfold plantV
  rw [vs_ne (by omega), vs_ne (by omega), vs_ne (by omega), vs_ne (by omega)]
theorem c_plant (hb : b < 90000000) (x1 x2 : Int32) : ActC b (fX8_plant 0 x1 x2) (oPlant x1 x2) := by
  intro nx S W Tx h n G hC hI
  have hL : LR 2 S G := hC.1.1
  have hLI := hI.1.1
  unfold fX8_plant oPlant
  rw [isChain_c hL hLI, bd_some']
  by_cases hc : inC S x1 x2
  · have e1 := tn_int hc.1.1
    have e2 := tn_int hc.2.1
    have hf6 : tn x1 < 6 := by have := hc.1.2; omega
    have hcl : tn x2 < S (12 + tn x1) := by have := hc.2.2; omega
    have hl30 := (hLI.len hf6).2
    rw [if_pos hc, if_neg (by decide), if_pos hc, Nat.zero_add]
    have ec := canPlant_c hL hLI (by omega) hf6 hcl
    rw [← tn_eq hc.1.1, ← tn_eq hc.2.1] at ec
    rw [ec, bd_some']
    by_cases h2 : cP S (tn x1) (tn x2)
    · rw [if_pos h2, if_neg (by decide), if_pos h2]
      obtain ⟨G1, a1, a2, a3, a4⟩ := hC.keep hI
      obtain ⟨G2, b1, b2, b3⟩ := plantChain_c (a2.1.1) hLI (by omega) hf6 hcl h2
      rw [← tn_eq hc.1.1, ← tn_eq hc.2.1] at b1
      obtain ⟨c1, c2⟩ := a2.land b2 b3 (fun k hk => hi_plantV hf6 (by omega) hk)
      rw [show (0 : Nat) + 103 = 103 from rfl, show (0 : Nat) + 1 = 1 from rfl, a1, bv_some', b1, bv_some']
      refine ⟨G2, _, ?_, c1, a3.tr c2⟩
      rw [show G2 2 6 = nI (plantV S (tn x1) (tn x2) 1) from b2.1 6 (by omega) (by omega)]
      unfold plantV
      rw [vs_ne (by omega), vs_ne (by omega), vs_ne (by omega), vs_eq]
      rfl
    · rw [if_neg h2, if_pos rfl, if_neg h2]
      exact ⟨G, nx, rfl, hC, FrX.rf⟩
  · rw [if_neg hc, if_pos rfl, if_neg hc]
    exact ⟨G, nx, rfl, hC, FrX.rf⟩
noncomputable def oGrub (x1 x2 : Int32) (S : Nat → Nat) : Oc := if inC S x1 x2 then (if kc S (tn x1) (tn x2) = 2 then .inl (-2) else .inr (kc S (tn x1) (tn x2), sEnds (vs S (42 + 30 * tn x1 + tn x2) 2) (tn x1))) else .inl (-1)
theorem hi_ends {v : Nat → Nat} {f k : Nat} (hf : f < 6) (hk : 222 ≤ k) : sEnds v f k = v k := by
  unfold sEnds
  split
  · exact noC_ne (by omega)
  · rfl
theorem c_grub (x1 x2 : Int32) : ActC b (fX8_grub 0 x1 x2) (oGrub x1 x2) := by
  intro nx S W Tx h n G hC hI
  have hL : LR 2 S G := hC.1.1
  have hLI := hI.1.1
  unfold fX8_grub oGrub
  rw [isChain_c hL hLI, bd_some']
  by_cases hc : inC S x1 x2
  · have e1 := tn_int hc.1.1
    have e2 := tn_int hc.2.1
    have hf6 : tn x1 < 6 := by have := hc.1.2; omega
    have hcl : tn x2 < S (12 + tn x1) := by have := hc.2.2; omega
    have hl30 := (hLI.len hf6).2
    rw [if_pos hc, if_neg (by decide), if_pos hc, Nat.zero_add, ix_eq hc.1.1 (by have := hc.1.2; omega)]
    have ec := kind_c hL hLI hf6 hcl
    rw [← tn_eq hc.2.1] at ec
    rw [ec, bd_some']
    have hk4 : kc S (tn x1) (tn x2) < 4 := Nat.mod_lt _ (by omega)
    by_cases h2 : kc S (tn x1) (tn x2) = 2
    · rw [if_pos (by rw [h2]), if_pos h2]
      exact ⟨G, nx, rfl, hC, FrX.rf⟩
    · rw [if_neg (by rw [nI_eq (by omega) (by omega)]; exact h2), if_neg h2]
      obtain ⟨G1, a1, a2, a3, a4⟩ := hC.keep hI
      obtain ⟨G2, b1, b2, b3⟩ := grubChain_c (a2.1.1) hLI hf6 hcl
      rw [← tn_eq hc.1.1, ← tn_eq hc.2.1] at b1
      obtain ⟨c1, c2⟩ := a2.land b2 b3 (fun k hk => by rw [hi_ends hf6 hk, vs_ne (by omega)])
      rw [show (0 : Nat) + 103 = 103 from rfl, show (0 : Nat) + 1 = 1 from rfl, a1, bv_some', b1, bv_some']
      exact ⟨G2, _, rfl, c1, a3.tr c2⟩
  · rw [if_neg hc, if_pos rfl, if_neg hc]
    exact ⟨G, nx, rfl, hC, FrX.rf⟩
end
