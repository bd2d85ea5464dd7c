/-! what holds of a state holds after each call, 100000 coins more at most -/
section
variable {S S' W Tx v : Nat → Nat} {h n b b' : Nat}
theorem LI.vch {f c x : Nat} (hI : LI b v) (hf : f < 6) (hc : c < v (12 + f)) (hx : okc x) : LI b (vs v (42 + 30 * f + c) x) := by
  have hl := (hI.len hf).2
  refine ⟨?_, fun g hg => ?_⟩
  · rw [vs_ne (by omega), vs_ne (by omega), vs_ne (by omega), vs_ne (by omega), vs_ne (by omega), vs_ne (by omega), vs_ne (by omega), vs_ne (by omega), vs_ne (by omega), vs_ne (by omega), vs_ne (by omega), vs_ne (by omega)]
    exact hI.1
  · obtain ⟨h1, h2, h3⟩ := hI.2 g hg
    rw [vs_ne (j := 12 + g) (by omega), vs_ne (j := 18 + 4 * g) (by omega), vs_ne (j := 19 + 4 * g) (by omega), vs_ne (j := 20 + 4 * g) (by omega), vs_ne (j := 21 + 4 * g) (by omega)]
    refine ⟨h1, fun d hd => ?_, h3⟩
    unfold vs
    split
    · exact hx
    · exact h2 d hd
theorem LI_noC {f : Nat} (hf : f < 6) (h : LI b v) : LI b (noC v f) := by
  refine ⟨?_, fun g hg => ?_⟩
  · rw [noC_ne (by omega), noC_ne (by omega), noC_ne (by omega), noC_ne (by omega), noC_ne (by omega), noC_ne (by omega), noC_ne (by omega), noC_ne (by omega), noC_ne (by omega), noC_ne (by omega), noC_ne (by omega), noC_ne (by omega)]
    exact h.1
  · obtain ⟨h1, h2, h3⟩ := h.2 g hg
    rw [noC_ne (j := 12 + g) (by omega)]
    refine ⟨h1, fun c hc => by rw [noC_ne (by omega)]; exact h2 c hc, ?_⟩
    by_cases hgf : g = f
    · subst hgf
      rw [noC_in (by omega), noC_in (by omega), noC_in (by omega), noC_in (by omega)]
      omega
    · rw [noC_ne (by omega), noC_ne (by omega), noC_ne (by omega), noC_ne (by omega)]
      exact h3
theorem SI_land (hI : SI b S) (hL : LI b' S') (hb : b ≤ b') (hh : ∀ k, 222 ≤ k → S' k = S k) : SI b' S' := by
  refine ⟨hL, fun j hj => ?_⟩
  have e : (fun k => S' (223 + 223 * j + k)) = (fun k => S (223 + 223 * j + k)) := funext fun k => hh _ (by omega)
  rw [hh _ (by omega), e]
  exact ⟨(hI.2 j hj).1, fun z => ((hI.2 j hj).2 z).mono hb⟩
theorem SI.cgv (hI : SI b S) (he : ∀ k, k < 668 → S' k = S k) : SI b S' := by
  refine ⟨hI.1.cgv (fun j hj => he j (by omega)), fun j hj => ⟨?_, fun z => ?_⟩⟩
  · rw [he _ (by omega)]; exact (hI.2 j hj).1
  · rw [he _ (by omega)] at z
    exact ((hI.2 j hj).2 z).cgv (fun k hk => he _ (by omega))
/-- an outcome keeps what holds -/
def Kp (b : Nat) (o : (Nat → Nat) → Oc) : Prop := ∀ S, SI b S → SI (b + 100000) (oS (o S) S)
theorem Kp_inl {e : Int32} (hI : SI b S) : SI (b + 100000) (oS (.inl e : Oc) S) := hI.mono (by omega)
theorem k_cut (x1 x2 : Int32) : Kp b (oCut x1 x2) := by
  intro S hI
  unfold oCut
  split
  · rename_i hc
    split
    · rename_i h2
      obtain ⟨f, c, q1, q2, hf, hcl, hc30, t1, t2⟩ := inC_k hI.1 hc
      rw [t1, t2] at h2 ⊢
      obtain ⟨-, h0, h3, hw⟩ := h2
      have hN := hI.1.1
      have hok := (hI.1.2 f hf).2.1 c hcl
      have et : tc S f c = S (42 + 30 * f + c) / 4 % 16 := rfl
      refine SI_land hI ?_ (by omega) (fun k hk => hi_cutV hf hc30 hk)
      show LI (b + 100000) (cutV S f c)
      unfold cutV
      have h1 := hI.1.vsn (k := 1) (x := S 1 - 1) (b' := b + 100000) (by omega) (by omega) (by omega) (fun _ => by omega)
      have h2 := h1.vsn (k := 2) (x := S 2 + tc S f c) (b' := b + 100000) (by omega) (by omega) (by omega) (fun z => by omega)
      refine h2.vch hf (by rw [vs_ne (by omega), vs_ne (by omega)]; exact hcl) ?_
      unfold okc at hok ⊢
      have h3 : 3 ≤ tc S f c := h3
      omega
    · exact Kp_inl hI
  · exact Kp_inl hI
theorem k_plant (x1 x2 : Int32) : Kp b (oPlant x1 x2) := by
  intro S hI
  unfold oPlant
  split
  · rename_i hc
    split
    · rename_i h2
      obtain ⟨f, c, q1, q2, hf, hcl, hc30, t1, t2⟩ := inC_k hI.1 hc
      rw [t1, t2] at h2 ⊢
      have hN := hI.1.1
      refine SI_land hI ?_ (by omega) (fun k hk => hi_plantV hf hc30 hk)
      show LI (b + 100000) (plantV S f c)
      unfold plantV
      have h1 := hI.1.vsn (k := 1) (x := S 1 - 2) (b' := b + 100000) (by omega) (by omega) (by omega) (fun _ => by omega)
      have h2 := h1.vsn (k := 3) (x := S 3 - 3) (b' := b + 100000) (by omega) (by omega) (by omega) (fun z => by omega)
      have h3 := h2.vch (f := f) (c := c) (x := 3) hf (by rw [vs_ne (by omega), vs_ne (by omega)]; exact hcl) (by unfold okc; omega)
      exact h3.vsn (k := 8) (x := S 8 + 1) (b' := b + 100000) (by omega) (by omega) (by omega) (fun z => by omega)
    · exact Kp_inl hI
  · exact Kp_inl hI
theorem k_grub (x1 x2 : Int32) : Kp b (oGrub x1 x2) := by
  intro S hI
  unfold oGrub
  split
  · rename_i hc
    split
    · exact Kp_inl hI
    · obtain ⟨f, c, q1, q2, hf, hcl, hc30, t1, t2⟩ := inC_k hI.1 hc
      rw [t1, t2]
      refine SI_land hI ?_ (by omega) (fun k hk => (hi_ends hf hk).trans (vs_ne (by omega)))
      exact (LI_ends hf (hI.1.vch (x := 2) hf hcl (by unfold okc; omega))).mono (by omega)
  · exact Kp_inl hI
theorem k_lay (x1 x2 x3 : Int32) : Kp b (oLay x1 x2 x3) := by
  intro S hI
  unfold oLay
  split
  · rename_i hc
    split
    · obtain ⟨f, c, q1, q2, hf, hcl, hc30, t1, t2⟩ := inC_k hI.1 hc.1
      rw [t1, t2]
      obtain ⟨m, rfl, hm⟩ : ∃ m, x3 = nI m ∧ m ≤ 30 := ⟨tn x3, tn_eq (by have := hc.2.1; omega), by have := tn_int (x := x3) (by have := hc.2.1; omega); have := hc.2.2; omega⟩
      rw [tn_nI (by omega)]
      obtain ⟨k1, k2, k3, k4⟩ := layK_spec S f c m 0
      generalize layK S f c m 0 = K at *
      have k3' : ∀ j, j < K → cL (layN S f c j) f (c + j) := fun j hj => k3 j (by omega) hj
      refine SI_land hI ?_ (by omega) (fun k hk => (hi_ends hf hk).trans (layN_hi hI.1 hf k3' hk))
      exact (LI_ends hf (LI_layN hI.1 hf k3')).mono (by omega)
    · exact Kp_inl hI
  · exact Kp_inl hI
theorem LI_week1620 (h : LI b v) (h0 : v 0 < 1000) : LI (b + 1620) (weekV v) := by
  unfold weekV spendV
  have hd := dueV_le h h0
  have h2 := LI_week2 h h0
  have hN := h.1
  have hN2 := h2.1
  have e3 : vs (week2 v) 6 (v 6 + dueV v) 3 = week2 v 3 := vs_ne (by omega)
  have e4 : vs (week2 v) 6 (v 6 + dueV v) 4 = week2 v 4 := vs_ne (by omega)
  have h6 := h2.vsn (k := 6) (x := v 6 + dueV v) (b' := b + 1620) (by omega) (by omega) (by omega) (fun z => by omega)
  rw [e3, e4]
  exact (h6.vsn (k := 3) (b' := b + 1620) (by omega) (by omega) (by omega) (fun z => by omega)).vsn (k := 4) (b' := b + 1620) (by omega) (by omega) (by omega) (fun z => by omega)
theorem LI_weeks1620 {m : Nat} (h : LI b v) (h0 : v 0 + m ≤ 1000) : LI (b + 1620 * m) (weeksV v m) := by
  induction m with
  | zero => exact h
  | succ m ih =>
    have := LI_week1620 (ih (by omega)) (by rw [weeksV_0]; omega)
    exact this.mono (by omega)
theorem k_pass (x1 : Int32) : Kp b (oPass x1) := by
  intro S hI
  unfold oPass
  split
  · rename_i hx
    split
    · rename_i h0
      have : tn x1 ≤ 60 := by have := tn_int (x := x1) (by have := hx.1; omega); have := hx.2; omega
      exact SI_land hI ((LI_weeks1620 hI.1 h0).mono (by omega)) (by omega) (fun k hk => weeksV_hi hk)
    · exact Kp_inl hI
  · exact Kp_inl hI
theorem LI_nums (h : LI b v) (h1 : S' 1 ≤ S' 11) (h9 : S' 9 ≤ 51) (h10 : S' 10 ≤ 51) (h11 : 1 ≤ S' 11) (h11' : S' 11 ≤ 100) (he : ∀ k, k ≠ 1 → k ≠ 9 → k ≠ 10 → k ≠ 11 → S' k = v k) : LI b S' := by
  refine ⟨?_, fun g hg => ?_⟩
  · rw [he 0 (by omega) (by omega) (by omega) (by omega), he 2 (by omega) (by omega) (by omega) (by omega), he 3 (by omega) (by omega) (by omega) (by omega), he 4 (by omega) (by omega) (by omega) (by omega), he 5 (by omega) (by omega) (by omega) (by omega), he 6 (by omega) (by omega) (by omega) (by omega), he 7 (by omega) (by omega) (by omega) (by omega), he 8 (by omega) (by omega) (by omega) (by omega)]
    have := h.1
    omega
  · have e : ∀ k, 12 ≤ k → S' k = v k := fun k hk => he k (by omega) (by omega) (by omega) (by omega)
    obtain ⟨g1, g2, g3⟩ := h.2 g hg
    rw [e (12 + g) (by omega), e (18 + 4 * g) (by omega), e (19 + 4 * g) (by omega), e (20 + 4 * g) (by omega), e (21 + 4 * g) (by omega)]
    exact ⟨g1, fun d hd => by rw [e _ (by omega)]; exact g2 d hd, g3⟩
theorem k_set (x1 x2 : Int32) : Kp b (oSet x1 x2) := by
  intro S hI
  unfold oSet
  split
  · rename_i hc
    obtain ⟨k, x, q1, q2, hk, hx, hx1, hx2⟩ := okSet_k hc
    subst q1 q2
    rw [tn_nI (by omega), tn_nI (by omega)]
    have hN := hI.1.1
    refine SI_land hI ?_ (by omega) (fun j hj => setV_hi hj)
    refine LI.mono (b := b) ?_ (by omega)
    show LI b (setV S k x)
    rcases (show k = 0 ∨ k = 1 ∨ k = 2 by omega) with rfl | rfl | rfl
    · have e : setV S 0 x = vs S 9 x := rfl
      have := hx1 (by omega)
      rw [e]
      refine LI_nums hI.1 ?_ ?_ ?_ ?_ ?_ (fun j h1 h2 h3 h4 => vs_ne h2) <;> unfold vs <;> simp <;> omega
    · have e : setV S 1 x = vs S 10 x := rfl
      have := hx1 (by omega)
      rw [e]
      refine LI_nums hI.1 ?_ ?_ ?_ ?_ ?_ (fun j h1 h2 h3 h4 => vs_ne h3) <;> unfold vs <;> simp <;> omega
    · have e : setV S 2 x = vs (vs S 1 (S 1 + x - S 11)) 11 x := rfl
      have := hx2 rfl
      rw [e]
      refine LI_nums hI.1 ?_ ?_ ?_ ?_ ?_ (fun j h1 h2 h3 h4 => by rw [vs_ne h4, vs_ne h1]) <;> unfold vs <;> simp <;> omega
  · exact Kp_inl hI
theorem k_contract (x1 x2 x3 x4 : Int32) : Kp b (oContract x1 x2 x3 x4) := by
  intro S hI
  unfold oContract
  split
  · rename_i hc
    split
    · obtain ⟨q1, l1⟩ := nat_in (hi := 5) (show inW 0 5 x1 from hc.1)
      obtain ⟨q2, l2⟩ := nat_in hc.2.1
      obtain ⟨q3, l3⟩ := nat_in hc.2.2.1
      obtain ⟨q4, l4⟩ := nat_in hc.2.2.2
      have hN := hI.1.1
      refine SI_land hI ?_ (by omega) (fun j hj => makeV_hi (by omega) hj)
      refine LI.mono (b := b) ?_ (by omega)
      show LI b (makeV S (tn x1) (tn x2) (S 0 + tn x3) (tn x4))
      generalize tn x1 = f at *
      have e : ∀ j, ¬ (18 + 4 * f ≤ j ∧ j < 22 + 4 * f) → makeV S f (tn x2) (S 0 + tn x3) (tn x4) j = S j := fun j hj => by
        unfold makeV
        rw [vs_ne (by omega), vs_ne (by omega), vs_ne (by omega), vs_ne (by omega)]
      refine ⟨?_, fun g hg => ?_⟩
      · rw [e 0 (by omega), e 1 (by omega), e 2 (by omega), e 3 (by omega), e 4 (by omega), e 5 (by omega), e 6 (by omega), e 7 (by omega), e 8 (by omega), e 9 (by omega), e 10 (by omega), e 11 (by omega)]
        exact hI.1.1
      · obtain ⟨g1, g2, g3⟩ := hI.1.2 g hg
        rw [e (12 + g) (by omega)]
        refine ⟨g1, fun d hd => by rw [e _ (by omega)]; exact g2 d hd, ?_⟩
        by_cases hgf : g = f
        · subst hgf
          unfold makeV
          rw [vs_ne (j := 18 + 4 * g) (by omega), vs_ne (j := 18 + 4 * g) (by omega), vs_ne (j := 18 + 4 * g) (by omega), vs_eq, vs_ne (j := 19 + 4 * g) (by omega), vs_ne (j := 19 + 4 * g) (by omega), vs_eq, vs_ne (j := 20 + 4 * g) (by omega), vs_eq, vs_eq]
          omega
        · rw [e (18 + 4 * g) (by omega), e (19 + 4 * g) (by omega), e (20 + 4 * g) (by omega), e (21 + 4 * g) (by omega)]
          exact g3
    · exact Kp_inl hI
  · exact Kp_inl hI
theorem k_give (x1 : Int32) : Kp b (oGive x1) := by
  intro S hI
  unfold oGive
  split
  · rename_i hc
    split
    · exact Kp_inl hI
    · obtain ⟨q1, l1⟩ := nat_in (hi := 5) (show inW 0 5 x1 from hc)
      generalize tn x1 = f at *
      have h9 := (hI.1.2 f (by omega)).2.2.2.2.2
      refine SI_land hI ?_ (by omega) (fun j hj => by show noC _ _ j = _; rw [noC_ne (by omega), spendV_ne (by omega) (by omega)])
      exact (LI_noC (by omega) (LI_spend (x := 5 * S (21 + 4 * f)) hI.1)).mono (by omega)
  · exact Kp_inl hI
theorem k_pay : Kp b oPay := by
  intro S hI
  unfold oPay
  split
  · exact Kp_inl hI
  · have hN := hI.1.1
    refine SI_land hI ?_ (by omega) (fun j hj => by show vs (vs S 3 _) 4 _ j = _; rw [vs_ne (by omega), vs_ne (by omega)])
    exact (hI.1.vsn (k := 3) (x := S 3 - payN S) (b' := b + 100000) (by omega) (by omega) (by omega) (fun z => by omega)).vsn (k := 4) (x := S 4 - payN S) (b' := b + 100000) (by omega) (by omega) (by omega) (fun z => by omega)
theorem k_take (x1 : Int32) : Kp b (oTake x1) := by
  intro S hI
  unfold oTake
  split
  · rename_i hc
    obtain ⟨q1, l1⟩ := nat_in (hi := 1) (show inW 0 1 x1 from hc)
    generalize tn x1 = j at *
    refine SI.mono (b := b) ?_ (by omega)
    refine ⟨hI.1.cgv (fun k hk => takeS_lo hk), fun i hi => ?_⟩
    by_cases hij : i = j
    · subst hij
      refine ⟨?_, fun _ => hI.1.cgv (fun k hk => ?_)⟩
      · show takeS S i (222 + 223 * i) ≤ 1
        unfold takeS
        rw [if_pos rfl]
        exact Nat.le_refl _
      · show takeS S i (223 + 223 * i + k) = S k
        unfold takeS
        rw [if_neg (by omega), if_pos (by omega)]
        exact congrArg S (by omega)
    · have e : ∀ k, k < 222 → takeS S j (223 + 223 * i + k) = S (223 + 223 * i + k) := fun k hk => by
        unfold takeS
        rw [if_neg (by omega), if_neg (by omega)]
      have e0 : takeS S j (222 + 223 * i) = S (222 + 223 * i) := by
        unfold takeS
        rw [if_neg (by omega), if_neg (by omega)]
      show takeS S j (222 + 223 * i) ≤ 1 ∧ (takeS S j (222 + 223 * i) = 1 → _)
      rw [e0]
      exact ⟨(hI.2 i hi).1, fun z => ((hI.2 i hi).2 z).cgv e⟩
  · exact Kp_inl hI
theorem k_rest (x1 : Int32) : Kp b (oRest x1) := by
  intro S hI
  unfold oRest
  split
  · rename_i hc
    split
    · exact Kp_inl hI
    · rename_i h0
      obtain ⟨q1, l1⟩ := nat_in (hi := 1) (show inW 0 1 x1 from hc)
      generalize tn x1 = j at *
      have h2 := hI.2 j (by omega)
      refine SI_land hI ?_ (by omega) (fun k hk => restS_hi hk)
      refine LI.mono (b := b) ?_ (by omega)
      exact (h2.2 (by omega)).cgv (fun k hk => by show restS S j k = _; unfold restS; rw [if_pos hk])
  · exact Kp_inl hI
theorem k_read {f : Nat} (hI : SI b S) (hf : f < 6) (hn : n ≤ 80) (hp : (Pr Tx n).1 = none) (h30 : (Pr Tx n).2.1 ≤ 30) : SI (b + 100000) (rdS S f Tx n) := by
  obtain ⟨d1, d2, d3, d4⟩ := prs_bd (Tx := Tx) hn 80 0 0 (fun _ => 0) (by omega) (fun c hc => absurd hc (by omega))
  have h1 : 1 ≤ (Pr Tx n).2.1 := d3 hp
  have d4 : ∀ c, c < (Pr Tx n).2.1 → okc ((Pr Tx n).2.2 c) := d4
  unfold rdS
  generalize (Pr Tx n).2.1 = T at *
  generalize (Pr Tx n).2.2 = ch at *
  refine SI_land hI ?_ (by omega) (fun k hk => (hi_ends hf hk).trans (newH_hi hf hk))
  refine LI.mono (b := b) (LI_ends hf ?_) (by omega)
  have e : ∀ j, j ≠ 12 + f → ¬ (42 + 30 * f ≤ j ∧ j < 72 + 30 * f) → newH S f T ch j = S j := fun j q1 q2 => by unfold newH; rw [if_neg q1, if_neg q2]
  have el : newH S f T ch (12 + f) = T := if_pos rfl
  refine ⟨?_, fun g hg => ?_⟩
  · rw [e 0 (by omega) (by omega), e 1 (by omega) (by omega), e 2 (by omega) (by omega), e 3 (by omega) (by omega), e 4 (by omega) (by omega), e 5 (by omega) (by omega), e 6 (by omega) (by omega), e 7 (by omega) (by omega), e 8 (by omega) (by omega), e 9 (by omega) (by omega), e 10 (by omega) (by omega), e 11 (by omega) (by omega)]
    exact hI.1.1
  · obtain ⟨g1, g2, g3⟩ := hI.1.2 g hg
    rw [e (18 + 4 * g) (by omega) (by omega), e (19 + 4 * g) (by omega) (by omega), e (20 + 4 * g) (by omega) (by omega), e (21 + 4 * g) (by omega) (by omega)]
    by_cases hgf : g = f
    · subst hgf
      rw [el]
      refine ⟨⟨h1, h30⟩, fun c hc => ?_, g3⟩
      unfold newH
      rw [if_neg (by omega), if_pos (by omega), if_pos (by omega), show 42 + 30 * g + c - (42 + 30 * g) = c by omega]
      exact d4 c hc
    · rw [e (12 + g) (by omega) (by omega)]
      refine ⟨g1, fun c hc => ?_, g3⟩
      have := g1.2
      rw [e _ (by omega) (by omega)]
      exact g2 c hc
/-- what holds of the history -/
theorem CInv_push (hI : CInv b S W h) (hh : h ≤ 5) (hS : SI b' S') (hb : b ≤ b') : CInv b' S' (pushW W S h) (pushN h) := by
  refine ⟨hS, fun i hi => ?_⟩
  by_cases h5 : h = 5
  · subst h5
    have hp : pushN 5 = 5 := rfl
    rw [hp] at hi
    by_cases hi4 : i = 4
    · subst hi4
      exact (hI.1.mono hb).cgv (fun k hk => st_new (W := W) (h := 5) hk)
    · exact ((hI.2 (i + 1) (by omega)).mono hb).cgv (fun k hk => st_5 hk (by omega))
  · have hp : pushN h = h + 1 := if_neg h5
    rw [hp] at hi
    by_cases hih : i = h
    · subst hih
      refine (hI.1.mono hb).cgv (fun k hk => ?_)
      have := st_new (S := S) (W := W) (h := i) hk
      rwa [hp, Nat.add_sub_cancel] at this
    · exact ((hI.2 i (by omega)).mono hb).cgv (fun k hk => st_old h5 hk (by omega))
theorem CInv.mono (hI : CInv b S W h) (hb : b ≤ b') : CInv b' S W h := ⟨hI.1.mono hb, fun i hi => (hI.2 i hi).mono hb⟩
end
