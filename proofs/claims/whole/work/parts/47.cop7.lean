section
variable {G G' : Mem} {S W Tx v : Nat → Nat} {nx h n b : Nat}
/-! read -/
theorem ptR_le {k t a : Nat} : (ptR Tx n k t a).2.1 ≤ a + n + 2 := by
  unfold ptR
  split
  · split
    · rename_i h1 h2
      have := (nmL_bd (Tx := Tx) (n := n) (n - (a + 2)) (a + 2) (chr Tx n (a + 1) - 48) (by omega) (by omega)).2.1
      show (nmL Tx n (n - (a + 2)) (a + 2) (chr Tx n (a + 1) - 48)).2.1 ≤ _
      omega
    · show a + 1 ≤ _; omega
  · show a ≤ _; omega
theorem pt_le {a : Nat} : (pt Tx n a).2.1 ≤ a + n + 4 := by
  unfold pt
  split
  · show a ≤ _; omega
  · split
    · split
      · exact Nat.le_trans ptR_le (by omega)
      · show a + 1 ≤ _; omega
    · exact Nat.le_trans ptR_le (by omega)
theorem prs_bd (hn : n ≤ 80) : ∀ (k a T : Nat) (ch : Nat → Nat), a ≤ 80 → (∀ c, c < T → okc (ch c)) → (prs Tx n k a T ch).2.1 ≤ T + 30 * k ∧ (∀ f, (prs Tx n k a T ch).1 = some f → f ≤ 200) ∧ ((prs Tx n k a T ch).1 = none → 1 ≤ (prs Tx n k a T ch).2.1) ∧ ∀ c, c < (prs Tx n k a T ch).2.1 → okc ((prs Tx n k a T ch).2.2 c) := by
  intro k
  induction k with
  | zero =>
    intro a T ch ha hc
    refine ⟨Nat.le_refl _, fun f hf => ?_, fun z => (by cases z), hc⟩
    have : a = f := Option.some.inj hf
    omega
  | succ k ih =>
    intro a T ch ha hc
    unfold prs
    have hp := pt_le (Tx := Tx) (n := n) (a := a)
    by_cases ho : (pt Tx n a).1 = true
    · rw [if_pos ho]
      obtain ⟨b1, b2, b3, b4, b5⟩ := pt_ok ho
      have hc2 : ∀ c, c < T + (pt Tx n a).2.2.2.2 → okc (chU ch T (pt Tx n a).2.2.2.2 ((pt Tx n a).2.2.1 + 4 * (pt Tx n a).2.2.2.1) c) := by
        intro c hcT
        unfold chU
        split
        · exact b2
        · exact hc c (by omega)
      by_cases hl : (pt Tx n a).2.1 < n
      · rw [if_pos hl]
        obtain ⟨c1, c2, c3, c4⟩ := ih (pt Tx n a).2.1 _ _ (by omega) hc2
        exact ⟨by omega, c2, c3, c4⟩
      · rw [if_neg hl]
        exact ⟨by show T + _ ≤ _; omega, fun f hf => (by cases hf), fun _ => (by show 1 ≤ T + _; omega), hc2⟩
    · rw [if_neg ho]
      refine ⟨by show T ≤ _; omega, fun f hf => ?_, fun z => (by cases z), hc⟩
      have : (pt Tx n a).2.1 = f := Option.some.inj hf
      omega
abbrev Pr (Tx : Nat → Nat) (n : Nat) : Option Nat × Nat × (Nat → Nat) := prs Tx n 80 0 0 (fun _ => 0)
/-- does reading do something -/
abbrev okR (x1 : Int32) (Tx : Nat → Nat) (n : Nat) : Prop := inF x1 ∧ (Pr Tx n).1 = none ∧ (Pr Tx n).2.1 ≤ 30
def rdR (x1 : Int32) (Tx : Nat → Nat) (n : Nat) : Int32 := if inF x1 then (match (Pr Tx n).1 with | some f => -1000 - nI f | none => if (Pr Tx n).2.1 ≤ 30 then nI (Pr Tx n).2.1 else -3) else -1
def rdS (S : Nat → Nat) (f : Nat) (Tx : Nat → Nat) (n : Nat) : Nat → Nat := sEnds (newH S f (Pr Tx n).2.1 (Pr Tx n).2.2) f
theorem newH_hi {f m j : Nat} {ch : Nat → Nat} (hf : f < 6) (hj : 222 ≤ j) : newH v f m ch j = v j := by
  unfold newH
  rw [if_neg (by omega), if_neg (by omega)]
theorem c_read (hb : b < 89000000) (x1 : Int32) (hC : CRel nx S W Tx h n G) (hI : CInv b S W h) : ∃ (G' : Mem) (nx' : Nat), fX8_read 0 x1 G = some (rdR x1 Tx n, G') ∧ CRel nx' (if okR x1 Tx n then rdS S (tn x1) Tx n else S) (if okR x1 Tx n then pushW W S h else W) Tx (if okR x1 Tx n then pushN h else h) (if okR x1 Tx n then 0 else n) G' ∧ FrX G G' := by
  unfold fX8_read rdR
  rw [isField_c, bd_some']
  by_cases h1 : inF x1
  · obtain ⟨q1, l1⟩ := nat_in (hi := 5) (show inW 0 5 x1 from h1)
    have ht := hC.2.2
    have hbd := prs_bd (Tx := Tx) ht.1 80 0 0 (fun _ => 0) (by omega) (fun c hc => absurd hc (by omega))
    obtain ⟨d1, d2, d3, d4⟩ := hbd
    obtain ⟨G0, x, e1, e2, e3⟩ := faultOf_c ht
    obtain ⟨c1, c2⟩ := hC.text (ht.fr e3) (fun a ha => e3 a (by omega))
    rw [if_pos h1, if_neg (by decide), if_pos h1, show (0 : Nat) + 617 = 617 from rfl, show (0 : Nat) + 615 = 615 from rfl, e1, bd_some']
    obtain ⟨f, hp⟩ | hp : (∃ f, (Pr Tx n).1 = some f) ∨ (Pr Tx n).1 = none := by
      generalize (Pr Tx n).1 = z
      cases z with
      | none => exact Or.inr rfl
      | some f => exact Or.inl ⟨f, rfl⟩
    · have hp' : (prs Tx n 80 0 0 (fun _ => 0)).1 = some f := hp
      have hno : ¬ okR x1 Tx n := fun z => by have := hp.symm.trans z.2.1; cases this
      have := d2 f hp
      simp only [hp, hp']
      rw [if_neg (fun z => by have := congrArg Int32.toInt z; rw [nI_toInt (by omega)] at this; have h0 : (-1 : Int32).toInt = -1 := by decide
                              omega), if_neg hno, if_neg hno, if_neg hno, if_neg hno]
      exact ⟨G0, nx, rfl, c1, c2⟩
    · have hp' : (prs Tx n 80 0 0 (fun _ => 0)).1 = none := hp
      simp only [hp, hp']
      rw [if_pos trivial, e2.2.1]
      have hT : (Pr Tx n).2.1 ≤ 2400 := by have := d1; show (prs Tx n 80 0 0 (fun _ => 0)).2.1 ≤ 2400; omega
      by_cases h30 : (Pr Tx n).2.1 ≤ 30
      · have hok : okR x1 Tx n := ⟨h1, hp, h30⟩
        rw [if_pos (by rw [nI_leI (by omega) (by omega)]; exact h30), if_pos h30, if_pos hok, if_pos hok, if_pos hok, if_pos hok]
        generalize tn x1 = f at *
        subst q1
        obtain ⟨G1, a1, a2, a3, a4⟩ := c1.keep hI
        have hH : HR 618 (Pr Tx n).2.1 (Pr Tx n).2.2 G1 := by
          have := e2.2.2
          rw [Nat.min_eq_left h30] at this
          exact this.cg (a4 618 (by omega)) (a4 619 (by omega)) (a4 620 (by omega)) (a4 621 (by omega))
        obtain ⟨G2, b1, b2, b3⟩ := replaceHedge_c (f := f) a2.1.1 hI.1.1 (by omega) hH h30 (by omega)
        obtain ⟨g1, g2⟩ := a2.land b2 b3 (fun k hk => (hi_ends (by omega) hk).trans (newH_hi (by omega) hk))
        obtain ⟨k1, k2⟩ := g1.text (Tx' := Tx) (n' := 0) (G2 := mset G2 615 1 (nI 0)) ⟨by omega, by rw [mset_at, if_pos ⟨rfl, rfl⟩], fun j hj => by omega⟩ (fun a ha => mset_ne (by omega))
        have hlen : mset G2 615 1 (nI 0) (2 + 3 + 5 * f) 3 = nI (Pr Tx n).2.1 := by
          rw [mset_ne (by omega), (b2.2.1 f (by omega)).1]
          refine congrArg nI ?_
          rw [sEnds_ne (by omega)]
          unfold newH
          exact if_pos rfl
        rw [show (0 : Nat) + 103 = 103 from rfl, show (0 : Nat) + 1 = 1 from rfl, show (0 : Nat) + 2 = 2 from rfl, a1, bv_some', b1, bv_some', lt_def, nI_ix (by omega) (by omega), nI_clamp (by omega), hlen]
        exact ⟨_, _, rfl, k1, (c2.tr a3).tr (g2.tr k2)⟩
      · have hno : ¬ okR x1 Tx n := fun z => h30 z.2.2
        rw [if_neg (by rw [nI_leI (by omega) (by omega)]; exact h30), if_neg h30, if_neg hno, if_neg hno, if_neg hno, if_neg hno]
        exact ⟨G0, nx, rfl, c1, c2⟩
  · have hno : ¬ okR x1 Tx n := fun z => h1 z.1
    rw [if_neg h1, if_pos rfl, if_neg h1, if_neg hno, if_neg hno, if_neg hno, if_neg hno]
    exact ⟨G, nx, rfl, hC, FrX.rf⟩
end
