section
variable {G G' : Mem} {S S' W Tx B v : Nat → Nat} {h n b : Nat}
/-! the reference's questions -/
theorem iteq {c : Prop} [Decidable c] {P Q : Option (Int32 × Mem)} {x y : Int32} (h1 : c → P = some (x, G)) (h2 : ¬ c → Q = some (y, G)) : (if c then P else Q) = some (if c then x else y, G) := by
  by_cases hc : c
  · rw [if_pos hc, if_pos hc]; exact h1 hc
  · rw [if_neg hc, if_neg hc]; exact h2 hc
theorem contracts_m (hM : MR S W Tx h n G) : fX9_contracts 627 G = some (nI (sumF (fun f => S (18 + 4 * f)) 6), G) := by
  unfold fX9_contracts
  refine itr_run (fun i : Nat => (nI (sumF (fun f => S (18 + 4 * f)) i), nI i, G)) 6 (fun i hi rec => ?_) (by omega) (fun rec => ?_)
  · show bX9_contracts_4 627 rec (nI _) (nI i) G = rec (nI (sumF (fun f => S (18 + 4 * f)) i + S (18 + 4 * i)), nI (i + 1), G)
    unfold bX9_contracts_4
    rw [if_neg (by rw [nI_leI (by omega) (by omega)]; omega), con_of hM hi (by omega) (x := S (18 + 4 * i)) (by rw [Nat.add_zero]), bd_some', nI_add, nI_add]
  · show bX9_contracts_4 627 rec _ (nI 6) G = _
    unfold bX9_contracts_4
    rw [if_pos (by decide)]
theorem m_count (x1 : Int32) (hM : MR S W Tx h n G) (hI : LI b S) : fX9_count 627 x1 G = some (qCount x1 S h n, G) := by
  have hN := hI.1
  have hs : ∀ k a, k < 20 → 1 ≤ a → a < 20 → a ≤ k + a → ix (nI k + nI a - nI a) 668 (some ((G (627 + 1) (nI k + nI a - nI a).toNatClampNeg), G)) = some (nI (S k), G) := by
    intro k a h1 h2 h3 h4
    rw [nI_add, pk_sub (by omega), Nat.add_sub_cancel, nI_ix (by omega) (by omega), nI_clamp (by omega), show (627 : Nat) + 1 = 628 from rfl, hM.s (by omega)]
  have hs2 : ∀ k a d j, k < 20 → d ≤ a → a < 20 → j = k + a - d → ix (nI k + nI a - nI d) 668 (some ((G (627 + 1) (nI k + nI a - nI d).toNatClampNeg), G)) = some (nI (S j), G) := by
    intro k a d j h1 h2 h3 h4
    rw [nI_add, pk_sub (by omega), ← h4, nI_ix (by omega) (by omega), nI_clamp (by omega), show (627 : Nat) + 1 = 628 from rfl, hM.s (by omega)]
  unfold fX9_count qCount
  refine iteq (fun z => ?_) (fun _ => ?_)
  · rw [show (627 : Nat) + 1 = 628 from rfl, hM.s (k := 0) (by omega)]
  refine iteq (fun z => ?_) (fun _ => ?_)
  · rw [show (627 : Nat) + 1 = 628 from rfl, hM.s (k := 0) (by omega), nI_rem (by omega) (by omega) (by omega)]
  refine iteq (fun z => ?_) (fun _ => ?_)
  · have hcl1 : clN S (S 0) ≤ 1 := clN_le
    rw [show (627 : Nat) + 1 = 628 from rfl, hM.s (k := 0) (by omega), closed_m hM hI (by omega), bd_some']
    by_cases h0 : clN S (S 0) = 0
    · rw [h0, if_pos rfl]
    · rw [show clN S (S 0) = 1 by omega, if_neg (by decide)]
  refine iteq (fun z => ?_) (fun _ => ?_)
  · subst z; exact hs2 1 3 3 1 (by omega) (by omega) (by omega) (by omega)
  refine iteq (fun z => ?_) (fun _ => ?_)
  · subst z; exact hs2 1 4 3 2 (by omega) (by omega) (by omega) (by omega)
  refine iteq (fun z => ?_) (fun _ => ?_)
  · subst z; exact hs2 1 5 3 3 (by omega) (by omega) (by omega) (by omega)
  refine iteq (fun z => ?_) (fun _ => ?_)
  · subst z; exact hs2 1 6 3 4 (by omega) (by omega) (by omega) (by omega)
  refine iteq (fun z => ?_) (fun _ => ?_)
  · subst z; exact hs2 1 7 3 5 (by omega) (by omega) (by omega) (by omega)
  refine iteq (fun z => ?_) (fun _ => ?_)
  · subst z; exact hs2 1 8 3 6 (by omega) (by omega) (by omega) (by omega)
  refine iteq (fun z => ?_) (fun _ => ?_)
  · rw [contracts_m hM, bd_some']
  refine iteq (fun z => ?_) (fun _ => ?_)
  · subst z; exact hs2 7 10 10 7 (by omega) (by omega) (by omega) (by omega)
  refine iteq (fun z => ?_) (fun _ => ?_)
  · subst z; exact hs2 7 11 10 8 (by omega) (by omega) (by omega) (by omega)
  refine iteq (fun z => ?_) (fun _ => ?_)
  · subst z; exact hs2 7 12 10 9 (by omega) (by omega) (by omega) (by omega)
  refine iteq (fun z => ?_) (fun _ => ?_)
  · subst z; exact hs2 7 13 10 10 (by omega) (by omega) (by omega) (by omega)
  refine iteq (fun z => ?_) (fun _ => ?_)
  · subst z; exact hs2 7 14 10 11 (by omega) (by omega) (by omega) (by omega)
  refine iteq (fun z => ?_) (fun _ => ?_)
  · rw [show (627 : Nat) + 1 = 628 from rfl, hM.s (k := 222) (by omega), hM.s (k := 445) (by omega), nI_add]
  refine iteq (fun z => ?_) (fun _ => ?_)
  · rw [hM.2.2.2.2.1]
  refine iteq (fun z => ?_) (fun _ => rfl)
  rw [hM.2.2.2.2.2.1]
theorem m_chain (x1 x2 x3 : Int32) (hM : MR S W Tx h n G) (hI : LI b S) : fX9_chain 627 x1 x2 x3 G = some (qChain x1 x2 x3 S, G) := by
  unfold fX9_chain qChain
  rw [isChain_m hM hI, bd_some']
  by_cases hc : inC S x1 x2
  · rw [if_pos hc, if_neg (by decide), if_pos hc]
    obtain ⟨f, c, q1, q2, hf, hcl, hc30, t1, t2⟩ := inC_k hI hc
    rw [t1, t2]
    subst q1 q2
    have hx := hI.cx hf hcl
    rw [in_m (by omega) (by omega), bd_some']
    by_cases hw : inW 0 2 x3
    · rw [if_pos hw, if_neg (by decide)]
      refine iteq (fun z => ?_) (fun z0 => ?_)
      · rw [kind_m hM hf hc30 hx, bd_some']
      refine iteq (fun z => ?_) (fun z1 => ?_)
      · rw [thick_m hM hf hc30 hx, bd_some']
      have z2 : x3 = nI 2 := by
        obtain ⟨q, l⟩ := nat_in hw
        generalize tn x3 = k at *
        subst q
        rcases (show k = 0 ∨ k = 1 ∨ k = 2 by omega) with rfl | rfl | rfl
        · exact absurd rfl z0
        · exact absurd rfl z1
        · rfl
      rw [age_m hM hf hc30 rfl hx, bd_some', if_pos z2]
    · have hne : ∀ k, k ≤ 2 → x3 ≠ nI k := fun k hk z => hw (by rw [z]; have e := nI_toInt (n := k) (by omega); exact ⟨by rw [e]; omega, by rw [e]; omega⟩)
      rw [if_neg hw, if_pos rfl, if_neg (hne 0 (by omega)), if_neg (hne 1 (by omega)), if_neg (hne 2 (by omega))]
  · rw [if_neg hc, if_pos rfl, if_neg hc]
theorem takes_m {f c : Nat} (hM : MR S W Tx h n G) (hf : f < 6) (hc : c < 30) (hx : S (42 + 30 * f + c) < 2 ^ 31) : fX9_takes 627 (nI f) (nI c) G = some (nI (tk (S (42 + 30 * f + c))), G) := by
  unfold fX9_takes tk
  rw [thick_m hM hf hc hx, bd_some', kind_m hM hf hc hx, bd_some']
  by_cases h0 : S (42 + 30 * f + c) % 4 = 0
  · rw [if_pos (by rw [h0])]
    by_cases h2 : S (42 + 30 * f + c) / 4 % 16 < 2
    · rw [if_pos (by rw [nI_ltI (by omega) (by omega)]; exact h2), if_neg (by omega)]
    · rw [if_neg (by rw [nI_ltI (by omega) (by omega)]; exact h2), if_pos (by omega)]
  · rw [if_neg (by rw [nI_eq (by omega) (by omega)]; exact h0), if_neg (by omega)]
theorem workOf_m {f : Nat} (hM : MR S W Tx h n G) (hI : LI b S) (hf : f < 6) : fX9_workOf 627 (nI f) G = some (nI (sm tk (cf S f) (S (12 + f))), G) := by
  unfold fX9_workOf
  have hl := (hI.len hf).2
  refine itr_run (fun i : Nat => (nI (sm tk (cf S f) i), nI i, G)) (S (12 + f)) (fun i hi rec => ?_) (by omega) (fun rec => ?_)
  · show bX9_workOf_4 627 (nI f) rec (nI _) (nI i) G = rec (nI (sm tk (cf S f) i + tk (cf S f i)), nI (i + 1), G)
    unfold bX9_workOf_4
    rw [nI_add 12 f, nI_ix (by omega) (by omega), nI_clamp (by omega), show (627 : Nat) + 1 = 628 from rfl, hM.s (by omega), if_neg (by rw [nI_leI (by omega) (by omega)]; omega), takes_m hM hf (by omega) (hI.cx hf hi), bd_some', nI_add, nI_add]
  · show bX9_workOf_4 627 (nI f) rec (nI _) (nI (S (12 + f))) G = _
    unfold bX9_workOf_4
    rw [nI_add 12 f, nI_ix (by omega) (by omega), nI_clamp (by omega), show (627 : Nat) + 1 = 628 from rfl, hM.s (by omega), if_pos (by rw [nI_leI (by omega) (by omega)]; exact Nat.le_refl _)]
theorem sm_2 {ch : Nat → Nat} {m : Nat} : sm (fun x => if 0 < tk x then 2 else 0) ch m = 2 * sm (fun x => if 0 < tk x then 1 else 0) ch m := by
  induction m with
  | zero => rfl
  | succ m ih =>
    show sm _ ch m + (if 0 < tk (ch m) then 2 else 0) = 2 * (sm _ ch m + (if 0 < tk (ch m) then 1 else 0))
    rw [ih]
    split <;> omega
theorem m_toLay (x1 x2 : Int32) (hM : MR S W Tx h n G) (hI : LI b S) : fX9_toLay 627 x1 x2 G = some (qToLay x1 x2 S, G) := by
  unfold fX9_toLay qToLay
  rw [isField_m, bd_some']
  by_cases h1 : inF x1
  · rw [if_pos h1, if_neg (by decide), in_m (by omega) (by omega), bd_some']
    by_cases h2 : inW 0 1 x2
    · rw [if_pos h2, if_neg (by decide), if_pos (show inF x1 ∧ inW 0 1 x2 from ⟨h1, h2⟩)]
      obtain ⟨f, rfl, l1⟩ : ∃ f, x1 = nI f ∧ f ≤ 5 := ⟨tn x1, nat_in (hi := 5) (show inW 0 5 x1 from h1)⟩
      rw [tn_nI (by omega)]
      have hl := (hI.len (f := f) (by omega)).2
      refine itr_run (fun i : Nat => (nI (sm (fun x => if 0 < tk x then 1 else 0) (cf S f) i), nI i, G)) (S (12 + f)) (fun i hi rec => ?_) (by omega) (fun rec => ?_)
      · show bX9_toLay_23 627 (nI f) x2 rec (nI _) (nI i) G = rec (nI (sm (fun x => if 0 < tk x then 1 else 0) (cf S f) i + (if 0 < tk (cf S f i) then 1 else 0)), nI (i + 1), G)
        unfold bX9_toLay_23 jX9_toLay_53
        have htk := tk_le (S (42 + 30 * f + i))
        rw [nI_add 12 f, nI_ix (by omega) (by omega), nI_clamp (by omega), show (627 : Nat) + 1 = 628 from rfl, hM.s (by omega), if_neg (by rw [nI_leI (by omega) (by omega)]; omega), takes_m hM (by omega) (by omega) (hI.cx (by omega) hi), bd_some', nI_add, nI_add, nI_add]
        by_cases h0 : 0 < tk (S (42 + 30 * f + i))
        · rw [if_neg (by rw [nI_leI (by omega) (by omega)]; omega), if_pos h0]
        · rw [if_pos (by rw [nI_leI (by omega) (by omega)]; omega), if_neg h0]
      · show bX9_toLay_23 627 (nI f) x2 rec (nI _) (nI (S (12 + f))) G = _
        unfold bX9_toLay_23
        rw [nI_add 12 f, nI_ix (by omega) (by omega), nI_clamp (by omega), show (627 : Nat) + 1 = 628 from rfl, hM.s (by omega), if_pos (by rw [nI_leI (by omega) (by omega)]; exact Nat.le_refl _)]
        refine iteq (fun z => ?_) (fun z0 => ?_)
        · rw [workOf_m hM hI (by omega), bd_some']
        · rw [nI_mulN, sm_2]
    · rw [if_neg h2, if_pos rfl, if_neg (fun z => h2 z.2)]
  · rw [if_neg h1, if_pos rfl, if_neg (fun z => h1 z.1)]
theorem m_stakes (x1 : Int32) (hM : MR S W Tx h n G) (hI : LI b S) : fX9_stakesIn 627 x1 G = some (qStakes x1 S, G) := by
  unfold fX9_stakesIn qStakes
  rw [isField_m, bd_some']
  by_cases h1 : inF x1
  · rw [if_pos h1, if_neg (by decide), if_pos h1]
    obtain ⟨f, rfl, l1⟩ : ∃ f, x1 = nI f ∧ f ≤ 5 := ⟨tn x1, nat_in (hi := 5) (show inW 0 5 x1 from h1)⟩
    rw [tn_nI (by omega)]
    have hl := (hI.len (f := f) (by omega)).2
    refine itr_run (fun i : Nat => (nI (sm sc (cf S f) i), nI i, G)) (S (12 + f)) (fun i hi rec => ?_) (by omega) (fun rec => ?_)
    · show bX9_stakesIn_13 627 (nI f) rec (nI (sm sc (cf S f) i)) (nI i) G = rec (nI (sm sc (cf S f) i + sc (cf S f i)), nI (i + 1), G)
      unfold bX9_stakesIn_13
      have hx := hI.cx (show f < 6 by omega) hi
      obtain ⟨g0, g1⟩ := (hI.2 f (by omega)).2.1 i hi
      rw [nI_add 12 f, nI_ix (by omega) (by omega), nI_clamp (by omega), show (627 : Nat) + 1 = 628 from rfl, hM.s (by omega), if_neg (by rw [nI_leI (by omega) (by omega)]; omega), thick_m hM (by omega) (by omega) hx, bd_some']
      have ek := kind_m (f := f) (c := i) hM (by omega) (by omega) hx
      show _ = rec (nI (sm sc (cf S f) i + sc (S (42 + 30 * f + i))), nI (i + 1), G)
      generalize S (42 + 30 * f + i) = x at *
      generalize sm sc (cf S f) i = y
      by_cases h0 : x % 4 = 0
      · have esc : sc x = stk (x / 4 % 16) := by unfold sc; rw [if_pos h0]
        have ht : x / 4 % 16 ≤ 9 := by omega
        rw [esc]
        generalize x / 4 % 16 = t at *
        have h0' : ((nI y, nI t, G) : Int32 × Int32 × Mem) = (fun i : Nat => (nI (y + (stk t - stk (t - 2 * i))), nI (t - 2 * i), G)) 0 := by
          show _ = (nI (y + (stk t - stk (t - 2 * 0))), nI (t - 2 * 0), G)
          rw [Nat.mul_zero, Nat.sub_zero, Nat.sub_self, Nat.add_zero]
        rw [h0']
        refine itr_run (fun i : Nat => (nI (y + (stk t - stk (t - 2 * i))), nI (t - 2 * i), G)) ((t - 1) / 2) (fun j hj rec2 => ?_) (by omega) (fun rec2 => ?_)
        · show bX9_stakesIn_34 rec 627 (nI f) (nI i) rec2 (nI _) (nI (t - 2 * j)) G = rec2 (nI (y + (stk t - stk (t - 2 * (j + 1)))), nI (t - 2 * (j + 1)), G)
          obtain ⟨s1, s2⟩ := stk_step t (by omega) j (by omega) hj
          unfold bX9_stakesIn_34
          rw [ek, bd_some', if_pos (by rw [h0]), if_neg (by rw [nI_ltI (by omega) (by omega)]; omega), nI_add, nI_m2 (by omega), Nat.add_assoc, s1]
          congr 4
        · show bX9_stakesIn_34 rec 627 (nI f) (nI i) rec2 (nI _) (nI (t - 2 * ((t - 1) / 2))) G = _
          obtain ⟨s1, s2⟩ := stk_last t (by omega)
          unfold bX9_stakesIn_34
          rw [ek, bd_some', if_pos (by rw [h0]), if_pos (by rw [nI_ltI (by omega) (by omega)]; omega), s1, nI_add]
      · have esc : sc x = 0 := by unfold sc; rw [if_neg h0]
        rw [esc, Nat.add_zero, show FU = 9999 + 1 from rfl, itr_S]
        show bX9_stakesIn_34 rec 627 (nI f) (nI i) _ (nI y) _ G = _
        unfold bX9_stakesIn_34
        rw [ek, bd_some', if_neg (by rw [nI_eq (by omega) (by omega)]; exact h0), nI_add]
    · show bX9_stakesIn_13 627 (nI f) rec (nI _) (nI (S (12 + f))) G = _
      unfold bX9_stakesIn_13
      rw [nI_add 12 f, nI_ix (by omega) (by omega), nI_clamp (by omega), show (627 : Nat) + 1 = 628 from rfl, hM.s (by omega), if_pos (by rw [nI_leI (by omega) (by omega)]; exact Nat.le_refl _)]
  · rw [if_neg h1, if_pos rfl, if_neg h1]
end
