/-! a land is copied; a setting; a contract is made; forecasts of a land -/
section
variable {p q : Nat} {v v' : Nat → Nat} {G G' : Mem}
theorem copyCon_c {a c f : Nat} (h : CR c v f G) (hm : v (18 + 4 * f) ≤ 1) (hac : a ≠ c) : ∃ G', fX0_copyFrom a c G = some G' ∧ CR a v f G' ∧ ∀ x, x ≠ a → G' x = G x := by
  unfold fX0_copyFrom
  have hz : zk (G c 0) (lt (mset G a 0 (G c 0)) (fun G5 => lt (mset G5 a 1 (G5 c 1)) (fun G13 => lt (mset G13 a 2 (G13 c 2)) (fun G21 => lt (mset G21 a 3 (G21 c 3)) (fun G29 => some G29))))) = some (mset (mset (mset (mset G a 0 (G c 0)) a 1 (G c 1)) a 2 (G c 2)) a 3 (G c 3)) := by
    unfold zk
    rw [if_pos (by rw [h.1]; rcases (show v (18 + 4 * f) = 0 ∨ v (18 + 4 * f) = 1 by omega) with z | z <;> rw [z]; exact Or.inl rfl; exact Or.inr rfl)]
    simp only [lt_def, mset_at, if_neg (fun z : c = a ∧ _ => hac z.1.symm)]
  refine ⟨_, hz, ⟨?_, fun hz1 => ⟨?_, ?_, ?_⟩⟩, fun x hx => ?_⟩
  · simp only [mset_at]; simp; exact h.1
  · simp only [mset_at]; simp; exact (h.2 hz1).1
  · simp only [mset_at]; simp; exact (h.2 hz1).2.1
  · simp only [mset_at]; simp; exact (h.2 hz1).2.2
  · rw [mset_ne hx, mset_ne hx, mset_ne hx, mset_ne hx]
theorem copyLand_c {b : Nat} (h : LR q v G) (hI : LI b v) (hpq : p + 32 < q ∨ q + 32 < p) : ∃ G', fX4_copyFrom p q G = some G' ∧ LR p v G' ∧ FrL p G G' := by
  unfold fX4_copyFrom
  have step : ∀ i (s : Int32 × Mem), i < 6 → (s.1 = nI i ∧ (∀ f, f < i → HR (p + 3 + 5 * f) (v (12 + f)) (fun c => v (42 + 30 * f + c)) s.2 ∧ CR (p + 7 + 5 * f) v f s.2) ∧ ∀ a, (a < p + 3 ∨ p + 32 < a) → s.2 a = G a) → ∃ s' : Int32 × Mem, (s'.1 = nI (i + 1) ∧ (∀ f, f < i + 1 → HR (p + 3 + 5 * f) (v (12 + f)) (fun c => v (42 + 30 * f + c)) s'.2 ∧ CR (p + 7 + 5 * f) v f s'.2) ∧ ∀ a, (a < p + 3 ∨ p + 32 < a) → s'.2 a = G a) ∧ ∀ rec, FX4_copyFrom_2 p q rec s = rec s' := by
    intro i s hi hs
    obtain ⟨i', Gi⟩ := s
    obtain ⟨h1, h2, h3⟩ := hs
    dsimp only at h1 h2 h3
    subst h1
    have hq : LR q v Gi := h.cg (fun a ha ha2 => h3 a (by omega))
    obtain ⟨G1, a1, a2, a3⟩ := copyHedge (q := p + 3 + 5 * i) (hq.2.1 i hi) (hI.len hi).2 (by omega)
    have hC : CR (q + 7 + 5 * i) v i G1 := by
      unfold CR
      rw [a3 _ (by omega)]
      exact hq.2.2 i hi
    obtain ⟨G2, b1, b2, b3⟩ := copyCon_c (a := p + 7 + 5 * i) hC (hI.2 i hi).2.2.1 (by omega)
    refine ⟨(nI (i + 1), G2), ⟨rfl, fun f hf => ?_, fun a ha => ?_⟩, fun rec => ?_⟩
    · by_cases hfi : f = i
      · subst hfi
        refine ⟨a2.cg (b3 _ (by omega)) (b3 _ (by omega)) (b3 _ (by omega)) (b3 _ (by omega)), b2⟩
      · have hh := h2 f (by omega)
        refine ⟨(hh.1.cg (a3 _ (by omega)) (a3 _ (by omega)) (a3 _ (by omega)) (a3 _ (by omega))).cg (b3 _ (by omega)) (b3 _ (by omega)) (b3 _ (by omega)) (b3 _ (by omega)), ?_⟩
        show CR _ v f G2
        unfold CR
        rw [b3 _ (by omega), a3 _ (by omega)]
        exact hh.2
    · show G2 a = G a
      rw [b3 a (by omega), a3 a (by omega)]
      exact h3 a ha
    · show bX4_copyFrom_2 p q rec (nI i) Gi = _
      unfold bX4_copyFrom_2
      rw [if_neg (by rw [nI_leI (by omega) (by omega)]; omega), nI_ix (by omega) (by omega), nI_ix (by omega) (by omega), nI_clamp (by omega), a1, bv_some', nI_ix (by omega) (by omega), nI_ix (by omega) (by omega), b1, bv_some', nI_add]
  obtain ⟨s', ⟨e1, e2, e3⟩, r, e4⟩ := itr_inv (F := FX4_copyFrom_2 p q) _ 6 step (nI 0, G) ⟨rfl, fun f hf => absurd hf (Nat.not_lt_zero f), fun _ _ => rfl⟩ (by omega)
  obtain ⟨i', G6⟩ := s'
  dsimp only at e1 e2 e3
  subst e1
  rw [e4]
  show ∃ G', bX4_copyFrom_2 p q r (nI 6) G6 = _ ∧ _
  unfold bX4_copyFrom_2
  have hpq' : q ≠ p := by omega
  have hfin : ∀ j x, mset G6 p j x q = G6 q := fun j x => mset_ne hpq'
  rw [if_pos (by rw [nI_leI (by omega) (by omega)]; omega)]
  simp only [lt_def, mset_at, if_neg (fun z : q = p ∧ _ => hpq' z.1)]
  have hN : ∀ j, 2 ≤ j → j < 14 → G6 q j = nI (v (li j)) := fun j h2 h3 => by rw [e3 q (by omega)]; exact h.1 j h2 h3
  refine ⟨_, rfl, ⟨fun j h2 h3 => ?_, fun f hf => ?_, fun f hf => ?_⟩, fun a ha => ?_⟩
  · simp only [mset_at]
    rcases (show j = 2 ∨ j = 3 ∨ j = 4 ∨ j = 5 ∨ j = 6 ∨ j = 7 ∨ j = 8 ∨ j = 9 ∨ j = 10 ∨ j = 11 ∨ j = 12 ∨ j = 13 by omega) with rfl | rfl | rfl | rfl | rfl | rfl | rfl | rfl | rfl | rfl | rfl | rfl <;> simp <;> exact hN _ h2 h3
  · refine (e2 f hf).1.cg ?_ ?_ ?_ ?_ <;> rw [mset_ne (by omega), mset_ne (by omega), mset_ne (by omega), mset_ne (by omega), mset_ne (by omega), mset_ne (by omega), mset_ne (by omega), mset_ne (by omega), mset_ne (by omega), mset_ne (by omega), mset_ne (by omega), mset_ne (by omega)]
  · unfold CR
    rw [mset_ne (by omega), mset_ne (by omega), mset_ne (by omega), mset_ne (by omega), mset_ne (by omega), mset_ne (by omega), mset_ne (by omega), mset_ne (by omega), mset_ne (by omega), mset_ne (by omega), mset_ne (by omega), mset_ne (by omega)]
    exact (e2 f hf).2
  · rw [mset_ne (by omega), mset_ne (by omega), mset_ne (by omega), mset_ne (by omega), mset_ne (by omega), mset_ne (by omega), mset_ne (by omega), mset_ne (by omega), mset_ne (by omega), mset_ne (by omega), mset_ne (by omega), mset_ne (by omega)]
    exact e3 a (by omega)
theorem settingOf_c {k : Nat} (h : LR p v G) (hk : k < 3) : fX4_settingOf p (nI k) G = some (nI (v (9 + k)), G) := by
  unfold fX4_settingOf
  rcases (show k = 0 ∨ k = 1 ∨ k = 2 by omega) with rfl | rfl | rfl
  · rw [if_pos rfl, show G p 3 = nI (v 9) from h.1 3 (by omega) (by omega)]
  · rw [if_neg (by decide), if_pos rfl, show G p 4 = nI (v 10) from h.1 4 (by omega) (by omega)]
  · rw [if_neg (by decide), if_neg (by decide), show G p 5 = nI (v 11) from h.1 5 (by omega) (by omega)]
theorem changeSetting_c {k x b : Nat} (h : LR p v G) (hI : LI b v) (hk : k < 3) (hx : x ≤ 100) : ∃ G', fX4_changeSetting p (nI k) (nI x) G = some G' ∧ LR p (setV v k x) G' ∧ FrL p G G' := by
  unfold fX4_changeSetting
  obtain ⟨hN, -⟩ := hI
  rcases (show k = 0 ∨ k = 1 ∨ k = 2 by omega) with rfl | rfl | rfl
  · rw [if_pos rfl, lt_def]
    exact ⟨_, rfl, LR_n h (j := 3) (by omega) (by omega), FrL.m (by omega) (by omega)⟩
  · rw [if_neg (show ¬ nI 1 = nI 0 by decide), if_pos rfl, lt_def]
    exact ⟨_, rfl, LR_n h (j := 4) (by omega) (by omega), FrL.m (by omega) (by omega)⟩
  · have e : (if G p 6 + nI x - G p 5 < nI 0 then nI 0 else G p 6 + nI x - G p 5) = nI (v 1 + x - v 11) := by
      rw [show G p 6 = nI (v 1) from h.1 6 (by omega) (by omega), show G p 5 = nI (v 11) from h.1 5 (by omega) (by omega), nI_add]
      by_cases hlt : v 1 + x < v 11
      · rw [if_pos (show nI (v 1 + x) - nI (v 11) < nI 0 from pk_sneg (by omega) hlt)]; congr 1; omega
      · rw [pk_sub (by omega), if_neg (by rw [nI_ltI (by omega) (by omega)]; omega)]
    rw [if_neg (show ¬ nI 2 = nI 0 by decide), if_neg (show ¬ nI 2 = nI 1 by decide), e, lt_def, lt_def]
    exact ⟨_, rfl, LR_n (LR_n (x := v 1 + x - v 11) h (j := 6) (by omega) (by omega)) (j := 5) (by omega) (by omega), (FrL.m (by omega) (by omega)).tr (FrL.m (by omega) (by omega))⟩
theorem make_c {f a b c : Nat} (h : LR p v G) (hf : f < 6) (hb : ∀ g, g < 6 → v (12 + g) ≤ 30) : ∃ G', fX0_make (p + 7 + 5 * f) (nI a) (nI b) (nI c) G = some G' ∧ LR p (makeV v f a b c) G' ∧ FrL p G G' := by
  have e0 : ∀ j, ¬ (18 + 4 * f ≤ j ∧ j ≤ 21 + 4 * f) → makeV v f a b c j = v j := fun j hj => by unfold makeV; rw [vs_ne (by omega), vs_ne (by omega), vs_ne (by omega), vs_ne (by omega)]
  refine ⟨_, rfl, ⟨fun j h2 h3 => ?_, fun g hg => ?_, fun g hg => ?_⟩, fun x hx => ?_⟩
  · have := li_lt h3
    show mset _ _ _ _ p j = _
    rw [mset_ne (by omega), mset_ne (by omega), mset_ne (by omega), mset_ne (by omega), e0 _ (by omega)]
    exact h.1 j h2 h3
  · have := hb g hg
    rw [e0 _ (by omega)]
    refine HR.ext (HR.cg (h.2.1 g hg) ?_ ?_ ?_ ?_) (fun c hc => e0 _ (by omega)) <;> (show mset _ _ _ _ _ = _; rw [mset_ne (by omega), mset_ne (by omega), mset_ne (by omega), mset_ne (by omega)])
  · by_cases hgf : g = f
    · subst hgf
      unfold makeV
      refine ⟨?_, fun _ => ⟨?_, ?_, ?_⟩⟩
      · show mset _ _ _ _ _ _ = _
        simp only [mset_at]; simp [vs]
      · show mset _ _ _ _ _ _ = _
        simp only [mset_at]; simp [vs]
      · show mset _ _ _ _ _ _ = _
        simp only [mset_at]; simp [vs]
      · show mset _ _ _ _ _ _ = _
        simp only [mset_at]; simp [vs]
    · have e1 : ∀ y : Nat, (mset (mset (mset (mset G (p + 7 + 5 * f) 0 (nI 1)) (p + 7 + 5 * f) 1 (nI a)) (p + 7 + 5 * f) 2 (nI b)) (p + 7 + 5 * f) 3 (nI c)) (p + 7 + 5 * g) y = G (p + 7 + 5 * g) y := fun y => by rw [mset_ne (by omega), mset_ne (by omega), mset_ne (by omega), mset_ne (by omega)]
      have := h.2.2 g hg
      unfold CR at this ⊢
      rw [e0 _ (by omega), e0 (19 + 4 * g) (by omega), e0 (20 + 4 * g) (by omega), e0 (21 + 4 * g) (by omega)]
      exact ⟨(e1 0).trans this.1, fun z => ⟨(e1 1).trans (this.2 z).1, (e1 2).trans (this.2 z).2.1, (e1 3).trans (this.2 z).2.2⟩⟩
  · show mset _ _ _ _ x = _
    rw [mset_ne (by omega), mset_ne (by omega), mset_ne (by omega), mset_ne (by omega)]
theorem weeksOfWork_c {f b : Nat} (h : LR p v G) (hI : LI b v) (hf : f < 6) : fX4_weeksOfWork p (nI f) G = some (nI ((sm tk (cf v f) (v (12 + f)) + v 11 - 1) / v 11), G) := by
  unfold fX4_weeksOfWork
  have hl := hI.len hf
  have hw : fX1_workToLay (p + 3 + 5 * f) G = some (nI (sm tk (cf v f) (v (12 + f))), G) := workToLay_eq (h.2.1 f hf) hl.2
  have hs : sm tk (cf v f) (v (12 + f)) ≤ 15 * v (12 + f) := sm_le (fun c _ => tk_le _)
  obtain ⟨hN, -⟩ := hI
  have e5 : G p 5 = nI (v 11) := h.1 5 (by omega) (by omega)
  have em : (if nI (v 11) < nI 1 then nI 1 else nI (v 11)) = nI (v 11) := if_neg (by rw [nI_ltI (by omega) (by omega)]; omega)
  rw [nI_ix (by omega) (by omega), cl_nI hf, hw, bd_some', e5, em]
  unfold nz
  rw [if_neg (by rw [show (0 : Int32) = nI 0 from rfl, nI_eq (by omega) (by omega)]; omega), nI_add, pk_sub (by omega), pk_div (by omega) (by omega) (by omega)]
end
