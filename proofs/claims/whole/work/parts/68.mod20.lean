section
variable {G G' : Mem} {S S' W Tx B v : Nat → Nat} {h n b : Nat}
theorem wkL_le {t : Nat} : ∀ (k pw l : Nat), l ≤ v 11 → (wkL v t k pw l).2 ≤ v 11 := by
  intro k
  induction k with
  | zero => intro pw l hl; exact hl
  | succ k ih =>
    intro pw l hl
    unfold wkL
    split
    · exact hl
    · refine ih _ _ ?_
      unfold wa
      rw [if_neg (show ¬ pw + 1 = 0 by omega)]
      split <;> omega
theorem done_in {f c t : Nat} (hM : MR v W Tx h n G) (hI : LI b v) (ht : t ≤ v 11) (rec38 : (Int32 × Int32 × Int32 × Mem) → Option (Int32 × Mem)) : ∀ (k m pw l : Nat), l ≤ v 11 → pw ≤ 200 → k = 200 - pw → k + 1 < m → (t ≤ (wkL v t k pw l).2 → itr m (FX9_doneIn_76 rec38 627 (nI f) (nI c) (nI t)) (nI pw, nI l, G) = rec38 (nI (wkL v t k pw l).1, nI ((wkL v t k pw l).2 - t), nI (c + 1), G)) ∧ (¬ t ≤ (wkL v t k pw l).2 → ∃ y, itr m (FX9_doneIn_76 rec38 627 (nI f) (nI c) (nI t)) (nI pw, nI l, G) = rec38 (nI 201, y, nI (c + 1), G)) := by
  have hN := hI.1
  have cl1 : ∀ w, clN v w ≤ 1 := fun w => clN_le
  intro k
  induction k with
  | zero =>
    intro m pw l hl h2 h3 hm
    obtain ⟨m, rfl⟩ : ∃ q, m = q + 2 := ⟨m - 2, by omega⟩
    have : pw = 200 := by omega
    subst this
    rw [show m + 2 = (m + 1) + 1 from rfl, itr_S]
    show (t ≤ l → bX9_doneIn_76 rec38 627 (nI f) (nI c) (nI t) (itr (m + 1) (FX9_doneIn_76 rec38 627 (nI f) (nI c) (nI t))) (nI 200) (nI l) G = rec38 (nI 200, nI (l - t), nI (c + 1), G)) ∧ (¬ t ≤ l → ∃ y, bX9_doneIn_76 rec38 627 (nI f) (nI c) (nI t) (itr (m + 1) (FX9_doneIn_76 rec38 627 (nI f) (nI c) (nI t))) (nI 200) (nI l) G = rec38 (nI 201, y, nI (c + 1), G))
    unfold bX9_doneIn_76
    constructor
    · intro htl
      unfold jX9_doneIn_122
      rw [if_pos (by rw [nI_leI (by omega) (by omega)]; exact htl), pk_sub htl, nI_add]
    · intro htl
      rw [if_neg (by rw [nI_leI (by omega) (by omega)]; exact htl), if_neg (by decide), show (627 : Nat) + 1 = 628 from rfl, hM.s (k := 0) (by omega), nI_add, nI_add, closed_m hM hI (by omega), bd_some', hM.s (k := 11) (by omega)]
      have hfin : ∀ y : Int32, itr (m + 1) (FX9_doneIn_76 rec38 627 (nI f) (nI c) (nI t)) (nI (200 + 1), y, G) = rec38 (nI 201, y - nI t, nI (c + 1), G) := by
        intro y
        rw [itr_S]
        show bX9_doneIn_76 rec38 627 (nI f) (nI c) (nI t) _ (nI 201) y G = _
        unfold bX9_doneIn_76 jX9_doneIn_122
        by_cases hy : nI t ≤ y
        · rw [if_pos hy, nI_add]
        · rw [if_neg hy, if_pos (by decide), nI_add]
      rw [hfin, hfin]
      split
      · exact ⟨_, rfl⟩
      · exact ⟨_, rfl⟩
  | succ k ih =>
    intro m pw l hl h2 h3 hm
    obtain ⟨m, rfl⟩ : ∃ q, m = q + 1 := ⟨m - 1, by omega⟩
    by_cases htl : t ≤ l
    · have ew : wkL v t (k + 1) pw l = (pw, l) := by unfold wkL; rw [if_pos htl]
      rw [ew]
      refine ⟨fun _ => ?_, fun z => absurd htl z⟩
      rw [itr_S]
      show bX9_doneIn_76 rec38 627 (nI f) (nI c) (nI t) _ (nI pw) (nI l) G = _
      unfold bX9_doneIn_76 jX9_doneIn_122
      rw [if_pos (by rw [nI_leI (by omega) (by omega)]; exact htl), pk_sub htl, nI_add]
    · have ew : wkL v t (k + 1) pw l = wkL v t k (pw + 1) (wa v (pw + 1)) := by
        show (if t ≤ l then _ else _) = _
        rw [if_neg htl]
      have hwa : wa v (pw + 1) ≤ v 11 := (wa_le hI).2
      have es : itr (m + 1) (FX9_doneIn_76 rec38 627 (nI f) (nI c) (nI t)) (nI pw, nI l, G) = itr m (FX9_doneIn_76 rec38 627 (nI f) (nI c) (nI t)) (nI (pw + 1), nI (wa v (pw + 1)), G) := by
        rw [itr_S]
        show bX9_doneIn_76 rec38 627 (nI f) (nI c) (nI t) _ (nI pw) (nI l) G = _
        unfold bX9_doneIn_76 wa
        rw [if_neg (by rw [nI_leI (by omega) (by omega)]; exact htl), if_neg (by rw [nI_ltI (by omega) (by omega)]; omega), show (627 : Nat) + 1 = 628 from rfl, hM.s (k := 0) (by omega), nI_add, nI_add, closed_m hM hI (by omega), bd_some', hM.s (k := 11) (by omega), if_neg (show ¬ pw + 1 = 0 by omega)]
        have := cl1 (v 0 + (pw + 1))
        by_cases h0 : clN v (v 0 + (pw + 1)) = 0
        · rw [if_pos (by rw [h0]), if_pos h0]
        · rw [if_neg (by rw [nI_eq (by omega) (by omega)]; exact h0), if_neg h0]
      rw [ew, es]
      exact ih m (pw + 1) (wa v (pw + 1)) hwa (by omega) (by omega) (by omega)
theorem done_no {f : Nat} (hM : MR v W Tx h n G) (hI : LI b v) (hf : f < 6) : ∀ (k m c : Nat) (y : Int32), c + k = v (12 + f) → k < m → itr m (FX9_doneIn_38 627 (nI f)) (nI 201, y, nI c, G) = some (-9, G) := by
  have hl30 := (hI.len hf).2
  have hN := hI.1
  intro k
  induction k with
  | zero =>
    intro m c y h3 hm
    obtain ⟨m, rfl⟩ : ∃ q, m = q + 1 := ⟨m - 1, by omega⟩
    rw [itr_S]
    show bX9_doneIn_38 627 (nI f) _ (nI 201) y (nI c) G = _
    unfold bX9_doneIn_38
    rw [nI_add 12 f, nI_ix (by omega) (by omega), nI_clamp (by omega), show (627 : Nat) + 1 = 628 from rfl, hM.s (k := 12 + f) (by omega), if_pos (by rw [nI_leI (by omega) (by omega)]; omega), if_neg (by decide)]
  | succ k ih =>
    intro m c y h3 hm
    obtain ⟨m, rfl⟩ : ∃ q, m = q + 1 := ⟨m - 1, by omega⟩
    rw [itr_S]
    show bX9_doneIn_38 627 (nI f) _ (nI 201) y (nI c) G = _
    unfold bX9_doneIn_38
    have htk := tk_le (v (42 + 30 * f + c))
    rw [nI_add 12 f, nI_ix (by omega) (by omega), nI_clamp (by omega), show (627 : Nat) + 1 = 628 from rfl, hM.s (k := 12 + f) (by omega), if_neg (by rw [nI_leI (by omega) (by omega)]; omega), takes_m hM hf (by omega) (hI.cx hf (by omega)), bd_some', hM.s (k := 11) (by omega)]
    by_cases hs : tk (v (42 + 30 * f + c)) ≤ v 11
    · rw [if_pos (by rw [nI_leI (by omega) (by omega)]; exact hs), show FU = 9999 + 1 from rfl, itr_S]
      show bX9_doneIn_76 _ 627 (nI f) (nI c) _ _ (nI 201) y G = _
      unfold bX9_doneIn_76 jX9_doneIn_122
      by_cases hy : nI (tk (v (42 + 30 * f + c))) ≤ y
      · rw [if_pos hy, nI_add]
        exact ih m (c + 1) _ (by omega) (by omega)
      · rw [if_neg hy, if_pos (by decide), nI_add]
        exact ih m (c + 1) _ (by omega) (by omega)
    · rw [if_neg (by rw [nI_leI (by omega) (by omega)]; exact hs)]
theorem done_out {f : Nat} (hM : MR v W Tx h n G) (hI : LI b v) (hf : f < 6) : ∀ (k m c pw l : Nat), l ≤ v 11 → pw ≤ 200 → c + k = v (12 + f) → k < m → itr m (FX9_doneIn_38 627 (nI f)) (nI pw, nI l, nI c, G) = some (match dn v f k c pw l with | some w => nI w | none => -9, G) := by
  have hl30 := (hI.len hf).2
  have hN := hI.1
  intro k
  induction k with
  | zero =>
    intro m c pw l hl h2 h3 hm
    obtain ⟨m, rfl⟩ : ∃ q, m = q + 1 := ⟨m - 1, by omega⟩
    rw [itr_S]
    show bX9_doneIn_38 627 (nI f) _ (nI pw) (nI l) (nI c) G = _
    unfold bX9_doneIn_38 dn
    rw [nI_add 12 f, nI_ix (by omega) (by omega), nI_clamp (by omega), show (627 : Nat) + 1 = 628 from rfl, hM.s (k := 12 + f) (by omega), if_pos (by rw [nI_leI (by omega) (by omega)]; omega), if_pos (by rw [nI_leI (by omega) (by omega)]; omega)]
  | succ k ih =>
    intro m c pw l hl h2 h3 hm
    obtain ⟨m, rfl⟩ : ∃ q, m = q + 1 := ⟨m - 1, by omega⟩
    rw [itr_S]
    show bX9_doneIn_38 627 (nI f) _ (nI pw) (nI l) (nI c) G = _
    have htk := tk_le (v (42 + 30 * f + c))
    have hwl := wkL_le (v := v) (t := tk (cf v f c)) (200 - pw) pw l hl
    have hbd := wkL_bd (t := tk (cf v f c)) hI (200 - pw) pw l (by omega)
    have hd : dn v f (k + 1) c pw l = if tk (cf v f c) ≤ (wkL v (tk (cf v f c)) (200 - pw) pw l).2 then dn v f k (c + 1) (wkL v (tk (cf v f c)) (200 - pw) pw l).1 ((wkL v (tk (cf v f c)) (200 - pw) pw l).2 - tk (cf v f c)) else none := rfl
    rw [hd]
    unfold bX9_doneIn_38
    rw [nI_add 12 f, nI_ix (by omega) (by omega), nI_clamp (by omega), show (627 : Nat) + 1 = 628 from rfl, hM.s (k := 12 + f) (by omega), if_neg (by rw [nI_leI (by omega) (by omega)]; omega), takes_m hM hf (by omega) (hI.cx hf (by omega)), bd_some', hM.s (k := 11) (by omega)]
    have htf : cf v f c = v (42 + 30 * f + c) := rfl
    rw [htf] at hwl hbd ⊢
    by_cases hs : tk (v (42 + 30 * f + c)) ≤ v 11
    · rw [if_pos (by rw [nI_leI (by omega) (by omega)]; exact hs)]
      obtain ⟨a1, a2⟩ := done_in (f := f) (c := c) hM hI hs (itr m (FX9_doneIn_38 627 (nI f))) (200 - pw) FU pw l hl h2 rfl (by show _ < 10000; omega)
      by_cases ht : tk (v (42 + 30 * f + c)) ≤ (wkL v (tk (v (42 + 30 * f + c))) (200 - pw) pw l).2
      · rw [if_pos ht, a1 ht]
        exact ih m (c + 1) _ _ (by omega) (by omega) (by omega) (by omega)
      · obtain ⟨y, hy⟩ := a2 ht
        rw [if_neg ht, hy, done_no hM hI hf k m (c + 1) y (by omega) (by omega)]
    · rw [if_neg (by rw [nI_leI (by omega) (by omega)]; exact hs), if_neg (by omega)]
theorem m_done (x1 : Int32) (hM : MR S W Tx h n G) (hI : LI b S) : fX9_doneIn 627 x1 G = some (qDone x1 S, G) := by
  unfold fX9_doneIn qDone
  have hN := hI.1
  rw [isField_m, bd_some']
  by_cases h1 : inF x1
  · rw [if_pos h1, if_neg (by decide), if_pos h1]
    obtain ⟨f, rfl, l1⟩ : ∃ f, x1 = nI f ∧ f ≤ 5 := ⟨tn x1, nat_in (hi := 5) (show inW 0 5 x1 from h1)⟩
    have hl := (hI.len (f := f) (by omega)).2
    have hcl1 : clN S (S 0) ≤ 1 := clN_le
    rw [tn_nI (by omega), show (627 : Nat) + 1 = 628 from rfl, hM.s (k := 0) (by omega), closed_m hM hI (by omega), bd_some', hM.s (k := 1) (by omega)]
    have ew : wa S 0 = if clN S (S 0) = 0 then S 1 else 0 := rfl
    rw [ew]
    by_cases h0 : clN S (S 0) = 0
    · rw [if_pos (by rw [h0]), if_pos h0]
      exact done_out hM hI (by omega) (S (12 + f)) FU 0 0 (S 1) (by omega) (by omega) (by omega) (by show _ < 10000; omega)
    · rw [if_neg (by rw [nI_eq (by omega) (by omega)]; exact h0), if_neg h0]
      exact done_out hM hI (by omega) (S (12 + f)) FU 0 0 0 (by omega) (by omega) (by omega) (by show _ < 10000; omega)
  · rw [if_neg h1, if_pos rfl, if_neg h1]
end
