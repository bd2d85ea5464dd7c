section
variable {G G' : Mem} {S S' W Tx B v : Nat → Nat} {h n b : Nat}
/-- T chains of a text stand in a field's hedge -/
def midH (S : Nat → Nat) (f T : Nat) (ch : Nat → Nat) : Nat → Nat := fun j => if j = 12 + f then T else if 42 + 30 * f ≤ j ∧ j < 42 + 30 * f + T then ch (j - (42 + 30 * f)) else S j
theorem midH_len {f T : Nat} {ch : Nat → Nat} : midH S f T ch (12 + f) = T := if_pos rfl
theorem prs_mono : ∀ (k a T : Nat) (ch : Nat → Nat), T ≤ (prs Tx n k a T ch).2.1 := by
  intro k
  induction k with
  | zero => intro a T ch; exact Nat.le_refl _
  | succ k ih =>
    intro a T ch
    unfold prs
    split
    · split
      · exact Nat.le_trans (Nat.le_add_right _ _) (ih _ _ _)
      · exact Nat.le_add_right _ _
    · exact Nat.le_refl _
/-- the chains of one part are put down -/
theorem putPart_m {f T m k t : Nat} {ch : Nat → Nat} {x2 : Int32} (rec55 : Mem → Option (Int32 × Mem)) (hM : MR (midH S f T ch) W Tx h n G) (hB : MB B G) (hf : f < 6) (hm : T + m ≤ 30) (h8 : G 627 8 = nI k) (h9 : G 627 9 = nI t) (h10 : G 627 10 = nI m) : ∃ G', itr FU (FX9_read_73 rec55 627 (nI f) x2) (nI 0, G) = rec55 G' ∧ MR (midH S f (T + m) (chU ch T m (k + 4 * t))) W Tx h n G' ∧ MB B G' ∧ ∀ q, q ≠ 628 → G' q = G q := by
  have e : ∀ i j, vs (vs (midH S f (T + i) (chU ch T i (k + 4 * t))) (42 + 30 * f + (T + i)) (k + 4 * t)) (12 + f) (T + i + 1) j = midH S f (T + (i + 1)) (chU ch T (i + 1) (k + 4 * t)) j := by
    intro i j
    unfold vs midH chU
    repeat' split
    all_goals first
      | rfl
      | omega
  have step : ∀ i (s : Int32 × Mem), i < m → (s.1 = nI i ∧ MR (midH S f (T + i) (chU ch T i (k + 4 * t))) W Tx h n s.2 ∧ MB B s.2 ∧ ∀ q, q ≠ 628 → s.2 q = G q) → ∃ s' : Int32 × Mem, (s'.1 = nI (i + 1) ∧ MR (midH S f (T + (i + 1)) (chU ch T (i + 1) (k + 4 * t))) W Tx h n s'.2 ∧ MB B s'.2 ∧ ∀ q, q ≠ 628 → s'.2 q = G q) ∧ ∀ rec, FX9_read_73 rec55 627 (nI f) x2 rec s = rec s' := by
    intro i s hi hs
    obtain ⟨s1, Gs⟩ := s
    obtain ⟨h1, h2, h3, h4⟩ := hs
    simp only at h1 h2 h3 h4
    subst h1
    have b1 := h2.set (k := 42 + 30 * f + (T + i)) (x := k + 4 * t)
    have b2 := b1.set (k := 12 + f) (x := T + i + 1)
    refine ⟨(nI (i + 1), mset (mset Gs 628 (42 + 30 * f + (T + i)) (nI (k + 4 * t))) 628 (12 + f) (nI (T + i + 1))), ⟨rfl, b2.ext (fun j hj => (e i j).symm), (h3.set (by omega)).set (by omega), fun q hq => by show mset _ _ _ _ q = _; rw [mset_ne hq, mset_ne hq]; exact h4 q hq⟩, fun rec => ?_⟩
    show bX9_read_73 rec55 627 (nI f) x2 rec (nI i) Gs = _
    unfold bX9_read_73
    rw [h4 627 (by omega), h10, h8, h9, if_neg (by rw [nI_leI (by omega) (by omega)]; omega), nI_add 12 f, nI_ix (by omega) (by omega), nI_clamp (by omega), show (627 : Nat) + 1 = 628 from rfl, h2.so (k := 12 + f) (by omega) midH_len, lays_m h2 hf (by omega), bv_some', nI_ix (by omega) (by omega), nI_ix (by omega) (by omega), lt_def, b1.so (k := 12 + f) (by omega) ((vs_ne (by omega)).trans midH_len), nI_add, nI_add]
  obtain ⟨⟨s1, G2⟩, ⟨h1, h2, h3, h4⟩, rec', hrec⟩ := itr_inv (F := FX9_read_73 rec55 627 (nI f) x2) (fun i (s : Int32 × Mem) => s.1 = nI i ∧ MR (midH S f (T + i) (chU ch T i (k + 4 * t))) W Tx h n s.2 ∧ MB B s.2 ∧ ∀ q, q ≠ 628 → s.2 q = G q) m step (nI 0, G) ⟨rfl, hM.ext (fun j hj => by
    show midH S f (T + 0) (chU ch T 0 (k + 4 * t)) j = _
    rw [Nat.add_zero, show chU ch T 0 (k + 4 * t) = ch from funext fun c => if_neg (by omega)]), hB, fun q hq => rfl⟩ (by omega)
  simp only at h1 h2 h3 h4
  subst h1
  refine ⟨G2, ?_, h2, h3, h4⟩
  rw [hrec]
  show bX9_read_73 rec55 627 (nI f) x2 rec' (nI m) G2 = _
  unfold bX9_read_73
  rw [h4 627 (by omega), h10, if_pos (by rw [nI_leI (by omega) (by omega)]; exact Nat.le_refl _)]
theorem put_all {f : Nat} {x2 : Int32} (hT : okT Tx n) (hf : f < 6) : ∀ (k m a T : Nat) (ch : Nat → Nat) (G : Mem), MR (midH S f T ch) W Tx h n G → MB B G → G 627 7 = nI a → a < n → 80 ≤ k + a → k + 1 < m → (prs Tx n k a T ch).1 = none → (prs Tx n k a T ch).2.1 ≤ 30 → ∃ G', itr m (FX9_read_55 627 (nI f) x2) G = itr FU (FX9_read_127 627 (nI f) x2) (x2, G') ∧ MR (midH S f (prs Tx n k a T ch).2.1 (prs Tx n k a T ch).2.2) W Tx h n G' ∧ MB B G' ∧ FrM G G' := by
  intro k
  induction k with
  | zero => intro m a T ch G hM hB h7 ha hk hm; have := hM.2.1; omega
  | succ k ih =>
    intro m a T ch G hM hB h7 ha hk hm hn0 h30
    have hn := hM.2.1
    obtain ⟨m, rfl⟩ : ∃ q, m = q + 2 := ⟨m - 2, by omega⟩
    rw [show m + 2 = (m + 1) + 1 from rfl, itr_S]
    show ∃ G', bX9_read_55 627 (nI f) x2 (itr (m + 1) (FX9_read_55 627 (nI f) x2)) G = _ ∧ _
    obtain ⟨G1, d1, d2, d3, d4⟩ := part_m hT hM h7 (by omega)
    have hM1 := hM.fp d2
    have hok : (pt Tx n a).1 = true := by
      unfold prs at hn0
      by_cases hok : (pt Tx n a).1 = true
      · exact hok
      · rw [if_neg hok] at hn0; cases hn0
    have hpr : prs Tx n (k + 1) a T ch = if (pt Tx n a).2.1 < n then prs Tx n k (pt Tx n a).2.1 (T + (pt Tx n a).2.2.2.2) (chU ch T (pt Tx n a).2.2.2.2 ((pt Tx n a).2.2.1 + 4 * (pt Tx n a).2.2.2.1)) else (none, T + (pt Tx n a).2.2.2.2, chU ch T (pt Tx n a).2.2.2.2 ((pt Tx n a).2.2.1 + 4 * (pt Tx n a).2.2.2.1)) := by
      show (if (pt Tx n a).1 = true then _ else _) = _
      rw [if_pos hok]
    rw [hpr] at hn0 h30 ⊢
    obtain ⟨p1, p2, p3, p4, p5⟩ := pt_ok hok
    obtain ⟨f8, f9, f10⟩ := d4 hok
    unfold bX9_read_55
    rw [hM.2.2.2.2.2.1, h7, if_neg (by rw [nI_leI (by omega) (by omega)]; omega), d1, bd_some']
    have hTm : T + (pt Tx n a).2.2.2.2 ≤ 30 := by
      by_cases hl : (pt Tx n a).2.1 < n
      · rw [if_pos hl] at h30
        exact Nat.le_trans (prs_mono _ _ _ _) h30
      · rw [if_neg hl] at h30
        exact h30
    obtain ⟨G2, e1, e2, e3, e4⟩ := putPart_m (x2 := x2) (itr (m + 1) (FX9_read_55 627 (nI f) x2)) hM1 (d2.B hB) hf hTm f8 f9 f10
    rw [e1]
    have hF : FrM G G2 := d2.M.tr (fun q hq => e4 q (by omega))
    by_cases hl : (pt Tx n a).2.1 < n
    · rw [if_pos hl] at hn0 h30 ⊢
      obtain ⟨G3, g1, g2, g3, g4⟩ := ih (m + 1) (pt Tx n a).2.1 _ _ G2 e2 e3 (by rw [e4 627 (by omega)]; exact d3) hl (by omega) (by omega) hn0 h30
      exact ⟨G3, g1, g2, g3, hF.tr g4⟩
    · rw [if_neg hl, itr_S]
      refine ⟨G2, ?_, e2, e3, hF⟩
      show bX9_read_55 627 (nI f) x2 _ G2 = _
      unfold bX9_read_55
      rw [e2.2.2.2.2.2.1, e4 627 (by omega), d3, if_pos (by rw [nI_leI (by omega) (by omega)]; omega)]
/-- the rest of the field's places are empty -/
theorem clear_m {f T : Nat} {ch : Nat → Nat} (hM : MR (midH S f T ch) W Tx h n G) (hB : MB B G) (hf : f < 6) (hT : T ≤ 30) : ∃ (G' : Mem) (rec' : (Int32 × Mem) → Option (Int32 × Mem)), itr FU (FX9_read_127 627 (nI f) (nI T)) (nI T, G) = bX9_read_127 627 (nI f) (nI T) rec' (nI 30) G' ∧ MR (newH S f T ch) W Tx h n G' ∧ MB B G' ∧ FrM G G' := by
  have step : ∀ i (s : Int32 × Mem), i < 30 - T → (s.1 = nI (T + i) ∧ MR (fun j => if 42 + 30 * f + T ≤ j ∧ j < 42 + 30 * f + T + i then 0 else midH S f T ch j) W Tx h n s.2 ∧ MB B s.2 ∧ FrM G s.2) → ∃ s' : Int32 × Mem, (s'.1 = nI (T + (i + 1)) ∧ MR (fun j => if 42 + 30 * f + T ≤ j ∧ j < 42 + 30 * f + T + (i + 1) then 0 else midH S f T ch j) W Tx h n s'.2 ∧ MB B s'.2 ∧ FrM G s'.2) ∧ ∀ rec, FX9_read_127 627 (nI f) (nI T) rec s = rec s' := by
    intro i s hi hs
    obtain ⟨s1, Gs⟩ := s
    obtain ⟨h1, h2, h3, h4⟩ := hs
    simp only at h1 h2 h3 h4
    subst h1
    refine ⟨(nI (T + i + 1), mset Gs 628 (42 + 30 * f + (T + i)) (nI 0)), ⟨rfl, (h2.set (k := 42 + 30 * f + (T + i)) (x := 0)).ext (fun j hj => ?_), h3.set (by omega), h4.tr (FrM.m (by omega))⟩, fun rec => ?_⟩
    · unfold vs
      by_cases hj1 : j = 42 + 30 * f + (T + i)
      · rw [if_pos hj1, if_pos (by omega)]
      · rw [if_neg hj1]
        show _ = (if 42 + 30 * f + T ≤ j ∧ j < 42 + 30 * f + T + i then 0 else midH S f T ch j)
        by_cases hj2 : 42 + 30 * f + T ≤ j ∧ j < 42 + 30 * f + T + i
        · rw [if_pos (c := 42 + 30 * f + T ≤ j ∧ j < 42 + 30 * f + T + (i + 1)) (by omega), if_pos hj2]
        · rw [if_neg (c := 42 + 30 * f + T ≤ j ∧ j < 42 + 30 * f + T + (i + 1)) (by omega), if_neg hj2]
    · show bX9_read_127 627 (nI f) (nI T) rec (nI (T + i)) Gs = _
      unfold bX9_read_127
      rw [if_neg (by rw [nI_leI (by omega) (by omega)]; omega), nI_mulN, nI_add, nI_add, nI_ix (by omega) (by omega), nI_clamp (by omega), lt_def, nI_add]
  obtain ⟨⟨s1, G2⟩, ⟨h1, h2, h3, h4⟩, rec', hrec⟩ := itr_inv (F := FX9_read_127 627 (nI f) (nI T)) (fun i (s : Int32 × Mem) => s.1 = nI (T + i) ∧ MR (fun j => if 42 + 30 * f + T ≤ j ∧ j < 42 + 30 * f + T + i then 0 else midH S f T ch j) W Tx h n s.2 ∧ MB B s.2 ∧ FrM G s.2) (30 - T) step (nI T, G) ⟨rfl, hM.ext (fun j hj => if_neg (by omega)), hB, FrM.rf⟩ (by omega)
  simp only at h1 h2 h3 h4
  subst h1
  refine ⟨G2, rec', ?_, h2.ext (fun j hj => ?_), h3, h4⟩
  · rw [hrec, show T + (30 - T) = 30 by omega]
    rfl
  · unfold newH
    show _ = (if 42 + 30 * f + T ≤ j ∧ j < 42 + 30 * f + T + (30 - T) then 0 else midH S f T ch j)
    unfold midH
    repeat' split
    all_goals first
      | rfl
      | omega
theorem MR.txt0 (hM : MR S W Tx h n G) : MR S W Tx h 0 (mset G 627 6 (nI 0)) := ⟨hM.1, by omega, fun k hk => by rw [mset_ne (by omega)]; exact hM.2.2.1 k hk, fun k hk => by rw [mset_ne (by omega)]; exact hM.2.2.2.1 k hk, by rw [mset_at, if_neg (by omega)]; exact hM.2.2.2.2.1, by rw [mset_at, if_pos ⟨rfl, rfl⟩], fun j hj => by omega⟩
theorem Pr_cases : (∃ f, (Pr Tx n).1 = some f) ∨ (Pr Tx n).1 = none := by
  generalize (Pr Tx n).1 = z
  cases z with
  | none => exact Or.inr rfl
  | some f => exact Or.inl ⟨f, rfl⟩
theorem m_read (x1 : Int32) (hT : okT Tx n) (hM : MR S W Tx h n G) (hI : LI b S) : ∃ G' : Mem, fX9_read 627 x1 G = some (rdR x1 Tx n, G') ∧ MR (if okR x1 Tx n then rdS S (tn x1) Tx n else S) (if okR x1 Tx n then pushW W S h else W) Tx (if okR x1 Tx n then pushN h else h) (if okR x1 Tx n then 0 else n) G' ∧ FrM G G' := by
  unfold fX9_read rdR
  rw [isField_m, bd_some']
  by_cases h1 : inF x1
  · rw [if_pos h1, if_neg (by decide), if_pos h1]
    have hn := hM.2.1
    obtain ⟨d1, d2, d3, d4⟩ := prs_bd (Tx := Tx) hn 80 0 0 (fun _ => 0) (by omega) (fun c hc => absurd hc (by omega))
    obtain ⟨G1, e1, e2, e3⟩ := chains_m hT hM
    have hM1 := hM.fp e2
    rw [e1, bd_some']
    rcases Pr_cases (Tx := Tx) (n := n) with ⟨f, hp⟩ | hp
    · have hno : ¬ okR x1 Tx n := fun z => by have := hp.symm.trans z.2.1; cases this
      simp only [hp]
      rw [if_neg (by decide), e3 f hp, if_neg hno, if_neg hno, if_neg hno, if_neg hno]
      exact ⟨G1, rfl, hM1, e2.M⟩
    · have hT24 : (Pr Tx n).2.1 ≤ 2400 := by have := d1; show (prs Tx n 80 0 0 (fun _ => 0)).2.1 ≤ 2400; omega
      simp only [hp]
      rw [if_pos (by rw [nI_leI (by omega) (by omega)]; omega)]
      by_cases h30 : (Pr Tx n).2.1 ≤ 30
      · have hok : okR x1 Tx n := ⟨h1, hp, h30⟩
        rw [if_pos (by rw [nI_leI (by omega) (by omega)]; exact h30), if_pos h30, if_pos hok, if_pos hok, if_pos hok, if_pos hok]
        obtain ⟨f, rfl, l1⟩ : ∃ f, x1 = nI f ∧ f ≤ 5 := ⟨tn x1, nat_in (hi := 5) (show inW 0 5 x1 from h1)⟩
        rw [tn_nI (by omega)]
        obtain ⟨G2, a1, a2, a3, a4⟩ := keeps_m hM1
        have b1 := a2.set (k := 12 + f) (x := 0)
        have fp : FrP (mset G2 628 (12 + f) (nI 0)) (mset (mset G2 628 (12 + f) (nI 0)) 627 7 (nI 0)) := FrP.m (by omega) (by omega)
        have b2 := b1.fp fp
        have hn0 : 0 < n := by
          by_cases h0 : n = 0
          · exfalso
            subst h0
            have hpz : (Pr Tx 0).1 = some 0 := by
              show (prs Tx 0 80 0 0 _).1 = _
              unfold prs
              have hpt : pt Tx 0 0 = (false, 0, 0, 0, 0) := by
                unfold pt
                rw [chr_out (by omega)]
                rfl
              rw [hpt]
              rfl
            have := hpz.symm.trans hp
            cases this
          · omega
        obtain ⟨G3, c1, c2, c3, c4⟩ := put_all (f := f) (x2 := nI (Pr Tx n).2.1) (S := S) (B := S) hT (by omega) 80 FU 0 0 (fun _ => 0) _ (b2.ext (fun j hj => by
          unfold midH vs
          repeat' split
          all_goals first
            | rfl
            | omega)) (fp.B (a3.set (by omega))) mset_77 hn0 (by omega) (by decide) hp h30
        obtain ⟨G4, rec', g1, g2, g3, g4⟩ := clear_m (T := (Pr Tx n).2.1) c2 c3 (by omega) h30
        have hnl : newH S f (Pr Tx n).2.1 (Pr Tx n).2.2 (12 + f) = (Pr Tx n).2.1 := if_pos rfl
        obtain ⟨G5, k1, k2, k3, k4⟩ := ends_m (f := f) g2.txt0 (g3.set (by omega)) (by omega) (by rw [hnl]; exact h30) (fun c hc => by
          rw [hnl] at hc
          unfold newH
          rw [if_neg (by omega), if_pos (by omega), if_pos (by omega), show 42 + 30 * f + c - (42 + 30 * f) = c by omega]
          exact okc_lt (d4 c hc))
        obtain ⟨G6, m1, m2, m3⟩ := acted_m (r := (Pr Tx n).2.1) (by omega) k2 k3
        refine ⟨G6, ?_, m2, e2.M.tr (a4.tr ((FrM.m (by omega)).tr (fp.M.tr (c4.tr (g4.tr ((FrM.m (by omega)).tr (k4.tr m3)))))))⟩
        rw [a1, bv_some', nI_add, nI_ix (by omega) (by omega), nI_clamp (by omega), lt_def, lt_def, show (627 : Nat) + 1 = 628 from rfl, c1]
        rw [show (prs Tx n 80 0 0 (fun _ => 0)).2.1 = (Pr Tx n).2.1 from rfl, g1]
        unfold bX9_read_127
        rw [if_pos (by decide), lt_def, k1, bv_some', m1, bd_some']
      · have hno : ¬ okR x1 Tx n := fun z => h30 z.2.2
        rw [if_neg (by rw [nI_leI (by omega) (by omega)]; exact h30), if_neg h30, if_neg hno, if_neg hno, if_neg hno, if_neg hno]
        exact ⟨G1, rfl, hM1, e2.M⟩
  · have hno : ¬ okR x1 Tx n := fun z => h1 z.1
    rw [if_neg h1, if_pos rfl, if_neg h1, if_neg hno, if_neg hno, if_neg hno, if_neg hno]
    exact ⟨G, rfl, hM, FrM.rf⟩
end
