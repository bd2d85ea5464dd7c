/-! STATES AND THE HISTORY OF THE CLASS: a state is a row of 668 numbers: a land of 222, then twice 'filled' and a land of 222 -/
def SR (q : Nat) (S : Nat → Nat) (G : Mem) : Prop := LR (q + 1) S G ∧ ∀ j, j < 2 → G (q + 35) j = nI (S (222 + 223 * j)) ∧ (S (222 + 223 * j) = 1 → LR (q + 36 + 33 * j) (fun k => S (223 + 223 * j + k)) G)
def SI (b : Nat) (S : Nat → Nat) : Prop := LI b S ∧ ∀ j, j < 2 → S (222 + 223 * j) ≤ 1 ∧ (S (222 + 223 * j) = 1 → LI b (fun k => S (223 + 223 * j + k)))
def FrS (q : Nat) (G G' : Mem) : Prop := ∀ a, (a < q ∨ q + 101 < a) → G' a = G a
theorem SI.mono {b b' : Nat} {S : Nat → Nat} (h : SI b S) (hb : b ≤ b') : SI b' S := ⟨h.1.mono hb, fun j hj => ⟨(h.2 j hj).1, fun z => ((h.2 j hj).2 z).mono hb⟩⟩
theorem SR.cg {q : Nat} {S : Nat → Nat} {G G' : Mem} (h : SR q S G) (he : ∀ a, q ≤ a → a ≤ q + 101 → G' a = G a) : SR q S G' := by
  refine ⟨h.1.cg (fun a h1 h2 => he a (by omega) (by omega)), fun j hj => ⟨?_, fun z => ((h.2 j hj).2 z).cg (fun a h1 h2 => he a (by omega) (by omega))⟩⟩
  rw [he _ (by omega) (by omega)]
  exact (h.2 j hj).1
theorem nar_N {x : Nat} (h : x ≤ 1) : vp_nar .boolean (nI x) = nI x := by
  rcases (show x = 0 ∨ x = 1 by omega) with rfl | rfl <;> rfl
theorem LI.cgv {b : Nat} {v v' : Nat → Nat} (h : LI b v) (he : ∀ j, j < 222 → v' j = v j) : LI b v' := by
  refine ⟨?_, fun f hf => ?_⟩
  · rw [he 0 (by omega), he 1 (by omega), he 2 (by omega), he 3 (by omega), he 4 (by omega), he 5 (by omega), he 6 (by omega), he 7 (by omega), he 8 (by omega), he 9 (by omega), he 10 (by omega), he 11 (by omega)]
    exact h.1
  · rw [he (12 + f) (by omega), he (18 + 4 * f) (by omega), he (19 + 4 * f) (by omega), he (20 + 4 * f) (by omega), he (21 + 4 * f) (by omega)]
    refine ⟨(h.2 f hf).1, fun c hc => ?_, (h.2 f hf).2.2⟩
    have := (h.2 f hf).1.2
    rw [he _ (by omega)]
    exact (h.2 f hf).2.1 c hc
section
variable {p q : Nat} {S : Nat → Nat} {G G' : Mem}
theorem copyState_c {b q1 : Nat} (h : SR q1 S G) (hI : SI b S) (hpq : q + 101 < q1 ∨ q1 + 101 < q) : ∃ G', fX6_copyFrom q q1 G = some G' ∧ SR q S G' ∧ FrS q G G' := by
  unfold fX6_copyFrom
  obtain ⟨G1, a1, a2, a3⟩ := copyLand_c (p := q + 1) h.1 hI.1 (by omega)
  rw [a1, bv_some']
  have step : ∀ i (s : Int32 × Mem), i < 2 → (s.1 = nI i ∧ LR (q + 1) S s.2 ∧ (∀ j, j < i → s.2 (q + 35) j = nI (S (222 + 223 * j)) ∧ (S (222 + 223 * j) = 1 → LR (q + 36 + 33 * j) (fun k => S (223 + 223 * j + k)) s.2)) ∧ FrS q G s.2) → ∃ s' : Int32 × Mem, (s'.1 = nI (i + 1) ∧ LR (q + 1) S s'.2 ∧ (∀ j, j < i + 1 → s'.2 (q + 35) j = nI (S (222 + 223 * j)) ∧ (S (222 + 223 * j) = 1 → LR (q + 36 + 33 * j) (fun k => S (223 + 223 * j + k)) s'.2)) ∧ FrS q G s'.2) ∧ ∀ rec, FX6_copyFrom_13 q q1 rec s = rec s' := by
    intro i s hi hs
    obtain ⟨i', Gi⟩ := s
    obtain ⟨h1, h2, h3, h4⟩ := hs
    dsimp only at h1 h2 h3 h4
    subst h1
    have hq : SR q1 S Gi := h.cg (fun a ha ha2 => h4 a (by omega))
    obtain ⟨f1, f2⟩ := hq.2 i hi
    have hS := (hI.2 i hi).1
    have e1 : vp_nar .boolean (Gi (q1 + 35) i) = nI (S (222 + 223 * i)) := by rw [f1, nar_N hS]
    have hm : ∀ a, a ≠ q + 35 → mset Gi (q + 35) i (nI (S (222 + 223 * i))) a = Gi a := fun a ha => mset_ne ha
    have l2 : LR (q + 1) S (mset Gi (q + 35) i (nI (S (222 + 223 * i)))) := h2.cg (fun a h1 h2 => hm a (by omega))
    have l3 : ∀ j, j < i + 1 → mset Gi (q + 35) i (nI (S (222 + 223 * i))) (q + 35) j = nI (S (222 + 223 * j)) := fun j hj => by
      rw [mset_at]
      by_cases hji : j = i
      · subst hji; rw [if_pos ⟨rfl, rfl⟩]
      · rw [if_neg (fun z => hji z.2)]; exact (h3 j (by omega)).1
    have l4 : FrS q G (mset Gi (q + 35) i (nI (S (222 + 223 * i)))) := fun a ha => (hm a (by omega)).trans (h4 a ha)
    have lr : ∀ j, j < i → S (222 + 223 * j) = 1 → LR (q + 36 + 33 * j) (fun k => S (223 + 223 * j + k)) (mset Gi (q + 35) i (nI (S (222 + 223 * i)))) := fun j hj z => ((h3 j hj).2 z).cg (fun a h1 h2 => hm a (by omega))
    have fq : S (222 + 223 * i) = 1 → LR (q1 + 36 + 33 * i) (fun k => S (223 + 223 * i + k)) (mset Gi (q + 35) i (nI (S (222 + 223 * i)))) := fun z => (f2 z).cg (fun a h1 h2 => hm a (by omega))
    have hF : ∀ rec, FX6_copyFrom_13 q q1 rec (nI i, Gi) = (if nI (S (222 + 223 * i)) = nI 0 then rec (nI (i + 1), mset Gi (q + 35) i (nI (S (222 + 223 * i)))) else bv (fX4_copyFrom (q + 36 + 33 * i) (q1 + 36 + 33 * i) (mset Gi (q + 35) i (nI (S (222 + 223 * i))))) (fun G51 => rec (nI (i + 1), G51))) := fun rec => by
      show bX6_copyFrom_13 q q1 rec (nI i) Gi = _
      unfold bX6_copyFrom_13
      rw [if_neg (by rw [nI_leI (by omega) (by omega)]; omega), nI_ix (by omega) (by omega), nI_ix (by omega) (by omega), nI_clamp (by omega), e1, lt_def, nI_ix (by omega) (by omega), nI_ix (by omega) (by omega), nI_ix (by omega) (by omega), l3 i (by omega), nI_add]
    generalize mset Gi (q + 35) i (nI (S (222 + 223 * i))) = G2 at l2 l3 l4 lr fq hF
    by_cases h0 : S (222 + 223 * i) = 0
    · refine ⟨(nI (i + 1), G2), ⟨rfl, l2, fun j hj => ⟨l3 j hj, fun z => ?_⟩, l4⟩, fun rec => by rw [hF, if_pos (by rw [h0])]⟩
      by_cases hji : j = i
      · subst hji; omega
      · exact lr j (by omega) z
    · have h1 : S (222 + 223 * i) = 1 := by omega
      obtain ⟨G3, b1, b2, b3⟩ := copyLand_c (p := q + 36 + 33 * i) (fq h1) ((hI.2 i hi).2 h1) (by omega)
      refine ⟨(nI (i + 1), G3), ⟨rfl, l2.cg (fun a h1 h2 => b3 a (by omega)), fun j hj => ⟨?_, fun z => ?_⟩, fun a ha => (b3 a (by omega)).trans (l4 a ha)⟩, fun rec => by rw [hF, if_neg (by rw [h1]; decide), b1, bv_some']⟩
      · show G3 (q + 35) j = _
        rw [b3 _ (by omega)]; exact l3 j hj
      · by_cases hji : j = i
        · subst hji; exact b2
        · exact (lr j (by omega) z).cg (fun a h1 h2 => b3 a (by omega))
  obtain ⟨s', ⟨e1, e2, e3, e4⟩, r, e5⟩ := itr_inv (F := FX6_copyFrom_13 q q1) _ 2 step (nI 0, G1) ⟨rfl, a2, fun j hj => absurd hj (Nat.not_lt_zero j), fun a ha => a3 a (by omega)⟩ (by omega)
  obtain ⟨i', G6⟩ := s'
  dsimp only at e1 e2 e3 e4
  subst e1
  refine ⟨G6, ?_, ⟨e2, e3⟩, e4⟩
  rw [e5]
  show bX6_copyFrom_13 q q1 r (nI 2) G6 = _
  unfold bX6_copyFrom_13
  rw [if_pos (by rw [nI_leI (by omega) (by omega)]; omega)]
/-- a snapshot is taken -/
def takeS (S : Nat → Nat) (j : Nat) : Nat → Nat := fun k => if k = 222 + 223 * j then 1 else if 223 + 223 * j ≤ k ∧ k < 445 + 223 * j then S (k - (223 + 223 * j)) else S k
theorem takeS_lo {j k : Nat} (h : k < 222) : takeS S j k = S k := by unfold takeS; rw [if_neg (by omega), if_neg (by omega)]
theorem fillSlot_c {b j : Nat} (h : SR q S G) (hI : SI b S) (hj : j < 2) : ∃ G', fX6_fillSlot q (nI j) G = some G' ∧ SR q (takeS S j) G' ∧ FrS q G G' := by
  unfold fX6_fillSlot
  obtain ⟨G1, a1, a2, a3⟩ := copyLand_c (p := q + 36 + 33 * j) h.1 hI.1 (by omega)
  have hl30 : ∀ f, f < 6 → S (12 + f) ≤ 30 := fun f hf => (hI.1.len hf).2
  rw [nI_ix (by omega) (by omega), nI_clamp (by omega), a1, bv_some', nI_ix (by omega) (by omega), lt_def, nar_N (by omega)]
  have hm : ∀ a, a ≠ q + 35 → mset G1 (q + 35) j (nI 1) a = G1 a := fun a ha => mset_ne ha
  refine ⟨_, rfl, ⟨?_, fun i hi => ⟨?_, fun z => ?_⟩⟩, fun a ha => (hm a (by omega)).trans (a3 a (by omega))⟩
  · exact ((h.1.cg (fun a h1 h2 => a3 a (by omega))).cg (fun a h1 h2 => hm a (by omega))).ext (fun k hk => takeS_lo hk) (fun f hf => hl30 f hf)
  · rw [mset_at]
    by_cases hij : i = j
    · subst hij
      rw [if_pos ⟨rfl, rfl⟩]
      unfold takeS
      rw [if_pos rfl]
    · rw [if_neg (fun z => hij z.2), a3 _ (by omega), (h.2 i hi).1]
      unfold takeS
      rw [if_neg (by omega), if_neg (by omega)]
  · by_cases hij : i = j
    · subst hij
      exact (a2.cg (fun a h1 h2 => hm a (by omega))).ext (fun k hk => by unfold takeS; rw [if_neg (by omega), if_pos (by omega)]; congr 1; omega) (fun f hf => hl30 f hf)
    · have z0 : S (222 + 223 * i) = 1 := by
        unfold takeS at z
        rwa [if_neg (by omega), if_neg (by omega)] at z
      have hz := (hI.2 i hi).2 z0
      exact ((((h.2 i hi).2 z0).cg (fun a h1 h2 => a3 a (by omega))).cg (fun a h1 h2 => hm a (by omega))).ext (fun k hk => by unfold takeS; rw [if_neg (by omega), if_neg (by omega)]) (fun f hf => (hz.len hf).2)
theorem snaps_c {b : Nat} (h : SR q S G) (hI : SI b S) : fX6_numberOfSnapshots q G = some (nI (S 222 + S 445), G) := by
  unfold fX6_numberOfSnapshots
  have e : S 222 + S 445 = sumF (fun j => S (222 + 223 * j)) 2 := by show _ = 0 + S 222 + S 445; rw [Nat.zero_add]
  rw [e]
  refine itr_run (fun i : Nat => (nI (sumF (fun j => S (222 + 223 * j)) i), nI i, G)) 2 (fun i hi rec => ?_) (by omega) (fun rec => ?_)
  · show bX6_numberOfSnapshots_4 q rec (nI _) (nI i) G = rec (nI (sumF (fun j => S (222 + 223 * j)) i + S (222 + 223 * i)), nI (i + 1), G)
    unfold bX6_numberOfSnapshots_4
    have hS := (hI.2 i hi).1
    rw [if_neg (by rw [nI_leI (by omega) (by omega)]; omega), nI_ix (by omega) (by omega), nI_clamp (by omega), (h.2 i hi).1, nI_add, nI_add]
    by_cases h0 : S (222 + 223 * i) = 0
    · rw [if_pos (by rw [h0]), h0]; rfl
    · rw [if_neg (by rw [nI_eq (by omega) (by omega)]; exact h0), show S (222 + 223 * i) = 1 by omega]
  · show bX6_numberOfSnapshots_4 q rec _ (nI 2) G = _
    unfold bX6_numberOfSnapshots_4
    rw [if_pos (by rw [nI_leI (by omega) (by omega)]; omega)]
/-- the history: its oldest state first; W holds them one behind another -/
def st (W : Nat → Nat) (i : Nat) : Nat → Nat := fun k => W (668 * i + k)
def pushW (W S : Nat → Nat) (h : Nat) : Nat → Nat := if h = 5 then fun k => if k < 2672 then W (k + 668) else if k < 3340 then S (k - 2672) else W k else fun k => if 668 * h ≤ k ∧ k < 668 * (h + 1) then S (k - 668 * h) else W k
def pushN (h : Nat) : Nat := if h = 5 then 5 else h + 1
def HC (nx h : Nat) (W : Nat → Nat) (G : Mem) : Prop := nx < 5 ∧ h ≤ 5 ∧ G 103 1 = nI nx ∧ G 103 2 = nI h ∧ ∀ i, i < h → SR (105 + 102 * ((nx + 5 - h + i) % 5)) (st W i) G
theorem SR.ext {S' : Nat → Nat} {b : Nat} (h : SR q S G) (hI : SI b S) (he : ∀ k, k < 668 → S' k = S k) : SR q S' G := by
  refine ⟨h.1.ext (fun j hj => he j (by omega)) (fun f hf => (hI.1.len hf).2), fun j hj => ⟨?_, fun z => ?_⟩⟩
  · rw [he _ (by omega)]; exact (h.2 j hj).1
  · rw [he _ (by omega)] at z
    exact ((h.2 j hj).2 z).ext (fun k hk => he _ (by omega)) (fun f hf => (((hI.2 j hj).2 z).len hf).2)
theorem st_new {W : Nat → Nat} {h k : Nat} (hk : k < 668) : st (pushW W S h) (pushN h - 1) k = S k := by
  unfold st pushW pushN
  by_cases h0 : h = 5
  · rw [if_pos h0, if_pos h0]
    show (if 668 * 4 + k < 2672 then _ else _) = _
    rw [if_neg (by omega), if_pos (by omega)]
    exact congrArg S (by omega)
  · rw [if_neg h0, if_neg h0]
    show (if 668 * h ≤ 668 * (h + 1 - 1) + k ∧ 668 * (h + 1 - 1) + k < 668 * (h + 1) then _ else _) = _
    rw [if_pos (by omega)]
    exact congrArg S (by omega)
theorem st_5 {W : Nat → Nat} {i k : Nat} (hk : k < 668) (hi : i < 4) : st (pushW W S 5) i k = st W (i + 1) k := by
  unfold st pushW
  rw [if_pos rfl]
  show (if 668 * i + k < 2672 then _ else _) = _
  rw [if_pos (by omega)]
  exact congrArg W (by omega)
theorem st_old {W : Nat → Nat} {h i k : Nat} (h0 : h ≠ 5) (hk : k < 668) (hi : i < h) : st (pushW W S h) i k = st W i k := by
  unfold st pushW
  rw [if_neg h0]
  show (if 668 * h ≤ 668 * i + k ∧ 668 * i + k < 668 * (h + 1) then _ else _) = _
  rw [if_neg (by omega)]
theorem keep_c {b nx h : Nat} {W : Nat → Nat} (hS : SR 1 S G) (hI : SI b S) (hH : HC nx h W G) (hHI : ∀ i, i < h → SI b (st W i)) : ∃ G', fX3_keep 103 1 G = some G' ∧ SR 1 S G' ∧ HC ((nx + 1) % 5) (pushN h) (pushW W S h) G' ∧ (∀ a, (a < 103 ∨ 614 < a) → G' a = G a) := by
  obtain ⟨n5, h5, e1, e2, e3⟩ := hH
  unfold fX3_keep
  obtain ⟨G1, a1, a2, a3⟩ := copyState_c (q := 105 + 102 * nx) hS hI (by omega)
  rw [e1, nI_ix (by omega) (by omega), nI_clamp (by omega), show 103 + 2 + 102 * nx = 105 + 102 * nx by omega, a1, bv_some', lt_def, lt_def, a3 103 (by omega), e1, nI_add, nI_rem (by omega) (by omega) (by omega)]
  have e4 : mset G1 103 1 (nI ((nx + 1) % 5)) 103 2 = nI h := by rw [mset_at, if_neg (by omega), a3 103 (by omega), e2]
  have e5 : (if nI 5 < nI h + nI 1 then nI 5 else nI h + nI 1) = nI (pushN h) := by
    rw [nI_add]
    unfold pushN
    by_cases h0 : h = 5
    · rw [if_pos (by rw [nI_ltI (by omega) (by omega)]; omega), if_pos h0]
    · rw [if_neg (by rw [nI_ltI (by omega) (by omega)]; omega), if_neg h0]
  rw [e4, e5]
  have hm : ∀ a, a ≠ 103 → mset (mset G1 103 1 (nI ((nx + 1) % 5))) 103 2 (nI (pushN h)) a = G1 a := fun a ha => by rw [mset_ne ha, mset_ne ha]
  refine ⟨_, rfl, hS.cg (fun a h1 h2 => by rw [hm a (by omega), a3 a (by omega)]), ⟨by omega, by unfold pushN; split <;> omega, ?_, ?_, fun i hi => ?_⟩, fun a ha => by rw [hm a (by omega), a3 a (by omega)]⟩
  · rw [mset_at, if_neg (by omega), mset_at, if_pos ⟨rfl, rfl⟩]
  · rw [mset_at, if_pos ⟨rfl, rfl⟩]
  · by_cases h0 : h = 5
    · have hp : pushN h = 5 := by unfold pushN; rw [if_pos h0]
      rw [hp] at hi
      by_cases hi4 : i = 4
      · subst hi4
        rw [show ((nx + 1) % 5 + 5 - pushN h + 4) % 5 = nx by rw [hp]; omega]
        exact SR.ext (S := S) (a2.cg (fun a h1 h2 => hm a (by omega))) hI (fun k hk => by have := st_new (S := S) (W := W) (h := h) hk; rwa [hp] at this)
      · have hz := e3 (i + 1) (by omega)
        rw [show (nx + 5 - h + (i + 1)) % 5 = ((nx + 1) % 5 + 5 - pushN h + i) % 5 by rw [hp]; omega] at hz
        subst h0
        exact SR.ext (S := st W (i + 1)) ((hz.cg (fun a h1 h2 => a3 a (by omega))).cg (fun a h1 h2 => hm a (by omega))) (hHI (i + 1) (by omega)) (fun k hk => st_5 hk (by omega))
    · have hp : pushN h = h + 1 := by unfold pushN; rw [if_neg h0]
      rw [hp] at hi
      by_cases hih : i = h
      · rw [show ((nx + 1) % 5 + 5 - pushN h + i) % 5 = nx by rw [hp]; omega]
        exact SR.ext (S := S) (a2.cg (fun a h1 h2 => hm a (by omega))) hI (fun k hk => by have := st_new (S := S) (W := W) (h := h) hk; rw [hp, Nat.add_sub_cancel] at this; rw [hih]; exact this)
      · have hz := e3 i (by omega)
        rw [show (nx + 5 - h + i) % 5 = ((nx + 1) % 5 + 5 - pushN h + i) % 5 by rw [hp]; omega] at hz
        exact SR.ext (S := st W i) ((hz.cg (fun a h1 h2 => a3 a (by omega))).cg (fun a h1 h2 => hm a (by omega))) (hHI i (by omega)) (fun k hk => st_old h0 hk (by omega))
theorem back_c {b nx h : Nat} {W : Nat → Nat} (hH : HC nx h W G) (hHI : ∀ i, i < h → SI b (st W i)) (h0 : 0 < h) : ∃ G', fX3_bringBack 103 1 G = some G' ∧ SR 1 (st W (h - 1)) G' ∧ HC ((nx + 4) % 5) (h - 1) W G' ∧ (∀ a, (a < 1 ∨ 103 < a) → G' a = G a) := by
  obtain ⟨n5, h5, e1, e2, e3⟩ := hH
  unfold fX3_bringBack
  have c1 : nI nx + nI 5 - nI 1 = nI (nx + 4) := by rw [nI_add, pk_sub (by omega)]; exact congrArg nI (by omega)
  rw [if_neg (by rw [e2, nI_leI (by omega) (by omega)]; omega), lt_def, lt_def, e1, c1, nI_rem (by omega) (by omega) (by omega)]
  have e4 : mset G 103 1 (nI ((nx + 4) % 5)) 103 2 = nI h := by rw [mset_at, if_neg (by omega), e2]
  have hm : ∀ a, a ≠ 103 → mset (mset G 103 1 (nI ((nx + 4) % 5))) 103 2 (nI (h - 1)) a = G a := fun a ha => by rw [mset_ne ha, mset_ne ha]
  have e6 : mset (mset G 103 1 (nI ((nx + 4) % 5))) 103 2 (nI (h - 1)) 103 1 = nI ((nx + 4) % 5) := by rw [mset_at, if_neg (by omega), mset_at, if_pos ⟨rfl, rfl⟩]
  have e7 : mset (mset G 103 1 (nI ((nx + 4) % 5))) 103 2 (nI (h - 1)) 103 2 = nI (h - 1) := by rw [mset_at, if_pos ⟨rfl, rfl⟩]
  rw [e4, pk_sub h0]
  generalize mset (mset G 103 1 (nI ((nx + 4) % 5))) 103 2 (nI (h - 1)) = G2 at hm e6 e7 ⊢
  have hz := e3 (h - 1) (by omega)
  rw [show (nx + 5 - h + (h - 1)) % 5 = (nx + 4) % 5 by omega] at hz
  obtain ⟨G3, a1, a2, a3⟩ := copyState_c (q := 1) (hz.cg (fun a h1 h2 => hm a (by omega))) (hHI (h - 1) (by omega)) (by omega)
  rw [e6, nI_ix (by omega) (by omega), nI_clamp (by omega), show 103 + 2 + 102 * ((nx + 4) % 5) = 105 + 102 * ((nx + 4) % 5) by omega, a1, bv_some']
  refine ⟨G3, rfl, a2, ⟨by omega, by omega, by rw [a3 103 (by omega), e6], by rw [a3 103 (by omega), e7], fun i hi => ?_⟩, fun a ha => by rw [a3 a (by omega), hm a (by omega)]⟩
  have hy := e3 i (by omega)
  rw [show (nx + 5 - h + i) % 5 = ((nx + 4) % 5 + 5 - (h - 1) + i) % 5 by omega] at hy
  exact (hy.cg (fun a h1 h2 => hm a (by omega))).cg (fun a h1 h2 => a3 a (by omega))
end
