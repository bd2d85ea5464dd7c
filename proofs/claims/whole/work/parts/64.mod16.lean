/-! the reference reads a text -/
def FrP (G G' : Mem) : Prop := (∀ q, q ≠ 627 → G' q = G q) ∧ ∀ j, (j < 7 ∨ 10 < j) → G' 627 j = G 627 j
theorem FrP.rf {G : Mem} : FrP G G := ⟨fun _ _ => rfl, fun _ _ => rfl⟩
theorem FrP.tr {G G1 G2 : Mem} (h1 : FrP G G1) (h2 : FrP G1 G2) : FrP G G2 := ⟨fun q hq => (h2.1 q hq).trans (h1.1 q hq), fun j hj => (h2.2 j hj).trans (h1.2 j hj)⟩
theorem FrP.m {G : Mem} {j : Nat} {x : Int32} (h1 : 7 ≤ j) (h2 : j ≤ 10) : FrP G (mset G 627 j x) := ⟨fun q hq => mset_ne hq, fun i hi => by rw [mset_at, if_neg (by omega)]⟩
theorem FrP.M {G G' : Mem} (hf : FrP G G') : FrM G G' := fun a ha => hf.1 a (by omega)
theorem FrP.B {B : Nat → Nat} {G G' : Mem} (hf : FrP G G') (hB : MB B G) : MB B G' := fun k hk => by rw [hf.1 630 (by omega)]; exact hB k hk
theorem MR.fp {S W Tx : Nat → Nat} {h n : Nat} {G G' : Mem} (hM : MR S W Tx h n G) (hf : FrP G G') : MR S W Tx h n G' := ⟨hM.1, hM.2.1, fun k hk => by rw [hf.1 628 (by omega)]; exact hM.2.2.1 k hk, fun k hk => by rw [hf.1 629 (by omega)]; exact hM.2.2.2.1 k hk, by rw [hf.2 4 (by omega)]; exact hM.2.2.2.2.1, by rw [hf.2 6 (by omega)]; exact hM.2.2.2.2.2.1, fun j hj => by rw [hf.1 632 (by omega)]; exact hM.2.2.2.2.2.2 j hj⟩
def sg (Tx : Nat → Nat) (n a : Nat) : Int32 := if a < n then nI (Tx a) else -1
def okT (Tx : Nat → Nat) (n : Nat) : Prop := ∀ j, j < n → 1 ≤ Tx j ∧ Tx j ≤ 255
section
variable {G G' : Mem} {S S' W Tx B v : Nat → Nat} {h n b : Nat}
theorem sg_chr {a : Nat} (h : 1 ≤ chr Tx n a) : sg Tx n a = nI (chr Tx n a) ∧ a < n := by
  unfold chr at h ⊢
  unfold sg
  by_cases ha : a < n
  · rw [if_pos ha, if_pos ha]; exact ⟨rfl, ha⟩
  · rw [if_neg ha] at h; omega
theorem chr_out {a : Nat} (h : ¬ a < n) : chr Tx n a = 0 := if_neg h
theorem chr_T (hT : okT Tx n) (a : Nat) : chr Tx n a ≤ 255 := by
  unfold chr
  split
  · rename_i h; exact (hT a h).2
  · omega
theorem sg_eq {a c : Nat} (hT : okT Tx n) (h1 : 1 ≤ c) (h2 : c < 2 ^ 31) : sg Tx n a = nI c ↔ chr Tx n a = c := by
  unfold sg chr
  by_cases ha : a < n
  · have := hT a ha
    rw [if_pos ha, if_pos ha, nI_eq (by omega) h2]
  · rw [if_neg ha, if_neg ha]
    constructor
    · intro z
      have := congrArg Int32.toInt z
      rw [nI_toInt h2] at this
      have h0 : (-1 : Int32).toInt = -1 := by decide
      omega
    · intro z; omega
theorem sign_m {a : Nat} (hM : MR S W Tx h n G) (ha : a < 1000) (h7 : G 627 7 = nI a) : fX9_sign 627 G = some (sg Tx n a, G) := by
  unfold fX9_sign sg
  have hn := hM.2.1
  rw [h7, hM.2.2.2.2.2.1]
  by_cases hc : a < n
  · rw [if_neg (by rw [nI_leI (by omega) (by omega)]; omega), if_pos hc, nI_ix (by omega) (by omega), nI_clamp (by omega), show (627 : Nat) + 5 = 632 from rfl, hM.2.2.2.2.2.2 a hc]
  · rw [if_pos (by rw [nI_leI (by omega) (by omega)]; omega), if_neg hc]
theorem inS_m {a lo hi : Nat} (hT : okT Tx n) (h1 : 1 ≤ lo) (h2 : lo < 2 ^ 31) (h3 : hi < 2 ^ 31) : fX9_in (sg Tx n a) (nI lo) (nI hi) G = some (if lo ≤ chr Tx n a ∧ chr Tx n a ≤ hi then nI 1 else nI 0, G) := by
  rw [in_m h2 h3]
  have e : inW lo hi (sg Tx n a) ↔ lo ≤ chr Tx n a ∧ chr Tx n a ≤ hi := by
    unfold sg chr inW
    by_cases ha : a < n
    · have := hT a ha
      rw [if_pos ha, if_pos ha, nI_toInt (by omega)]
      omega
    · rw [if_neg ha, if_neg ha]
      have h0 : (-1 : Int32).toInt = -1 := by decide
      omega
  by_cases hc : lo ≤ chr Tx n a ∧ chr Tx n a ≤ hi
  · rw [if_pos hc, if_pos (e.mpr hc)]
  · rw [if_neg hc, if_neg (fun z => hc (e.mp z))]
theorem mset_77 {j : Nat} {x : Int32} : mset G 627 j x 627 j = x := by rw [mset_at, if_pos ⟨rfl, rfl⟩]
theorem mset_7n {i j : Nat} {x : Int32} (hij : i ≠ j) : mset G 627 j x 627 i = G 627 i := by rw [mset_at, if_neg (fun z => hij z.2)]
theorem nm_m (hT : okT Tx n) : ∀ (k m a x : Nat) (G : Mem), MR S W Tx h n G → G 627 7 = nI a → G 627 10 = nI x → k = n - a → a ≤ 100 → x ≤ 30 → k < m → ∃ G', itr m (FX9_readsPart_182 627) G = some (if (nmL Tx n k a x).1 = true then nI 1 else nI 0, G') ∧ FrP G G' ∧ G' 627 7 = nI (nmL Tx n k a x).2.1 ∧ G' 627 10 = nI (nmL Tx n k a x).2.2 ∧ G' 627 8 = G 627 8 ∧ G' 627 9 = G 627 9 := by
  intro k
  induction k with
  | zero =>
    intro m a x G hM h7 h10 hk ha hx hm
    obtain ⟨m, rfl⟩ : ∃ q, m = q + 1 := ⟨m - 1, by omega⟩
    rw [itr_S]
    refine ⟨G, ?_, FrP.rf, h7, h10, rfl, rfl⟩
    show bX9_readsPart_182 627 _ G = _
    unfold bX9_readsPart_182
    have hno : ¬ (48 ≤ chr Tx n a ∧ chr Tx n a ≤ 57) := by rw [chr_out (by omega)]; omega
    rw [sign_m hM (by omega) h7, bd_some', inS_m hT (by omega) (by omega) (by omega), bd_some', if_neg hno, if_pos rfl]
    rfl
  | succ k ih =>
    intro m a x G hM h7 h10 hk ha hx hm
    obtain ⟨m, rfl⟩ : ∃ q, m = q + 1 := ⟨m - 1, by omega⟩
    rw [itr_S]
    show ∃ G', bX9_readsPart_182 627 _ G = _ ∧ _
    unfold bX9_readsPart_182 nmL
    have hn80 := hM.2.1
    rw [sign_m hM (by omega) h7, bd_some', inS_m hT (by omega) (by omega) (by omega), bd_some']
    by_cases hc : 48 ≤ chr Tx n a ∧ chr Tx n a ≤ 57
    · obtain ⟨e, han⟩ := sg_chr (show 1 ≤ chr Tx n a by omega)
      rw [if_pos hc, if_neg (by decide), sign_m hM (by omega) h7, bd_some', if_pos hc, h10, e, nI_mulN, nI_add, pk_sub (by omega), show 10 * x + chr Tx n a - 48 = 10 * x + (chr Tx n a - 48) by omega]
      by_cases h30 : 10 * x + (chr Tx n a - 48) ≤ 30
      · rw [if_pos (by rw [nI_leI (by omega) (by omega)]; exact h30), if_pos h30, sign_m hM (by omega) h7, bd_some', e, nI_add, pk_sub (by omega), show 10 * x + chr Tx n a - 48 = 10 * x + (chr Tx n a - 48) by omega, lt_def, lt_def, mset_7n (by omega), h7, nI_add]
        have fp : FrP G (mset (mset G 627 10 (nI (10 * x + (chr Tx n a - 48)))) 627 7 (nI (a + 1))) := (FrP.m (by omega) (by omega)).tr (FrP.m (by omega) (by omega))
        obtain ⟨G2, d1, d2, d3, d4, d5, d6⟩ := ih m (a + 1) (10 * x + (chr Tx n a - 48)) _ (hM.fp fp) mset_77 (by rw [mset_7n (by omega), mset_77]) (by omega) (by omega) h30 (by omega)
        refine ⟨G2, d1, fp.tr d2, d3, d4, ?_, ?_⟩
        · rw [d5, mset_7n (by omega), mset_7n (by omega)]
        · rw [d6, mset_7n (by omega), mset_7n (by omega)]
      · rw [if_neg (by rw [nI_leI (by omega) (by omega)]; exact h30), if_neg h30]
        exact ⟨G, rfl, FrP.rf, h7, h10, rfl, rfl⟩
    · rw [if_neg hc, if_pos rfl, if_neg hc]
      exact ⟨G, rfl, FrP.rf, h7, h10, rfl, rfl⟩
theorem star_m {a k t : Nat} (hT : okT Tx n) (hM : MR S W Tx h n G) (h7 : G 627 7 = nI a) (h8 : G 627 8 = nI k) (h9 : G 627 9 = nI t) (h10 : G 627 10 = nI 1) (ha : a ≤ 85) : ∃ G', jX9_readsPart_124 627 G = some (if (ptR Tx n k t a).1 = true then nI 1 else nI 0, G') ∧ FrP G G' ∧ G' 627 7 = nI (ptR Tx n k t a).2.1 ∧ ((ptR Tx n k t a).1 = true → G' 627 8 = nI k ∧ G' 627 9 = nI t ∧ G' 627 10 = nI (ptR Tx n k t a).2.2.2.2) := by
  unfold jX9_readsPart_124 ptR
  have hn := hM.2.1
  rw [sign_m hM (by omega) h7, bd_some']
  by_cases h42 : chr Tx n a = 42
  · rw [if_pos ((sg_eq hT (by omega) (by omega)).mpr h42), if_pos h42, lt_def, h7, nI_add]
    have fp : FrP G (mset G 627 7 (nI (a + 1))) := FrP.m (by omega) (by omega)
    have hM1 := hM.fp fp
    rw [sign_m hM1 (a := a + 1) (by omega) mset_77, bd_some', inS_m hT (by omega) (by omega) (by omega), bd_some']
    by_cases hc : 49 ≤ chr Tx n (a + 1) ∧ chr Tx n (a + 1) ≤ 57
    · obtain ⟨e, han⟩ := sg_chr (show 1 ≤ chr Tx n (a + 1) by omega)
      rw [if_pos hc, if_neg (by decide), sign_m hM1 (a := a + 1) (by omega) mset_77, bd_some', if_pos hc, e, pk_sub (by omega), lt_def, lt_def, mset_7n (by omega), mset_77, nI_add]
      have fp2 : FrP G (mset (mset (mset G 627 7 (nI (a + 1))) 627 10 (nI (chr Tx n (a + 1) - 48))) 627 7 (nI (a + 1 + 1))) := (fp.tr (FrP.m (by omega) (by omega))).tr (FrP.m (by omega) (by omega))
      obtain ⟨G2, d1, d2, d3, d4, d5, d6⟩ := nm_m hT (n - (a + 2)) FU (a + 2) (chr Tx n (a + 1) - 48) _ (hM.fp fp2) mset_77 (by rw [mset_7n (by omega), mset_77]) (by omega) (by omega) (by omega) (by show _ < 10000; omega)
      refine ⟨G2, d1, fp2.tr d2, d3, fun _ => ⟨?_, ?_, d4⟩⟩
      · rw [d5, mset_7n (by omega), mset_7n (by omega), mset_7n (by omega), h8]
      · rw [d6, mset_7n (by omega), mset_7n (by omega), mset_7n (by omega), h9]
    · rw [if_neg hc, if_pos rfl, if_neg hc]
      exact ⟨_, rfl, fp, mset_77, fun z => by cases z⟩
  · rw [if_neg (fun z => h42 ((sg_eq hT (by omega) (by omega)).mp z)), if_neg h42]
    exact ⟨G, rfl, FrP.rf, h7, fun _ => ⟨h8, h9, h10⟩⟩
theorem p47_m {a k : Nat} (hT : okT Tx n) (hM : MR S W Tx h n G) (h7 : G 627 7 = nI a) (ha : a ≤ 80) (hk : k < 4) (hkf : kf (chr Tx n a) = some k) : ∃ G', jX9_readsPart_47 627 (nI k) 627 G = some (if (pt Tx n a).1 = true then nI 1 else nI 0, G') ∧ FrP G G' ∧ G' 627 7 = nI (pt Tx n a).2.1 ∧ ((pt Tx n a).1 = true → G' 627 8 = nI (pt Tx n a).2.2.1 ∧ G' 627 9 = nI (pt Tx n a).2.2.2.1 ∧ G' 627 10 = nI (pt Tx n a).2.2.2.2) := by
  have hpt : pt Tx n a = if k < 2 then (if 49 ≤ chr Tx n (a + 1) ∧ chr Tx n (a + 1) ≤ 57 then ptR Tx n k (chr Tx n (a + 1) - 48) (a + 2) else (false, a + 1, k, 0, 0)) else ptR Tx n k 0 (a + 1) := by
    unfold pt
    rw [hkf]
  rw [hpt]
  unfold jX9_readsPart_47
  have fp : FrP G (mset (mset (mset (mset G 627 8 (nI k)) 627 9 (nI 0)) 627 10 (nI 1)) 627 7 (nI (a + 1))) := (((FrP.m (by omega) (by omega)).tr (FrP.m (by omega) (by omega))).tr (FrP.m (by omega) (by omega))).tr (FrP.m (by omega) (by omega))
  have e8 : mset (mset (mset G 627 8 (nI k)) 627 9 (nI 0)) 627 10 (nI 1) 627 8 = nI k := by rw [mset_7n (by omega), mset_7n (by omega), mset_77]
  have e7 : mset (mset (mset G 627 8 (nI k)) 627 9 (nI 0)) 627 10 (nI 1) 627 7 = nI a := by rw [mset_7n (by omega), mset_7n (by omega), mset_7n (by omega), h7]
  have e9 : mset (mset (mset G 627 8 (nI k)) 627 9 (nI 0)) 627 10 (nI 1) 627 9 = nI 0 := by rw [mset_7n (by omega), mset_77]
  have e10 : mset (mset (mset G 627 8 (nI k)) 627 9 (nI 0)) 627 10 (nI 1) 627 10 = nI 1 := mset_77
  rw [lt_def, lt_def, lt_def, e8, if_pos (by rw [nI_leI (by omega) (by omega)]; omega), lt_def, e7, nI_add]
  generalize mset (mset (mset G 627 8 (nI k)) 627 9 (nI 0)) 627 10 (nI 1) = G1 at *
  have hM1 := hM.fp fp
  have s8 : mset G1 627 7 (nI (a + 1)) 627 8 = nI k := by rw [mset_7n (by omega), e8]
  have s9 : mset G1 627 7 (nI (a + 1)) 627 9 = nI 0 := by rw [mset_7n (by omega), e9]
  have s10 : mset G1 627 7 (nI (a + 1)) 627 10 = nI 1 := by rw [mset_7n (by omega), e10]
  rw [s8]
  by_cases hk2 : k < 2
  · rw [if_neg (by rw [nI_leI (by omega) (by omega)]; omega), if_pos hk2, sign_m hM1 (a := a + 1) (by omega) mset_77, bd_some', inS_m hT (by omega) (by omega) (by omega), bd_some']
    by_cases hc : 49 ≤ chr Tx n (a + 1) ∧ chr Tx n (a + 1) ≤ 57
    · obtain ⟨e, han⟩ := sg_chr (show 1 ≤ chr Tx n (a + 1) by omega)
      have fp2 : FrP G (mset (mset (mset G1 627 7 (nI (a + 1))) 627 9 (nI (chr Tx n (a + 1) - 48))) 627 7 (nI (a + 2))) := (fp.tr (FrP.m (by omega) (by omega))).tr (FrP.m (by omega) (by omega))
      rw [if_pos hc, if_neg (by decide), sign_m hM1 (a := a + 1) (by omega) mset_77, bd_some', if_pos hc, e, pk_sub (by omega), lt_def, lt_def, mset_7n (by omega), mset_77, nI_add]
      obtain ⟨G2, d1, d2, d3, d4⟩ := star_m (a := a + 2) (k := k) (t := chr Tx n (a + 1) - 48) hT (hM.fp fp2) mset_77 (by rw [mset_7n (by omega), mset_7n (by omega), s8]) (by rw [mset_7n (by omega), mset_77]) (by rw [mset_7n (by omega), mset_7n (by omega), s10]) (by omega)
      refine ⟨G2, d1, fp2.tr d2, d3, fun z => ?_⟩
      obtain ⟨p1, p2, p3, p4⟩ := ptR_ok z
      rw [p2, p3]
      exact d4 z
    · rw [if_neg hc, if_pos rfl, if_neg hc]
      exact ⟨_, rfl, fp, mset_77, fun z => by cases z⟩
  · rw [if_pos (by rw [nI_leI (by omega) (by omega)]; omega), if_neg hk2]
    obtain ⟨G2, d1, d2, d3, d4⟩ := star_m (a := a + 1) (k := k) (t := 0) hT hM1 mset_77 s8 s9 s10 (by omega)
    refine ⟨G2, d1, fp.tr d2, d3, fun z => ?_⟩
    obtain ⟨p1, p2, p3, p4⟩ := ptR_ok z
    rw [p2, p3]
    exact d4 z
theorem part_m {a : Nat} (hT : okT Tx n) (hM : MR S W Tx h n G) (h7 : G 627 7 = nI a) (ha : a ≤ 80) : ∃ G', fX9_readsPart 627 G = some (if (pt Tx n a).1 = true then nI 1 else nI 0, G') ∧ FrP G G' ∧ G' 627 7 = nI (pt Tx n a).2.1 ∧ ((pt Tx n a).1 = true → G' 627 8 = nI (pt Tx n a).2.2.1 ∧ G' 627 9 = nI (pt Tx n a).2.2.2.1 ∧ G' 627 10 = nI (pt Tx n a).2.2.2.2) := by
  unfold fX9_readsPart
  have e : ∀ c, 1 ≤ c → c < 200 → (sg Tx n a = nI c ↔ chr Tx n a = c) := fun c h1 h2 => sg_eq hT h1 (by omega)
  rw [sign_m hM (by omega) h7, bd_some']
  by_cases c1 : chr Tx n a = 116
  · rw [if_pos ((e 116 (by omega) (by omega)).mpr c1)]
    exact p47_m hT hM h7 ha (by omega) (by rw [c1]; rfl)
  rw [if_neg (fun z => c1 ((e 116 (by omega) (by omega)).mp z))]
  by_cases c2 : chr Tx n a = 108
  · rw [if_pos ((e 108 (by omega) (by omega)).mpr c2)]
    exact p47_m hT hM h7 ha (by omega) (by rw [c2]; rfl)
  rw [if_neg (fun z => c2 ((e 108 (by omega) (by omega)).mp z))]
  by_cases c3 : chr Tx n a = 103
  · rw [if_pos ((e 103 (by omega) (by omega)).mpr c3)]
    exact p47_m hT hM h7 ha (by omega) (by rw [c3]; rfl)
  rw [if_neg (fun z => c3 ((e 103 (by omega) (by omega)).mp z))]
  by_cases c4 : chr Tx n a = 112
  · rw [if_pos ((e 112 (by omega) (by omega)).mpr c4)]
    exact p47_m hT hM h7 ha (by omega) (by rw [c4]; rfl)
  rw [if_neg (fun z => c4 ((e 112 (by omega) (by omega)).mp z))]
  have hpt : pt Tx n a = (false, a, 0, 0, 0) := by
    unfold pt
    rw [show kf (chr Tx n a) = none from by unfold kf; rw [if_neg c3, if_neg c2, if_neg c4, if_neg c1]]
  rw [hpt]
  unfold jX9_readsPart_47
  have fp : FrP G (mset (mset (mset G 627 8 (-1)) 627 9 (nI 0)) 627 10 (nI 1)) := ((FrP.m (by omega) (by omega)).tr (FrP.m (by omega) (by omega))).tr (FrP.m (by omega) (by omega))
  have e8 : mset (mset (mset G 627 8 (-1)) 627 9 (nI 0)) 627 10 (nI 1) 627 8 = -1 := by rw [mset_7n (by omega), mset_7n (by omega), mset_77]
  have e7 : mset (mset (mset G 627 8 (-1)) 627 9 (nI 0)) 627 10 (nI 1) 627 7 = nI a := by rw [mset_7n (by omega), mset_7n (by omega), mset_7n (by omega), h7]
  rw [lt_def, lt_def, lt_def, e8, if_neg (by decide)]
  exact ⟨_, rfl, fp, e7, fun z => by cases z⟩
theorem chains_in (hT : okT Tx n) : ∀ (k m a T : Nat) (ch : Nat → Nat) (G : Mem), MR S W Tx h n G → G 627 7 = nI a → a < n → 80 ≤ k + a → k + 1 < m → ∃ G', itr m (FX9_chains_20 627) (nI T, nI 1, G) = some (match (prs Tx n k a T ch).1 with | some _ => -1 | none => nI (prs Tx n k a T ch).2.1, G') ∧ FrP G G' ∧ ∀ f, (prs Tx n k a T ch).1 = some f → G' 627 7 = nI f := by
  intro k
  induction k with
  | zero => intro m a T ch G hM h7 ha hk hm; have := hM.2.1; omega
  | succ k ih =>
    intro m a T ch G hM h7 ha hk hm
    have hn := hM.2.1
    obtain ⟨m, rfl⟩ : ∃ q, m = q + 2 := ⟨m - 2, by omega⟩
    rw [show m + 2 = (m + 1) + 1 from rfl, itr_S]
    show ∃ G', bX9_chains_20 627 (itr (m + 1) (FX9_chains_20 627)) (nI T) (nI 1) G = _ ∧ _
    unfold bX9_chains_20 prs
    obtain ⟨G1, d1, d2, d3, d4⟩ := part_m hT hM h7 (by omega)
    have hM1 := hM.fp d2
    rw [if_neg (by decide), hM.2.2.2.2.2.1, h7, if_neg (by rw [nI_leI (by omega) (by omega)]; omega), d1, bd_some']
    by_cases hok : (pt Tx n a).1 = true
    · obtain ⟨p1, p2, p3, p4, p5⟩ := pt_ok hok
      obtain ⟨f8, f9, f10⟩ := d4 hok
      rw [if_pos hok, if_pos hok, f10, nI_add]
      by_cases hl : (pt Tx n a).2.1 < n
      · rw [if_pos hl]
        obtain ⟨G2, e1, e2, e3⟩ := ih (m + 1) (pt Tx n a).2.1 (T + (pt Tx n a).2.2.2.2) (chU ch T (pt Tx n a).2.2.2.2 ((pt Tx n a).2.2.1 + 4 * (pt Tx n a).2.2.2.1)) G1 hM1 d3 hl (by omega) (by omega)
        exact ⟨G2, e1, d2.tr e2, e3⟩
      · rw [if_neg hl, itr_S]
        refine ⟨G1, ?_, d2, fun f z => by cases z⟩
        show bX9_chains_20 627 _ (nI _) (nI 1) G1 = _
        unfold bX9_chains_20 jX9_chains_50
        rw [if_neg (by decide), hM1.2.2.2.2.2.1, d3, if_pos (by rw [nI_leI (by omega) (by omega)]; omega), if_neg (by decide)]
    · rw [if_neg hok, if_neg hok, itr_S]
      refine ⟨G1, ?_, d2, fun f z => ?_⟩
      · show bX9_chains_20 627 _ _ (nI 0) G1 = _
        unfold bX9_chains_20 jX9_chains_50
        rw [if_pos rfl, if_pos rfl]
      · rw [d3, show (pt Tx n a).2.1 = f from Option.some.inj z]
theorem chains_m (hT : okT Tx n) (hM : MR S W Tx h n G) : ∃ G', fX9_chains 627 G = some (match (Pr Tx n).1 with | some _ => -1 | none => nI (Pr Tx n).2.1, G') ∧ FrP G G' ∧ ∀ f, (Pr Tx n).1 = some f → G' 627 7 = nI f := by
  unfold fX9_chains
  have hn := hM.2.1
  have fp : FrP G (mset G 627 7 (nI 0)) := FrP.m (by omega) (by omega)
  rw [lt_def, mset_7n (by omega), hM.2.2.2.2.2.1]
  by_cases h0 : n = 0
  · subst h0
    rw [if_pos (by decide)]
    have hp : Pr Tx 0 = (some 0, 0, fun _ => 0) := by
      show prs Tx 0 80 0 0 _ = _
      unfold prs
      have hpt : pt Tx 0 0 = (false, 0, 0, 0, 0) := by
        unfold pt
        rw [chr_out (by omega)]
        rfl
      rw [hpt]
      rfl
    rw [hp]
    refine ⟨_, ?_, fp, fun f z => by rw [mset_77, show 0 = f from Option.some.inj z]⟩
    rw [show FU = 9999 + 1 from rfl, itr_S]
    show bX9_chains_20 627 _ (nI 0) (nI 0) _ = _
    unfold bX9_chains_20 jX9_chains_50
    rw [if_pos rfl, if_pos rfl]
  · rw [if_neg (by rw [nI_leI (by omega) (by omega)]; omega)]
    obtain ⟨G2, e1, e2, e3⟩ := chains_in hT 80 FU 0 0 (fun _ => 0) _ (hM.fp fp) mset_77 (by omega) (by omega) (by decide)
    exact ⟨G2, e1, fp.tr e2, e3⟩
end
