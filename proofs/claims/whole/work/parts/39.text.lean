/-! a text is read as a hedge -/
def chr (Tx : Nat → Nat) (n a : Nat) : Nat := if a < n then Tx a else 0
def kf (c : Nat) : Option Nat := if c = 103 then some 2 else if c = 108 then some 1 else if c = 112 then some 3 else if c = 116 then some 0 else none
def nmL (Tx : Nat → Nat) (n : Nat) : Nat → Nat → Nat → Bool × Nat × Nat
  | 0, a, x => (true, a, x)
  | k + 1, a, x => if 48 ≤ chr Tx n a ∧ chr Tx n a ≤ 57 then (if 10 * x + (chr Tx n a - 48) ≤ 30 then nmL Tx n k (a + 1) (10 * x + (chr Tx n a - 48)) else (false, a, x)) else (true, a, x)
def ptR (Tx : Nat → Nat) (n k t a : Nat) : Bool × Nat × Nat × Nat × Nat := if chr Tx n a = 42 then (if 49 ≤ chr Tx n (a + 1) ∧ chr Tx n (a + 1) ≤ 57 then ((nmL Tx n (n - (a + 2)) (a + 2) (chr Tx n (a + 1) - 48)).1, (nmL Tx n (n - (a + 2)) (a + 2) (chr Tx n (a + 1) - 48)).2.1, k, t, (nmL Tx n (n - (a + 2)) (a + 2) (chr Tx n (a + 1) - 48)).2.2) else (false, a + 1, k, t, 0)) else (true, a, k, t, 1)
def pt (Tx : Nat → Nat) (n a : Nat) : Bool × Nat × Nat × Nat × Nat := match kf (chr Tx n a) with
  | none => (false, a, 0, 0, 0)
  | some k => if k < 2 then (if 49 ≤ chr Tx n (a + 1) ∧ chr Tx n (a + 1) ≤ 57 then ptR Tx n k (chr Tx n (a + 1) - 48) (a + 2) else (false, a + 1, k, 0, 0)) else ptR Tx n k 0 (a + 1)
def chU (ch : Nat → Nat) (T m x : Nat) : Nat → Nat := fun j => if T ≤ j ∧ j < T + m then x else ch j
def prs (Tx : Nat → Nat) (n : Nat) : Nat → Nat → Nat → (Nat → Nat) → Option Nat × Nat × (Nat → Nat)
  | 0, a, T, ch => (some a, T, ch)
  | k + 1, a, T, ch => if (pt Tx n a).1 = true then (if (pt Tx n a).2.1 < n then prs Tx n k (pt Tx n a).2.1 (T + (pt Tx n a).2.2.2.2) (chU ch T (pt Tx n a).2.2.2.2 ((pt Tx n a).2.2.1 + 4 * (pt Tx n a).2.2.2.1)) else (none, T + (pt Tx n a).2.2.2.2, chU ch T (pt Tx n a).2.2.2.2 ((pt Tx n a).2.2.1 + 4 * (pt Tx n a).2.2.2.1))) else (some (pt Tx n a).2.1, T, ch)
def TXr (n : Nat) (Tx : Nat → Nat) (G : Mem) : Prop := n ≤ 80 ∧ G 615 1 = nI n ∧ ∀ j, j < n → G 616 j = nI (Tx j) ∧ 1 ≤ Tx j ∧ Tx j ≤ 255
section
variable {Tx : Nat → Nat} {n : Nat} {G B : Mem}
theorem nar_ch : ∀ t, t < 256 → vp_nar .char (nI t) = nI t := by decide +kernel
theorem i2c_ch : ∀ t, t < 256 → ((nI t).toUInt32 % 65536).toInt32 = nI t := by decide +kernel
theorem chr_le (h : TXr n Tx G) (a : Nat) : chr Tx n a ≤ 255 := by
  unfold chr
  split
  · rename_i hlt; exact (h.2.2 a hlt).2.2
  · omega
theorem TXr.cg {G' : Mem} (h : TXr n Tx G) (h1 : G' 615 = G 615) (h2 : G' 616 = G 616) : TXr n Tx G' := by
  unfold TXr
  rw [h1, h2]
  exact h
theorem signAt_c {a : Nat} (h : TXr n Tx G) (ha : a < 1000) : fX7_signAt 615 (nI a) G = some (nI (chr Tx n a), G) := by
  obtain ⟨h80, h1, h2⟩ := h
  unfold fX7_signAt chr
  rw [if_neg (by rw [nI_ltI (by omega) (by omega)]; omega), h1]
  by_cases hlt : a < n
  · rw [if_neg (by rw [nI_leI (by omega) (by omega)]; omega), if_pos hlt, nI_ix (by omega) (by omega), nI_clamp (by omega), (h2 a hlt).1]
    unfold ck
    have := h2 a hlt
    rw [if_pos (nar_ch (Tx a) (by omega))]
  · rw [if_pos (by rw [nI_leI (by omega) (by omega)]; omega), if_neg hlt]
theorem digitFor_in {c : Nat} (h1 : 48 ≤ c) (h2 : c ≤ 57) : fX2_digitFor (nI c) G = some (nI (c - 48), G) := by
  unfold fX2_digitFor
  rw [if_neg (by rw [nI_ltI (by omega) (by omega)]; omega), if_neg (by rw [nI_ltI (by omega) (by omega)]; omega), pk_sub h1]
theorem digitFor_no {c : Nat} (hc : c ≤ 255) (h : ¬ (48 ≤ c ∧ c ≤ 57)) : fX2_digitFor (nI c) G = some (-1, G) := by
  unfold fX2_digitFor
  by_cases h1 : c < 48
  · rw [if_pos (by rw [nI_ltI (by omega) (by omega)]; exact h1)]
  · rw [if_neg (by rw [nI_ltI (by omega) (by omega)]; exact h1), if_pos (by rw [nI_ltI (by omega) (by omega)]; omega)]
theorem mset_mset {p j : Nat} {x y : Int32} : mset (mset B p j x) p j y = mset B p j y := by
  funext a b
  rw [mset_at, mset_at, mset_at]
  by_cases h : a = p ∧ b = j
  · rw [if_pos h, if_pos h]
  · rw [if_neg h, if_neg h, if_neg h]
theorem nm_c (h : TXr n Tx B) : ∀ (k m a x : Nat), k = n - a → a ≤ 100 → x ≤ 30 → k < m → itr m (FX2_readNumber_29 617 615) (nI x, mset B 617 2 (nI a)) = some (if (nmL Tx n k a x).1 = true then nI (nmL Tx n k a x).2.2 else nI 0, mset B 617 2 (nI (nmL Tx n k a x).2.1)) := by
  have hB : ∀ a, TXr n Tx (mset B 617 2 (nI a)) := fun a => h.cg (mset_ne (by omega)) (mset_ne (by omega))
  obtain ⟨h80, h1, -⟩ := h
  intro k
  induction k with
  | zero =>
    intro m a x hk ha hx hm
    obtain ⟨m', rfl⟩ : ∃ m', m = m' + 1 := ⟨m - 1, by omega⟩
    rw [itr_S]
    show bX2_readNumber_29 617 615 _ (nI x) (mset B 617 2 (nI a)) = _
    unfold bX2_readNumber_29 nmL
    rw [show mset B 617 2 (nI a) 617 2 = nI a from by rw [mset_at, if_pos ⟨rfl, rfl⟩], (hB a).2.1, if_pos (by rw [nI_leI (by omega) (by omega)]; omega), if_pos rfl]
  | succ k ih =>
    intro m a x hk ha hx hm
    obtain ⟨m', rfl⟩ : ∃ m', m = m' + 1 := ⟨m - 1, by omega⟩
    rw [itr_S]
    show bX2_readNumber_29 617 615 _ (nI x) (mset B 617 2 (nI a)) = _
    have e2 : mset B 617 2 (nI a) 617 2 = nI a := by rw [mset_at, if_pos ⟨rfl, rfl⟩]
    have hcl := chr_le (hB a) a
    unfold bX2_readNumber_29 nmL
    rw [e2, (hB a).2.1, if_neg (by rw [nI_leI (by omega) (by omega)]; omega), signAt_c (hB a) (by omega), bd_some']
    by_cases hd : 48 ≤ chr Tx n a ∧ chr Tx n a ≤ 57
    · rw [if_pos hd, digitFor_in hd.1 hd.2, bd_some', if_neg (by rw [nI_ltI (by omega) (by omega)]; omega), e2, signAt_c (hB a) (by omega), bd_some', digitFor_in hd.1 hd.2, bd_some', nI_mulN, nI_add, show x * 10 + (chr Tx n a - 48) = 10 * x + (chr Tx n a - 48) by omega, e2, nI_add, lt_def, mset_mset]
      by_cases h30 : 10 * x + (chr Tx n a - 48) ≤ 30
      · rw [if_pos (by rw [nI_leI (by omega) (by omega)]; exact h30), if_pos h30]
        exact ih m' (a + 1) _ (by omega) (by omega) h30 (by omega)
      · rw [if_neg (by rw [nI_leI (by omega) (by omega)]; exact h30), if_neg h30]
        rfl
    · rw [if_neg hd, digitFor_no hcl hd, bd_some', if_pos (by decide), if_pos rfl]
theorem nmL_bd : ∀ (k a x : Nat), 1 ≤ x → x ≤ 30 → a ≤ (nmL Tx n k a x).2.1 ∧ (nmL Tx n k a x).2.1 ≤ a + k ∧ 1 ≤ (nmL Tx n k a x).2.2 ∧ (nmL Tx n k a x).2.2 ≤ 30 := by
  intro k
  induction k with
  | zero => intro a x h1 h2; exact ⟨Nat.le_refl _, Nat.le_refl _, h1, h2⟩
  | succ k ih =>
    intro a x h1 h2
    unfold nmL
    split
    · split
      · rename_i _ h30
        have := ih (a + 1) (10 * x + (chr Tx n a - 48)) (by omega) h30
        omega
      · exact ⟨Nat.le_refl _, by show a ≤ _; omega, h1, h2⟩
    · exact ⟨Nat.le_refl _, by show a ≤ _; omega, h1, h2⟩
theorem readNumber_c {a : Nat} (h : TXr n Tx B) (ha : a ≤ 90) : fX2_readNumber 617 615 (mset B 617 2 (nI a)) = some (if 49 ≤ chr Tx n a ∧ chr Tx n a ≤ 57 then (if (nmL Tx n (n - (a + 1)) (a + 1) (chr Tx n a - 48)).1 = true then nI (nmL Tx n (n - (a + 1)) (a + 1) (chr Tx n a - 48)).2.2 else nI 0) else nI 0, mset B 617 2 (nI (if 49 ≤ chr Tx n a ∧ chr Tx n a ≤ 57 then (nmL Tx n (n - (a + 1)) (a + 1) (chr Tx n a - 48)).2.1 else a))) := by
  have hB : TXr n Tx (mset B 617 2 (nI a)) := h.cg (mset_ne (by omega)) (mset_ne (by omega))
  have e2 : mset B 617 2 (nI a) 617 2 = nI a := by rw [mset_at, if_pos ⟨rfl, rfl⟩]
  have hcl := chr_le hB a
  have h80 := h.1
  unfold fX2_readNumber
  rw [e2, signAt_c hB (by omega), bd_some']
  by_cases hd : 48 ≤ chr Tx n a ∧ chr Tx n a ≤ 57
  · rw [digitFor_in hd.1 hd.2, bd_some', e2, nI_add, lt_def, mset_mset]
    by_cases h1 : 49 ≤ chr Tx n a
    · rw [if_pos (by rw [nI_leI (by omega) (by omega)]; omega), nm_c h (n - (a + 1)) FU (a + 1) (chr Tx n a - 48) rfl (by omega) (by omega) (by show n - (a + 1) < 10000; omega)]
      simp only [if_pos (show 49 ≤ chr Tx n a ∧ chr Tx n a ≤ 57 from ⟨h1, hd.2⟩)]
    · rw [if_neg (by rw [nI_leI (by omega) (by omega)]; omega), if_neg (fun z => h1 z.1), if_neg (fun z => h1 z.1)]
  · rw [digitFor_no hcl hd, bd_some', if_neg (by decide), if_neg (by omega), if_neg (by omega)]
end
section
variable {Tx : Nat → Nat} {n : Nat} {G B : Mem}
def RD (a T : Nat) (ch : Nat → Nat) (G : Mem) : Prop := G 617 2 = nI a ∧ G 617 1 = nI T ∧ HR 618 (min T 30) ch G
def FrR (G G' : Mem) : Prop := ∀ a, (a < 617 ∨ 621 < a) → G' a = G a
theorem RD.at {a T x : Nat} {ch : Nat → Nat} (h : RD a T ch G) : RD x T ch (mset G 617 2 (nI x)) := ⟨by rw [mset_at, if_pos ⟨rfl, rfl⟩], by rw [mset_at, if_neg (by omega)]; exact h.2.1, h.2.2.cg (mset_ne (by omega)) (mset_ne (by omega)) (mset_ne (by omega)) (mset_ne (by omega))⟩
theorem FrR.m {x : Nat} {y : Int32} : FrR G (mset G 617 x y) := fun a ha => mset_ne (by omega)
theorem FrR.tr {G1 G2 : Mem} (h1 : FrR G G1) (h2 : FrR G1 G2) : FrR G G2 := fun a h => (h2 a h).trans (h1 a h)
theorem TXr.fr {G' : Mem} (h : TXr n Tx G) (hf : FrR G G') : TXr n Tx G' := h.cg (hf 615 (by omega)) (hf 616 (by omega))
theorem hAdd_HR {q n0 c k t : Nat} {ch : Nat → Nat} (h : HR q n0 ch G) (hk : k < 4) (ht : t < 16) : HR q (n0 + c) (chU ch n0 c (k + 4 * t)) (hAdd q (nI k) (nI t) n0 c G) := by
  refine ⟨hAdd_len h.1, fun j hj => ?_⟩
  unfold hAdd chU
  have e1 : (k + 4 * t) % 4 = k := by omega
  have e2 : (k + 4 * t) / 4 % 16 = t := by omega
  have e3 : (k + 4 * t) / 64 = 0 := by omega
  by_cases hjn : n0 ≤ j ∧ j < n0 + c
  · simp [hjn, e1, e2, e3]
  · have hj0 : j < n0 := by omega
    have := h.2 j hj0
    simp [hjn]
    exact this
/-- the end of a part: the chains are added -/
theorem part_end {a T k t m : Nat} {ch : Nat → Nat} (h : RD a T ch G) (hk : k < 4) (ht : t < 16) (hm : m ≤ 30) (hT : T ≤ 3000) : ∃ G', jX2_readPart_102 617 (nI k) (nI t) (nI m) G = some (if m = 0 then nI 0 else nI 1, G') ∧ RD a (T + m) (chU ch T m (k + 4 * t)) G' ∧ FrR G G' := by
  obtain ⟨h1, h2, h3⟩ := h
  unfold jX2_readPart_102
  rw [h2, nI_add, lt_def]
  have hH : HR 618 (min T 30) ch (mset G 617 1 (nI (T + m))) := h3.cg (mset_ne (by omega)) (mset_ne (by omega)) (mset_ne (by omega)) (mset_ne (by omega))
  have hadd := addChains_eq (k := nI k) (t := nI t) (c := min m (30 - min T 30)) (m := m) hH.1 (by omega) (by omega) (by omega) (by omega)
  rw [show 617 + 1 = 618 from rfl, hadd, bv_some']
  have hR := hAdd_HR (c := min m (30 - min T 30)) hH hk ht
  refine ⟨hAdd 618 (nI k) (nI t) (min T 30) (min m (30 - min T 30)) (mset G 617 1 (nI (T + m))), ?_, ⟨?_, ?_, ?_⟩, fun x hx => ?_⟩
  · by_cases hm0 : m = 0
    · rw [if_pos (by rw [nI_leI (by omega) (by omega)]; omega), if_pos hm0]
    · rw [if_neg (by rw [nI_leI (by omega) (by omega)]; omega), if_neg hm0]
  · unfold hAdd
    rw [if_neg (by omega), if_neg (by omega), if_neg (by omega), if_neg (by omega), mset_at, if_neg (by omega), h1]
  · unfold hAdd
    rw [if_neg (by omega), if_neg (by omega), if_neg (by omega), if_neg (by omega), mset_at, if_pos ⟨rfl, rfl⟩]
  · rw [show min (T + m) 30 = min T 30 + min m (30 - min T 30) by omega]
    refine hR.ext (fun c hc => ?_)
    unfold chU
    by_cases h4 : T ≤ c ∧ c < T + m
    · rw [if_pos h4, if_pos (by omega)]
    · rw [if_neg h4, if_neg (by omega)]
  · funext j
    unfold hAdd
    rw [if_neg (by omega), if_neg (by omega), if_neg (by omega), if_neg (by omega), mset_at, if_neg (by omega)]
/-- from the star on -/
theorem part_star {a T k t : Nat} {ch : Nat → Nat} (h : RD a T ch G) (hX : TXr n Tx G) (ha : a ≤ 85) (hk : k < 4) (ht : t < 16) (hT : T ≤ 3000) : ∃ G', jX2_readPart_69 617 615 (nI k) (nI t) G = some (if (ptR Tx n k t a).1 = true then nI 1 else nI 0, G') ∧ (if (ptR Tx n k t a).1 = true then RD (ptR Tx n k t a).2.1 (T + (ptR Tx n k t a).2.2.2.2) (chU ch T (ptR Tx n k t a).2.2.2.2 (k + 4 * t)) G' ∧ 1 ≤ (ptR Tx n k t a).2.2.2.2 ∧ (ptR Tx n k t a).2.2.2.2 ≤ 30 ∧ (ptR Tx n k t a).2.2.1 = k ∧ (ptR Tx n k t a).2.2.2.1 = t else RD (ptR Tx n k t a).2.1 T ch G') ∧ FrR G G' := by
  unfold jX2_readPart_69
  have hcl := chr_le hX a
  have hcl1 := chr_le hX (a + 1)
  rw [h.1, signAt_c hX (by omega), bd_some']
  unfold ptR
  by_cases hs : chr Tx n a = 42
  · rw [if_pos (by rw [hs]), if_pos hs, h.1, nI_add, lt_def, readNumber_c hX (by omega), bd_some']
    by_cases hd : 49 ≤ chr Tx n (a + 1) ∧ chr Tx n (a + 1) ≤ 57
    · rw [if_pos hd, if_pos hd, if_pos hd, show a + 1 + 1 = a + 2 by omega]
      obtain ⟨b1, b2, b3, b4⟩ := nmL_bd (Tx := Tx) (n := n) (n - (a + 2)) (a + 2) (chr Tx n (a + 1) - 48) (by omega) (by omega)
      generalize nmL Tx n (n - (a + 2)) (a + 2) (chr Tx n (a + 1) - 48) = r at b1 b2 b3 b4 ⊢
      by_cases hr : r.1 = true
      · obtain ⟨G', c1, c2, c3⟩ := part_end (h.at (x := r.2.1)) hk ht b4 hT
        rw [if_pos hr]
        dsimp only
        refine ⟨G', by rw [c1, if_neg (by omega), if_pos hr], ?_, FrR.m.tr c3⟩
        rw [if_pos hr]
        exact ⟨c2, b3, b4, rfl, rfl⟩
      · obtain ⟨G', c1, c2, c3⟩ := part_end (m := 0) (h.at (x := r.2.1)) hk ht (by omega) hT
        rw [if_neg hr]
        dsimp only
        refine ⟨G', by rw [c1, if_pos rfl, if_neg hr], ?_, FrR.m.tr c3⟩
        rw [if_neg hr]
        have e : chU ch T 0 (k + 4 * t) = ch := by funext j; unfold chU; rw [if_neg (by omega)]
        rwa [e] at c2
    · rw [if_neg hd, if_neg hd, if_neg hd]
      obtain ⟨G', c1, c2, c3⟩ := part_end (m := 0) (h.at (x := a + 1)) hk ht (by omega) hT
      dsimp only
      refine ⟨G', by rw [c1]; rfl, ?_, FrR.m.tr c3⟩
      have e : chU ch T 0 (k + 4 * t) = ch := by funext j; unfold chU; rw [if_neg (by omega)]
      rw [e] at c2
      exact c2
  · rw [if_neg (by rw [nI_eq (by omega) (by omega)]; exact hs), if_neg hs]
    obtain ⟨G', c1, c2, c3⟩ := part_end (m := 1) h hk ht (by omega) hT
    dsimp only
    exact ⟨G', by rw [c1]; rfl, ⟨c2, Nat.le_refl _, by omega, rfl, rfl⟩, c3⟩
end
