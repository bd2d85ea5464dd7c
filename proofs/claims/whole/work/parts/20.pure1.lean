/-! PICTURES, PURE: loops, numbers, a hedge's chains -/
theorem itr_go {σ ρ : Type} {F : (σ → Option ρ) → σ → Option ρ} (st : Nat → σ) (L : Nat) (h : ∀ i, i < L → ∀ rec, F rec (st i) = rec (st (i + 1))) : ∀ (d i n : Nat), i + d = L → d < n → itr n F (st i) = F (itr (n - d - 1) F) (st L) := by
  intro d
  induction d with
  | zero =>
    intro i n hi hn
    obtain ⟨k, rfl⟩ : ∃ k, n = k + 1 := ⟨n - 1, by omega⟩
    obtain rfl : i = L := by omega
    rfl
  | succ d ih =>
    intro i n hi hn
    obtain ⟨k, rfl⟩ : ∃ k, n = k + 1 := ⟨n - 1, by omega⟩
    show F (itr k F) (st i) = _
    rw [h i (by omega), ih (i + 1) k (by omega) (by omega)]
    congr 2
    omega
theorem itr_run {σ ρ : Type} {F : (σ → Option ρ) → σ → Option ρ} (st : Nat → σ) (L : Nat) (h : ∀ i, i < L → ∀ rec, F rec (st i) = rec (st (i + 1))) (hL : L < 10000) {r : Option ρ} (hr : ∀ rec, F rec (st L) = r) : itr FU F (st 0) = r := by
  rw [itr_go st L h L 0 FU (by omega) hL, hr]
theorem i_le {a b : Int32} : a ≤ b ↔ a.toInt ≤ b.toInt := Int32.le_iff_toInt_le
theorem i_lt {a b : Int32} : a < b ↔ a.toInt < b.toInt := Int32.lt_iff_toInt_lt
theorem i_eq {a b : Int32} : a = b ↔ a.toInt = b.toInt := Int32.toInt_inj.symm
theorem clampN {i : Int32} (h : 0 ≤ i.toInt) : (i.toNatClampNeg : Int) = i.toInt := by
  have : i.toNatClampNeg = i.toInt.toNat := rfl
  rw [this]; omega
theorem ix_eq {α : Type} {i : Int32} {n : Nat} {k : Option α} (h0 : 0 ≤ i.toInt) (h1 : i.toInt < n) : ix i n k = k := by
  unfold ix
  refine if_neg ?_
  rintro (h | h)
  · rw [i_lt] at h
    have : (0 : Int32).toInt = 0 := rfl
    omega
  · have := clampN h0
    omega
theorem nI_ix {α : Type} {c n : Nat} {k : Option α} (h : c < n) (hn : n < 2 ^ 31) : ix (nI c) n k = k := ix_eq (by rw [nI_toInt (by omega)]; omega) (by rw [nI_toInt (by omega)]; omega)
theorem lt_def {α β : Type} (a : α) (f : α → Option β) : lt a f = f a := rfl
theorem bd_some' {β : Type} (x : Int32) (G : Mem) (f : Int32 → Mem → Option β) : bd (some (x, G)) f = f x G := rfl
theorem bv_some' {β : Type} (G : Mem) (f : Mem → Option β) : bv (some G) f = f G := rfl
theorem mset_at {G : Mem} {p j : Nat} {v : Int32} {a b : Nat} : mset G p j v a b = if a = p ∧ b = j then v else G a b := by
  unfold mset mrow upd
  by_cases h1 : a = p
  · subst h1
    by_cases h2 : b = j <;> simp [h2]
  · simp [h1]
theorem mrow_at {G : Mem} {p : Nat} {f : Nat → Int32} {a b : Nat} : mrow G p f a b = if a = p then f b else G a b := by
  unfold mrow
  by_cases h1 : a = p <;> simp [h1]
/-- a hedge at q has n chains; c more of a kind are put behind them -/
def hAdd (q : Nat) (k t : Int32) (n c : Nat) (G : Mem) : Mem := fun a j => if a = q ∧ j = 3 ∧ c ≠ 0 then nI (n + c) else if a = q + 1 ∧ n ≤ j ∧ j < n + c then k else if a = q + 2 ∧ n ≤ j ∧ j < n + c then t else if a = q + 3 ∧ n ≤ j ∧ j < n + c then nI 0 else G a j
theorem has_eq {q n : Nat} {x : Int32} {G : Mem} (hn : G q 3 = nI n) (h : n < 2 ^ 31) : fX1_has q x G = some (if 0 ≤ x.toInt ∧ x.toInt < n then nI 1 else nI 0, G) := by
  unfold fX1_has
  rw [hn]
  have h0 : (nI 0).toInt = 0 := rfl
  have hN := nI_toInt h
  by_cases h1 : x < nI 0
  · have := i_lt.mp h1
    rw [if_pos h1, if_neg (by omega)]
  · have h3 : ¬ x.toInt < (nI 0).toInt := fun q => h1 (i_lt.mpr q)
    rw [if_neg h1]
    by_cases h2 : nI n ≤ x
    · have := i_le.mp h2
      rw [if_pos h2, if_neg (by omega)]
    · have h4 : ¬ (nI n).toInt ≤ x.toInt := fun q => h2 (i_le.mpr q)
      rw [if_neg h2, if_pos (by omega)]
def hSet (q c : Nat) (k t : Int32) (G : Mem) : Mem := mset (mset (mset G (q + 1) c k) (q + 2) c t) (q + 3) c (nI 0)
theorem changeChain_eq {q n c : Nat} {k t : Int32} {G : Mem} (hn : G q 3 = nI n) (h : n ≤ 30) (hc : c < n) : fX1_changeChain q (nI c) k t G = some (hSet q c k t G) := by
  unfold fX1_changeChain
  rw [has_eq hn (by omega), bd_some', if_pos (show 0 ≤ (nI c).toInt ∧ (nI c).toInt < n from by rw [nI_toInt (by omega)]; omega), if_neg (by decide), nI_ix (by omega) (by omega), lt_def, nI_ix (by omega) (by omega), lt_def, nI_ix (by omega) (by omega), lt_def, nI_clamp (by omega)]
  rfl
theorem changeChain_no {q n : Nat} {x k t : Int32} {G : Mem} (hn : G q 3 = nI n) (h : n ≤ 30) (hc : ¬ (0 ≤ x.toInt ∧ x.toInt < n)) : fX1_changeChain q x k t G = some G := by
  unfold fX1_changeChain
  rw [has_eq hn (by omega), bd_some', if_neg hc, if_pos rfl]
theorem hAdd_0 {q n : Nat} {k t : Int32} {G : Mem} : hAdd q k t n 0 G = G := by
  funext a j
  unfold hAdd
  rw [if_neg (by omega), if_neg (by omega), if_neg (by omega), if_neg (by omega)]
theorem hAdd_len {q n c : Nat} {k t : Int32} {G : Mem} (hn : G q 3 = nI n) : hAdd q k t n c G q 3 = nI (n + c) := by
  unfold hAdd
  by_cases hc : c = 0
  · subst hc
    rw [if_neg (by omega), if_neg (by omega), if_neg (by omega), if_neg (by omega), hn]; rfl
  · rw [if_pos ⟨rfl, rfl, hc⟩]
theorem hAdd_succ {q n c : Nat} {k t : Int32} {G : Mem} : hSet q (n + c) k t (mset (hAdd q k t n c G) q 3 (nI (n + c + 1))) = hAdd q k t n (c + 1) G := by
  funext a j
  unfold hSet
  rw [mset_at, mset_at, mset_at, mset_at]
  unfold hAdd
  by_cases h1 : a = q
  · subst h1
    by_cases h2 : j = 3
    · subst h2
      rw [if_neg (by omega), if_neg (by omega), if_neg (by omega), if_pos ⟨rfl, rfl⟩, if_pos ⟨rfl, rfl, by omega⟩]; rfl
    · simp [h2]
  · by_cases h2 : a = q + 1
    · subst h2
      by_cases h3 : j = n + c
      · subst h3; simp
      · have : (n ≤ j ∧ j < n + c) ↔ (n ≤ j ∧ j < n + (c + 1)) := by omega
        simp [h3, this]
    · by_cases h2' : a = q + 2
      · subst h2'
        by_cases h3 : j = n + c
        · subst h3; simp
        · have : (n ≤ j ∧ j < n + c) ↔ (n ≤ j ∧ j < n + (c + 1)) := by omega
          simp [h3, this]
      · by_cases h2'' : a = q + 3
        · subst h2''
          by_cases h3 : j = n + c
          · subst h3; simp
          · have : (n ≤ j ∧ j < n + c) ↔ (n ≤ j ∧ j < n + (c + 1)) := by omega
            simp [h3, this]
        · simp [h1, h2, h2', h2'']
/-- c chains are added of the many that are asked for: all, or as many as there is room for -/
theorem addChains_eq {q n c m : Nat} {k t : Int32} {G : Mem} (hn : G q 3 = nI n) (h : n + c ≤ 30) (hm : m < 2 ^ 31) (hc : c ≤ m) (hfull : c = m ∨ n + c = 30) : fX1_addChains q k t (nI m) G = some (hAdd q k t n c G) := by
  unfold fX1_addChains
  have hst : ((nI 0, G) : Int32 × Mem) = (fun i : Nat => (nI i, hAdd q k t n i G)) 0 := by
    show _ = (nI 0, hAdd q k t n 0 G)
    rw [hAdd_0]
  rw [hst]
  refine itr_run (fun i : Nat => (nI i, hAdd q k t n i G)) c (fun i hi rec => ?_) (by omega) (fun rec => ?_)
  · show bX1_addChains_3 q k t (nI m) rec (nI i) (hAdd q k t n i G) = _
    unfold bX1_addChains_3
    rw [if_neg (by rw [nI_leI (by omega) (by omega)]; omega), hAdd_len hn, if_neg (by rw [nI_leI (by omega) (by omega)]; omega), lt_def, nI_add]
    have hl : mset (hAdd q k t n i G) q 3 (nI (n + i + 1)) q 3 = nI (n + i + 1) := by rw [mset_at, if_pos ⟨rfl, rfl⟩]
    rw [hl, pk_sub (by omega), show n + i + 1 - 1 = n + i by omega, changeChain_eq hl (by omega) (by omega), bv_some', hAdd_succ, nI_add]
  · show bX1_addChains_3 q k t (nI m) rec (nI c) (hAdd q k t n c G) = _
    unfold bX1_addChains_3
    by_cases hcm : c = m
    · subst hcm
      rw [if_pos (by rw [nI_leI (by omega) (by omega)]; omega)]
    · rw [if_neg (by rw [nI_leI (by omega) (by omega)]; omega), hAdd_len hn, if_pos (by rw [nI_leI (by omega) (by omega)]; omega)]
