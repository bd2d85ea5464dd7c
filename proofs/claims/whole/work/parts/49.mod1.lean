/-! THE REFERENCE'S CALLS -/
def MR (S W Tx : Nat → Nat) (h n : Nat) (G : Mem) : Prop := h ≤ 5 ∧ n ≤ 80 ∧ (∀ k, k < 668 → G 628 k = nI (S k)) ∧ (∀ k, k < 3340 → G 629 k = nI (W k)) ∧ G 627 4 = nI h ∧ G 627 6 = nI n ∧ ∀ j, j < n → G 632 j = nI (Tx j)
def MB (B : Nat → Nat) (G : Mem) : Prop := ∀ k, k < 668 → G 630 k = nI (B k)
def FrM (G G' : Mem) : Prop := ∀ a, a < 627 → G' a = G a
theorem FrM.rf {G : Mem} : FrM G G := fun _ _ => rfl
theorem FrM.tr {G G1 G2 : Mem} (h1 : FrM G G1) (h2 : FrM G1 G2) : FrM G G2 := fun a h => (h2 a h).trans (h1 a h)
section
variable {G G' : Mem} {S W Tx B : Nat → Nat} {h n b : Nat}
theorem MR.s {k : Nat} (hM : MR S W Tx h n G) (hk : k < 668) : G 628 k = nI (S k) := hM.2.2.1 k hk
/-- a number of the state is set -/
theorem MR.set {k x : Nat} (hM : MR S W Tx h n G) : MR (vs S k x) W Tx h n (mset G 628 k (nI x)) := by
  obtain ⟨h1, h2, h3, h4, h5, h6, h7⟩ := hM
  refine ⟨h1, h2, fun j hj => ?_, fun j hj => by rw [mset_ne (by omega)]; exact h4 j hj, by rw [mset_ne (by omega)]; exact h5, by rw [mset_ne (by omega)]; exact h6, fun j hj => by rw [mset_ne (by omega)]; exact h7 j hj⟩
  rw [mset_at]
  by_cases hjk : j = k
  · subst hjk
    rw [if_pos ⟨rfl, rfl⟩, vs_eq]
  · rw [if_neg (fun z => hjk z.2), vs_ne hjk]
    exact h3 j hj
theorem MB.set {q k : Nat} {x : Int32} (hB : MB B G) (hq : q ≠ 630) : MB B (mset G q k x) := fun j hj => by rw [mset_ne (fun z => hq z.symm)]; exact hB j hj
theorem FrM.m {q k : Nat} {x : Int32} (hq : 627 ≤ q) : FrM G (mset G q k x) := fun a ha => mset_ne (by omega)
theorem keeps_m (hM : MR S W Tx h n G) : ∃ G', fX9_keeps 627 G = some G' ∧ MR S W Tx h n G' ∧ MB S G' ∧ FrM G G' := by
  unfold fX9_keeps
  have step : ∀ i (s : Int32 × Mem), i < 668 → (s.1 = nI i ∧ (∀ k, k < i → s.2 630 k = nI (S k)) ∧ ∀ a, a ≠ 630 → s.2 a = G a) → ∃ s' : Int32 × Mem, (s'.1 = nI (i + 1) ∧ (∀ k, k < i + 1 → s'.2 630 k = nI (S k)) ∧ ∀ a, a ≠ 630 → s'.2 a = G a) ∧ ∀ rec, FX9_keeps_2 627 rec s = rec s' := by
    intro i s hi hs
    obtain ⟨s1, Gs⟩ := s
    obtain ⟨h1, h2, h3⟩ := hs
    simp only at h1 h2 h3
    subst h1
    refine ⟨(nI (i + 1), mset Gs 630 i (nI (S i))), ⟨rfl, fun k hk => ?_, fun a ha => (mset_ne ha).trans (h3 a ha)⟩, fun rec => ?_⟩
    · show mset Gs 630 i (nI (S i)) 630 k = _
      rw [mset_at]
      by_cases hki : k = i
      · subst hki; rw [if_pos ⟨rfl, rfl⟩]
      · rw [if_neg (fun z => hki z.2)]; exact h2 k (by omega)
    · show bX9_keeps_2 627 rec (nI i) Gs = _
      unfold bX9_keeps_2
      rw [if_neg (by rw [nI_leI (by omega) (by omega)]; omega), nI_ix (by omega) (by omega), nI_ix (by omega) (by omega), nI_clamp (by omega), lt_def, show (627 : Nat) + 1 = 628 from rfl, show (627 : Nat) + 3 = 630 from rfl, h3 628 (by omega), hM.s hi, nI_add]
  obtain ⟨⟨s1, G2⟩, ⟨h1, h2, h3⟩, rec', hrec⟩ := itr_inv (F := FX9_keeps_2 627) (fun i (s : Int32 × Mem) => s.1 = nI i ∧ (∀ k, k < i → s.2 630 k = nI (S k)) ∧ ∀ a, a ≠ 630 → s.2 a = G a) 668 step (nI 0, G) ⟨rfl, fun k hk => absurd hk (by omega), fun a ha => rfl⟩ (by omega)
  simp only at h1 h2 h3
  subst h1
  rw [hrec]
  obtain ⟨m1, m2, m3, m4, m5, m6, m7⟩ := hM
  refine ⟨G2, ?_, ⟨m1, m2, fun k hk => by rw [h3 628 (by omega)]; exact m3 k hk, fun k hk => by rw [h3 629 (by omega)]; exact m4 k hk, by rw [h3 627 (by omega)]; exact m5, by rw [h3 627 (by omega)]; exact m6, fun j hj => by rw [h3 632 (by omega)]; exact m7 j hj⟩, h2, fun a ha => h3 a (by omega)⟩
  show bX9_keeps_2 627 rec' (nI 668) G2 = _
  unfold bX9_keeps_2
  rw [if_pos (by rw [nI_leI (by omega) (by omega)]; exact Nat.le_refl _)]
/-- the state before is put behind the others -/
theorem put_m {r : Int32} {h : Nat} {V : Nat → Nat} (hh : h < 5) (h0 : G 627 4 = nI h) (hB : MB B G) (hW : ∀ k, k < 3340 → G 629 k = nI (V k)) : ∃ G', itr FU (FX9_acted_55 627 r) (nI 0, G) = some (r, G') ∧ (∀ k, k < 3340 → G' 629 k = nI (if 668 * h ≤ k ∧ k < 668 * (h + 1) then B (k - 668 * h) else V k)) ∧ G' 627 4 = nI (h + 1) ∧ G' 627 6 = G 627 6 ∧ ∀ a, a ≠ 629 → a ≠ 627 → G' a = G a := by
  have step : ∀ i (s : Int32 × Mem), i < 668 → (s.1 = nI i ∧ (∀ k, k < 3340 → s.2 629 k = nI (if 668 * h ≤ k ∧ k < 668 * h + i then B (k - 668 * h) else V k)) ∧ ∀ a, a ≠ 629 → s.2 a = G a) → ∃ s' : Int32 × Mem, (s'.1 = nI (i + 1) ∧ (∀ k, k < 3340 → s'.2 629 k = nI (if 668 * h ≤ k ∧ k < 668 * h + (i + 1) then B (k - 668 * h) else V k)) ∧ ∀ a, a ≠ 629 → s'.2 a = G a) ∧ ∀ rec, FX9_acted_55 627 r rec s = rec s' := by
    intro i s hi hs
    obtain ⟨s1, Gs⟩ := s
    obtain ⟨h1, h2, h3⟩ := hs
    simp only at h1 h2 h3
    subst h1
    refine ⟨(nI (i + 1), mset Gs 629 (668 * h + i) (nI (B i))), ⟨rfl, fun k hk => ?_, fun a ha => (mset_ne ha).trans (h3 a ha)⟩, fun rec => ?_⟩
    · show mset Gs 629 (668 * h + i) (nI (B i)) 629 k = _
      rw [mset_at]
      by_cases hki : k = 668 * h + i
      · subst hki; rw [if_pos ⟨rfl, rfl⟩, if_pos (by omega)]; congr 2; omega
      · rw [if_neg (fun z => hki z.2), h2 k hk]
        by_cases hc : 668 * h ≤ k ∧ k < 668 * h + i
        · rw [if_pos hc, if_pos (by omega)]
        · rw [if_neg hc, if_neg (by omega)]
    · show bX9_acted_55 627 r rec (nI i) Gs = _
      unfold bX9_acted_55
      rw [if_neg (by rw [nI_leI (by omega) (by omega)]; omega), show (627 : Nat) + 2 = 629 from rfl, show (627 : Nat) + 3 = 630 from rfl, h3 627 (by omega), h0, nI_mulN, nI_add, nI_ix (by omega) (by omega), nI_ix (by omega) (by omega), nI_clamp (by omega), nI_clamp (by omega), lt_def, h3 630 (by omega), hB i hi, nI_add]
  obtain ⟨⟨s1, G2⟩, ⟨h1, h2, h3⟩, rec', hrec⟩ := itr_inv (F := FX9_acted_55 627 r) (fun i (s : Int32 × Mem) => s.1 = nI i ∧ (∀ k, k < 3340 → s.2 629 k = nI (if 668 * h ≤ k ∧ k < 668 * h + i then B (k - 668 * h) else V k)) ∧ ∀ a, a ≠ 629 → s.2 a = G a) 668 step (nI 0, G) ⟨rfl, fun k hk => by rw [if_neg (by omega)]; exact hW k hk, fun a ha => rfl⟩ (by omega)
  simp only at h1 h2 h3
  subst h1
  rw [hrec]
  refine ⟨mset G2 627 4 (nI (h + 1)), ?_, fun k hk => ?_, by rw [mset_at, if_pos ⟨rfl, rfl⟩], by rw [mset_at, if_neg (by omega), h3 627 (by omega)], fun a h4 h5 => by rw [mset_ne h5, h3 a h4]⟩
  · show bX9_acted_55 627 r rec' (nI 668) G2 = _
    unfold bX9_acted_55
    rw [if_pos (by rw [nI_leI (by omega) (by omega)]; exact Nat.le_refl _), lt_def, h3 627 (by omega), h0, nI_add]
  · rw [mset_ne (by omega), h2 k hk, show 668 * (h + 1) = 668 * h + 668 by omega]
end
