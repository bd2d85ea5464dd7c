section
variable {G G' : Mem} {S W Tx B : Nat → Nat} {h n b : Nat}
theorem shift_m {r : Int32} (hM : MR S W Tx 5 n G) : ∃ (G' : Mem), (∀ k, k < 3340 → G' 629 k = nI (if k < 2672 then W (k + 668) else W k)) ∧ (∀ a, a ≠ 629 → G' a = G a) ∧ itr FU (FX9_acted_14 627 r) (nI 0, G) = itr FU (FX9_acted_55 627 r) (nI 0, mset G' 627 4 (nI 4)) := by
  obtain ⟨m1, m2, m3, m4, m5, m6, m7⟩ := hM
  have step : ∀ i (s : Int32 × Mem), i < 2672 → (s.1 = nI i ∧ (∀ k, k < 3340 → s.2 629 k = nI (if k < i then W (k + 668) else W k)) ∧ ∀ a, a ≠ 629 → s.2 a = G a) → ∃ s' : Int32 × Mem, (s'.1 = nI (i + 1) ∧ (∀ k, k < 3340 → s'.2 629 k = nI (if k < i + 1 then W (k + 668) else W k)) ∧ ∀ a, a ≠ 629 → s'.2 a = G a) ∧ ∀ rec, FX9_acted_14 627 r rec s = rec s' := by
    intro i s hi hs
    obtain ⟨s1, Gs⟩ := s
    obtain ⟨h1, h2, h3⟩ := hs
    simp only at h1 h2 h3
    subst h1
    refine ⟨(nI (i + 1), mset Gs 629 i (nI (W (i + 668)))), ⟨rfl, fun k hk => ?_, fun a ha => (mset_ne ha).trans (h3 a ha)⟩, fun rec => ?_⟩
    · show mset Gs 629 i (nI (W (i + 668))) 629 k = _
      rw [mset_at]
      by_cases hki : k = i
      · subst hki; rw [if_pos ⟨rfl, rfl⟩, if_pos (by omega)]
      · rw [if_neg (fun z => hki z.2), h2 k hk]
        by_cases hc : k < i
        · rw [if_pos hc, if_pos (by omega)]
        · rw [if_neg hc, if_neg (by omega)]
    · show bX9_acted_14 627 r rec (nI i) Gs = _
      unfold bX9_acted_14
      rw [if_neg (by rw [nI_leI (by omega) (by omega)]; omega), show (627 : Nat) + 2 = 629 from rfl, nI_add, nI_add, nI_ix (by omega) (by omega), nI_ix (by omega) (by omega), nI_clamp (by omega), nI_clamp (by omega), lt_def, h2 (i + 668) (by omega), if_neg (by omega)]
  obtain ⟨⟨s1, G2⟩, ⟨h1, h2, h3⟩, rec', hrec⟩ := itr_inv (F := FX9_acted_14 627 r) (fun i (s : Int32 × Mem) => s.1 = nI i ∧ (∀ k, k < 3340 → s.2 629 k = nI (if k < i then W (k + 668) else W k)) ∧ ∀ a, a ≠ 629 → s.2 a = G a) 2672 step (nI 0, G) ⟨rfl, fun k hk => by rw [if_neg (by omega)]; exact m4 k hk, fun a ha => rfl⟩ (by omega)
  simp only at h1 h2 h3
  subst h1
  refine ⟨G2, h2, h3, ?_⟩
  rw [hrec]
  show bX9_acted_14 627 r rec' (nI 2672) G2 = _
  unfold bX9_acted_14
  rw [if_pos (by rw [nI_leI (by omega) (by omega)]; exact Nat.le_refl _), lt_def, h3 627 (by omega), m5, pk_sub (by omega)]
theorem acted_m {r : Nat} (hr : r < 2 ^ 31) (hM : MR S W Tx h n G) (hB : MB B G) : ∃ G', fX9_acted 627 (nI r) G = some (nI r, G') ∧ MR S (pushW W B h) Tx (pushN h) n G' ∧ FrM G G' := by
  unfold fX9_acted
  have hM0 := hM
  obtain ⟨m1, m2, m3, m4, m5, m6, m7⟩ := hM
  rw [if_neg (by rw [nI_ltI (by omega) (by omega)]; omega), m5]
  by_cases h5 : h = 5
  · subst h5
    rw [if_pos rfl]
    obtain ⟨G1, a1, a2, a3⟩ := shift_m (r := nI r) hM0
    have hm : ∀ a, a ≠ 629 → a ≠ 627 → mset G1 627 4 (nI 4) a = G a := fun a ha hb => by rw [mset_ne hb, a2 a ha]
    obtain ⟨G2, b1, b2, b3, b4, b5⟩ := put_m (G := mset G1 627 4 (nI 4)) (r := nI r) (h := 4) (B := B) (V := fun k => if k < 2672 then W (k + 668) else W k) (by omega) (by rw [mset_at, if_pos ⟨rfl, rfl⟩]) (fun k hk => by rw [hm 630 (by omega) (by omega)]; exact hB k hk) (fun k hk => by rw [mset_ne (by omega)]; exact a1 k hk)
    rw [a3, b1]
    have hf : ∀ a, a ≠ 629 → a ≠ 627 → G2 a = G a := fun a ha hb => (b5 a ha hb).trans (hm a ha hb)
    refine ⟨G2, rfl, ⟨by unfold pushN; rw [if_pos rfl]; omega, m2, fun k hk => by rw [hf 628 (by omega) (by omega)]; exact m3 k hk, fun k hk => ?_, by rw [b3]; rfl, by rw [b4, mset_at, if_neg (by omega), a2 627 (by omega)]; exact m6, fun j hj => by rw [hf 632 (by omega) (by omega)]; exact m7 j hj⟩, fun a ha => hf a (by omega) (by omega)⟩
    rw [b2 k hk]
    refine congrArg nI ?_
    unfold pushW
    rw [if_pos rfl]
    by_cases h1 : k < 2672
    · rw [if_neg (by omega), if_pos h1, if_pos h1]
    · rw [if_pos (by omega), if_neg h1, if_pos (by omega)]
  · rw [if_neg (by rw [nI_eq (by omega) (by omega)]; exact h5)]
    obtain ⟨G2, b1, b2, b3, b4, b5⟩ := put_m (r := nI r) (h := h) (B := B) (V := W) (by omega) m5 hB m4
    rw [b1]
    refine ⟨G2, rfl, ⟨by unfold pushN; rw [if_neg h5]; omega, m2, fun k hk => by rw [b5 628 (by omega) (by omega)]; exact m3 k hk, fun k hk => ?_, by rw [b3]; unfold pushN; rw [if_neg h5], by rw [b4]; exact m6, fun j hj => by rw [b5 632 (by omega) (by omega)]; exact m7 j hj⟩, fun a ha => b5 a (by omega) (by omega)⟩
    rw [b2 k hk]
    unfold pushW
    rw [if_neg h5]
/-- what holds of the reference's call -/
def ActM (b : Nat) (op : Mem → Option (Int32 × Mem)) (o : (Nat → Nat) → Oc) : Prop := ∀ (S W Tx : Nat → Nat) (h n : Nat) (G : Mem), MR S W Tx h n G → LI b S → ∃ G' : Mem, op G = some (oR (o S), G') ∧ MR (oS (o S) S) (oW (o S) W S h) Tx (oH (o S) h) n G' ∧ FrM G G'
theorem in_m {x : Int32} {lo hi : Nat} (h1 : lo < 2 ^ 31) (h2 : hi < 2 ^ 31) : fX9_in x (nI lo) (nI hi) G = some (if inW lo hi x then nI 1 else nI 0, G) := within_c h1 h2
theorem isField_m {x : Int32} : fX9_isField x G = some (if inF x then nI 1 else nI 0, G) := isField_c
theorem isChain_m {x1 x2 : Int32} (hM : MR S W Tx h n G) (hI : LI b S) : fX9_isChain 627 x1 x2 G = some (if inC S x1 x2 then nI 1 else nI 0, G) := by
  unfold fX9_isChain
  rw [isField_m, bd_some']
  by_cases hf : inF x1
  · obtain ⟨f, rfl, l1⟩ : ∃ f, x1 = nI f ∧ f ≤ 5 := ⟨tn x1, nat_in (hi := 5) (show inW 0 5 x1 from hf)⟩
    have hl := hI.len (f := f) (by omega)
    rw [if_pos hf, if_neg (by decide)]
    rw [nI_add, nI_ix (by omega) (by omega), nI_clamp (by omega), show (627 : Nat) + 1 = 628 from rfl, hM.s (by omega), pk_sub (by omega), in_m (by omega) (by omega), bd_some']
    have e : tn (nI f) = f := tn_nI (by omega)
    by_cases hc : inW 0 (S (12 + f) - 1) x2
    · have h1 := hc.1
      have h2 := hc.2
      rw [if_pos hc, if_neg (by decide), if_pos (show inC S (nI f) x2 from ⟨hf, by omega, by rw [e]; omega⟩)]
    · rw [if_neg hc, if_pos rfl, if_neg (fun z : inC S (nI f) x2 => hc ⟨z.2.1, by have := z.2.2; rw [e] at this; omega⟩)]
  · rw [if_neg hf, if_pos rfl, if_neg (fun z => hf z.1)]
theorem closed_m {w : Nat} (hM : MR S W Tx h n G) (hI : LI b S) (hw : w < 100000) : fX9_isClosed 627 (nI w) G = some (nI (clN S w), G) := by
  unfold fX9_isClosed clN
  have hN := hI.1
  rw [show (627 : Nat) + 1 = 628 from rfl, hM.s (k := 9) (by omega), hM.s (k := 10) (by omega), nI_rem (by omega) (by omega) (by omega)]
  simp only [nI_ltI (show S 10 < 2 ^ 31 by omega) (show S 9 < 2 ^ 31 by omega), nI_leI (show S 9 < 2 ^ 31 by omega) (show w % 52 < 2 ^ 31 by omega), nI_ltI (show S 10 < 2 ^ 31 by omega) (show w % 52 < 2 ^ 31 by omega), nI_ltI (show w % 52 < 2 ^ 31 by omega) (show S 9 < 2 ^ 31 by omega)]
  repeat' split
  all_goals first
    | rfl
    | omega
end
