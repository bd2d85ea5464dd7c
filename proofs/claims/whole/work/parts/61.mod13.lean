section
variable {G G' : Mem} {S S' W Tx B : Nat → Nat} {h n b : Nat}
theorem canLay_m {f c : Nat} (hM : MR S W Tx h n G) (hI : LI b S) (hb : b < 100000000) (hf : f < 6) (hc : c < S (12 + f)) : fX9_canLay 627 (nI f) (nI c) G = some (if cL S f c then nI 1 else nI 0, G) := by
  unfold fX9_canLay
  have hN := hI.1
  have hl := (hI.len hf).2
  have hx := hI.cx hf hc
  rw [thick_m hM hf (by omega) hx, bd_some', kind_m hM hf (by omega) hx, bd_some', show (627 : Nat) + 1 = 628 from rfl, hM.s (k := 1) (by omega), hM.s (k := 2) (by omega)]
  by_cases h1 : S (42 + 30 * f + c) % 4 = 0
  · rw [if_pos (by rw [h1])]
    by_cases h2 : S (42 + 30 * f + c) / 4 % 16 < 2
    · rw [if_pos (by rw [nI_ltI (by omega) (by omega)]; exact h2), if_neg (fun z => by have := z.2.2.1; omega)]
    · rw [if_neg (by rw [nI_ltI (by omega) (by omega)]; exact h2)]
      by_cases h3 : S 1 < S (42 + 30 * f + c) / 4 % 16
      · rw [if_pos (by rw [nI_ltI (by omega) (by omega)]; exact h3), if_neg (fun z => by have := z.2.2.2.1; omega)]
      · rw [if_neg (by rw [nI_ltI (by omega) (by omega)]; exact h3)]
        by_cases h4 : S 2 < 2
        · rw [if_pos (by rw [nI_ltI (by omega) (by omega)]; exact h4), if_neg (fun z => by have := z.2.2.2.2; omega)]
        · rw [if_neg (by rw [nI_ltI (by omega) (by omega)]; exact h4), if_pos (show cL S f c from ⟨hc, h1, by omega, by omega, by omega⟩)]
  · rw [if_neg (by rw [nI_eq (by omega) (by omega)]; exact h1), if_neg (fun z => h1 z.2.1)]
end
