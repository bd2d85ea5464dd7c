section
variable {p : Program} {l : Launch} {e : Env} {R : Room} {s : State} {m : MethodId} {args : Array Value} {below : List Frame} {meth : Method} {c : Code} {D : va_G} {c1 : Nat → ClassId} {ce ce' : Nat → va_E} {b0 : Nat} {kd kd' : Nat → Nat} {G G' : Mem}
theorem nI_mulN (a b : Nat) : nI a * nI b = nI (a * b) := (Int32.ofNat_mul a b).symm
theorem mset_mrow {B : Mem} {p j : Nat} {f : Nat → Int32} {v : Int32} : mset (mrow B p f) p j v = mrow B p (upd f j v) := by
  unfold mset
  rw [mrow_same]
  funext q
  unfold mrow
  by_cases h : q = p <;> simp [h]
def rM (a f c : Nat) : Nat → Int32 := fun j => if j = 1 then 30 else if j = 2 then 10 else if j = 3 then 50 else if j = 9 then 10 else if j = 10 then 30 else if j = 11 then 30 else if 12 ≤ j ∧ j < 12 + a then 10 else if 42 ≤ j ∧ j < 222 ∧ (j - 42) % 30 < 10 ∧ ((j - 42) / 30 < f ∨ ((j - 42) / 30 = f ∧ (j - 42) % 30 < c)) then 16 else 0
theorem rM_len {f : Nat} (h : f < 6) : upd (rM f f 0) (12 + f) (nI 10) = rM (f + 1) f 0 := by
  funext j
  unfold upd rM
  by_cases hj : j = 12 + f
  · rw [if_pos hj, if_neg (by omega), if_neg (by omega), if_neg (by omega), if_neg (by omega), if_neg (by omega), if_neg (by omega), if_pos (by omega)]; rfl
  · rw [if_neg hj]
    have : (12 ≤ j ∧ j < 12 + (f + 1)) ↔ (12 ≤ j ∧ j < 12 + f) := by omega
    simp only [this]
theorem rM_chain {f c : Nat} (h : f < 6) (hc : c < 10) : upd (rM (f + 1) f c) (42 + 30 * f + c) 16 = rM (f + 1) f (c + 1) := by
  funext j
  unfold upd rM
  by_cases hj : j = 42 + 30 * f + c
  · rw [if_pos hj, if_neg (by omega), if_neg (by omega), if_neg (by omega), if_neg (by omega), if_neg (by omega), if_neg (by omega), if_neg (by omega), if_pos (by omega)]
  · rw [if_neg hj]
    have : (42 ≤ j ∧ j < 222 ∧ (j - 42) % 30 < 10 ∧ ((j - 42) / 30 < f ∨ ((j - 42) / 30 = f ∧ (j - 42) % 30 < c + 1))) ↔ (42 ≤ j ∧ j < 222 ∧ (j - 42) % 30 < 10 ∧ ((j - 42) / 30 < f ∨ ((j - 42) / 30 = f ∧ (j - 42) % 30 < c))) := by omega
    simp only [this]
theorem rM_next {f : Nat} : rM (f + 1) f 10 = rM (f + 1) (f + 1) 0 := by
  funext j
  unfold rM
  have : (42 ≤ j ∧ j < 222 ∧ (j - 42) % 30 < 10 ∧ ((j - 42) / 30 < f ∨ ((j - 42) / 30 = f ∧ (j - 42) % 30 < 10))) ↔ (42 ≤ j ∧ j < 222 ∧ (j - 42) % 30 < 10 ∧ ((j - 42) / 30 < f + 1 ∨ ((j - 42) / 30 = f + 1 ∧ (j - 42) % 30 < 0))) := by omega
  simp only [this]
theorem lays_eq {q0 f cc : Nat} {k t : Int32} {G : Mem} (hf : f < 6) (hc : cc < 30) : fX9_lays q0 (nI f) (nI cc) k t G = some (mset G (q0 + 1) (42 + 30 * f + cc) (k + nI 4 * t)) := by
  unfold fX9_lays
  have h1 : nI 42 + nI 30 * nI f + nI cc = nI (42 + 30 * f + cc) := by
    rw [nI_mulN, nI_add, nI_add]
  rw [h1, nI_ix (by omega) (by omega), lt_def, nI_clamp (by omega)]
theorem init9_in {q0 f : Nat} {B : Mem} {rec : Int32 × Mem → Option Mem} (hf : f < 6) : itr FU (FX9_init_119 rec q0 (nI f)) (nI 0, mrow B (q0 + 1) (rM (f + 1) f 0)) = rec (nI (f + 1), mrow B (q0 + 1) (rM (f + 1) (f + 1) 0)) := by
  refine itr_run (fun i : Nat => (nI i, mrow B (q0 + 1) (rM (f + 1) f i))) 10 (fun i hi rec2 => ?_) (by omega) (fun rec2 => ?_)
  · show bX9_init_119 rec q0 (nI f) rec2 (nI i) _ = _
    unfold bX9_init_119
    rw [if_neg (by rw [nI_leI (by omega) (by omega)]; omega), lays_eq hf (by omega), bv_some', mset_mrow, nI_add, show nI 0 + nI 4 * nI 4 = 16 from rfl, rM_chain hf hi]
  · show bX9_init_119 rec q0 (nI f) rec2 (nI 10) _ = _
    unfold bX9_init_119
    rw [if_pos (by rw [nI_leI (by omega) (by omega)]; omega), nI_add, rM_next]
theorem init9_base {q0 : Nat} {G : Mem} : mset (mset (mset (mset (mset (mset (ovg G q0 g0) (q0 + 1) 1 (nI 30)) (q0 + 1) 2 (nI 10)) (q0 + 1) 3 (nI 50)) (q0 + 1) 9 (nI 10)) (q0 + 1) 10 (nI 30)) (q0 + 1) 11 (nI 30) = mrow (ovg G q0 g0) (q0 + 1) (rM 0 0 0) := by
  funext a j
  rw [mset_at, mset_at, mset_at, mset_at, mset_at, mset_at, mrow_at]
  by_cases ha : a = q0 + 1
  · subst ha
    rw [ovg_ge]
    unfold rM g0
    rw [if_pos rfl]
    by_cases h11 : j = 11
    · subst h11; first | (simp; done) | (simp; rfl)
    by_cases h10 : j = 10
    · subst h10; first | (simp; done) | (simp; rfl)
    by_cases h9 : j = 9
    · subst h9; first | (simp; done) | (simp; rfl)
    by_cases h3 : j = 3
    · subst h3; first | (simp; done) | (simp; rfl)
    by_cases h2 : j = 2
    · subst h2; first | (simp; done) | (simp; rfl)
    by_cases h1 : j = 1
    · subst h1; first | (simp; done) | (simp; rfl)
    simp [h1, h2, h3, h9, h10, h11]
  · rw [if_neg (fun h => ha h.1), if_neg (fun h => ha h.1), if_neg (fun h => ha h.1), if_neg (fun h => ha h.1), if_neg (fun h => ha h.1), if_neg (fun h => ha h.1), if_neg ha]
theorem init9_out {q0 : Nat} {B : Mem} : itr FU (FX9_init_100 q0) (nI 0, mrow B (q0 + 1) (rM 0 0 0)) = some (mrow B (q0 + 1) (rM 6 6 0)) := by
  refine itr_run (fun i : Nat => (nI i, mrow B (q0 + 1) (rM i i 0))) 6 (fun i hi rec => ?_) (by omega) (fun rec => ?_)
  · show bX9_init_100 q0 rec (nI i) _ = _
    unfold bX9_init_100
    rw [if_neg (by rw [nI_leI (by omega) (by omega)]; omega), nI_add, nI_ix (by omega) (by omega), lt_def, nI_clamp (by omega), mset_mrow, rM_len hi, init9_in hi]
  · show bX9_init_100 q0 rec (nI 6) _ = _
    unfold bX9_init_100
    rw [if_pos (by rw [nI_leI (by omega) (by omega)]; omega)]
theorem init9_eq {q0 : Nat} {G : Mem} : fX9_init q0 (ovg G q0 g0) = some (mrow (ovg G q0 g0) (q0 + 1) (rM 6 6 0)) := by
  unfold fX9_init
  rw [lt_def, lt_def, lt_def, lt_def, lt_def, lt_def, init9_base]
  exact init9_out
theorem gM_eq {q0 : Nat} {G : Mem} : mrow (ovg G q0 g0) (q0 + 1) (rM 6 6 0) = ovg G q0 gM := by
  funext a j
  rw [mrow_at]
  by_cases ha : a = q0 + 1
  · subst ha
    rw [if_pos rfl, ovg_ge]
    unfold gM rM
    have : (42 ≤ j ∧ j < 222 ∧ (j - 42) % 30 < 10 ∧ ((j - 42) / 30 < 6 ∨ ((j - 42) / 30 = 6 ∧ (j - 42) % 30 < 0))) ↔ (42 ≤ j ∧ j < 222 ∧ (j - 42) % 30 < 10) := by omega
    simp only [this]
    rfl
  · rw [if_neg ha]
    unfold ovg
    by_cases h : a < q0
    · rw [if_pos h, if_pos h]
    · rw [if_neg h, if_neg h]
      unfold gM g0
      rw [if_neg (by omega)]

theorem cK9 {q0 : Nat} (hk : kd q0 = 99) (he : ce q0 = .inr (9, [.null, .null, .null, .null, .int 0, .null, .int 0, .int 0, .int 0, .int 0, .int 0])) : xK l D c1 b0 yX9_init cX9_init 3 1 24 5 4820 [.ref (bad b0 q0)] ce kd G (q0 + 1) ce (ovk kd q0 kdM) (ovg G q0 gM) (q0 + 6) := by
  refine xK_of (by decide +kernel) (Nat.le_of_ble_eq_true rfl) (fun p e s m args below meth c C hin hsz => ?_)
  have C : xC p s m args meth c cX9_init RX9 3 none D (c1, ce) := C
  have hb0 : b0 ≤ s.heap.size := by omega
  refine xsub C (lv' := [(0, .ref (bad b0 q0))]) [0] rfl ?_
  refine xaload_n (xCc C) 0 rfl rfl dX9_init_0 ?_
  refine xobj (xCc C) w_638 w_19 w_20 ⟨(Nat.le_of_ble_eq_true rfl), (Nat.le_of_ble_eq_true rfl)⟩ dX9_init_1 ?_
  refine xaload_n (xCc C) 0 rfl rfl dX9_init_4 ?_
  refine xsipush (xCc C) (v := 668) dX9_init_5 (by decide) ?_
  refine xnewaI (xCc C) 668 14 (by decide) (by decide) (by decide) (fun _ _ _ _ => rfl) w_58 (by omega) hb0 (by show _ ≤ 5; omega) (by show _ ≤ 4820; omega) dX9_init_8 ?_
  refine xputOF (xCc C) (q := q0) (ci := 9) (fs := [.null, .null, .null, .null, .int 0, .null, .int 0, .int 0, .int 0, .int 0, .int 0]) (T := TX9) (ty := .array .int) (by omega) (by simp [va_up, hk, Nat.add_assoc]) (he) rfl inlX9 tyX9 tyX9_ok nmX9 0 (by decide) (by exact Nat.le_of_ble_eq_true rfl) rfl hin rfl (by decide +kernel) rfl rfl w_643 dX9_init_10 ?_
  refine xaload_n (xCc C) 0 rfl rfl dX9_init_13 ?_
  refine xsipush (xCc C) (v := 3340) dX9_init_14 (by decide) ?_
  refine xnewaI (xCc C) 3340 15 (by decide) (by decide) (by decide) (fun _ _ _ _ => rfl) w_58 (by omega) hb0 (by show _ ≤ 5; omega) (by show _ ≤ 4820; omega) dX9_init_17 ?_
  refine xputOF (xCc C) (q := q0) (ci := 9) (fs := [.ref (bad b0 (q0 + 1)), .null, .null, .null, .int 0, .null, .int 0, .int 0, .int 0, .int 0, .int 0]) (T := TX9) (ty := .array .int) (by omega) (by simp [va_up, hk, Nat.add_assoc]) (by simp [va_up, Nat.add_assoc]) rfl inlX9 tyX9 tyX9_ok nmX9 1 (by decide) (by exact Nat.le_of_ble_eq_true rfl) rfl hin rfl (by decide +kernel) rfl rfl w_644 dX9_init_19 ?_
  refine xaload_n (xCc C) 0 rfl rfl dX9_init_22 ?_
  refine xsipush (xCc C) (v := 668) dX9_init_23 (by decide) ?_
  refine xnewaI (xCc C) 668 14 (by decide) (by decide) (by decide) (fun _ _ _ _ => rfl) w_58 (by omega) hb0 (by show _ ≤ 5; omega) (by show _ ≤ 4820; omega) dX9_init_26 ?_
  refine xputOF (xCc C) (q := q0) (ci := 9) (fs := [.ref (bad b0 (q0 + 1)), .ref (bad b0 (q0 + 2)), .null, .null, .int 0, .null, .int 0, .int 0, .int 0, .int 0, .int 0]) (T := TX9) (ty := .array .int) (by omega) (by simp [va_up, hk, Nat.add_assoc]) (by simp [va_up, Nat.add_assoc]) rfl inlX9 tyX9 tyX9_ok nmX9 2 (by decide) (by exact Nat.le_of_ble_eq_true rfl) rfl hin rfl (by decide +kernel) rfl rfl w_645 dX9_init_28 ?_
  refine xaload_n (xCc C) 0 rfl rfl dX9_init_31 ?_
  refine xbipush (xCc C) (v := 64) dX9_init_32 (by decide) ?_
  refine xnewaI (xCc C) 64 12 (by decide) (by decide) (by decide) (fun _ _ _ _ => rfl) w_58 (by omega) hb0 (by show _ ≤ 5; omega) (by show _ ≤ 4820; omega) dX9_init_34 ?_
  refine xputOF (xCc C) (q := q0) (ci := 9) (fs := [.ref (bad b0 (q0 + 1)), .ref (bad b0 (q0 + 2)), .ref (bad b0 (q0 + 3)), .null, .int 0, .null, .int 0, .int 0, .int 0, .int 0, .int 0]) (T := TX9) (ty := .array .int) (by omega) (by simp [va_up, hk, Nat.add_assoc]) (by simp [va_up, Nat.add_assoc]) rfl inlX9 tyX9 tyX9_ok nmX9 3 (by decide) (by exact Nat.le_of_ble_eq_true rfl) rfl hin rfl (by decide +kernel) rfl rfl w_646 dX9_init_36 ?_
  refine xaload_n (xCc C) 0 rfl rfl dX9_init_39 ?_
  refine xbipush (xCc C) (v := 80) dX9_init_40 (by decide) ?_
  refine xnewaI (xCc C) 80 13 (by decide) (by decide) (by decide) (fun _ _ _ _ => rfl) w_58 (by omega) hb0 (by show _ ≤ 5; omega) (by show _ ≤ 4820; omega) dX9_init_42 ?_
  refine xputOF (xCc C) (q := q0) (ci := 9) (fs := [.ref (bad b0 (q0 + 1)), .ref (bad b0 (q0 + 2)), .ref (bad b0 (q0 + 3)), .ref (bad b0 (q0 + 4)), .int 0, .null, .int 0, .int 0, .int 0, .int 0, .int 0]) (T := TX9) (ty := .array .int) (by omega) (by simp [va_up, hk, Nat.add_assoc]) (by simp [va_up, Nat.add_assoc]) rfl inlX9 tyX9 tyX9_ok nmX9 5 (by decide) (by exact Nat.le_of_ble_eq_true rfl) rfl hin rfl (by decide +kernel) rfl rfl w_648 dX9_init_44 ?_
  refine xwiden (k := 5) (n := 4820) (by omega) (by omega) ?_
  refine xw (ce' := ce) (kd' := ovk kd q0 kdM) (G' := ovg G q0 g0) (xfin (q0 := q0) (n := 6) (fun q hq => ?_) (fun i hi => ?_)) ?_
  · rw [ovk_lt hq, ovg_lt hq]
    simp only [va_ne (show q ≠ q0 by omega), va_ne (show q ≠ q0 + 1 by omega), va_ne (show q ≠ q0 + 1 + 1 by omega), va_ne (show q ≠ q0 + 1 + 1 + 1 by omega), va_ne (show q ≠ q0 + 1 + 1 + 1 + 1 by omega), va_ne (show q ≠ q0 + 1 + 1 + 1 + 1 + 1 by omega), mrow_ne (show q ≠ q0 + 1 by omega), mrow_ne (show q ≠ q0 + 1 + 1 by omega), mrow_ne (show q ≠ q0 + 1 + 1 + 1 by omega), mrow_ne (show q ≠ q0 + 1 + 1 + 1 + 1 by omega), mrow_ne (show q ≠ q0 + 1 + 1 + 1 + 1 + 1 by omega), and_self]
  · rw [ovk_ge]
    rcases (show i = 0 ∨ i = 1 ∨ i = 2 ∨ i = 3 ∨ i = 4 ∨ i = 5 by omega) with rfl | rfl | rfl | rfl | rfl | rfl <;> simp [kdM, kE, va_up, hk, ovg, mrow, g0, Nat.add_assoc, nl_1, nl_2] <;> rfl
  · exact wX9_init_47 (xCc C) ⟨⟨by omega, ovk_ge (i := 0)⟩, ⟨by omega, ovk_ge⟩, ⟨by omega, ovk_ge⟩, ⟨by omega, ovk_ge⟩, ⟨by omega, ovk_ge⟩, ⟨by omega, ovk_ge⟩⟩ (init9_eq.trans (congrArg some gM_eq))

end
