section
variable {p : Program} {l : Launch} {e : Env} {R : Room} {s : State} {m : MethodId} {args : Array Value} {below : List Frame} {meth : Method} {c : Code} {D : va_G} {c1 : Nat → ClassId} {ce ce' : Nat → va_E} {b0 : Nat} {kd kd' : Nat → Nat} {NP nL cells slots : Nat} {Q : State → Prop} {G G' : Mem} {pc : Nat} {lv : List (Nat × Value)} {rest st : List Value} {cc : ByteArray} {own : String} {rt : Option FieldType}
def ovk (kd : Nat → Nat) (p : Nat) (f : Nat → Nat) : Nat → Nat := fun q => if q < p then kd q else f (q - p)
def ovg (G : Mem) (p : Nat) (g : Nat → Nat → Int32) : Mem := fun q => if q < p then G q else g (q - p)
theorem ovk_lt {kd : Nat → Nat} {p q : Nat} {f : Nat → Nat} (h : q < p) : ovk kd p f q = kd q := if_pos h
theorem ovk_ge {kd : Nat → Nat} {p i : Nat} {f : Nat → Nat} : ovk kd p f (p + i) = f i := by unfold ovk; rw [if_neg (by omega), Nat.add_sub_cancel_left]
theorem ovk_at {kd : Nat → Nat} {p : Nat} {f : Nat → Nat} : ovk kd p f p = f 0 := ovk_ge (i := 0)
theorem ovg_lt {G : Mem} {p q : Nat} {g : Nat → Nat → Int32} (h : q < p) : ovg G p g q = G q := if_pos h
theorem ovg_ge {G : Mem} {p i : Nat} {g : Nat → Nat → Int32} : ovg G p g (p + i) = g i := by unfold ovg; rw [if_neg (by omega), Nat.add_sub_cancel_left]
theorem ovg_at {G : Mem} {p : Nat} {g : Nat → Nat → Int32} : ovg G p g p = g 0 := ovg_ge (i := 0)
def kdH : Nat → Nat := fun i => if i = 0 then 1 else 10
def kdL : Nat → Nat := fun i => if i = 0 then 4 else if i = 1 then 18 else if i = 2 then 19 else if (i - 3) % 5 = 0 then 1 else if (i - 3) % 5 = 4 then 0 else 10
def kdS : Nat → Nat := fun i => if i = 0 then 6 else if i < 34 then kdL (i - 1) else if i = 34 then 20 else if i = 35 then 16 else kdL ((i - 36) % 33)
def kdHi : Nat → Nat := fun i => if i = 0 then 3 else if i = 1 then 21 else kdS ((i - 2) % 102)
def kdX : Nat → Nat := fun i => if i = 0 then 8 else if i < 103 then kdS (i - 1) else if i < 615 then kdHi (i - 103) else if i = 615 then 7 else if i = 616 then 17 else if i = 617 then 2 else if i < 622 then kdH (i - 618) else if i = 622 then 5 else if i = 626 then 12 else 11
def kdM : Nat → Nat := fun i => if i = 0 then 9 else if i = 1 then 14 else if i = 2 then 15 else if i = 3 then 14 else if i = 4 then 12 else 13
def g0 : Nat → Nat → Int32 := fun _ _ => 0
def gL : Nat → Nat → Int32 := fun i j => if i = 0 then (if j = 3 then 10 else if j = 4 then 30 else if j = 5 then 30 else if j = 6 then 30 else if j = 7 then 10 else if j = 8 then 50 else 0) else if i < 3 then 0 else if (i - 3) % 5 = 0 then (if j = 3 then 10 else 0) else if (i - 3) % 5 = 2 then (if j < 10 then 4 else 0) else 0
def gS : Nat → Nat → Int32 := fun i => if i = 0 then g0 0 else if i < 34 then gL (i - 1) else if i < 36 then g0 0 else gL ((i - 36) % 33)
def gHi : Nat → Nat → Int32 := fun i => if i < 2 then g0 0 else gS ((i - 2) % 102)
def gX : Nat → Nat → Int32 := fun i => if i = 0 then g0 0 else if i < 103 then gS (i - 1) else if i < 615 then gHi (i - 103) else g0 0
def gM : Nat → Nat → Int32 := fun i j => if i = 1 then (if j = 1 then 30 else if j = 2 then 10 else if j = 3 then 50 else if j = 9 then 10 else if j = 10 then 30 else if j = 11 then 30 else if 12 ≤ j ∧ j < 18 then 10 else if 42 ≤ j ∧ j < 222 ∧ (j - 42) % 30 < 10 then 16 else 0) else 0
theorem nl_1 (a b : Nat) : (a + b < a) = False := eq_false (by omega)
theorem nl_2 (a : Nat) : (a < a) = False := eq_false (by omega)
theorem xCc {p : Program} {s : State} {m : MethodId} {args : Array Value} {meth : Method} {c : Code} {cc : ByteArray} {own : String} {nL : Nat} {rt : Option FieldType} {D : va_G} {c1 : Nat → ClassId} {ce ce' : Nat → va_E} (h : xC p s m args meth c cc own nL rt D (c1, ce)) : xC p s m args meth c cc own nL rt D (c1, ce') := h
theorem kE_congr2 {ad : Nat → Nat} {k q : Nat} (hG : G' q = G q) (hc : ce' q = ce q) : kE (c1, ce') ad G' k q = kE (c1, ce) ad G k q := by
  rw [kE_congr (G := G) (G' := G') hG, kE_congrC hc]
theorem xfin {q0 n : Nat} (h1 : ∀ q, q < q0 → kd' q = kd q ∧ G' q = G q ∧ ce' q = ce q) (h2 : ∀ i, i < n → kE (c1, ce') (bad b0) G' (kd' (q0 + i)) (q0 + i) = kE (c1, ce) (bad b0) G (kd (q0 + i)) (q0 + i)) : ∀ q, q < q0 + n → kE (c1, ce') (bad b0) G' (kd' q) q = kE (c1, ce) (bad b0) G (kd q) q := by
  intro q hq
  by_cases h : q < q0
  · obtain ⟨a, b, c⟩ := h1 q h
    rw [a]
    exact kE_congr2 b c
  · have := h2 (q - q0) (by omega)
    rwa [show q0 + (q - q0) = q by omega] at this
theorem xaalO (C : xC p s m args meth c cc own nL rt D (c1, ce)) {q n a t : Nat} {f : Nat → Option Nat} {CN : String} {i : Int32} (j : Nat) (hj : i.toNatClampNeg = j) (hq : q < NP) (hk : kd q = 99) (he : ce q = .inl (c1 t, n, .inr (.inr (.inr (.inr f))))) (ht : (xT (c1, ce))[t]? = some (c1 t, .object CN)) (hf : f j = some a) (hin : vp_in i n) (d : decode cc pc = .ok (.aaload, 1)) (k : xX p l e R s m args below meth c (fun q => b0 ≤ q) s.heap D (c1, ce) (bad b0) kd NP nL cells slots Q G (pc + 1) lv (.ref a :: rest)) : xX p l e R s m args below meth c (fun q => b0 ≤ q) s.heap D (c1, ce) (bad b0) kd NP nL cells slots Q G pc lv (.int i :: .ref (bad b0 q) :: rest) := by
  subst hj
  obtain ⟨hx, hb, hml, hown, hts, hK, hN, hr, hlk⟩ := C
  intro H locs ls hP hD hS hl
  refine va_aldq hx hb hK hP q t (f := f) (cA := c1 t) (by rw [wo_at ⟨hq, hk⟩]; show some (bad b0 q, ce q) = _; rw [he]) ht hin d ?_
  rw [hf]
  exact k H locs ls hP hD hS hl

theorem cK0 {q0 : Nat} (hk : kd q0 = 99) (he : ce q0 = .inr (0, [.int 0, .int 0, .int 0, .int 0])) : xK l D c1 b0 yX0_init cX0_init 1 1 12 0 0 [.ref (bad b0 q0)] ce kd G (q0 + 1) ce (ovk kd q0 (fun _ => 0)) (ovg G q0 g0) (q0 + 1) := by
  refine xK_of (by decide +kernel) (Nat.le_of_ble_eq_true rfl) (fun p e s m args below meth c C hin hsz => ?_)
  have C : xC p s m args meth c cX0_init RX0 1 none D (c1, ce) := C
  have hb0 : b0 ≤ s.heap.size := by omega
  refine xsub C (lv' := [(0, .ref (bad b0 q0))]) [0] rfl ?_
  refine xaload_n (xCc C) 0 rfl rfl dX0_init_0 ?_
  refine xobj (xCc C) w_75 w_19 w_20 ⟨(Nat.le_of_ble_eq_true rfl), (Nat.le_of_ble_eq_true rfl)⟩ dX0_init_1 ?_
  refine xaload_n (xCc C) 0 rfl rfl dX0_init_4 ?_
  refine xiconst (xCc C) (v := 0) dX0_init_5 (by decide) ?_
  refine xputO (xCc C) (q := q0) (ci := 0) (fs := [.int 0, .int 0, .int 0, .int 0]) (T := TX0) (ty := .boolean) (by omega) (hk) (he) rfl inlX0 tyX0 tyX0_ok nmX0 0 (by decide) (by exact Nat.le_of_ble_eq_true rfl) rfl (by decide +kernel) (xz_nar (Or.inl rfl)) rfl w_76 dX0_init_6 ?_
  refine xw (ce' := ce) (kd' := ovk kd q0 (fun _ => 0)) (G' := ovg G q0 g0) (xfin (n := 1) (fun q hq => ⟨ovk_lt hq, ovg_lt hq, ?_⟩) (fun i hi => ?_)) ?_
  · exact (if_neg (Nat.ne_of_lt hq)).symm
  · obtain rfl : i = 0 := by omega
    simp [ovk_at, ovg_at, hk, kE, va_up, g0]
  · exact xkret (xCc C) rfl dX0_init_9

theorem cK1 {q0 : Nat} (hk : kd q0 = 99) (he : ce q0 = .inr (1, [.null, .null, .null, .int 0])) : xK l D c1 b0 yX1_init cX1_init 1 1 12 3 90 [.ref (bad b0 q0)] ce kd G (q0 + 1) ce (ovk kd q0 kdH) (ovg G q0 g0) (q0 + 4) := by
  refine xK_of (by decide +kernel) (Nat.le_of_ble_eq_true rfl) (fun p e s m args below meth c C hin hsz => ?_)
  have C : xC p s m args meth c cX1_init RX1 1 none D (c1, ce) := C
  have hb0 : b0 ≤ s.heap.size := by omega
  refine xsub C (lv' := [(0, .ref (bad b0 q0))]) [0] rfl ?_
  refine xaload_n (xCc C) 0 rfl rfl dX1_init_0 ?_
  refine xobj (xCc C) w_41 w_19 w_20 ⟨(Nat.le_of_ble_eq_true rfl), (Nat.le_of_ble_eq_true rfl)⟩ dX1_init_1 ?_
  refine xaload_n (xCc C) 0 rfl rfl dX1_init_4 ?_
  refine xbipush (xCc C) (v := 30) dX1_init_5 (by decide) ?_
  refine xnewaI (xCc C) 30 10 (by decide) (by decide) (by decide) (fun _ _ _ _ => rfl) w_58 (by omega) hb0 (by show _ ≤ 3; omega) (by show _ ≤ 90; omega) dX1_init_7 ?_
  refine xputOF (xCc C) (q := q0) (ci := 1) (fs := [.null, .null, .null, .int 0]) (T := TX1) (ty := .array .int) (by omega) (by simp [va_up, hk, Nat.add_assoc]) (he) rfl inlX1 tyX1 tyX1_ok nmX1 0 (by decide) (by exact Nat.le_of_ble_eq_true rfl) rfl hin rfl (by decide +kernel) rfl rfl w_42 dX1_init_9 ?_
  refine xaload_n (xCc C) 0 rfl rfl dX1_init_12 ?_
  refine xbipush (xCc C) (v := 30) dX1_init_13 (by decide) ?_
  refine xnewaI (xCc C) 30 10 (by decide) (by decide) (by decide) (fun _ _ _ _ => rfl) w_58 (by omega) hb0 (by show _ ≤ 3; omega) (by show _ ≤ 90; omega) dX1_init_15 ?_
  refine xputOF (xCc C) (q := q0) (ci := 1) (fs := [.ref (bad b0 (q0 + 1)), .null, .null, .int 0]) (T := TX1) (ty := .array .int) (by omega) (by simp [va_up, hk, Nat.add_assoc]) (by simp [va_up, Nat.add_assoc]) rfl inlX1 tyX1 tyX1_ok nmX1 1 (by decide) (by exact Nat.le_of_ble_eq_true rfl) rfl hin rfl (by decide +kernel) rfl rfl w_43 dX1_init_17 ?_
  refine xaload_n (xCc C) 0 rfl rfl dX1_init_20 ?_
  refine xbipush (xCc C) (v := 30) dX1_init_21 (by decide) ?_
  refine xnewaI (xCc C) 30 10 (by decide) (by decide) (by decide) (fun _ _ _ _ => rfl) w_58 (by omega) hb0 (by show _ ≤ 3; omega) (by show _ ≤ 90; omega) dX1_init_23 ?_
  refine xputOF (xCc C) (q := q0) (ci := 1) (fs := [.ref (bad b0 (q0 + 1)), .ref (bad b0 (q0 + 2)), .null, .int 0]) (T := TX1) (ty := .array .int) (by omega) (by simp [va_up, hk, Nat.add_assoc]) (by simp [va_up, Nat.add_assoc]) rfl inlX1 tyX1 tyX1_ok nmX1 2 (by decide) (by exact Nat.le_of_ble_eq_true rfl) rfl hin rfl (by decide +kernel) rfl rfl w_44 dX1_init_25 ?_
  refine xaload_n (xCc C) 0 rfl rfl dX1_init_28 ?_
  refine xiconst (xCc C) (v := 0) dX1_init_29 (by decide) ?_
  refine xputO (xCc C) (q := q0) (ci := 1) (fs := [.ref (bad b0 (q0 + 1)), .ref (bad b0 (q0 + 2)), .ref (bad b0 (q0 + 3)), .int 0]) (T := TX1) (ty := .int) (by omega) (by simp [va_up, hk, Nat.add_assoc]) (by simp [va_up, Nat.add_assoc]) rfl inlX1 tyX1 tyX1_ok nmX1 3 (by decide) (by exact Nat.le_of_ble_eq_true rfl) rfl (by decide +kernel) (vp_nar_int 0) rfl w_45 dX1_init_30 ?_
  refine xw (ce' := ce) (kd' := ovk kd q0 kdH) (G' := ovg G q0 g0) (xfin (n := 4) (fun q hq => ?_) (fun i hi => ?_)) ?_
  · rw [ovk_lt hq, ovg_lt hq]
    have h0 : q ≠ q0 := by omega
    have h1 : q ≠ q0 + 1 := by omega
    have h2 : q ≠ q0 + 1 + 1 := by omega
    have h3 : q ≠ q0 + 1 + 1 + 1 := by omega
    simp only [va_up, if_neg h0, if_neg h1, if_neg h2, if_neg h3, mrow_ne h1, mrow_ne h2, mrow_ne h3, and_self]
  · rw [ovk_ge]
    rcases (show i = 0 ∨ i = 1 ∨ i = 2 ∨ i = 3 by omega) with rfl | rfl | rfl | rfl <;> simp [kdH, kE, va_up, hk, ovg, mrow, g0, Nat.add_assoc, nl_1, nl_2] <;> rfl
  · exact xkret (xCc C) rfl dX1_init_33

theorem cK7 {q0 : Nat} (hk : kd q0 = 99) (he : ce q0 = .inr (7, [.null, .int 0])) : xK l D c1 b0 yX7_init cX7_init 1 1 12 1 80 [.ref (bad b0 q0)] ce kd G (q0 + 1) ce (ovk kd q0 (fun i => if i = 0 then 7 else 17)) (ovg G q0 g0) (q0 + 2) := by
  refine xK_of (by decide +kernel) (Nat.le_of_ble_eq_true rfl) (fun p e s m args below meth c C hin hsz => ?_)
  have C : xC p s m args meth c cX7_init RX7 1 none D (c1, ce) := C
  have hb0 : b0 ≤ s.heap.size := by omega
  refine xsub C (lv' := [(0, .ref (bad b0 q0))]) [0] rfl ?_
  refine xaload_n (xCc C) 0 rfl rfl dX7_init_0 ?_
  refine xobj (xCc C) w_195 w_19 w_20 ⟨(Nat.le_of_ble_eq_true rfl), (Nat.le_of_ble_eq_true rfl)⟩ dX7_init_1 ?_
  refine xaload_n (xCc C) 0 rfl rfl dX7_init_4 ?_
  refine xbipush (xCc C) (v := 80) dX7_init_5 (by decide) ?_
  refine xnewaC (xCc C) 80 17 (by decide) (by decide) (by decide) (fun _ _ _ _ => rfl) w_205 (by omega) hb0 (by show _ ≤ 1; omega) (by show _ ≤ 80; omega) dX7_init_7 ?_
  refine xputOF (xCc C) (q := q0) (ci := 7) (fs := [.null, .int 0]) (T := TX7) (ty := .array .char) (by omega) (by simp [va_up, hk, Nat.add_assoc]) (he) rfl inlX7 tyX7 tyX7_ok nmX7 0 (by decide) (by exact Nat.le_of_ble_eq_true rfl) rfl hin rfl (by decide +kernel) rfl rfl w_196 dX7_init_9 ?_
  refine xaload_n (xCc C) 0 rfl rfl dX7_init_12 ?_
  refine xiconst (xCc C) (v := 0) dX7_init_13 (by decide) ?_
  refine xputO (xCc C) (q := q0) (ci := 7) (fs := [.ref (bad b0 (q0 + 1)), .int 0]) (T := TX7) (ty := .int) (by omega) (by simp [va_up, hk, Nat.add_assoc]) (by simp [va_up, Nat.add_assoc]) rfl inlX7 tyX7 tyX7_ok nmX7 1 (by decide) (by exact Nat.le_of_ble_eq_true rfl) rfl (by decide +kernel) (vp_nar_int 0) rfl w_197 dX7_init_14 ?_
  refine xw (ce' := ce) (kd' := ovk kd q0 (fun i => if i = 0 then 7 else 17)) (G' := ovg G q0 g0) (xfin (n := 2) (fun q hq => ?_) (fun i hi => ?_)) ?_
  · rw [ovk_lt hq, ovg_lt hq]
    have h0 : q ≠ q0 := by omega
    have h1 : q ≠ q0 + 1 := by omega
    simp only [va_up, if_neg h0, if_neg h1, mrow_ne h1, and_self]
  · rw [ovk_ge]
    rcases (show i = 0 ∨ i = 1 by omega) with rfl | rfl <;> simp [kE, va_up, hk, ovg, mrow, g0, Nat.add_assoc, nl_1, nl_2] <;> rfl
  · exact xkret (xCc C) rfl dX7_init_17

theorem cK5 {q0 : Nat} (hk : kd q0 = 99) (he : ce q0 = .inr (5, [.null, .null, .null, .null, .int 0, .int 0])) : xK l D c1 b0 yX5_init cX5_init 1 1 12 4 82 [.ref (bad b0 q0)] ce kd G (q0 + 1) ce (ovk kd q0 (fun i => if i = 0 then 5 else if i = 4 then 12 else 11)) (ovg G q0 g0) (q0 + 5) := by
  refine xK_of (by decide +kernel) (Nat.le_of_ble_eq_true rfl) (fun p e s m args below meth c C hin hsz => ?_)
  have C : xC p s m args meth c cX5_init RX5 1 none D (c1, ce) := C
  have hb0 : b0 ≤ s.heap.size := by omega
  refine xsub C (lv' := [(0, .ref (bad b0 q0))]) [0] rfl ?_
  refine xaload_n (xCc C) 0 rfl rfl dX5_init_0 ?_
  refine xobj (xCc C) w_231 w_19 w_20 ⟨(Nat.le_of_ble_eq_true rfl), (Nat.le_of_ble_eq_true rfl)⟩ dX5_init_1 ?_
  refine xaload_n (xCc C) 0 rfl rfl dX5_init_4 ?_
  refine xbipush (xCc C) (v := 6) dX5_init_5 (by decide) ?_
  refine xnewaI (xCc C) 6 11 (by decide) (by decide) (by decide) (fun _ _ _ _ => rfl) w_58 (by omega) hb0 (by show _ ≤ 4; omega) (by show _ ≤ 82; omega) dX5_init_7 ?_
  refine xputOF (xCc C) (q := q0) (ci := 5) (fs := [.null, .null, .null, .null, .int 0, .int 0]) (T := TX5) (ty := .array .int) (by omega) (by simp [va_up, hk, Nat.add_assoc]) (he) rfl inlX5 tyX5 tyX5_ok nmX5 0 (by decide) (by exact Nat.le_of_ble_eq_true rfl) rfl hin rfl (by decide +kernel) rfl rfl w_232 dX5_init_9 ?_
  refine xaload_n (xCc C) 0 rfl rfl dX5_init_12 ?_
  refine xbipush (xCc C) (v := 6) dX5_init_13 (by decide) ?_
  refine xnewaI (xCc C) 6 11 (by decide) (by decide) (by decide) (fun _ _ _ _ => rfl) w_58 (by omega) hb0 (by show _ ≤ 4; omega) (by show _ ≤ 82; omega) dX5_init_15 ?_
  refine xputOF (xCc C) (q := q0) (ci := 5) (fs := [.ref (bad b0 (q0 + 1)), .null, .null, .null, .int 0, .int 0]) (T := TX5) (ty := .array .int) (by omega) (by simp [va_up, hk, Nat.add_assoc]) (by simp [va_up, Nat.add_assoc]) rfl inlX5 tyX5 tyX5_ok nmX5 1 (by decide) (by exact Nat.le_of_ble_eq_true rfl) rfl hin rfl (by decide +kernel) rfl rfl w_233 dX5_init_17 ?_
  refine xaload_n (xCc C) 0 rfl rfl dX5_init_20 ?_
  refine xbipush (xCc C) (v := 6) dX5_init_21 (by decide) ?_
  refine xnewaI (xCc C) 6 11 (by decide) (by decide) (by decide) (fun _ _ _ _ => rfl) w_58 (by omega) hb0 (by show _ ≤ 4; omega) (by show _ ≤ 82; omega) dX5_init_23 ?_
  refine xputOF (xCc C) (q := q0) (ci := 5) (fs := [.ref (bad b0 (q0 + 1)), .ref (bad b0 (q0 + 2)), .null, .null, .int 0, .int 0]) (T := TX5) (ty := .array .int) (by omega) (by simp [va_up, hk, Nat.add_assoc]) (by simp [va_up, Nat.add_assoc]) rfl inlX5 tyX5 tyX5_ok nmX5 2 (by decide) (by exact Nat.le_of_ble_eq_true rfl) rfl hin rfl (by decide +kernel) rfl rfl w_234 dX5_init_25 ?_
  refine xaload_n (xCc C) 0 rfl rfl dX5_init_28 ?_
  refine xbipush (xCc C) (v := 64) dX5_init_29 (by decide) ?_
  refine xnewaI (xCc C) 64 12 (by decide) (by decide) (by decide) (fun _ _ _ _ => rfl) w_58 (by omega) hb0 (by show _ ≤ 4; omega) (by show _ ≤ 82; omega) dX5_init_31 ?_
  refine xputOF (xCc C) (q := q0) (ci := 5) (fs := [.ref (bad b0 (q0 + 1)), .ref (bad b0 (q0 + 2)), .ref (bad b0 (q0 + 3)), .null, .int 0, .int 0]) (T := TX5) (ty := .array .int) (by omega) (by simp [va_up, hk, Nat.add_assoc]) (by simp [va_up, Nat.add_assoc]) rfl inlX5 tyX5 tyX5_ok nmX5 3 (by decide) (by exact Nat.le_of_ble_eq_true rfl) rfl hin rfl (by decide +kernel) rfl rfl w_235 dX5_init_33 ?_
  refine xw (ce' := ce) (kd' := ovk kd q0 (fun i => if i = 0 then 5 else if i = 4 then 12 else 11)) (G' := ovg G q0 g0) (xfin (n := 5) (fun q hq => ?_) (fun i hi => ?_)) ?_
  · rw [ovk_lt hq, ovg_lt hq]
    have h0 : q ≠ q0 := by omega
    have h1 : q ≠ q0 + 1 := by omega
    have h2 : q ≠ q0 + 1 + 1 := by omega
    have h3 : q ≠ q0 + 1 + 1 + 1 := by omega
    have h4 : q ≠ q0 + 1 + 1 + 1 + 1 := by omega
    simp only [va_up, if_neg h0, if_neg h1, if_neg h2, if_neg h3, if_neg h4, mrow_ne h1, mrow_ne h2, mrow_ne h3, mrow_ne h4, and_self]
  · rw [ovk_ge]
    rcases (show i = 0 ∨ i = 1 ∨ i = 2 ∨ i = 3 ∨ i = 4 by omega) with rfl | rfl | rfl | rfl | rfl <;> simp [kE, va_up, hk, ovg, mrow, g0, Nat.add_assoc, nl_1, nl_2] <;> rfl
  · exact xkret (xCc C) rfl dX5_init_36

theorem cK2 {q0 : Nat} (hk : kd q0 = 99) (he : ce q0 = .inr (2, [.null, .int 0, .int 0])) : xK l D c1 b0 yX2_init cX2_init 1 2 32 4 94 [.ref (bad b0 q0)] ce kd G (q0 + 1) ce (ovk kd q0 (fun i => if i = 0 then 2 else kdH (i - 1))) (ovg G q0 g0) (q0 + 5) := by
  refine xK_of (by decide +kernel) (Nat.le_of_ble_eq_true rfl) (fun p e s m args below meth c C hin hsz => ?_)
  have C : xC p s m args meth c cX2_init RX2 1 none D (c1, ce) := C
  have hb0 : b0 ≤ s.heap.size := by omega
  refine xsub C (lv' := [(0, .ref (bad b0 q0))]) [0] rfl ?_
  refine xaload_n (xCc C) 0 rfl rfl dX2_init_0 ?_
  refine xobj (xCc C) w_211 w_19 w_20 ⟨(Nat.le_of_ble_eq_true rfl), (Nat.le_of_ble_eq_true rfl)⟩ dX2_init_1 ?_
  refine xaload_n (xCc C) 0 rfl rfl dX2_init_4 ?_
  refine xnew (xCc C) (ci := 1) (T := TX1) tyX1 tyX1_ok inlX1 w_212 w_37 w_4 rfl [.null, .null, .null, .int 0] (by intro j hj; rcases (show j = 0 ∨ j = 1 ∨ j = 2 ∨ j = 3 by omega) with rfl | rfl | rfl | rfl <;> rfl) (by omega) hb0 (by show _ ≤ 4; omega) (by show _ ≤ 94; omega) dX2_init_5 ?_
  refine xdup (xCc C) dX2_init_8 rfl ?_
  refine xKN (xCc C) (cK1 (by simp [va_up, Nat.add_assoc]) (by simp [va_up, Nat.add_assoc])) nm_9 w_39 rfl mwX1_init ⟨(Nat.le_of_ble_eq_true rfl), (Nat.le_of_ble_eq_true rfl)⟩ (by omega) ⟨by show _ ≤ 4; omega, by show _ ≤ 94; omega⟩ (Nat.le_of_ble_eq_true rfl) hb0 dX2_init_9 ?_
  refine xputOF (xCc C) (q := q0) (ci := 2) (fs := [.null, .int 0, .int 0]) (T := TX2) (ty := .object "HedgeChains$Hedge") (by omega) (by rw [ovk_lt (by omega)]; simp [va_up, hk, Nat.add_assoc]) (by simp [va_up, he, Nat.add_assoc]) rfl inlX2 tyX2 tyX2_ok nmX2 0 (by decide) (by exact Nat.le_of_ble_eq_true rfl) rfl hin rfl (by decide +kernel) rfl rfl w_214 dX2_init_12 ?_
  refine xaload_n (xCc C) 0 rfl rfl dX2_init_15 ?_
  refine xiconst (xCc C) (v := 0) dX2_init_16 (by decide) ?_
  refine xputO (xCc C) (q := q0) (ci := 2) (fs := [.ref (bad b0 (q0 + 1)), .int 0, .int 0]) (T := TX2) (ty := .int) (by omega) (by rw [ovk_lt (by omega)]; simp [va_up, hk, Nat.add_assoc]) (by simp [va_up, Nat.add_assoc]) rfl inlX2 tyX2 tyX2_ok nmX2 1 (by decide) (by exact Nat.le_of_ble_eq_true rfl) rfl (by decide +kernel) (vp_nar_int 0) rfl w_216 dX2_init_17 ?_
  refine xaload_n (xCc C) 0 rfl rfl dX2_init_20 ?_
  refine xiconst (xCc C) (v := 0) dX2_init_21 (by decide) ?_
  refine xputO (xCc C) (q := q0) (ci := 2) (fs := [.ref (bad b0 (q0 + 1)), .int 0, .int 0]) (T := TX2) (ty := .int) (by omega) (by rw [ovk_lt (by omega)]; simp [va_up, hk, Nat.add_assoc]) (by simp [va_up, Nat.add_assoc]) rfl inlX2 tyX2 tyX2_ok nmX2 2 (by decide) (by exact Nat.le_of_ble_eq_true rfl) rfl (by decide +kernel) (vp_nar_int 0) rfl w_218 dX2_init_22 ?_
  refine xw (ce' := ce) (kd' := ovk kd q0 (fun i => if i = 0 then 2 else kdH (i - 1))) (G' := ovg G q0 g0) (xfin (n := 5) (fun q hq => ?_) (fun i hi => ?_)) ?_
  · rw [ovk_lt hq, ovg_lt hq, ovk_lt (by omega), ovg_lt (by omega)]
    have h0 : q ≠ q0 := by omega
    have h1 : q ≠ q0 + 1 := by omega
    simp only [va_up, if_neg h0, if_neg h1, and_self]
  · rw [ovk_ge]
    rcases (show i = 0 ∨ i = 1 ∨ i = 2 ∨ i = 3 ∨ i = 4 by omega) with rfl | rfl | rfl | rfl | rfl <;> simp [kE, va_up, hk, ovk, ovg, kdH, g0, Nat.add_assoc, nl_1, nl_2] <;> rfl
  · exact xkret (xCc C) rfl dX2_init_25

def kdF (kd : Nat → Nat) (q0 : Nat) : Nat → Nat := fun q => if q < q0 then kd q else if q = q0 then 4 else if q < q0 + 3 then 99 else if (q - q0 - 3) % 5 = 0 then 1 else if (q - q0 - 3) % 5 = 4 then 0 else 10
def ceF (ce : Nat → va_E) (c1 : Nat → ClassId) (b0 q0 f : Nat) : Nat → va_E := fun q => if q = q0 + 1 then .inl (c1 3, 6, .inr (.inr (.inr (.inr (fun i => if i < f then some (bad b0 (q0 + 3 + 5 * i)) else none))))) else if q = q0 + 2 then .inl (c1 4, 6, .inr (.inr (.inr (.inr (fun i => if i < f then some (bad b0 (q0 + 7 + 5 * i)) else none))))) else ce q
def GF (G : Mem) (q0 : Nat) : Mem := fun q => if q < q0 then G q else if q < q0 + 3 then (fun _ => 0) else if (q - q0 - 3) % 5 = 0 then (fun j => if j = 3 then 10 else 0) else if (q - q0 - 3) % 5 = 2 then (fun j => if j < 10 then 4 else 0) else (fun _ => 0)
theorem kdF_N {kd : Nat → Nat} {q0 f i : Nat} (hi : i < 5) : kdF kd q0 (q0 + 3 + 5 * f + i) = if i = 0 then 1 else if i = 4 then 0 else 10 := by
  unfold kdF
  rw [if_neg (by omega), if_neg (by omega), if_neg (by omega), show (q0 + 3 + 5 * f + i - q0 - 3) % 5 = i by omega]
theorem GF_N {G : Mem} {q0 f i : Nat} (hi : i < 5) : GF G q0 (q0 + 3 + 5 * f + i) = if i = 0 then (fun j => if j = 3 then 10 else 0) else if i = 2 then (fun j => if j < 10 then 4 else 0) else (fun _ => 0) := by
  unfold GF
  rw [if_neg (by omega), if_neg (by omega), show (q0 + 3 + 5 * f + i - q0 - 3) % 5 = i by omega]
theorem cK4_step {q0 f N : Nat} (C : xC p s m args meth c cX4_init RX4 2 none D (c1, ce)) (hsz : s.heap.size = b0 + (q0 + 1)) (hN : q0 + 3 + 5 * f = N) (hf : f < 6) (k : xX p l e (xRm 3 68 32 600) s m args below meth c (fun q => b0 ≤ q) s.heap D (c1, (ceF ce c1 b0 q0 (f + 1))) (bad b0) (kdF kd q0) (q0 + 3 + 5 * (f + 1)) 2 (2 + 5 * (f + 1)) (12 + 98 * (f + 1)) (xQk below D c1 b0 args s 32 600 ce (ovk kd q0 kdL) (ovg G q0 gL) (q0 + 33)) (GF G q0) 24 [(1, .int (nI (f + 1))), (0, .ref (bad b0 q0))] []) : xX p l e (xRm 3 68 32 600) s m args below meth c (fun q => b0 ≤ q) s.heap D (c1, (ceF ce c1 b0 q0 f)) (bad b0) (kdF kd q0) N 2 (2 + 5 * f) (12 + 98 * f) (xQk below D c1 b0 args s 32 600 ce (ovk kd q0 kdL) (ovg G q0 gL) (q0 + 33)) (GF G q0) 24 [(1, .int (nI f)), (0, .ref (bad b0 q0))] [] := by
  have hb0 : b0 ≤ s.heap.size := by omega
  have hio : vp_in (nI f) 6 := vp_in_nI hf (by decide)
  refine xiload_n (xCc C) 0 rfl rfl dX4_init_24 ?_
  refine xbipush (xCc C) (v := 6) dX4_init_25 (by decide) ?_
  refine xicmp_ge (xCc C) (tgt := 75) (show (if (6 : Int32) ≤ nI f then none else some ()) = some () from if_neg (fun h => nI_ge hf (by decide) h)) (by decide) dX4_init_27 (fun h => by cases h) (fun _ => ?_)
  refine xaload_n (xCc C) 1 rfl rfl dX4_init_30 ?_
  refine xg_4_hedges (xCc C) (q := q0) (⟨by omega, by simp [kdF]⟩) w_99 dX4_init_31 ?_
  refine xiload_n (xCc C) 0 rfl rfl dX4_init_34 ?_
  refine xnew (xCc C) (ci := 1) (T := TX1) tyX1 tyX1_ok inlX1 w_33 w_37 w_4 rfl [.null, .null, .null, .int 0] (by intro j hj; rcases (show j = 0 ∨ j = 1 ∨ j = 2 ∨ j = 3 by omega) with rfl | rfl | rfl | rfl <;> rfl) (by omega) hb0 (by show _ ≤ 32; omega) (by show _ ≤ 600; omega) dX4_init_35 ?_
  refine xdup (xCc C) dX4_init_38 rfl ?_
  refine xKN (xCc C) (cK1 (by simp [va_up]) (by simp [va_up])) nm_2 w_39 rfl mwX1_init ⟨(Nat.le_of_ble_eq_true rfl), (Nat.le_of_ble_eq_true rfl)⟩ (by omega) ⟨by show _ ≤ 32; omega, by show _ ≤ 600; omega⟩ (Nat.le_of_ble_eq_true rfl) hb0 dX4_init_39 ?_
  have e1 : ovk (va_up (kdF kd q0) N 99) N kdH q0 = 4 := by rw [ovk_lt (by omega)]; simp [va_up, kdF]; omega
  have e2 : ovk (va_up (kdF kd q0) N 99) N kdH (q0 + 1) = 99 := by rw [ovk_lt (by omega)]; simp [va_up, kdF]; intros; omega
  have e3 : ovk (va_up (kdF kd q0) N 99) N kdH (q0 + 2) = 99 := by rw [ovk_lt (by omega)]; simp [va_up, kdF]; intros; omega
  have eN : ∀ i, ovk (va_up (kdF kd q0) N 99) N kdH (N + i) = kdH i := fun i => ovk_ge
  generalize hk1 : ovk (va_up (kdF kd q0) N 99) N kdH = kd1 at e1 e2 e3 eN ⊢
  have ce1 : va_up (ceF ce c1 b0 q0 f) N (.inr (1, [.null, .null, .null, .int 0])) (q0 + 1) = .inl (c1 3, 6, .inr (.inr (.inr (.inr (fun i => if i < f then some (bad b0 (q0 + 3 + 5 * i)) else none))))) := by
    rw [show va_up (ceF ce c1 b0 q0 f) N (.inr (1, [.null, .null, .null, .int 0])) (q0 + 1) = ceF ce c1 b0 q0 f (q0 + 1) from if_neg (by omega)]
    exact if_pos rfl
  refine xaasO_1 (xCc C) (q := q0 + 1) (v := N) f (nI_clamp (by omega)) (by omega) e2 ce1 (by omega) (show kE _ _ _ (kd1 N) N = _ from by rw [show kd1 N = 1 from eN 0]; rfl) hio dX4_init_42 ?_
  refine xaload_n (xCc C) 1 rfl rfl dX4_init_43 ?_
  refine xg_4_hedges (xCc C) (q := q0) (⟨by omega, e1⟩) w_99 dX4_init_44 ?_
  refine xiload_n (xCc C) 0 rfl rfl dX4_init_47 ?_
  refine xaalO (xCc C) (q := q0 + 1) (a := bad b0 N) (t := 3) (CN := RX1) f (nI_clamp (by omega)) (by omega) e2 (if_pos rfl) rfl (if_pos rfl) hio dX4_init_48 ?_
  refine xiconst (xCc C) (v := 0) dX4_init_49 (by decide) ?_
  refine xiconst (xCc C) (v := 4) dX4_init_50 (by decide) ?_
  refine xbipush (xCc C) (v := 10) dX4_init_51 (by decide) ?_
  have a1 : A1 kd1 (N + 4) N := ⟨⟨by omega, eN 0⟩, ⟨by omega, eN 1⟩, ⟨by omega, eN 2⟩, ⟨by omega, eN 3⟩⟩
  have hadd : fX1_addChains N (nI 0) (nI 4) (nI 10) (ovg (GF G q0) N g0) = some (hAdd N (nI 0) (nI 4) 0 10 (ovg (GF G q0) N g0)) := addChains_eq (n := 0) (c := 10) (m := 10) (by rw [ovg_at]; rfl) (by omega) (by omega) (by omega) (Or.inl rfl)
  refine xNv (xCc C) (As := [.int (nI 0), .int (nI 4), .int (nI 10)]) (rest := []) (kX1_addChains a1 hadd) a1.1 rfl rfl nm_3 mvX1_addChains mwX1_addChains rfl ⟨(Nat.le_of_ble_eq_true rfl), (Nat.le_of_ble_eq_true rfl)⟩ ⟨by show _ ≤ 32; omega, by show _ ≤ 600; omega⟩ (Nat.le_of_ble_eq_true rfl) dX4_init_53 ?_
  refine xaload_n (xCc C) 1 rfl rfl dX4_init_56 ?_
  refine xg_4_contracts (xCc C) (q := q0) (⟨by omega, e1⟩) w_101 dX4_init_57 ?_
  refine xiload_n (xCc C) 0 rfl rfl dX4_init_60 ?_
  refine xnew (xCc C) (ci := 0) (T := TX0) tyX0 tyX0_ok inlX0 w_35 w_71 w_5 rfl [.int 0, .int 0, .int 0, .int 0] (by intro j hj; rcases (show j = 0 ∨ j = 1 ∨ j = 2 ∨ j = 3 by omega) with rfl | rfl | rfl | rfl <;> rfl) (by omega) hb0 (by show _ ≤ 32; omega) (by show _ ≤ 600; omega) dX4_init_61 ?_
  refine xdup (xCc C) dX4_init_64 rfl ?_
  refine xKN (xCc C) (cK0 (by simp [va_up]) (by simp [va_up])) nm_4 w_73 rfl mwX0_init ⟨(Nat.le_of_ble_eq_true rfl), (Nat.le_of_ble_eq_true rfl)⟩ (by omega) ⟨by show _ ≤ 32; omega, by show _ ≤ 600; omega⟩ (Nat.le_of_ble_eq_true rfl) hb0 dX4_init_65 ?_
  have f3 : ovk (va_up kd1 (N + 4) 99) (N + 4) (fun _ => 0) (q0 + 2) = 99 := by rw [ovk_lt (by omega)]; rw [show va_up kd1 (N + 4) 99 (q0 + 2) = kd1 (q0 + 2) from if_neg (by omega)]; exact e3
  have ce2 : va_up (va_up (va_up (ceF ce c1 b0 q0 f) N (.inr (1, [.null, .null, .null, .int 0]))) (q0 + 1) (.inl (c1 3, 6, .inr (.inr (.inr (.inr (va_up (fun i => if i < f then some (bad b0 (q0 + 3 + 5 * i)) else none) f (some (bad b0 N))))))))) (N + 4) (.inr (0, [.int 0, .int 0, .int 0, .int 0])) (q0 + 2) = .inl (c1 4, 6, .inr (.inr (.inr (.inr (fun i => if i < f then some (bad b0 (q0 + 7 + 5 * i)) else none))))) := by
    simp only [va_up, if_neg (show ¬ q0 + 2 = N + 4 by omega), if_neg (show ¬ q0 + 2 = q0 + 1 by omega), if_neg (show ¬ q0 + 2 = N by omega)]
    unfold ceF
    rw [if_neg (by omega), if_pos rfl]
  refine xaasO_0 (xCc C) (q := q0 + 2) (v := N + 4) f (nI_clamp (by omega)) (by omega) f3 ce2 (by omega) (show kE _ _ _ (ovk (va_up kd1 (N + 4) 99) (N + 4) (fun _ => 0) (N + 4)) (N + 4) = _ from by rw [ovk_at]; rfl) hio dX4_init_68 ?_
  refine xiinc (xCc C) (n := 1) (v := nI (f + 1)) (lv' := [(1, .int (nI (f + 1))), (0, .ref (bad b0 q0))]) 0 rfl (nI_1 f) (by decide) rfl dX4_init_69 ?_
  refine xgoto (xCc C) (tgt := 24) (by decide) dX4_init_72 ?_
  rw [show N + 4 + 1 = N + 5 from rfl, show q0 + 3 + 5 * (f + 1) = N + 5 by omega] at *
  refine xw (ce' := ceF ce c1 b0 q0 (f + 1)) (kd' := kdF kd q0) (G' := GF G q0) (xfin (n := 5) (fun q hq => ⟨?_, ?_, ?_⟩) (fun i hi => ?_)) ?_
  · rw [ovk_lt (by omega), ← hk1, show va_up (ovk (va_up (kdF kd q0) N 99) N kdH) (N + 4) 99 q = ovk (va_up (kdF kd q0) N 99) N kdH q from if_neg (by omega), ovk_lt hq]
    exact (if_neg (by omega)).symm
  · rw [ovg_lt (by omega)]
    funext j
    unfold hAdd
    rw [if_neg (by omega), if_neg (by omega), if_neg (by omega), if_neg (by omega), ovg_lt hq]
  · by_cases h2 : q = q0 + 2
    · subst h2
      rw [show va_up _ (q0 + 2) _ (q0 + 2) = _ from if_pos rfl]
      unfold ceF
      rw [if_neg (by omega), if_pos rfl]
      congr 7
      funext i
      unfold va_up
      by_cases hi : i = f
      · subst hi
        rw [if_pos (by omega), if_pos rfl]; congr 2; omega
      · rw [if_neg hi]
        have h6 : (i < f + 1) ↔ (i < f) := by omega
        simp only [h6]
    · by_cases h1 : q = q0 + 1
      · subst h1
        rw [show va_up _ (q0 + 2) _ (q0 + 1) = _ from if_neg (by omega), show va_up _ (N + 4) _ (q0 + 1) = _ from if_neg (by omega), show va_up _ (q0 + 1) _ (q0 + 1) = _ from if_pos rfl]
        unfold ceF
        rw [if_pos rfl]
        congr 7
        funext i
        unfold va_up
        by_cases hi : i = f
        · subst hi
          rw [if_pos (by omega), if_pos rfl]; congr 2
        · rw [if_neg hi]
          have h6 : (i < f + 1) ↔ (i < f) := by omega
          simp only [h6]
      · simp only [va_up, if_neg h2, if_neg h1, if_neg (show ¬ q = N + 4 by omega), if_neg (show ¬ q = N by omega)]
        unfold ceF
        rw [if_neg h1, if_neg h2, if_neg h1, if_neg h2]
  · subst hN
    rcases (show i = 0 ∨ i = 1 ∨ i = 2 ∨ i = 3 ∨ i = 4 by omega) with rfl | rfl | rfl | rfl | rfl
    · rw [show kdF kd q0 (q0 + 3 + 5 * f + 0) = 1 from kdF_N hi, ovk_lt (by omega), show va_up kd1 (q0 + 3 + 5 * f + 4) 99 (q0 + 3 + 5 * f + 0) = kd1 (q0 + 3 + 5 * f + 0) from if_neg (by omega), eN]
      show (Sum.inr (1, [Value.ref (bad b0 (q0 + 3 + 5 * f + 0 + 1)), Value.ref (bad b0 (q0 + 3 + 5 * f + 0 + 2)), Value.ref (bad b0 (q0 + 3 + 5 * f + 0 + 3)), Value.int (GF G q0 (q0 + 3 + 5 * f + 0) 3)]) : va_E) = Sum.inr (1, [Value.ref (bad b0 (q0 + 3 + 5 * f + 0 + 1)), Value.ref (bad b0 (q0 + 3 + 5 * f + 0 + 2)), Value.ref (bad b0 (q0 + 3 + 5 * f + 0 + 3)), Value.int (ovg _ _ _ (q0 + 3 + 5 * f + 0) 3)])
      rw [GF_N hi, ovg_lt (by omega)]
      simp [hAdd]
      rfl
    · rw [show kdF kd q0 (q0 + 3 + 5 * f + 1) = 10 from kdF_N hi, ovk_lt (by omega), show va_up kd1 (q0 + 3 + 5 * f + 4) 99 (q0 + 3 + 5 * f + 1) = kd1 (q0 + 3 + 5 * f + 1) from if_neg (by omega), eN]
      show (Sum.inl (c1 0, 30, Sum.inl (GF G q0 (q0 + 3 + 5 * f + 1))) : va_E) = Sum.inl (c1 0, 30, Sum.inl (ovg _ _ _ (q0 + 3 + 5 * f + 1)))
      rw [GF_N hi, ovg_lt (by omega)]
      congr 4
      funext j
      simp [hAdd, ovg_ge, g0]
      first | rfl | (intros; rfl)
    · rw [show kdF kd q0 (q0 + 3 + 5 * f + 2) = 10 from kdF_N hi, ovk_lt (by omega), show va_up kd1 (q0 + 3 + 5 * f + 4) 99 (q0 + 3 + 5 * f + 2) = kd1 (q0 + 3 + 5 * f + 2) from if_neg (by omega), eN]
      show (Sum.inl (c1 0, 30, Sum.inl (GF G q0 (q0 + 3 + 5 * f + 2))) : va_E) = Sum.inl (c1 0, 30, Sum.inl (ovg _ _ _ (q0 + 3 + 5 * f + 2)))
      rw [GF_N hi, ovg_lt (by omega)]
      congr 4
      funext j
      simp [hAdd, ovg_ge, g0]
      first | rfl | (intros; rfl)
    · rw [show kdF kd q0 (q0 + 3 + 5 * f + 3) = 10 from kdF_N hi, ovk_lt (by omega), show va_up kd1 (q0 + 3 + 5 * f + 4) 99 (q0 + 3 + 5 * f + 3) = kd1 (q0 + 3 + 5 * f + 3) from if_neg (by omega), eN]
      show (Sum.inl (c1 0, 30, Sum.inl (GF G q0 (q0 + 3 + 5 * f + 3))) : va_E) = Sum.inl (c1 0, 30, Sum.inl (ovg _ _ _ (q0 + 3 + 5 * f + 3)))
      rw [GF_N hi, ovg_lt (by omega)]
      congr 4
      funext j
      simp [hAdd, ovg_ge, g0]
      first | rfl | (intros; rfl)
    · rw [show kdF kd q0 (q0 + 3 + 5 * f + 4) = 0 from kdF_N hi, ovk_at]
      show (Sum.inr (0, [Value.int (GF G q0 (q0 + 3 + 5 * f + 4) 0), Value.int (GF G q0 (q0 + 3 + 5 * f + 4) 1), Value.int (GF G q0 (q0 + 3 + 5 * f + 4) 2), Value.int (GF G q0 (q0 + 3 + 5 * f + 4) 3)]) : va_E) = Sum.inr (0, [Value.int (ovg _ _ _ (q0 + 3 + 5 * f + 4) 0), Value.int (ovg _ _ _ (q0 + 3 + 5 * f + 4) 1), Value.int (ovg _ _ _ (q0 + 3 + 5 * f + 4) 2), Value.int (ovg _ _ _ (q0 + 3 + 5 * f + 4) 3)])
      rw [GF_N hi, ovg_at]
      rfl
  · exact k

end
