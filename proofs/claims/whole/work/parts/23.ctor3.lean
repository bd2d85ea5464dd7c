section
variable {p : Program} {l : Launch} {e : Env} {R : Room} {s : State} {m : MethodId} {args : Array Value} {below : List Frame} {meth : Method} {c : Code} {D : va_G} {c1 : Nat → ClassId} {ce ce' : Nat → va_E} {b0 : Nat} {kd kd' : Nat → Nat} {NP nL cells slots : Nat} {Q : State → Prop} {G G' : Mem} {pc : Nat} {lv : List (Nat × Value)} {rest st : List Value} {cc : ByteArray} {own : String} {rt : Option FieldType}
set_option maxRecDepth 4000 in
theorem cK8 {q0 : Nat} (hk : kd q0 = 99) (he : ce q0 = .inr (8, [.null, .null, .null, .null, .null, .null])) : xK l D c1 b0 yX8_init cX8_init 1 6 131 626 11369 [.ref (bad b0 q0)] ce kd G (q0 + 1) ce (ovk kd q0 kdX) (ovg G q0 gX) (q0 + 627) := by
  refine xK_of (by decide +kernel) (Nat.le_of_ble_eq_true rfl) (fun p e s m args below meth c C hin hsz => ?_)
  have C : xC p s m args meth c cX8_init RX8 1 none D (c1, ce) := C
  have hb0 : b0 ≤ s.heap.size := by omega
  refine xsub C (lv' := [(0, .ref (bad b0 q0))]) [0] rfl ?_
  refine xaload_n (xCc C) 0 rfl rfl dX8_init_0 ?_
  refine xobj (xCc C) w_18 w_19 w_20 ⟨(Nat.le_of_ble_eq_true rfl), (Nat.le_of_ble_eq_true rfl)⟩ dX8_init_1 ?_
  refine xaload_n (xCc C) 0 rfl rfl dX8_init_4 ?_
  refine xnew (xCc C) (ci := 6) (T := TX6) tyX6 tyX6_ok inlX6 w_21 w_22 w_2 rfl [.null, .null, .null] (by intro j hj; rcases (show j = 0 ∨ j = 1 ∨ j = 2 by omega) with rfl | rfl | rfl <;> rfl) (by omega) hb0 (by show _ ≤ 626; omega) (by show _ ≤ 11369; omega) dX8_init_5 ?_
  refine xdup (xCc C) dX8_init_8 rfl ?_
  refine xKN (xCc C) (cK6 (va_eq) (va_eq)) nm_0 w_24 rfl mwX6_init ⟨(Nat.le_of_ble_eq_true rfl), (Nat.le_of_ble_eq_true rfl)⟩ (by omega) ⟨by show _ ≤ 626; omega, by show _ ≤ 11369; omega⟩ (Nat.le_of_ble_eq_true rfl) hb0 dX8_init_9 ?_
  have k10 : ovk (va_up kd (q0 + 1) 99) (q0 + 1) kdS q0 = 99 := by rw [ovk_lt (by omega), va_ne (by omega)]; exact hk
  have k1N : ∀ i, ovk (va_up kd (q0 + 1) 99) (q0 + 1) kdS (q0 + 1 + i) = kdS i := fun i => ovk_ge
  have k1L : ∀ q, q < q0 + 1 → ovk (va_up kd (q0 + 1) 99) (q0 + 1) kdS q = kd q := fun q hq => by rw [ovk_lt hq, va_ne (by omega)]
  generalize hk1 : ovk (va_up kd (q0 + 1) 99) (q0 + 1) kdS = kk1 at k10 k1N k1L ⊢
  refine xputOF (xCc C) (q := q0) (ci := 8) (fs := [.null, .null, .null, .null, .null, .null]) (T := TX8) (ty := .object "HedgeChains$State") (by omega) (k10) (by rw [va_ne (by omega)]; exact he) rfl inlX8 tyX8 tyX8_ok nmX8 0 (by decide) (by exact Nat.le_of_ble_eq_true rfl) rfl hin rfl (by decide +kernel) rfl rfl w_251 dX8_init_12 ?_
  refine xaload_n (xCc C) 0 rfl rfl dX8_init_15 ?_
  refine xaload_n (xCc C) 0 rfl rfl dX8_init_16 ?_
  refine xgetO (xCc C) (q := q0) (ci := 8) (fs := [.ref (bad b0 (q0 + 1)), .null, .null, .null, .null, .null]) (T := TX8) (v := .ref (bad b0 (q0 + 1))) (by omega) k10 (by rw [va_eq]; rfl) rfl inlX8 0 (by decide) rfl w_251 dX8_init_17 ?_
  refine xgN_6_land (xCc C) (q := q0 + 1) ⟨by omega, k1N 0⟩ nf_26 dX8_init_20 ?_
  refine xputOF (xCc C) (q := q0) (ci := 8) (fs := [.ref (bad b0 (q0 + 1)), .null, .null, .null, .null, .null]) (T := TX8) (ty := .object "HedgeChains$Land") (by omega) (k10) (by rw [va_eq]; rfl) rfl inlX8 tyX8 tyX8_ok nmX8 1 (by decide) (by exact Nat.le_of_ble_eq_true rfl) rfl hin rfl (by decide +kernel) rfl rfl w_252 dX8_init_23 ?_
  refine xaload_n (xCc C) 0 rfl rfl dX8_init_26 ?_
  refine xnew (xCc C) (ci := 3) (T := TX3) tyX3 tyX3_ok inlX3 w_170 w_171 w_6 rfl [.null, .int 0, .int 0] (by intro j hj; rcases (show j = 0 ∨ j = 1 ∨ j = 2 by omega) with rfl | rfl | rfl <;> rfl) (by omega) hb0 (by show _ ≤ 626; omega) (by show _ ≤ 11369; omega) dX8_init_27 ?_
  refine xdup (xCc C) dX8_init_30 rfl ?_
  refine xKN (xCc C) (cK3 (va_eq) (va_eq)) nm_5 w_173 rfl mwX3_init ⟨(Nat.le_of_ble_eq_true rfl), (Nat.le_of_ble_eq_true rfl)⟩ (by omega) ⟨by show _ ≤ 626; omega, by show _ ≤ 11369; omega⟩ (Nat.le_of_ble_eq_true rfl) hb0 dX8_init_31 ?_
  have k20 : ovk (va_up kk1 (q0 + 103) 99) (q0 + 103) kdHi q0 = 99 := by rw [ovk_lt (by omega), va_ne (by omega)]; exact k10
  have k2N : ∀ i, ovk (va_up kk1 (q0 + 103) 99) (q0 + 103) kdHi (q0 + 103 + i) = kdHi i := fun i => ovk_ge
  have k2L : ∀ q, q < q0 + 103 → ovk (va_up kk1 (q0 + 103) 99) (q0 + 103) kdHi q = kk1 q := fun q hq => by rw [ovk_lt hq, va_ne (by omega)]
  generalize hk2 : ovk (va_up kk1 (q0 + 103) 99) (q0 + 103) kdHi = kk2 at k20 k2N k2L ⊢
  refine xputOF (xCc C) (q := q0) (ci := 8) (fs := [.ref (bad b0 (q0 + 1)), .ref (bad b0 (q0 + 1 + 1)), .null, .null, .null, .null]) (T := TX8) (ty := .object "HedgeChains$History") (by omega) (k20) (by rw [va_ne (by omega), va_eq]; rfl) rfl inlX8 tyX8 tyX8_ok nmX8 2 (by decide) (by exact Nat.le_of_ble_eq_true rfl) rfl hin rfl (by decide +kernel) rfl rfl w_253 dX8_init_34 ?_
  refine xaload_n (xCc C) 0 rfl rfl dX8_init_37 ?_
  refine xnew (xCc C) (ci := 7) (T := TX7) tyX7 tyX7_ok inlX7 w_190 w_191 w_7 rfl [.null, .int 0] (by intro j hj; rcases (show j = 0 ∨ j = 1 by omega) with rfl | rfl <;> rfl) (by omega) hb0 (by show _ ≤ 626; omega) (by show _ ≤ 11369; omega) dX8_init_38 ?_
  refine xdup (xCc C) dX8_init_41 rfl ?_
  refine xKN (xCc C) (cK7 (va_eq) (va_eq)) nm_7 w_193 rfl mwX7_init ⟨(Nat.le_of_ble_eq_true rfl), (Nat.le_of_ble_eq_true rfl)⟩ (by omega) ⟨by show _ ≤ 626; omega, by show _ ≤ 11369; omega⟩ (Nat.le_of_ble_eq_true rfl) hb0 dX8_init_42 ?_
  have k30 : ovk (va_up kk2 (q0 + 615) 99) (q0 + 615) (fun i => if i = 0 then 7 else 17) q0 = 99 := by rw [ovk_lt (by omega), va_ne (by omega)]; exact k20
  have k3N : ∀ i, ovk (va_up kk2 (q0 + 615) 99) (q0 + 615) (fun i => if i = 0 then 7 else 17) (q0 + 615 + i) = (fun i => if i = 0 then 7 else 17) i := fun i => ovk_ge
  have k3L : ∀ q, q < q0 + 615 → ovk (va_up kk2 (q0 + 615) 99) (q0 + 615) (fun i => if i = 0 then 7 else 17) q = kk2 q := fun q hq => by rw [ovk_lt hq, va_ne (by omega)]
  generalize hk3 : ovk (va_up kk2 (q0 + 615) 99) (q0 + 615) (fun i => if i = 0 then 7 else 17) = kk3 at k30 k3N k3L ⊢
  refine xputOF (xCc C) (q := q0) (ci := 8) (fs := [.ref (bad b0 (q0 + 1)), .ref (bad b0 (q0 + 1 + 1)), .ref (bad b0 (q0 + 103)), .null, .null, .null]) (T := TX8) (ty := .object "HedgeChains$Text") (by omega) (k30) (by rw [va_ne (by omega), va_eq]; rfl) rfl inlX8 tyX8 tyX8_ok nmX8 3 (by decide) (by exact Nat.le_of_ble_eq_true rfl) rfl hin rfl (by decide +kernel) rfl rfl w_254 dX8_init_45 ?_
  refine xaload_n (xCc C) 0 rfl rfl dX8_init_48 ?_
  refine xnew (xCc C) (ci := 2) (T := TX2) tyX2 tyX2_ok inlX2 w_206 w_207 w_8 rfl [.null, .int 0, .int 0] (by intro j hj; rcases (show j = 0 ∨ j = 1 ∨ j = 2 by omega) with rfl | rfl | rfl <;> rfl) (by omega) hb0 (by show _ ≤ 626; omega) (by show _ ≤ 11369; omega) dX8_init_49 ?_
  refine xdup (xCc C) dX8_init_52 rfl ?_
  refine xKN (xCc C) (cK2 (va_eq) (va_eq)) nm_8 w_209 rfl mwX2_init ⟨(Nat.le_of_ble_eq_true rfl), (Nat.le_of_ble_eq_true rfl)⟩ (by omega) ⟨by show _ ≤ 626; omega, by show _ ≤ 11369; omega⟩ (Nat.le_of_ble_eq_true rfl) hb0 dX8_init_53 ?_
  have k40 : ovk (va_up kk3 (q0 + 617) 99) (q0 + 617) (fun i => if i = 0 then 2 else kdH (i - 1)) q0 = 99 := by rw [ovk_lt (by omega), va_ne (by omega)]; exact k30
  have k4N : ∀ i, ovk (va_up kk3 (q0 + 617) 99) (q0 + 617) (fun i => if i = 0 then 2 else kdH (i - 1)) (q0 + 617 + i) = (fun i => if i = 0 then 2 else kdH (i - 1)) i := fun i => ovk_ge
  have k4L : ∀ q, q < q0 + 617 → ovk (va_up kk3 (q0 + 617) 99) (q0 + 617) (fun i => if i = 0 then 2 else kdH (i - 1)) q = kk3 q := fun q hq => by rw [ovk_lt hq, va_ne (by omega)]
  generalize hk4 : ovk (va_up kk3 (q0 + 617) 99) (q0 + 617) (fun i => if i = 0 then 2 else kdH (i - 1)) = kk4 at k40 k4N k4L ⊢
  refine xputOF (xCc C) (q := q0) (ci := 8) (fs := [.ref (bad b0 (q0 + 1)), .ref (bad b0 (q0 + 1 + 1)), .ref (bad b0 (q0 + 103)), .ref (bad b0 (q0 + 615)), .null, .null]) (T := TX8) (ty := .object "HedgeChains$HedgeReader") (by omega) (k40) (by rw [va_ne (by omega), va_eq]; rfl) rfl inlX8 tyX8 tyX8_ok nmX8 4 (by decide) (by exact Nat.le_of_ble_eq_true rfl) rfl hin rfl (by decide +kernel) rfl rfl w_255 dX8_init_56 ?_
  refine xaload_n (xCc C) 0 rfl rfl dX8_init_59 ?_
  refine xnew (xCc C) (ci := 5) (T := TX5) tyX5 tyX5_ok inlX5 w_226 w_227 w_9 rfl [.null, .null, .null, .null, .int 0, .int 0] (by intro j hj; rcases (show j = 0 ∨ j = 1 ∨ j = 2 ∨ j = 3 ∨ j = 4 ∨ j = 5 by omega) with rfl | rfl | rfl | rfl | rfl | rfl <;> rfl) (by omega) hb0 (by show _ ≤ 626; omega) (by show _ ≤ 11369; omega) dX8_init_60 ?_
  refine xdup (xCc C) dX8_init_63 rfl ?_
  refine xKN (xCc C) (cK5 (va_eq) (va_eq)) nm_10 w_229 rfl mwX5_init ⟨(Nat.le_of_ble_eq_true rfl), (Nat.le_of_ble_eq_true rfl)⟩ (by omega) ⟨by show _ ≤ 626; omega, by show _ ≤ 11369; omega⟩ (Nat.le_of_ble_eq_true rfl) hb0 dX8_init_64 ?_
  have k50 : ovk (va_up kk4 (q0 + 622) 99) (q0 + 622) (fun i => if i = 0 then 5 else if i = 4 then 12 else 11) q0 = 99 := by rw [ovk_lt (by omega), va_ne (by omega)]; exact k40
  have k5N : ∀ i, ovk (va_up kk4 (q0 + 622) 99) (q0 + 622) (fun i => if i = 0 then 5 else if i = 4 then 12 else 11) (q0 + 622 + i) = (fun i => if i = 0 then 5 else if i = 4 then 12 else 11) i := fun i => ovk_ge
  have k5L : ∀ q, q < q0 + 622 → ovk (va_up kk4 (q0 + 622) 99) (q0 + 622) (fun i => if i = 0 then 5 else if i = 4 then 12 else 11) q = kk4 q := fun q hq => by rw [ovk_lt hq, va_ne (by omega)]
  generalize hk5 : ovk (va_up kk4 (q0 + 622) 99) (q0 + 622) (fun i => if i = 0 then 5 else if i = 4 then 12 else 11) = kk5 at k50 k5N k5L ⊢
  refine xputOF (xCc C) (q := q0) (ci := 8) (fs := [.ref (bad b0 (q0 + 1)), .ref (bad b0 (q0 + 1 + 1)), .ref (bad b0 (q0 + 103)), .ref (bad b0 (q0 + 615)), .ref (bad b0 (q0 + 617)), .null]) (T := TX8) (ty := .object "HedgeChains$Orders") (by omega) (k50) (by rw [va_ne (by omega), va_eq]; rfl) rfl inlX8 tyX8 tyX8_ok nmX8 5 (by decide) (by exact Nat.le_of_ble_eq_true rfl) rfl hin rfl (by decide +kernel) rfl rfl w_256 dX8_init_67 ?_
  refine xw (ce' := ce) (kd' := ovk kd q0 kdX) (G' := ovg G q0 gX) (xfin (q0 := q0) (n := 627) (fun q hq => ⟨?_, ?_, ?_⟩) (fun i hi => ?_)) ?_
  · rw [ovk_lt hq, k5L q (by omega), k4L q (by omega), k3L q (by omega), k2L q (by omega), k1L q (by omega)]
  · rw [ovg_lt hq, ovg_lt (by omega), ovg_lt (by omega), ovg_lt (by omega), ovg_lt (by omega), ovg_lt (by omega)]
  · simp only [va_ne (show q ≠ q0 by omega), va_ne (show q ≠ q0 + 1 by omega), va_ne (show q ≠ q0 + 103 by omega), va_ne (show q ≠ q0 + 615 by omega), va_ne (show q ≠ q0 + 617 by omega), va_ne (show q ≠ q0 + 622 by omega)]
  · rw [ovk_ge]
    by_cases h0 : i = 0
    · subst h0
      rw [show kk5 (q0 + 0) = 99 from k50]
      show kE _ _ _ 8 q0 = va_up _ _ _ q0
      rw [va_eq]
      rfl
    · by_cases r1 : i < 103
      · have e1 : kdX i = kdS (i - 1) := by unfold kdX; rw [if_neg h0, if_pos r1]
        rw [k5L _ (by omega), k4L _ (by omega), k3L _ (by omega), k2L _ (by omega), show q0 + i = q0 + 1 + (i - 1) by omega, k1N, e1]
        refine kE_congr3 (kdS_lt _) ?_
        rw [show ovg G q0 gX (q0 + 1 + (i - 1)) = gS (i - 1) from by rw [show q0 + 1 + (i - 1) = q0 + i by omega, ovg_ge]; unfold gX; rw [if_neg h0, if_pos r1]]
        rw [ovg_lt (by omega), ovg_lt (by omega), ovg_lt (by omega), ovg_lt (by omega), ovg_ge]
      · by_cases r2 : i < 615
        · have e1 : kdX i = kdHi (i - 103) := by unfold kdX; rw [if_neg h0, if_neg r1, if_pos r2]
          rw [k5L _ (by omega), k4L _ (by omega), k3L _ (by omega), show q0 + i = q0 + 103 + (i - 103) by omega, k2N, e1]
          refine kE_congr3 (kdHi_lt _) ?_
          rw [show ovg G q0 gX (q0 + 103 + (i - 103)) = gHi (i - 103) from by rw [show q0 + 103 + (i - 103) = q0 + i by omega, ovg_ge]; unfold gX; rw [if_neg h0, if_neg r1, if_pos r2]]
          rw [ovg_lt (by omega), ovg_lt (by omega), ovg_lt (by omega), ovg_ge]
        · have eG : ovg G q0 gX (q0 + i) = g0 0 := by rw [ovg_ge]; unfold gX; rw [if_neg h0, if_neg r1, if_neg r2]
          by_cases r3 : i < 617
          · have e1 : kdX i = (fun i => if i = 0 then 7 else 17) (i - 615) := by
              rcases (show i = 615 ∨ i = 616 by omega) with rfl | rfl <;> rfl
            rw [k5L _ (by omega), k4L _ (by omega), show q0 + i = q0 + 615 + (i - 615) by omega, k3N, e1, show q0 + 615 + (i - 615) = q0 + i by omega]
            refine kE_congr3 (by rcases (show i = 615 ∨ i = 616 by omega) with rfl | rfl <;> decide) ?_
            rw [eG, ovg_lt (by omega), ovg_lt (by omega), show q0 + i = q0 + 615 + (i - 615) by omega, ovg_ge]; rfl
          · by_cases r4 : i < 622
            · have e1 : kdX i = (fun i => if i = 0 then 2 else kdH (i - 1)) (i - 617) := by
                rcases (show i = 617 ∨ i = 618 ∨ i = 619 ∨ i = 620 ∨ i = 621 by omega) with rfl | rfl | rfl | rfl | rfl <;> rfl
              rw [k5L _ (by omega), show q0 + i = q0 + 617 + (i - 617) by omega, k4N, e1, show q0 + 617 + (i - 617) = q0 + i by omega]
              refine kE_congr3 (by rcases (show i = 617 ∨ i = 618 ∨ i = 619 ∨ i = 620 ∨ i = 621 by omega) with rfl | rfl | rfl | rfl | rfl <;> decide) ?_
              rw [eG, ovg_lt (by omega), show q0 + i = q0 + 617 + (i - 617) by omega, ovg_ge]; rfl
            · have e1 : kdX i = (fun i => if i = 0 then 5 else if i = 4 then 12 else 11) (i - 622) := by
                rcases (show i = 622 ∨ i = 623 ∨ i = 624 ∨ i = 625 ∨ i = 626 by omega) with rfl | rfl | rfl | rfl | rfl <;> rfl
              rw [show q0 + i = q0 + 622 + (i - 622) by omega, k5N, e1, show q0 + 622 + (i - 622) = q0 + i by omega]
              refine kE_congr3 (by rcases (show i = 622 ∨ i = 623 ∨ i = 624 ∨ i = 625 ∨ i = 626 by omega) with rfl | rfl | rfl | rfl | rfl <;> decide) ?_
              rw [eG, show q0 + i = q0 + 622 + (i - 622) by omega, ovg_ge]; rfl
  · exact xkret (xCc C) rfl dX8_init_70

def bX9_init_119 (rec100 : (Int32 × Mem) → Option (Mem)) (q0 : Nat) (x1 : Int32) (rec119 : (Int32 × Mem) → Option (Mem)) (x2 : Int32) (G : Mem) : Option (Mem) := (if (nI 10) ≤ x2 then rec100 ((x1 + nI 1), G) else bv (fX9_lays q0 x1 x2 (nI 0) (nI 4) G) (fun G130 => rec119 ((x2 + nI 1), G130)))
def FX9_init_119 (rec100 : (Int32 × Mem) → Option (Mem)) (q0 : Nat) (x1 : Int32) : ((Int32 × Mem) → Option (Mem)) → (Int32 × Mem) → Option (Mem) := fun rec x => bX9_init_119 rec100 q0 x1 rec x.1 x.2
def bX9_init_100 (q0 : Nat) (rec100 : (Int32 × Mem) → Option (Mem)) (x1 : Int32) (G : Mem) : Option (Mem) := (if (nI 6) ≤ x1 then some G else ix ((nI 12) + x1) 668 (lt (mset G (q0 + 1) ((nI 12) + x1).toNatClampNeg (nI 10)) (fun G116 => itr FU (FX9_init_119 rec100 q0 x1) ((nI 0), G116))))
def FX9_init_100 (q0 : Nat) : ((Int32 × Mem) → Option (Mem)) → (Int32 × Mem) → Option (Mem) := fun rec x => bX9_init_100 q0 rec x.1 x.2
theorem wX9_init_119 (C : xC p s m args meth c cX9_init RX9 3 none D (c1, ce)) (q0 : Nat) (x1 : Int32) {rec100 : (Int32 × Mem) → Option (Mem)} (hrec100 : ∀ (x1 : Int32) (G : Mem), rec100 (x1, G) = some G' → xX p l e (xRm 1 24 5 4820) s m args below meth c (fun q => b0 ≤ q) s.heap D (c1, ce) (bad b0) kd NP 3 5 4820 (xQk below D c1 b0 args s 5 4820 ce kd G' NP) G 100 [(0, .ref (bad b0 q0)), (1, .int x1)] []) (a0 : A9 kd NP q0) : ∀ (n : Nat) (x2 : Int32) (G : Mem) (h : itr n (FX9_init_119 rec100 q0 x1) (x2, G) = some G'), xX p l e (xRm 1 24 5 4820) s m args below meth c (fun q => b0 ≤ q) s.heap D (c1, ce) (bad b0) kd NP 3 5 4820 (xQk below D c1 b0 args s 5 4820 ce kd G' NP) G 119 [(0, .ref (bad b0 q0)), (1, .int x1), (2, .int x2)] [] := by
  intro n
  induction n with
  | zero =>
    intro x2 G h
    have h : none = some G' := h
    cases h
  | succ n ih =>
    intro x2 G h
    have h : bX9_init_119 rec100 q0 x1 (itr n (FX9_init_119 rec100 q0 x1)) x2 G = some G' := h
    have hrec119 : ∀ (x2 : Int32) (G : Mem), itr n (FX9_init_119 rec100 q0 x1) (x2, G) = some G' → xX p l e (xRm 1 24 5 4820) s m args below meth c (fun q => b0 ≤ q) s.heap D (c1, ce) (bad b0) kd NP 3 5 4820 (xQk below D c1 b0 args s 5 4820 ce kd G' NP) G 119 [(0, .ref (bad b0 q0)), (1, .int x1), (2, .int x2)] [] := fun x2 G h => ih x2 G h
    unfold bX9_init_119 at h
    refine xiload_n C 2 rfl rfl dX9_init_119 ?_
    refine xbipush C (v := (nI 10)) dX9_init_120 (by decide) ?_
    refine xicmp_ge C (tgt := 139) h (by decide) dX9_init_122 (fun h => ?_) (fun h => ?_)
    · refine xiinc C (v := (x1 + nI 1)) (lv' := [(1, .int (x1 + nI 1)), (0, .ref (bad b0 q0)), (2, .int x2)]) 1 rfl rfl (by decide) rfl dX9_init_139 ?_
      refine xgoto C (tgt := 100) (by decide) dX9_init_142 ?_
      refine xsub C (lv' := [(0, .ref (bad b0 q0)), (1, .int (x1 + nI 1))]) [1, 0] rfl ?_
      exact hrec100 (x1 + nI 1) G h
    · refine xaload_n C 0 rfl rfl dX9_init_125 ?_
      refine xiload_n C 1 rfl rfl dX9_init_126 ?_
      refine xiload_n C 2 rfl rfl dX9_init_127 ?_
      refine xiconst C (v := (nI 0)) dX9_init_128 (by decide) ?_
      refine xiconst C (v := (nI 4)) dX9_init_129 (by decide) ?_
      obtain ⟨G130, hc130, h⟩ := bv_some h
      refine xVv C (As := [.int x1, .int x2, .int (nI 0), .int (nI 4)]) (rest := []) (kX9_lays a0 hc130) a0.1 rfl rfl w_639 mvX9_lays mwX9_lays rfl ⟨Nat.le_of_ble_eq_true rfl, Nat.le_of_ble_eq_true rfl⟩ ⟨by show _ ≤ 5; omega, by show _ ≤ 4820; omega⟩ (Nat.le_of_ble_eq_true rfl) dX9_init_130 ?_
      refine xiinc C (v := (x2 + nI 1)) (lv' := [(2, .int (x2 + nI 1)), (0, .ref (bad b0 q0)), (1, .int x1)]) 2 rfl rfl (by decide) rfl dX9_init_133 ?_
      refine xgoto C (tgt := 119) (by decide) dX9_init_136 ?_
      refine xsub C (lv' := [(0, .ref (bad b0 q0)), (1, .int x1), (2, .int (x2 + nI 1))]) [1, 2, 0] rfl ?_
      exact hrec119 (x2 + nI 1) G130 h
theorem wX9_init_100 (C : xC p s m args meth c cX9_init RX9 3 none D (c1, ce)) (q0 : Nat) (a0 : A9 kd NP q0) : ∀ (n : Nat) (x1 : Int32) (G : Mem) (h : itr n (FX9_init_100 q0) (x1, G) = some G'), xX p l e (xRm 1 24 5 4820) s m args below meth c (fun q => b0 ≤ q) s.heap D (c1, ce) (bad b0) kd NP 3 5 4820 (xQk below D c1 b0 args s 5 4820 ce kd G' NP) G 100 [(0, .ref (bad b0 q0)), (1, .int x1)] [] := by
  intro n
  induction n with
  | zero =>
    intro x1 G h
    have h : none = some G' := h
    cases h
  | succ n ih =>
    intro x1 G h
    have h : bX9_init_100 q0 (itr n (FX9_init_100 q0)) x1 G = some G' := h
    have hrec100 : ∀ (x1 : Int32) (G : Mem), itr n (FX9_init_100 q0) (x1, G) = some G' → xX p l e (xRm 1 24 5 4820) s m args below meth c (fun q => b0 ≤ q) s.heap D (c1, ce) (bad b0) kd NP 3 5 4820 (xQk below D c1 b0 args s 5 4820 ce kd G' NP) G 100 [(0, .ref (bad b0 q0)), (1, .int x1)] [] := fun x1 G h => ih x1 G h
    unfold bX9_init_100 at h
    refine xiload_n C 1 rfl rfl dX9_init_100 ?_
    refine xbipush C (v := (nI 6)) dX9_init_101 (by decide) ?_
    refine xicmp_ge C (tgt := 145) h (by decide) dX9_init_103 (fun h => ?_) (fun h => ?_)
    · obtain rfl := so_1 h
      exact xkret C rfl dX9_init_145
    · refine xaload_n C 0 rfl rfl dX9_init_106 ?_
      refine xg_9_s C a0.1 w_643 dX9_init_107 ?_
      refine xbipush C (v := (nI 12)) dX9_init_110 (by decide) ?_
      refine xiload_n C 1 rfl rfl dX9_init_112 ?_
      refine xiadd C dX9_init_113 ?_
      refine xbipush C (v := (nI 10)) dX9_init_114 (by decide) ?_
      obtain ⟨hi116, h⟩ := ix_some h
      refine xis_14 C ((nI 12) + x1).toNatClampNeg rfl a0.2.1 hi116 dX9_init_116 ?_
      generalize mset G (q0 + 1) ((nI 12) + x1).toNatClampNeg (nI 10) = G116 at h ⊢
      replace h := lt_go h
      refine xiconst C (v := (nI 0)) dX9_init_117 (by decide) ?_
      refine xistore_n C (lv' := [(2, .int (nI 0)), (0, .ref (bad b0 q0)), (1, .int x1)]) rfl (by decide) rfl dX9_init_118 ?_
      refine xsub C (lv' := [(0, .ref (bad b0 q0)), (1, .int x1), (2, .int (nI 0))]) [1, 2, 0] rfl ?_
      exact wX9_init_119 C q0 x1 hrec100 a0 _ (nI 0) G116 h
def fX9_init (q0 : Nat) (G : Mem) : Option Mem := lt (mset G (q0 + 1) 1 (nI 30)) (fun G54 => lt (mset G54 (q0 + 1) 2 (nI 10)) (fun G62 => lt (mset G62 (q0 + 1) 3 (nI 50)) (fun G70 => lt (mset G70 (q0 + 1) 9 (nI 10)) (fun G79 => lt (mset G79 (q0 + 1) 10 (nI 30)) (fun G88 => lt (mset G88 (q0 + 1) 11 (nI 30)) (fun G97 => itr FU (FX9_init_100 q0) ((nI 0), G97)))))))
theorem wX9_init_47 (C : xC p s m args meth c cX9_init RX9 3 none D (c1, ce)) {q0 : Nat} (a0 : A9 kd NP q0) (h : fX9_init q0 G = some G') : xX p l e (xRm 1 24 5 4820) s m args below meth c (fun q => b0 ≤ q) s.heap D (c1, ce) (bad b0) kd NP 3 5 4820 (xQk below D c1 b0 args s 5 4820 ce kd G' NP) G 47 [(0, .ref (bad b0 q0))] [] := by
  unfold fX9_init at h
  refine xaload_n C 0 rfl rfl dX9_init_47 ?_
  refine xg_9_s C a0.1 w_643 dX9_init_48 ?_
  refine xiconst C (v := (nI 1)) dX9_init_51 (by decide) ?_
  refine xbipush C (v := (nI 30)) dX9_init_52 (by decide) ?_
  refine xis_14 C 1 (by decide) a0.2.1 (xvi (by decide)) dX9_init_54 ?_
  generalize mset G (q0 + 1) 1 (nI 30) = G54 at h ⊢
  replace h := lt_go h
  refine xaload_n C 0 rfl rfl dX9_init_55 ?_
  refine xg_9_s C a0.1 w_643 dX9_init_56 ?_
  refine xiconst C (v := (nI 2)) dX9_init_59 (by decide) ?_
  refine xbipush C (v := (nI 10)) dX9_init_60 (by decide) ?_
  refine xis_14 C 2 (by decide) a0.2.1 (xvi (by decide)) dX9_init_62 ?_
  generalize mset G54 (q0 + 1) 2 (nI 10) = G62 at h ⊢
  replace h := lt_go h
  refine xaload_n C 0 rfl rfl dX9_init_63 ?_
  refine xg_9_s C a0.1 w_643 dX9_init_64 ?_
  refine xiconst C (v := (nI 3)) dX9_init_67 (by decide) ?_
  refine xbipush C (v := (nI 50)) dX9_init_68 (by decide) ?_
  refine xis_14 C 3 (by decide) a0.2.1 (xvi (by decide)) dX9_init_70 ?_
  generalize mset G62 (q0 + 1) 3 (nI 50) = G70 at h ⊢
  replace h := lt_go h
  refine xaload_n C 0 rfl rfl dX9_init_71 ?_
  refine xg_9_s C a0.1 w_643 dX9_init_72 ?_
  refine xbipush C (v := (nI 9)) dX9_init_75 (by decide) ?_
  refine xbipush C (v := (nI 10)) dX9_init_77 (by decide) ?_
  refine xis_14 C 9 (by decide) a0.2.1 (xvi (by decide)) dX9_init_79 ?_
  generalize mset G70 (q0 + 1) 9 (nI 10) = G79 at h ⊢
  replace h := lt_go h
  refine xaload_n C 0 rfl rfl dX9_init_80 ?_
  refine xg_9_s C a0.1 w_643 dX9_init_81 ?_
  refine xbipush C (v := (nI 10)) dX9_init_84 (by decide) ?_
  refine xbipush C (v := (nI 30)) dX9_init_86 (by decide) ?_
  refine xis_14 C 10 (by decide) a0.2.1 (xvi (by decide)) dX9_init_88 ?_
  generalize mset G79 (q0 + 1) 10 (nI 30) = G88 at h ⊢
  replace h := lt_go h
  refine xaload_n C 0 rfl rfl dX9_init_89 ?_
  refine xg_9_s C a0.1 w_643 dX9_init_90 ?_
  refine xbipush C (v := (nI 11)) dX9_init_93 (by decide) ?_
  refine xbipush C (v := (nI 30)) dX9_init_95 (by decide) ?_
  refine xis_14 C 11 (by decide) a0.2.1 (xvi (by decide)) dX9_init_97 ?_
  generalize mset G88 (q0 + 1) 11 (nI 30) = G97 at h ⊢
  replace h := lt_go h
  refine xiconst C (v := (nI 0)) dX9_init_98 (by decide) ?_
  refine xistore_n C (lv' := [(1, .int (nI 0)), (0, .ref (bad b0 q0))]) rfl (by decide) rfl dX9_init_99 ?_
  refine xsub C (lv' := [(0, .ref (bad b0 q0)), (1, .int (nI 0))]) [1, 0] rfl ?_
  exact wX9_init_100 C q0 a0 _ (nI 0) G97 h
end
