section
variable {p : Program} {l : Launch} {e : Env} {R : Room} {s : State} {m : MethodId} {args : Array Value} {below : List Frame} {meth : Method} {c : Code} {D : va_G} {c1 : Nat → ClassId} {ce ce' : Nat → va_E} {b0 : Nat} {kd kd' : Nat → Nat} {NP nL cells slots : Nat} {Q : State → Prop} {G G' : Mem} {pc : Nat} {lv : List (Nat × Value)} {rest st : List Value} {cc : ByteArray} {own : String} {rt : Option FieldType}
theorem kE_free {ad : Nat → Nat} {k q : Nat} (h : k < 22) : kE (c1, ce') ad G k q = kE (c1, ce) ad G k q := by
  rcases (show k = 0 ∨ k = 1 ∨ k = 2 ∨ k = 3 ∨ k = 4 ∨ k = 5 ∨ k = 6 ∨ k = 7 ∨ k = 8 ∨ k = 9 ∨ k = 10 ∨ k = 11 ∨ k = 12 ∨ k = 13 ∨ k = 14 ∨ k = 15 ∨ k = 16 ∨ k = 17 ∨ k = 18 ∨ k = 19 ∨ k = 20 ∨ k = 21 by omega) with rfl | rfl | rfl | rfl | rfl | rfl | rfl | rfl | rfl | rfl | rfl | rfl | rfl | rfl | rfl | rfl | rfl | rfl | rfl | rfl | rfl | rfl <;> rfl
theorem kE_congr3 {ad : Nat → Nat} {k q : Nat} (h : k < 22) (hG : G' q = G q) : kE (c1, ce') ad G' k q = kE (c1, ce) ad G k q := (kE_congr (G := G) (G' := G') hG).trans (kE_free h)
theorem kdH_lt (i : Nat) : kdH i < 22 := by unfold kdH; split <;> omega
theorem kdL_lt (i : Nat) : kdL i < 22 := by unfold kdL; repeat' (first | omega | split)
theorem kdS_lt (i : Nat) : kdS i < 22 := by
  unfold kdS
  by_cases h0 : i = 0
  · rw [if_pos h0]; omega
  · rw [if_neg h0]
    by_cases h1 : i < 34
    · rw [if_pos h1]; exact kdL_lt _
    · rw [if_neg h1]
      by_cases h2 : i = 34
      · rw [if_pos h2]; omega
      · rw [if_neg h2]
        by_cases h3 : i = 35
        · rw [if_pos h3]; omega
        · rw [if_neg h3]; exact kdL_lt _
theorem kdHi_lt (i : Nat) : kdHi i < 22 := by
  unfold kdHi
  by_cases h0 : i = 0
  · rw [if_pos h0]; omega
  · rw [if_neg h0]
    by_cases h1 : i = 1
    · rw [if_pos h1]; omega
    · rw [if_neg h1]; exact kdS_lt _
theorem va_ne {α : Type} {f : Nat → α} {k j : Nat} {v : α} (h : j ≠ k) : va_up f k v j = f j := if_neg h
theorem va_eq {α : Type} {f : Nat → α} {k : Nat} {v : α} : va_up f k v k = v := if_pos rfl
theorem mset_ne {G : Mem} {p q j : Nat} {v : Int32} (h : q ≠ p) : mset G p j v q = G q := if_neg h
theorem cK4_exit {q0 f N : Nat} (C : xC p s m args meth c cX4_init RX4 2 none D (c1, ce)) (hf : f = 6) (hN : q0 + 3 + 5 * f = N) : xX p l e (xRm 3 68 32 600) s m args below meth c (fun q => b0 ≤ q) s.heap D (c1, (ceF ce c1 b0 q0 f)) (bad b0) (kdF kd q0) N 2 (2 + 5 * f) (12 + 98 * f) (xQk below D c1 b0 args s 32 600 ce (ovk kd q0 kdL) (ovg G q0 gL) (q0 + 33)) (GF G q0) 24 [(1, .int (nI f)), (0, .ref (bad b0 q0))] [] := by
  subst hf
  obtain rfl : N = q0 + 33 := by omega
  refine xiload_n (xCc C) 0 rfl rfl dX4_init_24 ?_
  refine xbipush (xCc C) (v := 6) dX4_init_25 (by decide) ?_
  refine xicmp_ge (xCc C) (tgt := 75) (show (if (6 : Int32) ≤ nI 6 then some () else none) = some () from rfl) (by decide) dX4_init_27 (fun _ => ?_) (fun h => by cases h)
  refine xaload_n (xCc C) 1 rfl rfl dX4_init_75 ?_
  refine xbipush (xCc C) (v := 10) dX4_init_76 (by decide) ?_
  refine xp_4_firstClosed (xCc C) (q := q0) ⟨by omega, by simp [kdF]⟩ w_107 dX4_init_78 ?_
  refine xaload_n (xCc C) 1 rfl rfl dX4_init_81 ?_
  refine xbipush (xCc C) (v := 30) dX4_init_82 (by decide) ?_
  refine xp_4_lastClosed (xCc C) (q := q0) ⟨by omega, by simp [kdF]⟩ w_108 dX4_init_84 ?_
  refine xaload_n (xCc C) 1 rfl rfl dX4_init_87 ?_
  refine xbipush (xCc C) (v := 30) dX4_init_88 (by decide) ?_
  refine xp_4_strength (xCc C) (q := q0) ⟨by omega, by simp [kdF]⟩ w_109 dX4_init_90 ?_
  refine xaload_n (xCc C) 1 rfl rfl dX4_init_93 ?_
  refine xbipush (xCc C) (v := 30) dX4_init_94 (by decide) ?_
  refine xp_4_work (xCc C) (q := q0) ⟨by omega, by simp [kdF]⟩ w_110 dX4_init_96 ?_
  refine xaload_n (xCc C) 1 rfl rfl dX4_init_99 ?_
  refine xbipush (xCc C) (v := 10) dX4_init_100 (by decide) ?_
  refine xp_4_stakes (xCc C) (q := q0) ⟨by omega, by simp [kdF]⟩ w_112 dX4_init_102 ?_
  refine xaload_n (xCc C) 1 rfl rfl dX4_init_105 ?_
  refine xbipush (xCc C) (v := 50) dX4_init_106 (by decide) ?_
  refine xp_4_purse (xCc C) (q := q0) ⟨by omega, by simp [kdF]⟩ w_114 dX4_init_108 ?_
  refine xw (ce' := ce) (kd' := ovk kd q0 kdL) (G' := ovg G q0 gL) (xfin (n := 33) (fun q hq => ⟨?_, ?_, ?_⟩) (fun i hi => ?_)) ?_
  · rw [ovk_lt hq]; exact (if_pos hq).symm
  · rw [ovg_lt hq, mset_ne (by omega), mset_ne (by omega), mset_ne (by omega), mset_ne (by omega), mset_ne (by omega), mset_ne (by omega)]
    exact (if_pos hq).symm
  · unfold ceF
    rw [if_neg (by omega), if_neg (by omega)]
  · rw [ovk_ge]
    by_cases h0 : i = 0
    · subst h0
      rw [show kdF kd q0 (q0 + 0) = kdL 0 from by simp [kdF, kdL]]
      show kE _ _ _ 4 q0 = kE _ _ _ 4 q0
      simp [kE, ovg_at, mset_at, gL, GF]
    · by_cases h1 : i = 1
      · subst h1
        rw [show kdF kd q0 (q0 + 1) = 99 from by unfold kdF; rw [if_neg (by omega), if_neg (by omega), if_pos (by omega)]]
        show kE _ _ _ 18 (q0 + 1) = ceF ce c1 b0 q0 6 (q0 + 1)
        unfold ceF
        rw [if_pos rfl]
        rfl
      · by_cases h2 : i = 2
        · subst h2
          rw [show kdF kd q0 (q0 + 2) = 99 from by unfold kdF; rw [if_neg (by omega), if_neg (by omega), if_pos (by omega)]]
          show kE _ _ _ 19 (q0 + 2) = ceF ce c1 b0 q0 6 (q0 + 2)
          unfold ceF
          rw [if_neg (by omega), if_pos rfl]
          rfl
        · have e1 : kdF kd q0 (q0 + i) = kdL i := by
            unfold kdF kdL
            rw [if_neg (by omega), if_neg (by omega), if_neg (by omega), if_neg h0, if_neg h1, if_neg h2, show q0 + i - q0 - 3 = i - 3 by omega]
          rw [e1]
          refine kE_congr3 (kdL_lt i) ?_
          rw [ovg_ge, mset_ne (by omega), mset_ne (by omega), mset_ne (by omega), mset_ne (by omega), mset_ne (by omega), mset_ne (by omega)]
          unfold GF gL
          rw [if_neg (by omega), if_neg (by omega), show q0 + i - q0 - 3 = i - 3 by omega]
          funext j
          rw [if_neg h0, if_neg (by omega)]
          by_cases h5 : (i - 3) % 5 = 0
          · simp [h5]
          · by_cases h6 : (i - 3) % 5 = 2 <;> simp [h5, h6]
  · exact xkret (xCc C) rfl dX4_init_111

theorem cK4 {q0 : Nat} (hk : kd q0 = 99) (he : ce q0 = .inr (4, [.null, .null, .int 0, .int 0, .int 0, .int 0, .int 0, .int 0, .int 0, .int 0, .int 0, .int 0, .int 0, .int 0])) : xK l D c1 b0 yX4_init cX4_init 2 3 68 32 600 [.ref (bad b0 q0)] ce kd G (q0 + 1) ce (ovk kd q0 kdL) (ovg G q0 gL) (q0 + 33) := by
  refine xK_of (by decide +kernel) (Nat.le_of_ble_eq_true rfl) (fun p e s m args below meth c C hin hsz => ?_)
  have C : xC p s m args meth c cX4_init RX4 2 none D (c1, ce) := C
  have hb0 : b0 ≤ s.heap.size := by omega
  refine xsub C (lv' := [(0, .ref (bad b0 q0))]) [0] rfl ?_
  refine xaload_n (xCc C) 0 rfl rfl dX4_init_0 ?_
  refine xobj (xCc C) w_32 w_19 w_20 ⟨(Nat.le_of_ble_eq_true rfl), (Nat.le_of_ble_eq_true rfl)⟩ dX4_init_1 ?_
  refine xaload_n (xCc C) 0 rfl rfl dX4_init_4 ?_
  refine xbipush (xCc C) (v := 6) dX4_init_5 (by decide) ?_
  refine xnewq_1 (xCc C) 6 (by decide) (by decide) (by decide) w_33 (by omega) hb0 (by show _ ≤ 32; omega) (by show _ ≤ 600; omega) dX4_init_7 ?_
  refine xputOF (xCc C) (q := q0) (ci := 4) (fs := [.null, .null, .int 0, .int 0, .int 0, .int 0, .int 0, .int 0, .int 0, .int 0, .int 0, .int 0, .int 0, .int 0]) (T := TX4) (ty := .array (.object "HedgeChains$Hedge")) (by omega) (by simp [va_up, hk, Nat.add_assoc]) (by simp [va_up, he, Nat.add_assoc]) rfl inlX4 tyX4 tyX4_ok nmX4 0 (by decide) (by exact Nat.le_of_ble_eq_true rfl) rfl hin rfl (by decide +kernel) rfl rfl w_99 dX4_init_10 ?_
  refine xaload_n (xCc C) 0 rfl rfl dX4_init_13 ?_
  refine xbipush (xCc C) (v := 6) dX4_init_14 (by decide) ?_
  refine xnewq_0 (xCc C) 6 (by decide) (by decide) (by decide) w_35 (by omega) hb0 (by show _ ≤ 32; omega) (by show _ ≤ 600; omega) dX4_init_16 ?_
  refine xputOF (xCc C) (q := q0) (ci := 4) (fs := [.ref (bad b0 (q0 + 1)), .null, .int 0, .int 0, .int 0, .int 0, .int 0, .int 0, .int 0, .int 0, .int 0, .int 0, .int 0, .int 0]) (T := TX4) (ty := .array (.object "HedgeChains$Contract")) (by omega) (by simp [va_up, hk, Nat.add_assoc]) (by simp [va_up, Nat.add_assoc]) rfl inlX4 tyX4 tyX4_ok nmX4 1 (by decide) (by exact Nat.le_of_ble_eq_true rfl) rfl hin rfl (by decide +kernel) rfl rfl w_101 dX4_init_19 ?_
  refine xiconst (xCc C) (v := 0) dX4_init_22 (by decide) ?_
  refine xistore_n (xCc C) (lv' := [(1, .int 0), (0, .ref (bad b0 q0))]) rfl (by decide) rfl dX4_init_23 ?_
  refine xw (ce' := ceF ce c1 b0 q0 0) (kd' := kdF kd q0) (G' := GF G q0) (xfin (q0 := q0) (n := 3) (fun q hq => ⟨?_, ?_, ?_⟩) (fun i hi => ?_)) ?_
  · rw [va_ne (by omega), va_ne (by omega)]; exact if_pos hq
  · exact if_pos hq
  · rw [va_ne (by omega), va_ne (by omega), va_ne (by omega), va_ne (by omega)]
    unfold ceF
    rw [if_neg (by omega), if_neg (by omega)]
  · rcases (show i = 0 ∨ i = 1 ∨ i = 2 by omega) with rfl | rfl | rfl
    · simp [kdF, kE, va_up, hk, GF, Nat.add_assoc]
    · simp [kdF, kE, va_up, hk, ceF, Nat.add_assoc, nl_1]
    · simp [kdF, kE, va_up, hk, ceF, Nat.add_assoc, nl_1]
  · refine cK4_step (f := 0) (N := q0 + 3) C hsz rfl (by omega) ?_
    refine cK4_step (f := 0 + 1) C hsz rfl (by omega) ?_
    refine cK4_step (f := 0 + 1 + 1) C hsz rfl (by omega) ?_
    refine cK4_step (f := 0 + 1 + 1 + 1) C hsz rfl (by omega) ?_
    refine cK4_step (f := 0 + 1 + 1 + 1 + 1) C hsz rfl (by omega) ?_
    refine cK4_step (f := 0 + 1 + 1 + 1 + 1 + 1) C hsz rfl (by omega) ?_
    exact cK4_exit (f := 0 + 1 + 1 + 1 + 1 + 1 + 1) C rfl rfl

def ceA6 (ce : Nat → va_E) (c1 : Nat → ClassId) (b0 q0 f : Nat) : Nat → va_E := fun q => if q = q0 + 34 then .inl (c1 5, 2, .inr (.inr (.inr (.inr (fun i => if i < f then some (bad b0 (q0 + 36 + 33 * i)) else none))))) else ce q
def kdA6 (kd : Nat → Nat) (q0 : Nat) : Nat → Nat := fun q => if q < q0 then kd q else if q = q0 + 34 then 99 else kdS (q - q0)

theorem cK6_step {q0 f N : Nat} (C : xC p s m args meth c cX6_init RX6 2 none D (c1, ce)) (hsz : s.heap.size = b0 + (q0 + 1)) (hN : q0 + 36 + 33 * f = N) (hf : f < 2) (k : xX p l e (xRm 4 89 101 1846) s m args below meth c (fun q => b0 ≤ q) s.heap D (c1, (ceA6 ce c1 b0 q0 (f + 1))) (bad b0) (kdA6 kd q0) (q0 + 36 + 33 * (f + 1)) 2 (35 + 33 * (f + 1)) (618 + 614 * (f + 1)) (xQk below D c1 b0 args s 101 1846 ce (ovk kd q0 kdS) (ovg G q0 gS) (q0 + 102)) (ovg G q0 gS) 32 [(1, .int (nI (f + 1))), (0, .ref (bad b0 q0))] []) : xX p l e (xRm 4 89 101 1846) s m args below meth c (fun q => b0 ≤ q) s.heap D (c1, (ceA6 ce c1 b0 q0 f)) (bad b0) (kdA6 kd q0) N 2 (35 + 33 * f) (618 + 614 * f) (xQk below D c1 b0 args s 101 1846 ce (ovk kd q0 kdS) (ovg G q0 gS) (q0 + 102)) (ovg G q0 gS) 32 [(1, .int (nI f)), (0, .ref (bad b0 q0))] [] := by
  have hb0 : b0 ≤ s.heap.size := by omega
  have hio : vp_in (nI f) 2 := vp_in_nI hf (by decide)
  refine xiload_n (xCc C) 0 rfl rfl dX6_init_32 ?_
  refine xiconst (xCc C) (v := 2) dX6_init_33 (by decide) ?_
  refine xicmp_ge (xCc C) (tgt := 56) (show (if (2 : Int32) ≤ nI f then none else some ()) = some () from if_neg (fun h => nI_ge hf (by decide) h)) (by decide) dX6_init_34 (fun h => by cases h) (fun _ => ?_)
  refine xaload_n (xCc C) 1 rfl rfl dX6_init_37 ?_
  refine xg_6_slots (xCc C) (q := q0) ⟨by omega, by unfold kdA6; rw [if_neg (by omega), if_neg (by omega), Nat.sub_self]; rfl⟩ w_158 dX6_init_38 ?_
  refine xiload_n (xCc C) 0 rfl rfl dX6_init_41 ?_
  refine xnew (xCc C) (ci := 4) (T := TX4) tyX4 tyX4_ok inlX4 w_27 w_28 w_3 rfl [.null, .null, .int 0, .int 0, .int 0, .int 0, .int 0, .int 0, .int 0, .int 0, .int 0, .int 0, .int 0, .int 0] (by intro j hj; rcases (show j = 0 ∨ j = 1 ∨ j = 2 ∨ j = 3 ∨ j = 4 ∨ j = 5 ∨ j = 6 ∨ j = 7 ∨ j = 8 ∨ j = 9 ∨ j = 10 ∨ j = 11 ∨ j = 12 ∨ j = 13 by omega) with rfl | rfl | rfl | rfl | rfl | rfl | rfl | rfl | rfl | rfl | rfl | rfl | rfl | rfl <;> rfl) (by omega) hb0 (by show _ ≤ 101; omega) (by show _ ≤ 1846; omega) dX6_init_42 ?_
  refine xdup (xCc C) dX6_init_45 rfl ?_
  refine xKN (xCc C) (cK4 (by simp [va_up]) (by simp [va_up])) nm_1 w_30 rfl mwX4_init ⟨(Nat.le_of_ble_eq_true rfl), (Nat.le_of_ble_eq_true rfl)⟩ (by omega) ⟨by show _ ≤ 101; omega, by show _ ≤ 1846; omega⟩ (Nat.le_of_ble_eq_true rfl) hb0 dX6_init_46 ?_
  have e2 : ovk (va_up (kdA6 kd q0) N 99) N kdL (q0 + 34) = 99 := by
    rw [ovk_lt (by omega), va_ne (by omega)]
    unfold kdA6
    rw [if_neg (by omega), if_pos rfl]
  have ce1 : va_up (ceA6 ce c1 b0 q0 f) N (.inr (4, [.null, .null, .int 0, .int 0, .int 0, .int 0, .int 0, .int 0, .int 0, .int 0, .int 0, .int 0, .int 0, .int 0])) (q0 + 34) = .inl (c1 5, 2, .inr (.inr (.inr (.inr (fun i => if i < f then some (bad b0 (q0 + 36 + 33 * i)) else none))))) := by
    rw [va_ne (by omega)]
    exact if_pos rfl
  refine xaasO_4 (xCc C) (q := q0 + 34) (v := N) f (nI_clamp (by omega)) (by omega) e2 ce1 (by omega) (show kE _ _ _ (ovk (va_up (kdA6 kd q0) N 99) N kdL N) N = _ from by rw [ovk_at]; rfl) hio dX6_init_49 ?_
  refine xiinc (xCc C) (n := 1) (v := nI (f + 1)) (lv' := [(1, .int (nI (f + 1))), (0, .ref (bad b0 q0))]) 0 rfl (nI_1 f) (by decide) rfl dX6_init_50 ?_
  refine xgoto (xCc C) (tgt := 32) (by decide) dX6_init_53 ?_
  rw [show q0 + 36 + 33 * (f + 1) = N + 33 by omega] at *
  refine xwiden (k := 35 + 33 * (f + 1)) (n := 618 + 614 * (f + 1)) (by omega) (by omega) ?_
  refine xw (ce' := ceA6 ce c1 b0 q0 (f + 1)) (kd' := kdA6 kd q0) (G' := ovg G q0 gS) (xfin (q0 := N) (n := 33) (fun q hq => ⟨?_, ?_, ?_⟩) (fun i hi => ?_)) ?_
  · rw [ovk_lt hq, va_ne (by omega)]
  · rw [ovg_lt (G := ovg G q0 gS) hq]
  · by_cases h1 : q = q0 + 34
    · subst h1
      rw [va_eq]
      unfold ceA6
      rw [if_pos rfl]
      congr 7
      funext i
      unfold va_up
      by_cases hi : i = f
      · subst hi
        rw [if_pos (by omega), if_pos rfl, hN]
      · rw [if_neg hi]
        have h6 : (i < f + 1) ↔ (i < f) := by omega
        simp only [h6]
    · rw [va_ne h1, va_ne (by omega)]
      unfold ceA6
      rw [if_neg h1, if_neg h1]
  · have e3 : kdA6 kd q0 (N + i) = kdL i := by
      unfold kdA6 kdS
      subst hN
      rw [if_neg (by omega), if_neg (by omega)]
      rw [if_neg (by omega), if_neg (by omega), if_neg (by omega), if_neg (by omega), show (q0 + 36 + 33 * f + i - q0 - 36) % 33 = i by omega]
    rw [e3, ovk_ge]
    refine kE_congr3 (kdL_lt i) ?_
    rw [ovg_ge]
    subst hN
    unfold ovg gS
    rw [if_neg (by omega)]
    rw [if_neg (by omega), if_neg (by omega), if_neg (by omega), show (q0 + 36 + 33 * f + i - q0 - 36) % 33 = i by omega]
  · exact k

theorem cK6_exit {q0 f N : Nat} (C : xC p s m args meth c cX6_init RX6 2 none D (c1, ce)) (hf : f = 2) (hN : q0 + 36 + 33 * f = N) : xX p l e (xRm 4 89 101 1846) s m args below meth c (fun q => b0 ≤ q) s.heap D (c1, (ceA6 ce c1 b0 q0 f)) (bad b0) (kdA6 kd q0) N 2 (35 + 33 * f) (618 + 614 * f) (xQk below D c1 b0 args s 101 1846 ce (ovk kd q0 kdS) (ovg G q0 gS) (q0 + 102)) (ovg G q0 gS) 32 [(1, .int (nI f)), (0, .ref (bad b0 q0))] [] := by
  subst hf
  obtain rfl : N = q0 + 102 := by omega
  refine xiload_n (xCc C) 0 rfl rfl dX6_init_32 ?_
  refine xiconst (xCc C) (v := 2) dX6_init_33 (by decide) ?_
  refine xicmp_ge (xCc C) (tgt := 56) (show (if (2 : Int32) ≤ nI 2 then some () else none) = some () from rfl) (by decide) dX6_init_34 (fun _ => ?_) (fun h => by cases h)
  refine xw (ce' := ce) (kd' := ovk kd q0 kdS) (G' := ovg G q0 gS) (xfin (n := 102) (fun q hq => ⟨?_, rfl, ?_⟩) (fun i hi => ?_)) ?_
  · rw [ovk_lt hq]; exact (if_pos hq).symm
  · exact (if_neg (by omega)).symm
  · rw [ovk_ge]
    by_cases h1 : i = 34
    · subst h1
      rw [show kdA6 kd q0 (q0 + 34) = 99 from by unfold kdA6; rw [if_neg (by omega), if_pos rfl]]
      show kE _ _ _ 20 (q0 + 34) = ceA6 ce c1 b0 q0 2 (q0 + 34)
      unfold ceA6
      rw [if_pos rfl]
      rfl
    · rw [show kdA6 kd q0 (q0 + i) = kdS i from by unfold kdA6; rw [if_neg (by omega), if_neg (by omega), Nat.add_sub_cancel_left]]
      exact kE_congr3 (kdS_lt i) rfl
  · exact xkret (xCc C) rfl dX6_init_56

theorem cK6 {q0 : Nat} (hk : kd q0 = 99) (he : ce q0 = .inr (6, [.null, .null, .null])) : xK l D c1 b0 yX6_init cX6_init 2 4 89 101 1846 [.ref (bad b0 q0)] ce kd G (q0 + 1) ce (ovk kd q0 kdS) (ovg G q0 gS) (q0 + 102) := by
  refine xK_of (by decide +kernel) (Nat.le_of_ble_eq_true rfl) (fun p e s m args below meth c C hin hsz => ?_)
  have C : xC p s m args meth c cX6_init RX6 2 none D (c1, ce) := C
  have hb0 : b0 ≤ s.heap.size := by omega
  refine xsub C (lv' := [(0, .ref (bad b0 q0))]) [0] rfl ?_
  refine xaload_n (xCc C) 0 rfl rfl dX6_init_0 ?_
  refine xobj (xCc C) w_26 w_19 w_20 ⟨(Nat.le_of_ble_eq_true rfl), (Nat.le_of_ble_eq_true rfl)⟩ dX6_init_1 ?_
  refine xaload_n (xCc C) 0 rfl rfl dX6_init_4 ?_
  refine xnew (xCc C) (ci := 4) (T := TX4) tyX4 tyX4_ok inlX4 w_27 w_28 w_3 rfl [.null, .null, .int 0, .int 0, .int 0, .int 0, .int 0, .int 0, .int 0, .int 0, .int 0, .int 0, .int 0, .int 0] (by intro j hj; rcases (show j = 0 ∨ j = 1 ∨ j = 2 ∨ j = 3 ∨ j = 4 ∨ j = 5 ∨ j = 6 ∨ j = 7 ∨ j = 8 ∨ j = 9 ∨ j = 10 ∨ j = 11 ∨ j = 12 ∨ j = 13 by omega) with rfl | rfl | rfl | rfl | rfl | rfl | rfl | rfl | rfl | rfl | rfl | rfl | rfl | rfl <;> rfl) (by omega) hb0 (by show _ ≤ 101; omega) (by show _ ≤ 1846; omega) dX6_init_5 ?_
  refine xdup (xCc C) dX6_init_8 rfl ?_
  refine xKN (xCc C) (cK4 (by simp [va_up, Nat.add_assoc]) (by simp [va_up, Nat.add_assoc])) nm_1 w_30 rfl mwX4_init ⟨(Nat.le_of_ble_eq_true rfl), (Nat.le_of_ble_eq_true rfl)⟩ (by omega) ⟨by show _ ≤ 101; omega, by show _ ≤ 1846; omega⟩ (Nat.le_of_ble_eq_true rfl) hb0 dX6_init_9 ?_
  refine xputOF (xCc C) (q := q0) (ci := 6) (fs := [.null, .null, .null]) (T := TX6) (ty := .object "HedgeChains$Land") (by omega) (by rw [ovk_lt (by omega)]; simp [va_up, hk, Nat.add_assoc]) (by simp [va_up, he, Nat.add_assoc]) rfl inlX6 tyX6 tyX6_ok nmX6 0 (by decide) (by exact Nat.le_of_ble_eq_true rfl) rfl hin rfl (by decide +kernel) rfl rfl w_156 dX6_init_12 ?_
  refine xaload_n (xCc C) 0 rfl rfl dX6_init_15 ?_
  refine xiconst (xCc C) (v := 2) dX6_init_16 (by decide) ?_
  refine xnewq_4 (xCc C) 2 (by decide) (by decide) (by decide) w_27 (by omega) hb0 (by show _ ≤ 101; omega) (by show _ ≤ 1846; omega) dX6_init_17 ?_
  refine xputOF (xCc C) (q := q0) (ci := 6) (fs := [.ref (bad b0 (q0 + 1)), .null, .null]) (T := TX6) (ty := .array (.object "HedgeChains$Land")) (by omega) (by rw [va_ne (by omega), ovk_lt (by omega)]; simp [va_up, hk, Nat.add_assoc]) (by simp [va_up, Nat.add_assoc]) rfl inlX6 tyX6 tyX6_ok nmX6 1 (by decide) (by exact Nat.le_of_ble_eq_true rfl) rfl hin rfl (by decide +kernel) rfl rfl w_158 dX6_init_20 ?_
  refine xaload_n (xCc C) 0 rfl rfl dX6_init_23 ?_
  refine xiconst (xCc C) (v := 2) dX6_init_24 (by decide) ?_
  refine xnewaZ (xCc C) 2 16 (by decide) (by decide) (by decide) (fun _ _ _ _ => rfl) w_169 (by omega) hb0 (by show _ ≤ 101; omega) (by show _ ≤ 1846; omega) dX6_init_25 ?_
  refine xputOF (xCc C) (q := q0) (ci := 6) (fs := [.ref (bad b0 (q0 + 1)), .ref (bad b0 (q0 + 34)), .null]) (T := TX6) (ty := .array .boolean) (by omega) (by rw [va_ne (by omega), va_ne (by omega), ovk_lt (by omega)]; simp [va_up, hk, Nat.add_assoc]) (by simp [va_up, Nat.add_assoc]) rfl inlX6 tyX6 tyX6_ok nmX6 2 (by decide) (by exact Nat.le_of_ble_eq_true rfl) rfl hin rfl (by decide +kernel) rfl rfl w_160 dX6_init_27 ?_
  refine xiconst (xCc C) (v := 0) dX6_init_30 (by decide) ?_
  refine xistore_n (xCc C) (lv' := [(1, .int 0), (0, .ref (bad b0 q0))]) rfl (by decide) rfl dX6_init_31 ?_
  refine xw (ce' := ceA6 ce c1 b0 q0 0) (kd' := kdA6 kd q0) (G' := ovg G q0 gS) (xfin (q0 := q0) (n := 36) (fun q hq => ⟨?_, ?_, ?_⟩) (fun i hi => ?_)) ?_
  · rw [va_ne (by omega), va_ne (by omega), ovk_lt (by omega), va_ne (by omega)]; exact if_pos hq
  · rw [ovg_lt hq, mrow_ne (by omega), ovg_lt (by omega)]
  · rw [va_ne (by omega), va_ne (by omega), va_ne (by omega), va_ne (by omega), va_ne (by omega)]
    exact if_neg (by omega)
  · by_cases h0 : i = 0
    · subst h0
      rw [show kdA6 kd q0 (q0 + 0) = 6 from by unfold kdA6; rw [if_neg (by omega), if_neg (by omega)]; rw [Nat.add_sub_cancel_left]; rfl, va_ne (by omega), va_ne (by omega), ovk_lt (by omega), va_ne (by omega), show kd (q0 + 0) = 99 from hk]
      show _ = va_up _ _ _ q0
      rw [va_eq]
      rfl
    · by_cases h1 : i = 34
      · subst h1
        rw [show kdA6 kd q0 (q0 + 34) = 99 from by unfold kdA6; rw [if_neg (by omega), if_pos rfl], va_ne (by omega), va_eq]
        show ceA6 ce c1 b0 q0 0 (q0 + 34) = va_up _ _ _ (q0 + 34)
        rw [va_ne (by omega), va_ne (by omega), va_eq]
        unfold ceA6
        rw [if_pos rfl]
        congr 7
      · have e3 : kdA6 kd q0 (q0 + i) = kdS i := by unfold kdA6; rw [if_neg (by omega), if_neg (by omega), Nat.add_sub_cancel_left]
        rw [e3]
        by_cases h2 : i = 35
        · subst h2
          rw [va_eq]
          refine kE_congr3 (kdS_lt 35) ?_
          rw [ovg_ge, mrow_same]
          rfl
        · have e4 : kdS i = kdL (i - 1) := by unfold kdS; rw [if_neg h0, if_pos (by omega)]
          rw [va_ne (by omega), va_ne (by omega), e4, show q0 + i = q0 + 1 + (i - 1) by omega, ovk_ge]
          refine kE_congr3 (kdL_lt _) ?_
          rw [mrow_ne (by omega), ovg_ge, show q0 + 1 + (i - 1) = q0 + i by omega, ovg_ge]
          unfold gS
          rw [if_neg h0, if_pos (by omega)]
  · refine cK6_step (f := 0) (N := q0 + 36) C hsz rfl (by omega) ?_
    refine cK6_step (f := 0 + 1) C hsz rfl (by omega) ?_
    exact cK6_exit (f := 0 + 1 + 1) C rfl rfl

def ceA3 (ce : Nat → va_E) (c1 : Nat → ClassId) (b0 q0 f : Nat) : Nat → va_E := fun q => if q = q0 + 1 then .inl (c1 6, 5, .inr (.inr (.inr (.inr (fun i => if i < f then some (bad b0 (q0 + 2 + 102 * i)) else none))))) else ce q
def kdA3 (kd : Nat → Nat) (q0 : Nat) : Nat → Nat := fun q => if q < q0 then kd q else if q = q0 + 1 then 99 else kdHi (q - q0)

theorem cK3_step {q0 f N : Nat} (C : xC p s m args meth c cX3_init RX3 2 none D (c1, ce)) (hsz : s.heap.size = b0 + (q0 + 1)) (hN : q0 + 2 + 102 * f = N) (hf : f < 5) (k : xX p l e (xRm 5 110 511 9250) s m args below meth c (fun q => b0 ≤ q) s.heap D (c1, (ceA3 ce c1 b0 q0 (f + 1))) (bad b0) (kdA3 kd q0) (q0 + 2 + 102 * (f + 1)) 2 (1 + 102 * (f + 1)) (5 + 1849 * (f + 1)) (xQk below D c1 b0 args s 511 9250 ce (ovk kd q0 kdHi) (ovg G q0 gHi) (q0 + 512)) (ovg G q0 gHi) 14 [(1, .int (nI (f + 1))), (0, .ref (bad b0 q0))] []) : xX p l e (xRm 5 110 511 9250) s m args below meth c (fun q => b0 ≤ q) s.heap D (c1, (ceA3 ce c1 b0 q0 f)) (bad b0) (kdA3 kd q0) N 2 (1 + 102 * f) (5 + 1849 * f) (xQk below D c1 b0 args s 511 9250 ce (ovk kd q0 kdHi) (ovg G q0 gHi) (q0 + 512)) (ovg G q0 gHi) 14 [(1, .int (nI f)), (0, .ref (bad b0 q0))] [] := by
  have hb0 : b0 ≤ s.heap.size := by omega
  have hio : vp_in (nI f) 5 := vp_in_nI hf (by decide)
  refine xiload_n (xCc C) 0 rfl rfl dX3_init_14 ?_
  refine xiconst (xCc C) (v := 5) dX3_init_15 (by decide) ?_
  refine xicmp_ge (xCc C) (tgt := 38) (show (if (5 : Int32) ≤ nI f then none else some ()) = some () from if_neg (fun h => nI_ge hf (by decide) h)) (by decide) dX3_init_16 (fun h => by cases h) (fun _ => ?_)
  refine xaload_n (xCc C) 1 rfl rfl dX3_init_19 ?_
  refine xg_3_states (xCc C) (q := q0) ⟨by omega, by unfold kdA3; rw [if_neg (by omega), if_neg (by omega), Nat.sub_self]; rfl⟩ w_179 dX3_init_20 ?_
  refine xiload_n (xCc C) 0 rfl rfl dX3_init_23 ?_
  refine xnew (xCc C) (ci := 6) (T := TX6) tyX6 tyX6_ok inlX6 w_176 w_22 w_2 rfl [.null, .null, .null] (by intro j hj; rcases (show j = 0 ∨ j = 1 ∨ j = 2 by omega) with rfl | rfl | rfl <;> rfl) (by omega) hb0 (by show _ ≤ 511; omega) (by show _ ≤ 9250; omega) dX3_init_24 ?_
  refine xdup (xCc C) dX3_init_27 rfl ?_
  refine xKN (xCc C) (cK6 (by simp [va_up]) (by simp [va_up])) nm_6 w_24 rfl mwX6_init ⟨(Nat.le_of_ble_eq_true rfl), (Nat.le_of_ble_eq_true rfl)⟩ (by omega) ⟨by show _ ≤ 511; omega, by show _ ≤ 9250; omega⟩ (Nat.le_of_ble_eq_true rfl) hb0 dX3_init_28 ?_
  have e2 : ovk (va_up (kdA3 kd q0) N 99) N kdS (q0 + 1) = 99 := by
    rw [ovk_lt (by omega), va_ne (by omega)]
    unfold kdA3
    rw [if_neg (by omega), if_pos rfl]
  have ce1 : va_up (ceA3 ce c1 b0 q0 f) N (.inr (6, [.null, .null, .null])) (q0 + 1) = .inl (c1 6, 5, .inr (.inr (.inr (.inr (fun i => if i < f then some (bad b0 (q0 + 2 + 102 * i)) else none))))) := by
    rw [va_ne (by omega)]
    exact if_pos rfl
  refine xaasO_6 (xCc C) (q := q0 + 1) (v := N) f (nI_clamp (by omega)) (by omega) e2 ce1 (by omega) (show kE _ _ _ (ovk (va_up (kdA3 kd q0) N 99) N kdS N) N = _ from by rw [ovk_at]; rfl) hio dX3_init_31 ?_
  refine xiinc (xCc C) (n := 1) (v := nI (f + 1)) (lv' := [(1, .int (nI (f + 1))), (0, .ref (bad b0 q0))]) 0 rfl (nI_1 f) (by decide) rfl dX3_init_32 ?_
  refine xgoto (xCc C) (tgt := 14) (by decide) dX3_init_35 ?_
  rw [show q0 + 2 + 102 * (f + 1) = N + 102 by omega] at *
  refine xwiden (k := 1 + 102 * (f + 1)) (n := 5 + 1849 * (f + 1)) (by omega) (by omega) ?_
  refine xw (ce' := ceA3 ce c1 b0 q0 (f + 1)) (kd' := kdA3 kd q0) (G' := ovg G q0 gHi) (xfin (q0 := N) (n := 102) (fun q hq => ⟨?_, ?_, ?_⟩) (fun i hi => ?_)) ?_
  · rw [ovk_lt hq, va_ne (by omega)]
  · rw [ovg_lt (G := ovg G q0 gHi) hq]
  · by_cases h1 : q = q0 + 1
    · subst h1
      rw [va_eq]
      unfold ceA3
      rw [if_pos rfl]
      congr 7
      funext i
      unfold va_up
      by_cases hi : i = f
      · subst hi
        rw [if_pos (by omega), if_pos rfl, hN]
      · rw [if_neg hi]
        have h6 : (i < f + 1) ↔ (i < f) := by omega
        simp only [h6]
    · rw [va_ne h1, va_ne (by omega)]
      unfold ceA3
      rw [if_neg h1, if_neg h1]
  · have e3 : kdA3 kd q0 (N + i) = kdS i := by
      unfold kdA3 kdHi
      subst hN
      rw [if_neg (by omega), if_neg (by omega)]
      rw [if_neg (by omega), if_neg (by omega), show (q0 + 2 + 102 * f + i - q0 - 2) % 102 = i by omega]
    rw [e3, ovk_ge]
    refine kE_congr3 (kdS_lt i) ?_
    rw [ovg_ge]
    subst hN
    unfold ovg gHi
    rw [if_neg (by omega)]
    rw [if_neg (by omega), show (q0 + 2 + 102 * f + i - q0 - 2) % 102 = i by omega]
  · exact k

theorem cK3_exit {q0 f N : Nat} (C : xC p s m args meth c cX3_init RX3 2 none D (c1, ce)) (hf : f = 5) (hN : q0 + 2 + 102 * f = N) : xX p l e (xRm 5 110 511 9250) s m args below meth c (fun q => b0 ≤ q) s.heap D (c1, (ceA3 ce c1 b0 q0 f)) (bad b0) (kdA3 kd q0) N 2 (1 + 102 * f) (5 + 1849 * f) (xQk below D c1 b0 args s 511 9250 ce (ovk kd q0 kdHi) (ovg G q0 gHi) (q0 + 512)) (ovg G q0 gHi) 14 [(1, .int (nI f)), (0, .ref (bad b0 q0))] [] := by
  subst hf
  obtain rfl : N = q0 + 512 := by omega
  refine xiload_n (xCc C) 0 rfl rfl dX3_init_14 ?_
  refine xiconst (xCc C) (v := 5) dX3_init_15 (by decide) ?_
  refine xicmp_ge (xCc C) (tgt := 38) (show (if (5 : Int32) ≤ nI 5 then some () else none) = some () from rfl) (by decide) dX3_init_16 (fun _ => ?_) (fun h => by cases h)
  refine xaload_n (xCc C) 1 rfl rfl dX3_init_38 ?_
  refine xiconst (xCc C) (v := 0) dX3_init_39 (by decide) ?_
  refine xp_3_next (xCc C) (q := q0) ⟨by omega, by unfold kdA3; rw [if_neg (by omega), if_neg (by omega), Nat.sub_self]; rfl⟩ w_180 dX3_init_40 ?_
  refine xaload_n (xCc C) 1 rfl rfl dX3_init_43 ?_
  refine xiconst (xCc C) (v := 0) dX3_init_44 (by decide) ?_
  refine xp_3_kept (xCc C) (q := q0) ⟨by omega, by unfold kdA3; rw [if_neg (by omega), if_neg (by omega), Nat.sub_self]; rfl⟩ w_181 dX3_init_45 ?_
  refine xw (ce' := ce) (kd' := ovk kd q0 kdHi) (G' := ovg G q0 gHi) (xfin (n := 512) (fun q hq => ⟨?_, ?_, ?_⟩) (fun i hi => ?_)) ?_
  · rw [ovk_lt hq]; exact (if_pos hq).symm
  · rw [mset_ne (by omega), mset_ne (by omega)]
  · exact (if_neg (by omega)).symm
  · rw [ovk_ge]
    by_cases h1 : i = 1
    · subst h1
      rw [show kdA3 kd q0 (q0 + 1) = 99 from by unfold kdA3; rw [if_neg (by omega), if_pos rfl]]
      show kE _ _ _ 21 (q0 + 1) = ceA3 ce c1 b0 q0 5 (q0 + 1)
      unfold ceA3
      rw [if_pos rfl]
      rfl
    · rw [show kdA3 kd q0 (q0 + i) = kdHi i from by unfold kdA3; rw [if_neg (by omega), if_neg (by omega), Nat.add_sub_cancel_left]]
      refine kE_congr3 (kdHi_lt i) ?_
      by_cases h0 : i = 0
      · subst h0
        funext j
        rw [mset_at, mset_at, ovg_ge]
        simp [gHi, g0]
      · rw [mset_ne (by omega), mset_ne (by omega)]
  · exact xkret (xCc C) rfl dX3_init_48

theorem cK3 {q0 : Nat} (hk : kd q0 = 99) (he : ce q0 = .inr (3, [.null, .int 0, .int 0])) : xK l D c1 b0 yX3_init cX3_init 2 5 110 511 9250 [.ref (bad b0 q0)] ce kd G (q0 + 1) ce (ovk kd q0 kdHi) (ovg G q0 gHi) (q0 + 512) := by
  refine xK_of (by decide +kernel) (Nat.le_of_ble_eq_true rfl) (fun p e s m args below meth c C hin hsz => ?_)
  have C : xC p s m args meth c cX3_init RX3 2 none D (c1, ce) := C
  have hb0 : b0 ≤ s.heap.size := by omega
  refine xsub C (lv' := [(0, .ref (bad b0 q0))]) [0] rfl ?_
  refine xaload_n (xCc C) 0 rfl rfl dX3_init_0 ?_
  refine xobj (xCc C) w_175 w_19 w_20 ⟨(Nat.le_of_ble_eq_true rfl), (Nat.le_of_ble_eq_true rfl)⟩ dX3_init_1 ?_
  refine xaload_n (xCc C) 0 rfl rfl dX3_init_4 ?_
  refine xiconst (xCc C) (v := 5) dX3_init_5 (by decide) ?_
  refine xnewq_6 (xCc C) 5 (by decide) (by decide) (by decide) w_176 (by omega) hb0 (by show _ ≤ 511; omega) (by show _ ≤ 9250; omega) dX3_init_6 ?_
  refine xputOF (xCc C) (q := q0) (ci := 3) (fs := [.null, .int 0, .int 0]) (T := TX3) (ty := .array (.object "HedgeChains$State")) (by omega) (by simp [va_up, hk, Nat.add_assoc]) (by simp [va_up, he, Nat.add_assoc]) rfl inlX3 tyX3 tyX3_ok nmX3 0 (by decide) (by exact Nat.le_of_ble_eq_true rfl) rfl hin rfl (by decide +kernel) rfl rfl w_179 dX3_init_9 ?_
  refine xiconst (xCc C) (v := 0) dX3_init_12 (by decide) ?_
  refine xistore_n (xCc C) (lv' := [(1, .int 0), (0, .ref (bad b0 q0))]) rfl (by decide) rfl dX3_init_13 ?_
  refine xw (ce' := ceA3 ce c1 b0 q0 0) (kd' := kdA3 kd q0) (G' := ovg G q0 gHi) (xfin (q0 := q0) (n := 2) (fun q hq => ⟨?_, ?_, ?_⟩) (fun i hi => ?_)) ?_
  · rw [va_ne (by omega)]; exact if_pos hq
  · rw [ovg_lt hq]
  · rw [va_ne (by omega), va_ne (by omega)]
    exact if_neg (by omega)
  · rcases (show i = 0 ∨ i = 1 by omega) with rfl | rfl
    · rw [show kdA3 kd q0 (q0 + 0) = 3 from by unfold kdA3; rw [if_neg (by omega), if_neg (by omega)]; rw [Nat.add_sub_cancel_left]; rfl, va_ne (by omega), show kd (q0 + 0) = 99 from hk]
      show _ = va_up _ _ _ q0
      rw [va_eq]
      show kE _ _ _ 3 q0 = _
      simp [kE, ovg_at, gHi, g0]
    · rw [show kdA3 kd q0 (q0 + 1) = 99 from by unfold kdA3; rw [if_neg (by omega), if_pos rfl], va_eq]
      show ceA3 ce c1 b0 q0 0 (q0 + 1) = va_up _ _ _ (q0 + 1)
      rw [va_ne (by omega), va_eq]
      unfold ceA3
      rw [if_pos rfl]
      congr 7
  · refine cK3_step (f := 0) (N := q0 + 2) C hsz rfl (by omega) ?_
    refine cK3_step (f := 0 + 1) C hsz rfl (by omega) ?_
    refine cK3_step (f := 0 + 1 + 1) C hsz rfl (by omega) ?_
    refine cK3_step (f := 0 + 1 + 1 + 1) C hsz rfl (by omega) ?_
    refine cK3_step (f := 0 + 1 + 1 + 1 + 1) C hsz rfl (by omega) ?_
    exact cK3_exit (f := 0 + 1 + 1 + 1 + 1 + 1) C rfl rfl

end
