section
variable {p : Program} {l : Launch} {e : Env} {s : State} {m : MethodId} {args : Array Value} {below : List Frame} {meth : Method} {c : Code} {A : Nat → Prop} {D : va_G} {cy : xCy} {ad kd : Nat → Nat} {NP : Nat} {G' : Mem}
/-- HedgeChains$State.copyFrom(LHedgeChains$State;)V -/
theorem wX6_copyFrom_13 (C : xC p s m args meth c cX6_copyFrom RX6 3 none D cy) (q0 : Nat) (q1 : Nat) (a0 : A6 kd NP q0) (a1 : A6 kd NP q1) : ∀ (n : Nat) (x2 : Int32) (G : Mem) (h : itr n (FX6_copyFrom_13 q0 q1) (x2, G) = some G'), xX p l e (xR 3 69) s m args below meth c A s.heap D cy ad kd NP 3 0 0 (xQv below D cy ad kd NP A args s G') G 13 [(0, .ref (ad q0)), (1, .ref (ad q1)), (2, .int x2)] [] := by
  intro n
  induction n with
  | zero =>
    intro x2 G h
    have h : none = some G' := h
    cases h
  | succ n ih =>
    intro x2 G h
    have h : bX6_copyFrom_13 q0 q1 (itr n (FX6_copyFrom_13 q0 q1)) x2 G = some G' := h
    have hrec13 : ∀ (x2 : Int32) (G : Mem), itr n (FX6_copyFrom_13 q0 q1) (x2, G) = some G' → xX p l e (xR 3 69) s m args below meth c A s.heap D cy ad kd NP 3 0 0 (xQv below D cy ad kd NP A args s G') G 13 [(0, .ref (ad q0)), (1, .ref (ad q1)), (2, .int x2)] [] := fun x2 G h => ih x2 G h
    unfold bX6_copyFrom_13 at h
    refine xiload_n C 2 rfl rfl dX6_copyFrom_13 ?_
    refine xiconst C (v := (nI 2)) dX6_copyFrom_14 (by decide) ?_
    refine xicmp_ge C (tgt := 60) h (by decide) dX6_copyFrom_15 (fun h => ?_) (fun h => ?_)
    · obtain rfl := so_1 h
      exact xvret C rfl dX6_copyFrom_60
    · refine xaload_n C 0 rfl rfl dX6_copyFrom_18 ?_
      refine xg_6_filled C a0.1 w_160 dX6_copyFrom_19 ?_
      refine xiload_n C 2 rfl rfl dX6_copyFrom_22 ?_
      refine xaload_n C 1 rfl rfl dX6_copyFrom_23 ?_
      refine xg_6_filled C a1.1 w_160 dX6_copyFrom_24 ?_
      refine xiload_n C 2 rfl rfl dX6_copyFrom_27 ?_
      obtain ⟨hi28, h⟩ := ix_some h
      refine xza C a1.2.2.2.1 hi28 dX6_copyFrom_28 ?_
      obtain ⟨hi29, h⟩ := ix_some h
      refine xzs C a0.2.2.2.1 hi29 dX6_copyFrom_29 ?_
      generalize mset G (q0 + 35) x2.toNatClampNeg (vp_nar .boolean (G (q1 + 35) x2.toNatClampNeg)) = G29 at h ⊢
      replace h := lt_go h
      refine xaload_n C 0 rfl rfl dX6_copyFrom_30 ?_
      refine xg_6_filled C a0.1 w_160 dX6_copyFrom_31 ?_
      refine xiload_n C 2 rfl rfl dX6_copyFrom_34 ?_
      obtain ⟨hi35, h⟩ := ix_some h
      refine xza C a0.2.2.2.1 hi35 dX6_copyFrom_35 ?_
      refine xif_eq C (tgt := 54) h (by decide) dX6_copyFrom_36 (fun h => ?_) (fun h => ?_)
      · refine xiinc C (v := (x2 + nI 1)) (lv' := [(2, .int (x2 + nI 1)), (0, .ref (ad q0)), (1, .ref (ad q1))]) 2 rfl rfl (by decide) rfl dX6_copyFrom_54 ?_
        refine xgoto C (tgt := 13) (by decide) dX6_copyFrom_57 ?_
        refine xsub C (lv' := [(0, .ref (ad q0)), (1, .ref (ad q1)), (2, .int (x2 + nI 1))]) [1, 2, 0] rfl ?_
        exact hrec13 (x2 + nI 1) G29 h
      · refine xaload_n C 0 rfl rfl dX6_copyFrom_39 ?_
        refine xg_6_slots C a0.1 w_158 dX6_copyFrom_40 ?_
        refine xiload_n C 2 rfl rfl dX6_copyFrom_43 ?_
        obtain ⟨hi44, h⟩ := ix_some h
        refine xaa_20 C x2.toNatClampNeg rfl (q0 + 36 + 33 * x2.toNatClampNeg) (by omega) a0.2.2.1 hi44 dX6_copyFrom_44 ?_
        refine xaload_n C 1 rfl rfl dX6_copyFrom_45 ?_
        refine xg_6_slots C a1.1 w_158 dX6_copyFrom_46 ?_
        refine xiload_n C 2 rfl rfl dX6_copyFrom_49 ?_
        obtain ⟨hi50, h⟩ := ix_some h
        refine xaa_20 C x2.toNatClampNeg rfl (q1 + 36 + 33 * x2.toNatClampNeg) (by omega) a1.2.2.1 hi50 dX6_copyFrom_50 ?_
        obtain ⟨G51, hc51, h⟩ := bv_some h
        refine xNv C (As := [.ref (ad (q1 + 36 + 33 * x2.toNatClampNeg))]) (rest := []) (kX4_copyFrom (a0.2.2.2.2 x2.toNatClampNeg (vp_lt hi44)) (a1.2.2.2.2 x2.toNatClampNeg (vp_lt hi50)) hc51) ((a0.2.2.2.2 x2.toNatClampNeg (vp_lt hi44)).1) rfl rfl nm_18 mvX4_copyFrom mwX4_copyFrom rfl ⟨Nat.le_of_ble_eq_true rfl, Nat.le_of_ble_eq_true rfl⟩ ⟨Nat.le_refl _, Nat.le_refl _⟩ (Nat.le_of_ble_eq_true rfl) dX6_copyFrom_51 ?_
        refine xiinc C (v := (x2 + nI 1)) (lv' := [(2, .int (x2 + nI 1)), (0, .ref (ad q0)), (1, .ref (ad q1))]) 2 rfl rfl (by decide) rfl dX6_copyFrom_54 ?_
        refine xgoto C (tgt := 13) (by decide) dX6_copyFrom_57 ?_
        refine xsub C (lv' := [(0, .ref (ad q0)), (1, .ref (ad q1)), (2, .int (x2 + nI 1))]) [1, 2, 0] rfl ?_
        exact hrec13 (x2 + nI 1) G51 h
theorem kX6_copyFrom  {q0 : Nat} {q1 : Nat} (a0 : A6 kd NP q0) (a1 : A6 kd NP q1) {G : Mem} (h : fX6_copyFrom q0 q1 G = some G') : xMv l D cy ad kd NP A yX6_copyFrom cX6_copyFrom 3 none 3 69 [.ref (ad q0), .ref (ad q1)] G G' := by
  refine xMv_of trivial (by decide +kernel) (Nat.le_of_ble_eq_true rfl) (fun p e s m args below meth c C => ?_)
  have C : xC p s m args meth c cX6_copyFrom RX6 3 none D cy := C
  refine xsub C (lv' := [(0, .ref (ad q0)), (1, .ref (ad q1))]) [0, 1] rfl ?_
  unfold fX6_copyFrom at h
  refine xaload_n C 0 rfl rfl dX6_copyFrom_0 ?_
  refine xg_6_land C a0.1 w_156 dX6_copyFrom_1 ?_
  refine xaload_n C 1 rfl rfl dX6_copyFrom_4 ?_
  refine xg_6_land C a1.1 w_156 dX6_copyFrom_5 ?_
  obtain ⟨G8, hc8, h⟩ := bv_some h
  refine xNv C (As := [.ref (ad (q1 + 1))]) (rest := []) (kX4_copyFrom a0.2.1 a1.2.1 hc8) a0.2.1.1 rfl rfl nm_18 mvX4_copyFrom mwX4_copyFrom rfl ⟨Nat.le_of_ble_eq_true rfl, Nat.le_of_ble_eq_true rfl⟩ ⟨Nat.le_refl _, Nat.le_refl _⟩ (Nat.le_of_ble_eq_true rfl) dX6_copyFrom_8 ?_
  refine xiconst C (v := (nI 0)) dX6_copyFrom_11 (by decide) ?_
  refine xistore_n C (lv' := [(2, .int (nI 0)), (0, .ref (ad q0)), (1, .ref (ad q1))]) rfl (by decide) rfl dX6_copyFrom_12 ?_
  refine xsub C (lv' := [(0, .ref (ad q0)), (1, .ref (ad q1)), (2, .int (nI 0))]) [1, 2, 0] rfl ?_
  exact wX6_copyFrom_13 C q0 q1 a0 a1 _ (nI 0) G8 h
/-- HedgeChains$History.keep(LHedgeChains$State;)V -/
theorem kX3_keep  {q0 : Nat} {q1 : Nat} (a0 : A3 kd NP q0) (a1 : A6 kd NP q1) {G : Mem} (h : fX3_keep q0 q1 G = some G') : xMv l D cy ad kd NP A yX3_keep cX3_keep 2 none 4 91 [.ref (ad q0), .ref (ad q1)] G G' := by
  refine xMv_of trivial (by decide +kernel) (Nat.le_of_ble_eq_true rfl) (fun p e s m args below meth c C => ?_)
  have C : xC p s m args meth c cX3_keep RX3 2 none D cy := C
  refine xsub C (lv' := [(0, .ref (ad q0)), (1, .ref (ad q1))]) [0, 1] rfl ?_
  unfold fX3_keep at h
  refine xaload_n C 0 rfl rfl dX3_keep_0 ?_
  refine xg_3_states C a0.1 w_179 dX3_keep_1 ?_
  refine xaload_n C 0 rfl rfl dX3_keep_4 ?_
  refine xg_3_next C a0.1 w_180 dX3_keep_5 ?_
  obtain ⟨hi8, h⟩ := ix_some h
  refine xaa_21 C (G q0 1).toNatClampNeg rfl (q0 + 2 + 102 * (G q0 1).toNatClampNeg) (by omega) a0.2.1 hi8 dX3_keep_8 ?_
  refine xaload_n C 1 rfl rfl dX3_keep_9 ?_
  obtain ⟨G10, hc10, h⟩ := bv_some h
  refine xNv C (As := [.ref (ad q1)]) (rest := []) (kX6_copyFrom (a0.2.2 (G q0 1).toNatClampNeg (vp_lt hi8)) a1 hc10) ((a0.2.2 (G q0 1).toNatClampNeg (vp_lt hi8)).1) rfl rfl nm_17 mvX6_copyFrom mwX6_copyFrom rfl ⟨Nat.le_of_ble_eq_true rfl, Nat.le_of_ble_eq_true rfl⟩ ⟨Nat.le_refl _, Nat.le_refl _⟩ (Nat.le_of_ble_eq_true rfl) dX3_keep_10 ?_
  refine xaload_n C 0 rfl rfl dX3_keep_13 ?_
  refine xaload_n C 0 rfl rfl dX3_keep_14 ?_
  refine xg_3_next C a0.1 w_180 dX3_keep_15 ?_
  refine xiconst C (v := (nI 1)) dX3_keep_18 (by decide) ?_
  refine xiadd C dX3_keep_19 ?_
  refine xiconst C (v := (nI 5)) dX3_keep_20 (by decide) ?_
  refine xirem C dX3_keep_21 (by decide) ?_
  refine xp_3_next C a0.1 w_180 dX3_keep_22 ?_
  generalize mset G10 q0 1 (((G10 q0 1) + (nI 1)) - ((G10 q0 1) + (nI 1)) / (nI 5) * (nI 5)) = G22 at h ⊢
  replace h := lt_go h
  refine xaload_n C 0 rfl rfl dX3_keep_25 ?_
  refine xaload_n C 0 rfl rfl dX3_keep_26 ?_
  refine xg_3_kept C a0.1 w_181 dX3_keep_27 ?_
  refine xiconst C (v := (nI 1)) dX3_keep_30 (by decide) ?_
  refine xiadd C dX3_keep_31 ?_
  refine xiconst C (v := (nI 5)) dX3_keep_32 (by decide) ?_
  refine xmmin C w_324 w_325 w_12 w_326 ⟨Nat.le_of_ble_eq_true rfl, Nat.le_of_ble_eq_true rfl⟩ ⟨Nat.le_refl _, Nat.le_refl _⟩ dX3_keep_33 ?_
  refine xp_3_kept C a0.1 w_181 dX3_keep_36 ?_
  generalize mset G22 q0 2 (if (nI 5) < ((G22 q0 2) + (nI 1)) then (nI 5) else ((G22 q0 2) + (nI 1))) = G36 at h ⊢
  replace h := lt_go h
  obtain rfl := so_1 h
  exact xvret C rfl dX3_keep_39
/-- HedgeChains$State.fillSlot(I)V -/
theorem kX6_fillSlot  {q0 : Nat} {x1 : Int32} (a0 : A6 kd NP q0) {G : Mem} (h : fX6_fillSlot q0 x1 G = some G') : xMv l D cy ad kd NP A yX6_fillSlot cX6_fillSlot 2 none 3 69 [.ref (ad q0), .int x1] G G' := by
  refine xMv_of trivial (by decide +kernel) (Nat.le_of_ble_eq_true rfl) (fun p e s m args below meth c C => ?_)
  have C : xC p s m args meth c cX6_fillSlot RX6 2 none D cy := C
  refine xsub C (lv' := [(0, .ref (ad q0)), (1, .int x1)]) [0, 1] rfl ?_
  unfold fX6_fillSlot at h
  refine xaload_n C 0 rfl rfl dX6_fillSlot_0 ?_
  refine xg_6_slots C a0.1 w_158 dX6_fillSlot_1 ?_
  refine xiload_n C 1 rfl rfl dX6_fillSlot_4 ?_
  obtain ⟨hi5, h⟩ := ix_some h
  refine xaa_20 C x1.toNatClampNeg rfl (q0 + 36 + 33 * x1.toNatClampNeg) (by omega) a0.2.2.1 hi5 dX6_fillSlot_5 ?_
  refine xaload_n C 0 rfl rfl dX6_fillSlot_6 ?_
  refine xg_6_land C a0.1 w_156 dX6_fillSlot_7 ?_
  obtain ⟨G10, hc10, h⟩ := bv_some h
  refine xNv C (As := [.ref (ad (q0 + 1))]) (rest := []) (kX4_copyFrom (a0.2.2.2.2 x1.toNatClampNeg (vp_lt hi5)) a0.2.1 hc10) ((a0.2.2.2.2 x1.toNatClampNeg (vp_lt hi5)).1) rfl rfl nm_18 mvX4_copyFrom mwX4_copyFrom rfl ⟨Nat.le_of_ble_eq_true rfl, Nat.le_of_ble_eq_true rfl⟩ ⟨Nat.le_refl _, Nat.le_refl _⟩ (Nat.le_of_ble_eq_true rfl) dX6_fillSlot_10 ?_
  refine xaload_n C 0 rfl rfl dX6_fillSlot_13 ?_
  refine xg_6_filled C a0.1 w_160 dX6_fillSlot_14 ?_
  refine xiload_n C 1 rfl rfl dX6_fillSlot_17 ?_
  refine xiconst C (v := (nI 1)) dX6_fillSlot_18 (by decide) ?_
  obtain ⟨hi19, h⟩ := ix_some h
  refine xzs C a0.2.2.2.1 hi19 dX6_fillSlot_19 ?_
  generalize mset G10 (q0 + 35) x1.toNatClampNeg (vp_nar .boolean (nI 1)) = G19 at h ⊢
  replace h := lt_go h
  obtain rfl := so_1 h
  exact xvret C rfl dX6_fillSlot_20
/-- HedgeChains$History.bringBack(LHedgeChains$State;)V -/
theorem kX3_bringBack  {q0 : Nat} {q1 : Nat} (a0 : A3 kd NP q0) (a1 : A6 kd NP q1) {G : Mem} (h : fX3_bringBack q0 q1 G = some G') : xMv l D cy ad kd NP A yX3_bringBack cX3_bringBack 2 none 4 91 [.ref (ad q0), .ref (ad q1)] G G' := by
  refine xMv_of trivial (by decide +kernel) (Nat.le_of_ble_eq_true rfl) (fun p e s m args below meth c C => ?_)
  have C : xC p s m args meth c cX3_bringBack RX3 2 none D cy := C
  refine xsub C (lv' := [(0, .ref (ad q0)), (1, .ref (ad q1))]) [0, 1] rfl ?_
  unfold fX3_bringBack at h
  refine xaload_n C 0 rfl rfl dX3_bringBack_0 ?_
  refine xg_3_kept C a0.1 w_181 dX3_bringBack_1 ?_
  refine xif_le C (tgt := 44) h (by decide) dX3_bringBack_4 (fun h => ?_) (fun h => ?_)
  · obtain rfl := so_1 h
    exact xvret C rfl dX3_bringBack_44
  · refine xaload_n C 0 rfl rfl dX3_bringBack_7 ?_
    refine xaload_n C 0 rfl rfl dX3_bringBack_8 ?_
    refine xg_3_next C a0.1 w_180 dX3_bringBack_9 ?_
    refine xiconst C (v := (nI 5)) dX3_bringBack_12 (by decide) ?_
    refine xiadd C dX3_bringBack_13 ?_
    refine xiconst C (v := (nI 1)) dX3_bringBack_14 (by decide) ?_
    refine xisub C dX3_bringBack_15 ?_
    refine xiconst C (v := (nI 5)) dX3_bringBack_16 (by decide) ?_
    refine xirem C dX3_bringBack_17 (by decide) ?_
    refine xp_3_next C a0.1 w_180 dX3_bringBack_18 ?_
    generalize mset G q0 1 ((((G q0 1) + (nI 5)) - (nI 1)) - (((G q0 1) + (nI 5)) - (nI 1)) / (nI 5) * (nI 5)) = G18 at h ⊢
    replace h := lt_go h
    refine xaload_n C 0 rfl rfl dX3_bringBack_21 ?_
    refine xdup C dX3_bringBack_22 rfl ?_
    refine xg_3_kept C a0.1 w_181 dX3_bringBack_23 ?_
    refine xiconst C (v := (nI 1)) dX3_bringBack_26 (by decide) ?_
    refine xisub C dX3_bringBack_27 ?_
    refine xp_3_kept C a0.1 w_181 dX3_bringBack_28 ?_
    generalize mset G18 q0 2 ((G18 q0 2) - (nI 1)) = G28 at h ⊢
    replace h := lt_go h
    refine xaload_n C 1 rfl rfl dX3_bringBack_31 ?_
    refine xaload_n C 0 rfl rfl dX3_bringBack_32 ?_
    refine xg_3_states C a0.1 w_179 dX3_bringBack_33 ?_
    refine xaload_n C 0 rfl rfl dX3_bringBack_36 ?_
    refine xg_3_next C a0.1 w_180 dX3_bringBack_37 ?_
    obtain ⟨hi40, h⟩ := ix_some h
    refine xaa_21 C (G28 q0 1).toNatClampNeg rfl (q0 + 2 + 102 * (G28 q0 1).toNatClampNeg) (by omega) a0.2.1 hi40 dX3_bringBack_40 ?_
    obtain ⟨G41, hc41, h⟩ := bv_some h
    refine xNv C (As := [.ref (ad (q0 + 2 + 102 * (G28 q0 1).toNatClampNeg))]) (rest := []) (kX6_copyFrom a1 (a0.2.2 (G28 q0 1).toNatClampNeg (vp_lt hi40)) hc41) a1.1 rfl rfl nm_17 mvX6_copyFrom mwX6_copyFrom rfl ⟨Nat.le_of_ble_eq_true rfl, Nat.le_of_ble_eq_true rfl⟩ ⟨Nat.le_refl _, Nat.le_refl _⟩ (Nat.le_of_ble_eq_true rfl) dX3_bringBack_41 ?_
    obtain rfl := so_1 h
    exact xvret C rfl dX3_bringBack_44
/-- HedgeChains$Text.addSign(C)V -/
theorem kX7_addSign  {q0 : Nat} {x1 : Int32} (a0 : A7 kd NP q0) {G : Mem} (h : fX7_addSign q0 x1 G = some G') : xMv l D cy ad kd NP A yX7_addSign cX7_addSign 2 none 0 0 [.ref (ad q0), .int x1] G G' := by
  refine xMv_of trivial (by decide +kernel) (Nat.le_of_ble_eq_true rfl) (fun p e s m args below meth c C => ?_)
  have C : xC p s m args meth c cX7_addSign RX7 2 none D cy := C
  refine xsub C (lv' := [(0, .ref (ad q0)), (1, .int x1)]) [0, 1] rfl ?_
  unfold fX7_addSign at h
  refine xaload_n C 0 rfl rfl dX7_addSign_0 ?_
  refine xg_7_length C a0.1 w_197 dX7_addSign_1 ?_
  refine xbipush C (v := (nI 80)) dX7_addSign_4 (by decide) ?_
  refine xicmp_ge C (tgt := 29) h (by decide) dX7_addSign_6 (fun h => ?_) (fun h => ?_)
  · obtain rfl := so_1 h
    exact xvret C rfl dX7_addSign_29
  · refine xaload_n C 0 rfl rfl dX7_addSign_9 ?_
    refine xg_7_signs C a0.1 w_196 dX7_addSign_10 ?_
    refine xaload_n C 0 rfl rfl dX7_addSign_13 ?_
    refine xg_7_length C a0.1 w_197 dX7_addSign_14 ?_
    refine xiload_n C 1 rfl rfl dX7_addSign_17 ?_
    obtain ⟨hi18, h⟩ := ix_some h
    refine xcs C a0.2 hi18 dX7_addSign_18 ?_
    generalize mset G (q0 + 1) (G q0 1).toNatClampNeg (vp_nar .char x1) = G18 at h ⊢
    replace h := lt_go h
    refine xaload_n C 0 rfl rfl dX7_addSign_19 ?_
    refine xdup C dX7_addSign_20 rfl ?_
    refine xg_7_length C a0.1 w_197 dX7_addSign_21 ?_
    refine xiconst C (v := (nI 1)) dX7_addSign_24 (by decide) ?_
    refine xiadd C dX7_addSign_25 ?_
    refine xp_7_length C a0.1 w_197 dX7_addSign_26 ?_
    generalize mset G18 q0 1 ((G18 q0 1) + (nI 1)) = G26 at h ⊢
    replace h := lt_go h
    obtain rfl := so_1 h
    exact xvret C rfl dX7_addSign_29
/-- HedgeChains$Text.signAt(I)C -/
theorem kX7_signAt {r : Int32}  {q0 : Nat} {x1 : Int32} (a0 : A7 kd NP q0) {G : Mem} (h : fX7_signAt q0 x1 G = some (r, G')) : xMi l D cy ad kd NP A yX7_signAt cX7_signAt 2 (some .char) 0 0 [.ref (ad q0), .int x1] G r G' := by
  refine xMi_of trivial (by decide +kernel) (Nat.le_of_ble_eq_true rfl) (fun p e s m args below meth c C => ?_)
  have C : xC p s m args meth c cX7_signAt RX7 2 (some .char) D cy := C
  refine xsub C (lv' := [(0, .ref (ad q0)), (1, .int x1)]) [0, 1] rfl ?_
  unfold fX7_signAt at h
  refine xiload_n C 1 rfl rfl dX7_signAt_0 ?_
  refine xif_lt C (tgt := 21) h (by decide) dX7_signAt_1 (fun h => ?_) (fun h => ?_)
  · refine xiconst C (v := (nI 0)) dX7_signAt_21 (by decide) ?_
    obtain ⟨rfl, rfl⟩ := so_2 h
    exact xcret C rfl rfl dX7_signAt_22
  · refine xiload_n C 1 rfl rfl dX7_signAt_4 ?_
    refine xaload_n C 0 rfl rfl dX7_signAt_5 ?_
    refine xg_7_length C a0.1 w_197 dX7_signAt_6 ?_
    refine xicmp_ge C (tgt := 21) h (by decide) dX7_signAt_9 (fun h => ?_) (fun h => ?_)
    · refine xiconst C (v := (nI 0)) dX7_signAt_21 (by decide) ?_
      obtain ⟨rfl, rfl⟩ := so_2 h
      exact xcret C rfl rfl dX7_signAt_22
    · refine xaload_n C 0 rfl rfl dX7_signAt_12 ?_
      refine xg_7_signs C a0.1 w_196 dX7_signAt_13 ?_
      refine xiload_n C 1 rfl rfl dX7_signAt_16 ?_
      obtain ⟨hi17, h⟩ := ix_some h
      refine xca C a0.2 hi17 dX7_signAt_17 ?_
      refine xgoto C (tgt := 22) (by decide) dX7_signAt_18 ?_
      obtain ⟨hz, h⟩ := ck_some h
      obtain ⟨rfl, rfl⟩ := so_2 h
      exact xcret C hz rfl dX7_signAt_22
/-- HedgeChains$HedgeReader.kindFor(C)I -/
theorem kX2_kindFor {r : Int32}  {x0 : Int32} {G : Mem} (h : fX2_kindFor x0 G = some (r, G')) : xMi l D cy ad kd NP A yX2_kindFor cX2_kindFor 1 (some .int) 0 0 [.int x0] G r G' := by
  refine xMi_of trivial (by decide +kernel) (Nat.le_of_ble_eq_true rfl) (fun p e s m args below meth c C => ?_)
  have C : xC p s m args meth c cX2_kindFor RX2 1 (some .int) D cy := C
  refine xsub C (lv' := [(0, .int x0)]) [0] rfl ?_
  unfold fX2_kindFor at h
  refine xiload_n C 0 rfl rfl dX2_kindFor_0 ?_
  rcases if_some h with ⟨hs1_103, h⟩ | ⟨hs1_103, h⟩
  · refine xlook C (off := 47) (tgt := 48) rfl (by show Op.lookupswitch.offset [(103, 47), (108, 45), (112, 49), (116, 43)] 51 _ = 47; rw [hs1_103]; rfl) (by decide) dX2_kindFor_1 ?_
    refine xiconst C (v := (nI 2)) dX2_kindFor_48 (by decide) ?_
    obtain ⟨rfl, rfl⟩ := so_2 h
    exact xiret C rfl dX2_kindFor_49
  rcases if_some h with ⟨hs1_108, h⟩ | ⟨hs1_108, h⟩
  · refine xlook C (off := 45) (tgt := 46) rfl (by show Op.lookupswitch.offset [(103, 47), (108, 45), (112, 49), (116, 43)] 51 _ = 45; rw [hs1_108]; rfl) (by decide) dX2_kindFor_1 ?_
    refine xiconst C (v := (nI 1)) dX2_kindFor_46 (by decide) ?_
    obtain ⟨rfl, rfl⟩ := so_2 h
    exact xiret C rfl dX2_kindFor_47
  rcases if_some h with ⟨hs1_112, h⟩ | ⟨hs1_112, h⟩
  · refine xlook C (off := 49) (tgt := 50) rfl (by show Op.lookupswitch.offset [(103, 47), (108, 45), (112, 49), (116, 43)] 51 _ = 49; rw [hs1_112]; rfl) (by decide) dX2_kindFor_1 ?_
    refine xiconst C (v := (nI 3)) dX2_kindFor_50 (by decide) ?_
    obtain ⟨rfl, rfl⟩ := so_2 h
    exact xiret C rfl dX2_kindFor_51
  rcases if_some h with ⟨hs1_116, h⟩ | ⟨hs1_116, h⟩
  · refine xlook C (off := 43) (tgt := 44) rfl (by show Op.lookupswitch.offset [(103, 47), (108, 45), (112, 49), (116, 43)] 51 _ = 43; rw [hs1_116]; rfl) (by decide) dX2_kindFor_1 ?_
    refine xiconst C (v := (nI 0)) dX2_kindFor_44 (by decide) ?_
    obtain ⟨rfl, rfl⟩ := so_2 h
    exact xiret C rfl dX2_kindFor_45
  refine xlook C (off := 51) (tgt := 52) rfl (by show Op.lookupswitch.offset [(103, 47), (108, 45), (112, 49), (116, 43)] 51 _ = 51; rw [Op.lookupswitch.offset_cons, if_neg (fun q => xne hs1_103 103 rfl q.symm), Op.lookupswitch.offset_cons, if_neg (fun q => xne hs1_108 108 rfl q.symm), Op.lookupswitch.offset_cons, if_neg (fun q => xne hs1_112 112 rfl q.symm), Op.lookupswitch.offset_cons, if_neg (fun q => xne hs1_116 116 rfl q.symm), Op.lookupswitch.offset_nil]) (by decide) dX2_kindFor_1 ?_
  refine xiconst C (v := (-1)) dX2_kindFor_52 (by decide) ?_
  obtain ⟨rfl, rfl⟩ := so_2 h
  exact xiret C rfl dX2_kindFor_53
/-- HedgeChains$HedgeReader.digitFor(C)I -/
theorem kX2_digitFor {r : Int32}  {x0 : Int32} {G : Mem} (h : fX2_digitFor x0 G = some (r, G')) : xMi l D cy ad kd NP A yX2_digitFor cX2_digitFor 1 (some .int) 0 0 [.int x0] G r G' := by
  refine xMi_of trivial (by decide +kernel) (Nat.le_of_ble_eq_true rfl) (fun p e s m args below meth c C => ?_)
  have C : xC p s m args meth c cX2_digitFor RX2 1 (some .int) D cy := C
  refine xsub C (lv' := [(0, .int x0)]) [0] rfl ?_
  unfold fX2_digitFor at h
  refine xiload_n C 0 rfl rfl dX2_digitFor_0 ?_
  refine xbipush C (v := (nI 48)) dX2_digitFor_1 (by decide) ?_
  refine xicmp_lt C (tgt := 19) h (by decide) dX2_digitFor_3 (fun h => ?_) (fun h => ?_)
  · refine xiconst C (v := (-1)) dX2_digitFor_19 (by decide) ?_
    obtain ⟨rfl, rfl⟩ := so_2 h
    exact xiret C rfl dX2_digitFor_20
  · refine xiload_n C 0 rfl rfl dX2_digitFor_6 ?_
    refine xbipush C (v := (nI 57)) dX2_digitFor_7 (by decide) ?_
    refine xicmp_gt C (tgt := 19) h (by decide) dX2_digitFor_9 (fun h => ?_) (fun h => ?_)
    · refine xiconst C (v := (-1)) dX2_digitFor_19 (by decide) ?_
      obtain ⟨rfl, rfl⟩ := so_2 h
      exact xiret C rfl dX2_digitFor_20
    · refine xiload_n C 0 rfl rfl dX2_digitFor_12 ?_
      refine xbipush C (v := (nI 48)) dX2_digitFor_13 (by decide) ?_
      refine xisub C dX2_digitFor_15 ?_
      refine xgoto C (tgt := 20) (by decide) dX2_digitFor_16 ?_
      obtain ⟨rfl, rfl⟩ := so_2 h
      exact xiret C rfl dX2_digitFor_20
/-- HedgeChains$HedgeReader.readNumber(LHedgeChains$Text;)I -/
theorem wX2_readNumber_29 {r : Int32} (C : xC p s m args meth c cX2_readNumber RX2 3 (some .int) D cy) (q0 : Nat) (q1 : Nat) (a0 : A2 kd NP q0) (a1 : A7 kd NP q1) : ∀ (n : Nat) (x2 : Int32) (G : Mem) (h : itr n (FX2_readNumber_29 q0 q1) (x2, G) = some (r, G')), xX p l e (xR 1 21) s m args below meth c A s.heap D cy ad kd NP 3 0 0 (xQi below D cy ad kd NP A args s r G') G 29 [(0, .ref (ad q0)), (1, .ref (ad q1)), (2, .int x2)] [] := by
  intro n
  induction n with
  | zero =>
    intro x2 G h
    have h : none = some (r, G') := h
    cases h
  | succ n ih =>
    intro x2 G h
    have h : bX2_readNumber_29 q0 q1 (itr n (FX2_readNumber_29 q0 q1)) x2 G = some (r, G') := h
    have hrec29 : ∀ (x2 : Int32) (G : Mem), itr n (FX2_readNumber_29 q0 q1) (x2, G) = some (r, G') → xX p l e (xR 1 21) s m args below meth c A s.heap D cy ad kd NP 3 0 0 (xQi below D cy ad kd NP A args s r G') G 29 [(0, .ref (ad q0)), (1, .ref (ad q1)), (2, .int x2)] [] := fun x2 G h => ih x2 G h
    unfold bX2_readNumber_29 at h
    refine xaload_n C 0 rfl rfl dX2_readNumber_29 ?_
    refine xg_2_at C a0.1 w_218 dX2_readNumber_30 ?_
    refine xaload_n C 1 rfl rfl dX2_readNumber_33 ?_
    refine xgN_7_length C a1.1 nf_30 dX2_readNumber_34 ?_
    refine xicmp_ge C (tgt := 92) h (by decide) dX2_readNumber_37 (fun h => ?_) (fun h => ?_)
    · refine xiload_n C 2 rfl rfl dX2_readNumber_92 ?_
      obtain ⟨rfl, rfl⟩ := so_2 h
      exact xiret C rfl dX2_readNumber_93
    · refine xaload_n C 1 rfl rfl dX2_readNumber_40 ?_
      refine xaload_n C 0 rfl rfl dX2_readNumber_41 ?_
      refine xg_2_at C a0.1 w_218 dX2_readNumber_42 ?_
      obtain ⟨r45, G45, hc45, h⟩ := bd_some h
      refine xNi C (As := [.int (G q0 2)]) (rest := []) (kX7_signAt a1 hc45) a1.1 rfl rfl nm_44 mvX7_signAt mwX7_signAt rfl ⟨Nat.le_of_ble_eq_true rfl, Nat.le_of_ble_eq_true rfl⟩ ⟨Nat.le_refl _, Nat.le_refl _⟩ (Nat.le_of_ble_eq_true rfl) dX2_readNumber_45 ?_
      obtain ⟨r48, G48, hc48, h⟩ := bd_some h
      refine xSi C (As := [.int r45]) (rest := []) (kX2_digitFor hc48) w_513 w_514 mwX2_digitFor rfl ⟨Nat.le_of_ble_eq_true rfl, Nat.le_of_ble_eq_true rfl⟩ ⟨Nat.le_refl _, Nat.le_refl _⟩ (Nat.le_of_ble_eq_true rfl) dX2_readNumber_48 ?_
      refine xif_lt C (tgt := 92) h (by decide) dX2_readNumber_51 (fun h => ?_) (fun h => ?_)
      · refine xiload_n C 2 rfl rfl dX2_readNumber_92 ?_
        obtain ⟨rfl, rfl⟩ := so_2 h
        exact xiret C rfl dX2_readNumber_93
      · refine xiload_n C 2 rfl rfl dX2_readNumber_54 ?_
        refine xbipush C (v := (nI 10)) dX2_readNumber_55 (by decide) ?_
        refine ximul C dX2_readNumber_57 ?_
        refine xaload_n C 1 rfl rfl dX2_readNumber_58 ?_
        refine xaload_n C 0 rfl rfl dX2_readNumber_59 ?_
        refine xg_2_at C a0.1 w_218 dX2_readNumber_60 ?_
        obtain ⟨r63, G63, hc63, h⟩ := bd_some h
        refine xNi C (As := [.int (G48 q0 2)]) (rest := [.int (x2 * (nI 10))]) (kX7_signAt a1 hc63) a1.1 rfl rfl nm_44 mvX7_signAt mwX7_signAt rfl ⟨Nat.le_of_ble_eq_true rfl, Nat.le_of_ble_eq_true rfl⟩ ⟨Nat.le_refl _, Nat.le_refl _⟩ (Nat.le_of_ble_eq_true rfl) dX2_readNumber_63 ?_
        obtain ⟨r66, G66, hc66, h⟩ := bd_some h
        refine xSi C (As := [.int r63]) (rest := [.int (x2 * (nI 10))]) (kX2_digitFor hc66) w_513 w_514 mwX2_digitFor rfl ⟨Nat.le_of_ble_eq_true rfl, Nat.le_of_ble_eq_true rfl⟩ ⟨Nat.le_refl _, Nat.le_refl _⟩ (Nat.le_of_ble_eq_true rfl) dX2_readNumber_66 ?_
        refine xiadd C dX2_readNumber_69 ?_
        refine xistore_n C (lv' := [(2, .int ((x2 * (nI 10)) + r66)), (0, .ref (ad q0)), (1, .ref (ad q1))]) rfl (by decide) rfl dX2_readNumber_70 ?_
        refine xiload_n C 0 rfl rfl dX2_readNumber_71 ?_
        refine xbipush C (v := (nI 30)) dX2_readNumber_72 (by decide) ?_
        refine xicmp_le C (tgt := 79) h (by decide) dX2_readNumber_74 (fun h => ?_) (fun h => ?_)
        · refine xaload_n C 1 rfl rfl dX2_readNumber_79 ?_
          refine xdup C dX2_readNumber_80 rfl ?_
          refine xg_2_at C a0.1 w_218 dX2_readNumber_81 ?_
          refine xiconst C (v := (nI 1)) dX2_readNumber_84 (by decide) ?_
          refine xiadd C dX2_readNumber_85 ?_
          refine xp_2_at C a0.1 w_218 dX2_readNumber_86 ?_
          generalize mset G66 q0 2 ((G66 q0 2) + (nI 1)) = G86 at h ⊢
          replace h := lt_go h
          refine xgoto C (tgt := 29) (by decide) dX2_readNumber_89 ?_
          refine xsub C (lv' := [(0, .ref (ad q0)), (1, .ref (ad q1)), (2, .int ((x2 * (nI 10)) + r66))]) [1, 2, 0] rfl ?_
          exact hrec29 ((x2 * (nI 10)) + r66) G86 h
        · refine xiconst C (v := (nI 0)) dX2_readNumber_77 (by decide) ?_
          obtain ⟨rfl, rfl⟩ := so_2 h
          exact xiret C rfl dX2_readNumber_78
theorem kX2_readNumber {r : Int32}  {q0 : Nat} {q1 : Nat} (a0 : A2 kd NP q0) (a1 : A7 kd NP q1) {G : Mem} (h : fX2_readNumber q0 q1 G = some (r, G')) : xMi l D cy ad kd NP A yX2_readNumber cX2_readNumber 3 (some .int) 1 21 [.ref (ad q0), .ref (ad q1)] G r G' := by
  refine xMi_of trivial (by decide +kernel) (Nat.le_of_ble_eq_true rfl) (fun p e s m args below meth c C => ?_)
  have C : xC p s m args meth c cX2_readNumber RX2 3 (some .int) D cy := C
  refine xsub C (lv' := [(0, .ref (ad q0)), (1, .ref (ad q1))]) [0, 1] rfl ?_
  unfold fX2_readNumber at h
  refine xaload_n C 1 rfl rfl dX2_readNumber_0 ?_
  refine xaload_n C 0 rfl rfl dX2_readNumber_1 ?_
  refine xg_2_at C a0.1 w_218 dX2_readNumber_2 ?_
  obtain ⟨r5, G5, hc5, h⟩ := bd_some h
  refine xNi C (As := [.int (G q0 2)]) (rest := []) (kX7_signAt a1 hc5) a1.1 rfl rfl nm_44 mvX7_signAt mwX7_signAt rfl ⟨Nat.le_of_ble_eq_true rfl, Nat.le_of_ble_eq_true rfl⟩ ⟨Nat.le_refl _, Nat.le_refl _⟩ (Nat.le_of_ble_eq_true rfl) dX2_readNumber_5 ?_
  obtain ⟨r8, G8, hc8, h⟩ := bd_some h
  refine xSi C (As := [.int r5]) (rest := []) (kX2_digitFor hc8) w_513 w_514 mwX2_digitFor rfl ⟨Nat.le_of_ble_eq_true rfl, Nat.le_of_ble_eq_true rfl⟩ ⟨Nat.le_refl _, Nat.le_refl _⟩ (Nat.le_of_ble_eq_true rfl) dX2_readNumber_8 ?_
  refine xistore_n C (lv' := [(2, .int r8), (0, .ref (ad q0)), (1, .ref (ad q1))]) rfl (by decide) rfl dX2_readNumber_11 ?_
  refine xiload_n C 0 rfl rfl dX2_readNumber_12 ?_
  refine xiconst C (v := (nI 1)) dX2_readNumber_13 (by decide) ?_
  refine xicmp_ge C (tgt := 19) h (by decide) dX2_readNumber_14 (fun h => ?_) (fun h => ?_)
  · refine xaload_n C 1 rfl rfl dX2_readNumber_19 ?_
    refine xdup C dX2_readNumber_20 rfl ?_
    refine xg_2_at C a0.1 w_218 dX2_readNumber_21 ?_
    refine xiconst C (v := (nI 1)) dX2_readNumber_24 (by decide) ?_
    refine xiadd C dX2_readNumber_25 ?_
    refine xp_2_at C a0.1 w_218 dX2_readNumber_26 ?_
    generalize mset G8 q0 2 ((G8 q0 2) + (nI 1)) = G26 at h ⊢
    replace h := lt_go h
    refine xsub C (lv' := [(0, .ref (ad q0)), (1, .ref (ad q1)), (2, .int r8)]) [1, 2, 0] rfl ?_
    exact wX2_readNumber_29 C q0 q1 a0 a1 _ r8 G26 h
  · refine xiconst C (v := (nI 0)) dX2_readNumber_17 (by decide) ?_
    obtain ⟨rfl, rfl⟩ := so_2 h
    exact xiret C rfl dX2_readNumber_18
/-- HedgeChains$HedgeReader.readPart(LHedgeChains$Text;)Z -/
theorem wX2_readPart_102 {r : Int32} (C : xC p s m args meth c cX2_readPart RX2 5 (some .boolean) D cy) (q0 : Nat) (x2 : Int32) (x3 : Int32) (x4 : Int32) (G : Mem) (a0 : A2 kd NP q0) (h : jX2_readPart_102 q0 x2 x3 x4 G = some (r, G')) : xX p l e (xR 3 68) s m args below meth c A s.heap D cy ad kd NP 5 0 0 (xQi below D cy ad kd NP A args s r G') G 102 [(0, .ref (ad q0)), (2, .int x2), (3, .int x3), (4, .int x4)] [] := by
  unfold jX2_readPart_102 at h
  refine xaload_n C 0 rfl rfl dX2_readPart_102 ?_
  refine xdup C dX2_readPart_103 rfl ?_
  refine xg_2_told C a0.1 w_216 dX2_readPart_104 ?_
  refine xiload C 3 rfl dX2_readPart_107 ?_
  refine xiadd C dX2_readPart_109 ?_
  refine xp_2_told C a0.1 w_216 dX2_readPart_110 ?_
  generalize mset G q0 1 ((G q0 1) + x4) = G110 at h ⊢
  replace h := lt_go h
  refine xaload_n C 0 rfl rfl dX2_readPart_113 ?_
  refine xg_2_hedge C a0.1 w_214 dX2_readPart_114 ?_
  refine xiload_n C 1 rfl rfl dX2_readPart_117 ?_
  refine xiload_n C 2 rfl rfl dX2_readPart_118 ?_
  refine xiload C 3 rfl dX2_readPart_119 ?_
  obtain ⟨G121, hc121, h⟩ := bv_some h
  refine xNv C (As := [.int x2, .int x3, .int x4]) (rest := []) (kX1_addChains a0.2 hc121) a0.2.1 rfl rfl nm_45 mvX1_addChains mwX1_addChains rfl ⟨Nat.le_of_ble_eq_true rfl, Nat.le_of_ble_eq_true rfl⟩ ⟨Nat.le_refl _, Nat.le_refl _⟩ (Nat.le_of_ble_eq_true rfl) dX2_readPart_121 ?_
  refine xiload C 3 rfl dX2_readPart_124 ?_
  refine xif_le C (tgt := 133) h (by decide) dX2_readPart_126 (fun h => ?_) (fun h => ?_)
  · refine xiconst C (v := (nI 0)) dX2_readPart_133 (by decide) ?_
    obtain ⟨rfl, rfl⟩ := so_2 h
    exact xzret C (Or.inl rfl) rfl dX2_readPart_134
  · refine xiconst C (v := (nI 1)) dX2_readPart_129 (by decide) ?_
    refine xgoto C (tgt := 134) (by decide) dX2_readPart_130 ?_
    obtain ⟨rfl, rfl⟩ := so_2 h
    exact xzret C (Or.inr rfl) rfl dX2_readPart_134
theorem wX2_readPart_69 {r : Int32} (C : xC p s m args meth c cX2_readPart RX2 5 (some .boolean) D cy) (q0 : Nat) (q1 : Nat) (x2 : Int32) (x3 : Int32) (G : Mem) (a0 : A2 kd NP q0) (a1 : A7 kd NP q1) (h : jX2_readPart_69 q0 q1 x2 x3 G = some (r, G')) : xX p l e (xR 3 68) s m args below meth c A s.heap D cy ad kd NP 5 0 0 (xQi below D cy ad kd NP A args s r G') G 69 [(0, .ref (ad q0)), (1, .ref (ad q1)), (2, .int x2), (3, .int x3)] [] := by
  unfold jX2_readPart_69 at h
  refine xiconst C (v := (nI 1)) dX2_readPart_69 (by decide) ?_
  refine xistore C (lv' := [(4, .int (nI 1)), (0, .ref (ad q0)), (1, .ref (ad q1)), (2, .int x2), (3, .int x3)]) (by decide) rfl dX2_readPart_70 ?_
  refine xaload_n C 2 rfl rfl dX2_readPart_72 ?_
  refine xaload_n C 1 rfl rfl dX2_readPart_73 ?_
  refine xg_2_at C a0.1 w_218 dX2_readPart_74 ?_
  obtain ⟨r77, G77, hc77, h⟩ := bd_some h
  refine xNi C (As := [.int (G q0 2)]) (rest := []) (kX7_signAt a1 hc77) a1.1 rfl rfl nm_44 mvX7_signAt mwX7_signAt rfl ⟨Nat.le_of_ble_eq_true rfl, Nat.le_of_ble_eq_true rfl⟩ ⟨Nat.le_refl _, Nat.le_refl _⟩ (Nat.le_of_ble_eq_true rfl) dX2_readPart_77 ?_
  refine xbipush C (v := (nI 42)) dX2_readPart_80 (by decide) ?_
  refine xicmp_ne C (tgt := 102) h (by decide) dX2_readPart_82 (fun h => ?_) (fun h => ?_)
  · refine xaload_n C 1 rfl rfl dX2_readPart_85 ?_
    refine xdup C dX2_readPart_86 rfl ?_
    refine xg_2_at C a0.1 w_218 dX2_readPart_87 ?_
    refine xiconst C (v := (nI 1)) dX2_readPart_90 (by decide) ?_
    refine xiadd C dX2_readPart_91 ?_
    refine xp_2_at C a0.1 w_218 dX2_readPart_92 ?_
    generalize mset G77 q0 2 ((G77 q0 2) + (nI 1)) = G92 at h ⊢
    replace h := lt_go h
    refine xaload_n C 1 rfl rfl dX2_readPart_95 ?_
    refine xaload_n C 2 rfl rfl dX2_readPart_96 ?_
    obtain ⟨r97, G97, hc97, h⟩ := bd_some h
    refine xVi C (As := [.ref (ad q1)]) (rest := []) (kX2_readNumber a0 a1 hc97) a0.1 rfl rfl w_516 mvX2_readNumber mwX2_readNumber rfl ⟨Nat.le_of_ble_eq_true rfl, Nat.le_of_ble_eq_true rfl⟩ ⟨Nat.le_refl _, Nat.le_refl _⟩ (Nat.le_of_ble_eq_true rfl) dX2_readPart_97 ?_
    refine xistore C (lv' := [(4, .int r97), (0, .ref (ad q0)), (1, .ref (ad q1)), (2, .int x2), (3, .int x3)]) (by decide) rfl dX2_readPart_100 ?_
    refine xsub C (lv' := [(0, .ref (ad q0)), (2, .int x2), (3, .int x3), (4, .int r97)]) [1, 3, 4, 0] rfl ?_
    exact wX2_readPart_102 C q0 x2 x3 r97 G97 a0 h
  · refine xsub C (lv' := [(0, .ref (ad q0)), (2, .int x2), (3, .int x3), (4, .int (nI 1))]) [1, 3, 4, 0] rfl ?_
    exact wX2_readPart_102 C q0 x2 x3 (nI 1) G77 a0 h
theorem wX2_readPart_40 {r : Int32} (C : xC p s m args meth c cX2_readPart RX2 5 (some .boolean) D cy) (q0 : Nat) (q1 : Nat) (x2 : Int32) (G : Mem) (a0 : A2 kd NP q0) (a1 : A7 kd NP q1) (h : jX2_readPart_40 q0 q1 x2 G = some (r, G')) : xX p l e (xR 3 68) s m args below meth c A s.heap D cy ad kd NP 5 0 0 (xQi below D cy ad kd NP A args s r G') G 40 [(0, .ref (ad q0)), (1, .ref (ad q1)), (2, .int x2)] [] := by
  unfold jX2_readPart_40 at h
  refine xaload_n C 1 rfl rfl dX2_readPart_40 ?_
  refine xaload_n C 0 rfl rfl dX2_readPart_41 ?_
  refine xg_2_at C a0.1 w_218 dX2_readPart_42 ?_
  obtain ⟨r45, G45, hc45, h⟩ := bd_some h
  refine xNi C (As := [.int (G q0 2)]) (rest := []) (kX7_signAt a1 hc45) a1.1 rfl rfl nm_44 mvX7_signAt mwX7_signAt rfl ⟨Nat.le_of_ble_eq_true rfl, Nat.le_of_ble_eq_true rfl⟩ ⟨Nat.le_refl _, Nat.le_refl _⟩ (Nat.le_of_ble_eq_true rfl) dX2_readPart_45 ?_
  obtain ⟨r48, G48, hc48, h⟩ := bd_some h
  refine xSi C (As := [.int r45]) (rest := []) (kX2_digitFor hc48) w_513 w_514 mwX2_digitFor rfl ⟨Nat.le_of_ble_eq_true rfl, Nat.le_of_ble_eq_true rfl⟩ ⟨Nat.le_refl _, Nat.le_refl _⟩ (Nat.le_of_ble_eq_true rfl) dX2_readPart_48 ?_
  refine xistore_n C (lv' := [(3, .int r48), (0, .ref (ad q0)), (1, .ref (ad q1)), (2, .int x2)]) rfl (by decide) rfl dX2_readPart_51 ?_
  refine xiload_n C 0 rfl rfl dX2_readPart_52 ?_
  refine xiconst C (v := (nI 1)) dX2_readPart_53 (by decide) ?_
  refine xicmp_ge C (tgt := 59) h (by decide) dX2_readPart_54 (fun h => ?_) (fun h => ?_)
  · refine xaload_n C 1 rfl rfl dX2_readPart_59 ?_
    refine xdup C dX2_readPart_60 rfl ?_
    refine xg_2_at C a0.1 w_218 dX2_readPart_61 ?_
    refine xiconst C (v := (nI 1)) dX2_readPart_64 (by decide) ?_
    refine xiadd C dX2_readPart_65 ?_
    refine xp_2_at C a0.1 w_218 dX2_readPart_66 ?_
    generalize mset G48 q0 2 ((G48 q0 2) + (nI 1)) = G66 at h ⊢
    replace h := lt_go h
    refine xsub C (lv' := [(0, .ref (ad q0)), (1, .ref (ad q1)), (2, .int x2), (3, .int r48)]) [1, 2, 3, 0] rfl ?_
    exact wX2_readPart_69 C q0 q1 x2 r48 G66 a0 a1 h
  · refine xiconst C (v := (nI 0)) dX2_readPart_57 (by decide) ?_
    obtain ⟨rfl, rfl⟩ := so_2 h
    exact xzret C (Or.inl rfl) rfl dX2_readPart_58
theorem kX2_readPart {r : Int32}  {q0 : Nat} {q1 : Nat} (a0 : A2 kd NP q0) (a1 : A7 kd NP q1) {G : Mem} (h : fX2_readPart q0 q1 G = some (r, G')) : xMi l D cy ad kd NP A yX2_readPart cX2_readPart 5 (some .boolean) 3 68 [.ref (ad q0), .ref (ad q1)] G r G' := by
  refine xMi_of trivial (by decide +kernel) (Nat.le_of_ble_eq_true rfl) (fun p e s m args below meth c C => ?_)
  have C : xC p s m args meth c cX2_readPart RX2 5 (some .boolean) D cy := C
  refine xsub C (lv' := [(0, .ref (ad q0)), (1, .ref (ad q1))]) [0, 1] rfl ?_
  unfold fX2_readPart at h
  refine xaload_n C 1 rfl rfl dX2_readPart_0 ?_
  refine xaload_n C 0 rfl rfl dX2_readPart_1 ?_
  refine xg_2_at C a0.1 w_218 dX2_readPart_2 ?_
  obtain ⟨r5, G5, hc5, h⟩ := bd_some h
  refine xNi C (As := [.int (G q0 2)]) (rest := []) (kX7_signAt a1 hc5) a1.1 rfl rfl nm_44 mvX7_signAt mwX7_signAt rfl ⟨Nat.le_of_ble_eq_true rfl, Nat.le_of_ble_eq_true rfl⟩ ⟨Nat.le_refl _, Nat.le_refl _⟩ (Nat.le_of_ble_eq_true rfl) dX2_readPart_5 ?_
  obtain ⟨r8, G8, hc8, h⟩ := bd_some h
  refine xSi C (As := [.int r5]) (rest := []) (kX2_kindFor hc8) w_510 w_511 mwX2_kindFor rfl ⟨Nat.le_of_ble_eq_true rfl, Nat.le_of_ble_eq_true rfl⟩ ⟨Nat.le_refl _, Nat.le_refl _⟩ (Nat.le_of_ble_eq_true rfl) dX2_readPart_8 ?_
  refine xistore_n C (lv' := [(2, .int r8), (0, .ref (ad q0)), (1, .ref (ad q1))]) rfl (by decide) rfl dX2_readPart_11 ?_
  refine xiload_n C 0 rfl rfl dX2_readPart_12 ?_
  refine xiconst C (v := (-1)) dX2_readPart_13 (by decide) ?_
  refine xicmp_ne C (tgt := 19) h (by decide) dX2_readPart_14 (fun h => ?_) (fun h => ?_)
  · refine xiconst C (v := (nI 0)) dX2_readPart_17 (by decide) ?_
    obtain ⟨rfl, rfl⟩ := so_2 h
    exact xzret C (Or.inl rfl) rfl dX2_readPart_18
  · refine xaload_n C 1 rfl rfl dX2_readPart_19 ?_
    refine xdup C dX2_readPart_20 rfl ?_
    refine xg_2_at C a0.1 w_218 dX2_readPart_21 ?_
    refine xiconst C (v := (nI 1)) dX2_readPart_24 (by decide) ?_
    refine xiadd C dX2_readPart_25 ?_
    refine xp_2_at C a0.1 w_218 dX2_readPart_26 ?_
    generalize mset G8 q0 2 ((G8 q0 2) + (nI 1)) = G26 at h ⊢
    replace h := lt_go h
    refine xiconst C (v := (nI 0)) dX2_readPart_29 (by decide) ?_
    refine xistore_n C (lv' := [(3, .int (nI 0)), (2, .int r8), (0, .ref (ad q0)), (1, .ref (ad q1))]) rfl (by decide) rfl dX2_readPart_30 ?_
    refine xiload_n C 1 rfl rfl dX2_readPart_31 ?_
    refine xif_eq C (tgt := 40) h (by decide) dX2_readPart_32 (fun h => ?_) (fun h => ?_)
    · refine xsub C (lv' := [(0, .ref (ad q0)), (1, .ref (ad q1)), (2, .int r8)]) [2, 3, 1] rfl ?_
      exact wX2_readPart_40 C q0 q1 r8 G26 a0 a1 h
    · refine xiload_n C 1 rfl rfl dX2_readPart_35 ?_
      refine xiconst C (v := (nI 1)) dX2_readPart_36 (by decide) ?_
      refine xicmp_ne C (tgt := 69) h (by decide) dX2_readPart_37 (fun h => ?_) (fun h => ?_)
      · refine xsub C (lv' := [(0, .ref (ad q0)), (1, .ref (ad q1)), (2, .int r8)]) [2, 3, 1] rfl ?_
        exact wX2_readPart_40 C q0 q1 r8 G26 a0 a1 h
      · refine xsub C (lv' := [(0, .ref (ad q0)), (1, .ref (ad q1)), (2, .int r8), (3, .int (nI 0))]) [2, 3, 1, 0] rfl ?_
        exact wX2_readPart_69 C q0 q1 r8 (nI 0) G26 a0 a1 h
/-- HedgeChains$HedgeReader.faultOf(LHedgeChains$Text;)I -/
theorem wX2_faultOf_20 {r : Int32} (C : xC p s m args meth c cX2_faultOf RX2 3 (some .int) D cy) (q0 : Nat) (q1 : Nat) (a0 : A2 kd NP q0) (a1 : A7 kd NP q1) : ∀ (n : Nat) (x2 : Int32) (G : Mem) (h : itr n (FX2_faultOf_20 q0 q1) (x2, G) = some (r, G')), xX p l e (xR 4 92) s m args below meth c A s.heap D cy ad kd NP 3 0 0 (xQi below D cy ad kd NP A args s r G') G 20 [(0, .ref (ad q0)), (1, .ref (ad q1)), (2, .int x2)] [] := by
  intro n
  induction n with
  | zero =>
    intro x2 G h
    have h : none = some (r, G') := h
    cases h
  | succ n ih =>
    intro x2 G h
    have h : bX2_faultOf_20 q0 q1 (itr n (FX2_faultOf_20 q0 q1)) x2 G = some (r, G') := h
    have hrec20 : ∀ (x2 : Int32) (G : Mem), itr n (FX2_faultOf_20 q0 q1) (x2, G) = some (r, G') → xX p l e (xR 4 92) s m args below meth c A s.heap D cy ad kd NP 3 0 0 (xQi below D cy ad kd NP A args s r G') G 20 [(0, .ref (ad q0)), (1, .ref (ad q1)), (2, .int x2)] [] := fun x2 G h => ih x2 G h
    unfold bX2_faultOf_20 at h
    refine xiload_n C 2 rfl rfl dX2_faultOf_20 ?_
    refine xbipush C (v := (nI 80)) dX2_faultOf_21 (by decide) ?_
    refine xicmp_ge C (tgt := 58) h (by decide) dX2_faultOf_23 (fun h => ?_) (fun h => ?_)
    · refine xaload_n C 0 rfl rfl dX2_faultOf_58 ?_
      refine xg_2_at C a0.1 w_218 dX2_faultOf_59 ?_
      obtain ⟨rfl, rfl⟩ := so_2 h
      exact xiret C rfl dX2_faultOf_62
    · refine xaload_n C 0 rfl rfl dX2_faultOf_26 ?_
      refine xaload_n C 1 rfl rfl dX2_faultOf_27 ?_
      obtain ⟨r28, G28, hc28, h⟩ := bd_some h
      refine xVi C (As := [.ref (ad q1)]) (rest := []) (kX2_readPart a0 a1 hc28) a0.1 rfl rfl w_502 mvX2_readPart mwX2_readPart rfl ⟨Nat.le_of_ble_eq_true rfl, Nat.le_of_ble_eq_true rfl⟩ ⟨Nat.le_refl _, Nat.le_refl _⟩ (Nat.le_of_ble_eq_true rfl) dX2_faultOf_28 ?_
      refine xif_ne C (tgt := 39) h (by decide) dX2_faultOf_31 (fun h => ?_) (fun h => ?_)
      · refine xaload_n C 0 rfl rfl dX2_faultOf_34 ?_
        refine xg_2_at C a0.1 w_218 dX2_faultOf_35 ?_
        obtain ⟨rfl, rfl⟩ := so_2 h
        exact xiret C rfl dX2_faultOf_38
      · refine xaload_n C 0 rfl rfl dX2_faultOf_39 ?_
        refine xg_2_at C a0.1 w_218 dX2_faultOf_40 ?_
        refine xaload_n C 1 rfl rfl dX2_faultOf_43 ?_
        refine xgN_7_length C a1.1 nf_30 dX2_faultOf_44 ?_
        refine xicmp_lt C (tgt := 52) h (by decide) dX2_faultOf_47 (fun h => ?_) (fun h => ?_)
        · refine xiinc C (v := (x2 + nI 1)) (lv' := [(2, .int (x2 + nI 1)), (0, .ref (ad q0)), (1, .ref (ad q1))]) 2 rfl rfl (by decide) rfl dX2_faultOf_52 ?_
          refine xgoto C (tgt := 20) (by decide) dX2_faultOf_55 ?_
          refine xsub C (lv' := [(0, .ref (ad q0)), (1, .ref (ad q1)), (2, .int (x2 + nI 1))]) [1, 2, 0] rfl ?_
          exact hrec20 (x2 + nI 1) G28 h
        · refine xiconst C (v := (-1)) dX2_faultOf_50 (by decide) ?_
          obtain ⟨rfl, rfl⟩ := so_2 h
          exact xiret C rfl dX2_faultOf_51
theorem kX2_faultOf {r : Int32}  {q0 : Nat} {q1 : Nat} (a0 : A2 kd NP q0) (a1 : A7 kd NP q1) {G : Mem} (h : fX2_faultOf q0 q1 G = some (r, G')) : xMi l D cy ad kd NP A yX2_faultOf cX2_faultOf 3 (some .int) 4 92 [.ref (ad q0), .ref (ad q1)] G r G' := by
  refine xMi_of trivial (by decide +kernel) (Nat.le_of_ble_eq_true rfl) (fun p e s m args below meth c C => ?_)
  have C : xC p s m args meth c cX2_faultOf RX2 3 (some .int) D cy := C
  refine xsub C (lv' := [(0, .ref (ad q0)), (1, .ref (ad q1))]) [0, 1] rfl ?_
  unfold fX2_faultOf at h
  refine xaload_n C 0 rfl rfl dX2_faultOf_0 ?_
  refine xg_2_hedge C a0.1 w_214 dX2_faultOf_1 ?_
  refine xiconst C (v := (nI 0)) dX2_faultOf_4 (by decide) ?_
  refine xpN_1_length C a0.2.1 nf_0 dX2_faultOf_5 ?_
  generalize mset G (q0 + 1) 3 (nI 0) = G5 at h ⊢
  replace h := lt_go h
  refine xaload_n C 0 rfl rfl dX2_faultOf_8 ?_
  refine xiconst C (v := (nI 0)) dX2_faultOf_9 (by decide) ?_
  refine xp_2_told C a0.1 w_216 dX2_faultOf_10 ?_
  generalize mset G5 q0 1 (nI 0) = G10 at h ⊢
  replace h := lt_go h
  refine xaload_n C 0 rfl rfl dX2_faultOf_13 ?_
  refine xiconst C (v := (nI 0)) dX2_faultOf_14 (by decide) ?_
  refine xp_2_at C a0.1 w_218 dX2_faultOf_15 ?_
  generalize mset G10 q0 2 (nI 0) = G15 at h ⊢
  replace h := lt_go h
  refine xiconst C (v := (nI 0)) dX2_faultOf_18 (by decide) ?_
  refine xistore_n C (lv' := [(2, .int (nI 0)), (0, .ref (ad q0)), (1, .ref (ad q1))]) rfl (by decide) rfl dX2_faultOf_19 ?_
  refine xsub C (lv' := [(0, .ref (ad q0)), (1, .ref (ad q1)), (2, .int (nI 0))]) [1, 2, 0] rfl ?_
  exact wX2_faultOf_20 C q0 q1 a0 a1 _ (nI 0) G15 h
/-- HedgeChains$State.numberOfSnapshots()I -/
theorem wX6_numberOfSnapshots_4 {r : Int32} (C : xC p s m args meth c cX6_numberOfSnapshots RX6 3 (some .int) D cy) (q0 : Nat) (a0 : A6 kd NP q0) : ∀ (n : Nat) (x1 : Int32) (x2 : Int32) (G : Mem) (h : itr n (FX6_numberOfSnapshots_4 q0) (x1, x2, G) = some (r, G')), xX p l e (xR 0 0) s m args below meth c A s.heap D cy ad kd NP 3 0 0 (xQi below D cy ad kd NP A args s r G') G 4 [(0, .ref (ad q0)), (1, .int x1), (2, .int x2)] [] := by
  intro n
  induction n with
  | zero =>
    intro x1 x2 G h
    have h : none = some (r, G') := h
    cases h
  | succ n ih =>
    intro x1 x2 G h
    have h : bX6_numberOfSnapshots_4 q0 (itr n (FX6_numberOfSnapshots_4 q0)) x1 x2 G = some (r, G') := h
    have hrec4 : ∀ (x1 : Int32) (x2 : Int32) (G : Mem), itr n (FX6_numberOfSnapshots_4 q0) (x1, x2, G) = some (r, G') → xX p l e (xR 0 0) s m args below meth c A s.heap D cy ad kd NP 3 0 0 (xQi below D cy ad kd NP A args s r G') G 4 [(0, .ref (ad q0)), (1, .int x1), (2, .int x2)] [] := fun x1 x2 G h => ih x1 x2 G h
    unfold bX6_numberOfSnapshots_4 at h
    refine xiload_n C 2 rfl rfl dX6_numberOfSnapshots_4 ?_
    refine xiconst C (v := (nI 2)) dX6_numberOfSnapshots_5 (by decide) ?_
    refine xicmp_ge C (tgt := 27) h (by decide) dX6_numberOfSnapshots_6 (fun h => ?_) (fun h => ?_)
    · refine xiload_n C 1 rfl rfl dX6_numberOfSnapshots_27 ?_
      obtain ⟨rfl, rfl⟩ := so_2 h
      exact xiret C rfl dX6_numberOfSnapshots_28
    · refine xaload_n C 0 rfl rfl dX6_numberOfSnapshots_9 ?_
      refine xg_6_filled C a0.1 w_160 dX6_numberOfSnapshots_10 ?_
      refine xiload_n C 2 rfl rfl dX6_numberOfSnapshots_13 ?_
      obtain ⟨hi14, h⟩ := ix_some h
      refine xza C a0.2.2.2.1 hi14 dX6_numberOfSnapshots_14 ?_
      refine xif_eq C (tgt := 21) h (by decide) dX6_numberOfSnapshots_15 (fun h => ?_) (fun h => ?_)
      · refine xiinc C (v := (x2 + nI 1)) (lv' := [(2, .int (x2 + nI 1)), (0, .ref (ad q0)), (1, .int x1)]) 2 rfl rfl (by decide) rfl dX6_numberOfSnapshots_21 ?_
        refine xgoto C (tgt := 4) (by decide) dX6_numberOfSnapshots_24 ?_
        refine xsub C (lv' := [(0, .ref (ad q0)), (1, .int x1), (2, .int (x2 + nI 1))]) [1, 2, 0] rfl ?_
        exact hrec4 x1 (x2 + nI 1) G h
      · refine xiinc C (v := (x1 + nI 1)) (lv' := [(1, .int (x1 + nI 1)), (0, .ref (ad q0)), (2, .int x2)]) 1 rfl rfl (by decide) rfl dX6_numberOfSnapshots_18 ?_
        refine xiinc C (v := (x2 + nI 1)) (lv' := [(2, .int (x2 + nI 1)), (1, .int (x1 + nI 1)), (0, .ref (ad q0))]) 2 rfl rfl (by decide) rfl dX6_numberOfSnapshots_21 ?_
        refine xgoto C (tgt := 4) (by decide) dX6_numberOfSnapshots_24 ?_
        refine xsub C (lv' := [(0, .ref (ad q0)), (1, .int (x1 + nI 1)), (2, .int (x2 + nI 1))]) [2, 1, 0] rfl ?_
        exact hrec4 (x1 + nI 1) (x2 + nI 1) G h
theorem kX6_numberOfSnapshots {r : Int32}  {q0 : Nat} (a0 : A6 kd NP q0) {G : Mem} (h : fX6_numberOfSnapshots q0 G = some (r, G')) : xMi l D cy ad kd NP A yX6_numberOfSnapshots cX6_numberOfSnapshots 3 (some .int) 0 0 [.ref (ad q0)] G r G' := by
  refine xMi_of trivial (by decide +kernel) (Nat.le_of_ble_eq_true rfl) (fun p e s m args below meth c C => ?_)
  have C : xC p s m args meth c cX6_numberOfSnapshots RX6 3 (some .int) D cy := C
  refine xsub C (lv' := [(0, .ref (ad q0))]) [0] rfl ?_
  unfold fX6_numberOfSnapshots at h
  refine xiconst C (v := (nI 0)) dX6_numberOfSnapshots_0 (by decide) ?_
  refine xistore_n C (lv' := [(1, .int (nI 0)), (0, .ref (ad q0))]) rfl (by decide) rfl dX6_numberOfSnapshots_1 ?_
  refine xiconst C (v := (nI 0)) dX6_numberOfSnapshots_2 (by decide) ?_
  refine xistore_n C (lv' := [(2, .int (nI 0)), (1, .int (nI 0)), (0, .ref (ad q0))]) rfl (by decide) rfl dX6_numberOfSnapshots_3 ?_
  refine xsub C (lv' := [(0, .ref (ad q0)), (1, .int (nI 0)), (2, .int (nI 0))]) [2, 1, 0] rfl ?_
  exact wX6_numberOfSnapshots_4 C q0 a0 _ (nI 0) (nI 0) G h
/-- HedgeChains$Orders.lookAt(LHedgeChains$Land;)V -/
theorem wX5_lookAt_45 (C : xC p s m args meth c cX5_lookAt RX5 3 none D cy) (q0 : Nat) (q1 : Nat) (x2 : Int32) {rec15 : (Int32 × Mem) → Option (Mem)} (hrec15 : ∀ (x2 : Int32) (G : Mem), rec15 (x2, G) = some G' → xX p l e (xR 4 86) s m args below meth c A s.heap D cy ad kd NP 3 0 0 (xQv below D cy ad kd NP A args s G') G 15 [(0, .ref (ad q0)), (1, .ref (ad q1)), (2, .int x2)] []) (G : Mem) (a0 : A5 kd NP q0) (a1 : A4 kd NP q1) (h : jX5_lookAt_45 rec15 q0 q1 x2 G = some G') : xX p l e (xR 4 86) s m args below meth c A s.heap D cy ad kd NP 3 0 0 (xQv below D cy ad kd NP A args s G') G 45 [(0, .ref (ad q0)), (1, .ref (ad q1)), (2, .int x2)] [] := by
  unfold jX5_lookAt_45 at h
  refine xaload_n C 0 rfl rfl dX5_lookAt_45 ?_
  refine xg_5_weeks C a0.1 w_232 dX5_lookAt_46 ?_
  refine xiload_n C 2 rfl rfl dX5_lookAt_49 ?_
  refine xaload_n C 1 rfl rfl dX5_lookAt_50 ?_
  refine xiload_n C 2 rfl rfl dX5_lookAt_51 ?_
  obtain ⟨r52, G52, hc52, h⟩ := bd_some h
  refine xNi C (As := [.int x2]) (rest := [.int x2, .ref (ad (q0 + 1))]) (kX4_weeksOfWork a1 hc52) a1.1 rfl rfl nm_58 mvX4_weeksOfWork mwX4_weeksOfWork rfl ⟨Nat.le_of_ble_eq_true rfl, Nat.le_of_ble_eq_true rfl⟩ ⟨Nat.le_refl _, Nat.le_refl _⟩ (Nat.le_of_ble_eq_true rfl) dX5_lookAt_52 ?_
  obtain ⟨hi55, h⟩ := ix_some h
  refine xis_11 C x2.toNatClampNeg rfl a0.2.1 hi55 dX5_lookAt_55 ?_
  generalize mset G52 (q0 + 1) x2.toNatClampNeg r52 = G55 at h ⊢
  replace h := lt_go h
  refine xaload_n C 0 rfl rfl dX5_lookAt_56 ?_
  refine xg_5_lastWeeks C a0.1 w_233 dX5_lookAt_57 ?_
  refine xiload_n C 2 rfl rfl dX5_lookAt_60 ?_
  refine xaload_n C 1 rfl rfl dX5_lookAt_61 ?_
  refine xgN_4_contracts C a1.1 nf_14 dX5_lookAt_62 ?_
  refine xiload_n C 2 rfl rfl dX5_lookAt_65 ?_
  obtain ⟨hi66, h⟩ := ix_some h
  refine xaa_19 C x2.toNatClampNeg rfl (q1 + 7 + 5 * x2.toNatClampNeg) (by omega) a1.2.2.1 hi66 dX5_lookAt_66 ?_
  refine xgN_0_lastWeek C (a1.2.2.2.2 x2.toNatClampNeg (vp_lt hi66)) nf_8 dX5_lookAt_67 ?_
  obtain ⟨hi70, h⟩ := ix_some h
  refine xis_11 C x2.toNatClampNeg rfl a0.2.2.1 hi70 dX5_lookAt_70 ?_
  generalize mset G55 (q0 + 2) x2.toNatClampNeg (G55 (q1 + 7 + 5 * x2.toNatClampNeg) 2) = G70 at h ⊢
  replace h := lt_go h
  refine xaload_n C 0 rfl rfl dX5_lookAt_71 ?_
  refine xg_5_finesPerWeek C a0.1 w_234 dX5_lookAt_72 ?_
  refine xiload_n C 2 rfl rfl dX5_lookAt_75 ?_
  refine xaload_n C 1 rfl rfl dX5_lookAt_76 ?_
  refine xiload_n C 2 rfl rfl dX5_lookAt_77 ?_
  obtain ⟨r78, G78, hc78, h⟩ := bd_some h
  refine xNi C (As := [.int x2]) (rest := [.int x2, .ref (ad (q0 + 3))]) (kX4_finePerWeek a1 hc78) a1.1 rfl rfl nm_60 mvX4_finePerWeek mwX4_finePerWeek rfl ⟨Nat.le_of_ble_eq_true rfl, Nat.le_of_ble_eq_true rfl⟩ ⟨Nat.le_refl _, Nat.le_refl _⟩ (Nat.le_of_ble_eq_true rfl) dX5_lookAt_78 ?_
  obtain ⟨hi81, h⟩ := ix_some h
  refine xis_11 C x2.toNatClampNeg rfl a0.2.2.2.1 hi81 dX5_lookAt_81 ?_
  generalize mset G78 (q0 + 3) x2.toNatClampNeg r78 = G81 at h ⊢
  replace h := lt_go h
  refine xiinc C (v := (x2 + nI 1)) (lv' := [(2, .int (x2 + nI 1)), (0, .ref (ad q0)), (1, .ref (ad q1))]) 2 rfl rfl (by decide) rfl dX5_lookAt_82 ?_
  refine xgoto C (tgt := 15) (by decide) dX5_lookAt_85 ?_
  refine xsub C (lv' := [(0, .ref (ad q0)), (1, .ref (ad q1)), (2, .int (x2 + nI 1))]) [1, 2, 0] rfl ?_
  exact hrec15 (x2 + nI 1) G81 h
theorem wX5_lookAt_15 (C : xC p s m args meth c cX5_lookAt RX5 3 none D cy) (q0 : Nat) (q1 : Nat) (a0 : A5 kd NP q0) (a1 : A4 kd NP q1) : ∀ (n : Nat) (x2 : Int32) (G : Mem) (h : itr n (FX5_lookAt_15 q0 q1) (x2, G) = some G'), xX p l e (xR 4 86) s m args below meth c A s.heap D cy ad kd NP 3 0 0 (xQv below D cy ad kd NP A args s G') G 15 [(0, .ref (ad q0)), (1, .ref (ad q1)), (2, .int x2)] [] := by
  intro n
  induction n with
  | zero =>
    intro x2 G h
    have h : none = some G' := h
    cases h
  | succ n ih =>
    intro x2 G h
    have h : bX5_lookAt_15 q0 q1 (itr n (FX5_lookAt_15 q0 q1)) x2 G = some G' := h
    have hrec15 : ∀ (x2 : Int32) (G : Mem), itr n (FX5_lookAt_15 q0 q1) (x2, G) = some G' → xX p l e (xR 4 86) s m args below meth c A s.heap D cy ad kd NP 3 0 0 (xQv below D cy ad kd NP A args s G') G 15 [(0, .ref (ad q0)), (1, .ref (ad q1)), (2, .int x2)] [] := fun x2 G h => ih x2 G h
    unfold bX5_lookAt_15 at h
    refine xiload_n C 2 rfl rfl dX5_lookAt_15 ?_
    refine xbipush C (v := (nI 6)) dX5_lookAt_16 (by decide) ?_
    refine xicmp_ge C (tgt := 88) h (by decide) dX5_lookAt_18 (fun h => ?_) (fun h => ?_)
    · obtain rfl := so_1 h
      exact xvret C rfl dX5_lookAt_88
    · refine xaload_n C 1 rfl rfl dX5_lookAt_21 ?_
      refine xgN_4_contracts C a1.1 nf_14 dX5_lookAt_22 ?_
      refine xiload_n C 2 rfl rfl dX5_lookAt_25 ?_
      obtain ⟨hi26, h⟩ := ix_some h
      refine xaa_19 C x2.toNatClampNeg rfl (q1 + 7 + 5 * x2.toNatClampNeg) (by omega) a1.2.2.1 hi26 dX5_lookAt_26 ?_
      refine xgN_0_made C (a1.2.2.2.2 x2.toNatClampNeg (vp_lt hi26)) nf_3 dX5_lookAt_27 ?_
      refine xif_eq C (tgt := 45) h (by decide) dX5_lookAt_30 (fun h => ?_) (fun h => ?_)
      · exact wX5_lookAt_45 C q0 q1 x2 hrec15 G a0 a1 h
      · refine xaload_n C 0 rfl rfl dX5_lookAt_33 ?_
        refine xdup C dX5_lookAt_34 rfl ?_
        refine xg_5_all C a0.1 w_236 dX5_lookAt_35 ?_
        refine xiconst C (v := (nI 1)) dX5_lookAt_38 (by decide) ?_
        refine xiload_n C 2 rfl rfl dX5_lookAt_39 ?_
        refine xishl C dX5_lookAt_40 ?_
        refine xior C dX5_lookAt_41 ?_
        refine xp_5_all C a0.1 w_236 dX5_lookAt_42 ?_
        generalize mset G q0 4 ((G q0 4) ||| ((nI 1) <<< (x2 &&& 31))) = G42 at h ⊢
        replace h := lt_go h
        exact wX5_lookAt_45 C q0 q1 x2 hrec15 G42 a0 a1 h
theorem kX5_lookAt  {q0 : Nat} {q1 : Nat} (a0 : A5 kd NP q0) (a1 : A4 kd NP q1) {G : Mem} (h : fX5_lookAt q0 q1 G = some G') : xMv l D cy ad kd NP A yX5_lookAt cX5_lookAt 3 none 4 86 [.ref (ad q0), .ref (ad q1)] G G' := by
  refine xMv_of trivial (by decide +kernel) (Nat.le_of_ble_eq_true rfl) (fun p e s m args below meth c C => ?_)
  have C : xC p s m args meth c cX5_lookAt RX5 3 none D cy := C
  refine xsub C (lv' := [(0, .ref (ad q0)), (1, .ref (ad q1))]) [0, 1] rfl ?_
  unfold fX5_lookAt at h
  refine xaload_n C 0 rfl rfl dX5_lookAt_0 ?_
  refine xiconst C (v := (nI 0)) dX5_lookAt_1 (by decide) ?_
  refine xp_5_all C a0.1 w_236 dX5_lookAt_2 ?_
  generalize mset G q0 4 (nI 0) = G2 at h ⊢
  replace h := lt_go h
  refine xaload_n C 0 rfl rfl dX5_lookAt_5 ?_
  refine xaload_n C 1 rfl rfl dX5_lookAt_6 ?_
  refine xgN_4_week C a1.1 nf_17 dX5_lookAt_7 ?_
  refine xp_5_presentWeek C a0.1 w_237 dX5_lookAt_10 ?_
  generalize mset G2 q0 5 (G2 q1 2) = G10 at h ⊢
  replace h := lt_go h
  refine xiconst C (v := (nI 0)) dX5_lookAt_13 (by decide) ?_
  refine xistore_n C (lv' := [(2, .int (nI 0)), (0, .ref (ad q0)), (1, .ref (ad q1))]) rfl (by decide) rfl dX5_lookAt_14 ?_
  refine xsub C (lv' := [(0, .ref (ad q0)), (1, .ref (ad q1)), (2, .int (nI 0))]) [1, 2, 0] rfl ?_
  exact wX5_lookAt_15 C q0 q1 a0 a1 _ (nI 0) G10 h
/-- HedgeChains$Orders.isIn(II)Z -/
theorem kX5_isIn {r : Int32}  {x0 : Int32} {x1 : Int32} {G : Mem} (h : fX5_isIn x0 x1 G = some (r, G')) : xMi l D cy ad kd NP A yX5_isIn cX5_isIn 2 (some .boolean) 0 0 [.int x0, .int x1] G r G' := by
  refine xMi_of trivial (by decide +kernel) (Nat.le_of_ble_eq_true rfl) (fun p e s m args below meth c C => ?_)
  have C : xC p s m args meth c cX5_isIn RX5 2 (some .boolean) D cy := C
  refine xsub C (lv' := [(0, .int x0), (1, .int x1)]) [0, 1] rfl ?_
  unfold fX5_isIn at h
  refine xiload_n C 1 rfl rfl dX5_isIn_0 ?_
  refine xiconst C (v := (nI 1)) dX5_isIn_1 (by decide) ?_
  refine xiload_n C 0 rfl rfl dX5_isIn_2 ?_
  refine xishl C dX5_isIn_3 ?_
  refine xiand C dX5_isIn_4 ?_
  refine xif_eq C (tgt := 12) h (by decide) dX5_isIn_5 (fun h => ?_) (fun h => ?_)
  · refine xiconst C (v := (nI 0)) dX5_isIn_12 (by decide) ?_
    obtain ⟨rfl, rfl⟩ := so_2 h
    exact xzret C (Or.inl rfl) rfl dX5_isIn_13
  · refine xiconst C (v := (nI 1)) dX5_isIn_8 (by decide) ?_
    refine xgoto C (tgt := 13) (by decide) dX5_isIn_9 ?_
    obtain ⟨rfl, rfl⟩ := so_2 h
    exact xzret C (Or.inr rfl) rfl dX5_isIn_13
/-- HedgeChains$Orders.finesIfNext(II)I -/
theorem wX5_finesIfNext_15 {r : Int32} (C : xC p s m args meth c cX5_finesIfNext RX5 5 (some .int) D cy) (q0 : Nat) (x1 : Int32) (x2 : Int32) (a0 : A5 kd NP q0) : ∀ (n : Nat) (x3 : Int32) (x4 : Int32) (G : Mem) (h : itr n (FX5_finesIfNext_15 q0 x1 x2) (x3, x4, G) = some (r, G')), xX p l e (xR 1 21) s m args below meth c A s.heap D cy ad kd NP 5 0 0 (xQi below D cy ad kd NP A args s r G') G 15 [(0, .ref (ad q0)), (1, .int x1), (2, .int x2), (3, .int x3), (4, .int x4)] [] := by
  intro n
  induction n with
  | zero =>
    intro x3 x4 G h
    have h : none = some (r, G') := h
    cases h
  | succ n ih =>
    intro x3 x4 G h
    have h : bX5_finesIfNext_15 q0 x1 x2 (itr n (FX5_finesIfNext_15 q0 x1 x2)) x3 x4 G = some (r, G') := h
    have hrec15 : ∀ (x3 : Int32) (x4 : Int32) (G : Mem), itr n (FX5_finesIfNext_15 q0 x1 x2) (x3, x4, G) = some (r, G') → xX p l e (xR 1 21) s m args below meth c A s.heap D cy ad kd NP 5 0 0 (xQi below D cy ad kd NP A args s r G') G 15 [(0, .ref (ad q0)), (1, .int x1), (2, .int x2), (3, .int x3), (4, .int x4)] [] := fun x3 x4 G h => ih x3 x4 G h
    unfold bX5_finesIfNext_15 at h
    refine xiload C 4 rfl dX5_finesIfNext_15 ?_
    refine xbipush C (v := (nI 6)) dX5_finesIfNext_17 (by decide) ?_
    refine xicmp_ge C (tgt := 59) h (by decide) dX5_finesIfNext_19 (fun h => ?_) (fun h => ?_)
    · refine xiload_n C 3 rfl rfl dX5_finesIfNext_59 ?_
      refine xaload_n C 0 rfl rfl dX5_finesIfNext_60 ?_
      refine xg_5_lastWeeks C a0.1 w_233 dX5_finesIfNext_61 ?_
      refine xiload_n C 1 rfl rfl dX5_finesIfNext_64 ?_
      obtain ⟨hi65, h⟩ := ix_some h
      refine xia_11 C x1.toNatClampNeg rfl a0.2.2.1 hi65 dX5_finesIfNext_65 ?_
      refine xisub C dX5_finesIfNext_66 ?_
      refine xiconst C (v := (nI 0)) dX5_finesIfNext_67 (by decide) ?_
      refine xmmax C w_623 w_437 w_12 w_438 ⟨Nat.le_of_ble_eq_true rfl, Nat.le_of_ble_eq_true rfl⟩ ⟨Nat.le_refl _, Nat.le_refl _⟩ dX5_finesIfNext_68 ?_
      refine xistore C (lv' := [(4, .int (if (x3 - (G (q0 + 2) x1.toNatClampNeg)) < (nI 0) then (nI 0) else (x3 - (G (q0 + 2) x1.toNatClampNeg)))), (0, .ref (ad q0)), (1, .int x1), (2, .int x2), (3, .int x3)]) (by decide) rfl dX5_finesIfNext_71 ?_
      refine xaload_n C 1 rfl rfl dX5_finesIfNext_73 ?_
      refine xg_5_finesPerWeek C a0.1 w_234 dX5_finesIfNext_74 ?_
      refine xiload_n C 2 rfl rfl dX5_finesIfNext_77 ?_
      obtain ⟨hi78, h⟩ := ix_some h
      refine xia_11 C x1.toNatClampNeg rfl a0.2.2.2.1 hi78 dX5_finesIfNext_78 ?_
      refine xiload C 0 rfl dX5_finesIfNext_79 ?_
      refine ximul C dX5_finesIfNext_81 ?_
      refine xaload_n C 1 rfl rfl dX5_finesIfNext_82 ?_
      refine xg_5_least C a0.1 w_235 dX5_finesIfNext_83 ?_
      refine xiload_n C 3 rfl rfl dX5_finesIfNext_86 ?_
      refine xiconst C (v := (nI 1)) dX5_finesIfNext_87 (by decide) ?_
      refine xiload_n C 2 rfl rfl dX5_finesIfNext_88 ?_
      refine xishl C dX5_finesIfNext_89 ?_
      refine xiconst C (v := (-1)) dX5_finesIfNext_90 (by decide) ?_
      refine xixor C dX5_finesIfNext_91 ?_
      refine xiand C dX5_finesIfNext_92 ?_
      obtain ⟨hi93, h⟩ := ix_some h
      refine xia_12 C (x2 &&& (((nI 1) <<< (x1 &&& 31)) ^^^ (-1))).toNatClampNeg rfl a0.2.2.2.2 hi93 dX5_finesIfNext_93 ?_
      refine xiadd C dX5_finesIfNext_94 ?_
      obtain ⟨rfl, rfl⟩ := so_2 h
      exact xiret C rfl dX5_finesIfNext_95
    · refine xiload C 4 rfl dX5_finesIfNext_22 ?_
      refine xaload_n C 0 rfl rfl dX5_finesIfNext_24 ?_
      refine xg_5_all C a0.1 w_236 dX5_finesIfNext_25 ?_
      obtain ⟨r28, G28, hc28, h⟩ := bd_some h
      refine xSi C (As := [.int x4, .int (G q0 4)]) (rest := []) (kX5_isIn hc28) w_616 w_617 mwX5_isIn rfl ⟨Nat.le_of_ble_eq_true rfl, Nat.le_of_ble_eq_true rfl⟩ ⟨Nat.le_refl _, Nat.le_refl _⟩ (Nat.le_of_ble_eq_true rfl) dX5_finesIfNext_28 ?_
      refine xif_eq C (tgt := 53) h (by decide) dX5_finesIfNext_31 (fun h => ?_) (fun h => ?_)
      · refine xiinc C (v := (x4 + nI 1)) (lv' := [(4, .int (x4 + nI 1)), (0, .ref (ad q0)), (1, .int x1), (2, .int x2), (3, .int x3)]) 4 rfl rfl (by decide) rfl dX5_finesIfNext_53 ?_
        refine xgoto C (tgt := 15) (by decide) dX5_finesIfNext_56 ?_
        refine xsub C (lv' := [(0, .ref (ad q0)), (1, .int x1), (2, .int x2), (3, .int x3), (4, .int (x4 + nI 1))]) [1, 2, 3, 4, 0] rfl ?_
        exact hrec15 x3 (x4 + nI 1) G28 h
      · refine xiload C 4 rfl dX5_finesIfNext_34 ?_
        refine xiload_n C 2 rfl rfl dX5_finesIfNext_36 ?_
        obtain ⟨r37, G37, hc37, h⟩ := bd_some h
        refine xSi C (As := [.int x4, .int x2]) (rest := []) (kX5_isIn hc37) w_616 w_617 mwX5_isIn rfl ⟨Nat.le_of_ble_eq_true rfl, Nat.le_of_ble_eq_true rfl⟩ ⟨Nat.le_refl _, Nat.le_refl _⟩ (Nat.le_of_ble_eq_true rfl) dX5_finesIfNext_37 ?_
        refine xif_ne C (tgt := 53) h (by decide) dX5_finesIfNext_40 (fun h => ?_) (fun h => ?_)
        · refine xiload_n C 3 rfl rfl dX5_finesIfNext_43 ?_
          refine xaload_n C 0 rfl rfl dX5_finesIfNext_44 ?_
          refine xg_5_weeks C a0.1 w_232 dX5_finesIfNext_45 ?_
          refine xiload C 4 rfl dX5_finesIfNext_48 ?_
          obtain ⟨hi50, h⟩ := ix_some h
          refine xia_11 C x4.toNatClampNeg rfl a0.2.1 hi50 dX5_finesIfNext_50 ?_
          refine xiadd C dX5_finesIfNext_51 ?_
          refine xistore_n C (lv' := [(3, .int (x3 + (G37 (q0 + 1) x4.toNatClampNeg))), (0, .ref (ad q0)), (1, .int x1), (2, .int x2), (4, .int x4)]) rfl (by decide) rfl dX5_finesIfNext_52 ?_
          refine xiinc C (v := (x4 + nI 1)) (lv' := [(4, .int (x4 + nI 1)), (3, .int (x3 + (G37 (q0 + 1) x4.toNatClampNeg))), (0, .ref (ad q0)), (1, .int x1), (2, .int x2)]) 4 rfl rfl (by decide) rfl dX5_finesIfNext_53 ?_
          refine xgoto C (tgt := 15) (by decide) dX5_finesIfNext_56 ?_
          refine xsub C (lv' := [(0, .ref (ad q0)), (1, .int x1), (2, .int x2), (3, .int (x3 + (G37 (q0 + 1) x4.toNatClampNeg))), (4, .int (x4 + nI 1))]) [2, 3, 4, 1, 0] rfl ?_
          exact hrec15 (x3 + (G37 (q0 + 1) x4.toNatClampNeg)) (x4 + nI 1) G37 h
        · refine xiinc C (v := (x4 + nI 1)) (lv' := [(4, .int (x4 + nI 1)), (0, .ref (ad q0)), (1, .int x1), (2, .int x2), (3, .int x3)]) 4 rfl rfl (by decide) rfl dX5_finesIfNext_53 ?_
          refine xgoto C (tgt := 15) (by decide) dX5_finesIfNext_56 ?_
          refine xsub C (lv' := [(0, .ref (ad q0)), (1, .int x1), (2, .int x2), (3, .int x3), (4, .int (x4 + nI 1))]) [1, 2, 3, 4, 0] rfl ?_
          exact hrec15 x3 (x4 + nI 1) G37 h
theorem kX5_finesIfNext {r : Int32}  {q0 : Nat} {x1 : Int32} {x2 : Int32} (a0 : A5 kd NP q0) {G : Mem} (h : fX5_finesIfNext q0 x1 x2 G = some (r, G')) : xMi l D cy ad kd NP A yX5_finesIfNext cX5_finesIfNext 5 (some .int) 1 21 [.ref (ad q0), .int x1, .int x2] G r G' := by
  refine xMi_of trivial (by decide +kernel) (Nat.le_of_ble_eq_true rfl) (fun p e s m args below meth c C => ?_)
  have C : xC p s m args meth c cX5_finesIfNext RX5 5 (some .int) D cy := C
  refine xsub C (lv' := [(0, .ref (ad q0)), (1, .int x1), (2, .int x2)]) [0, 1, 2] rfl ?_
  unfold fX5_finesIfNext at h
  refine xaload_n C 0 rfl rfl dX5_finesIfNext_0 ?_
  refine xg_5_presentWeek C a0.1 w_237 dX5_finesIfNext_1 ?_
  refine xaload_n C 0 rfl rfl dX5_finesIfNext_4 ?_
  refine xg_5_weeks C a0.1 w_232 dX5_finesIfNext_5 ?_
  refine xiload_n C 1 rfl rfl dX5_finesIfNext_8 ?_
  obtain ⟨hi9, h⟩ := ix_some h
  refine xia_11 C x1.toNatClampNeg rfl a0.2.1 hi9 dX5_finesIfNext_9 ?_
  refine xiadd C dX5_finesIfNext_10 ?_
  refine xistore_n C (lv' := [(3, .int ((G q0 5) + (G (q0 + 1) x1.toNatClampNeg))), (0, .ref (ad q0)), (1, .int x1), (2, .int x2)]) rfl (by decide) rfl dX5_finesIfNext_11 ?_
  refine xiconst C (v := (nI 0)) dX5_finesIfNext_12 (by decide) ?_
  refine xistore C (lv' := [(4, .int (nI 0)), (3, .int ((G q0 5) + (G (q0 + 1) x1.toNatClampNeg))), (0, .ref (ad q0)), (1, .int x1), (2, .int x2)]) (by decide) rfl dX5_finesIfNext_13 ?_
  refine xsub C (lv' := [(0, .ref (ad q0)), (1, .int x1), (2, .int x2), (3, .int ((G q0 5) + (G (q0 + 1) x1.toNatClampNeg))), (4, .int (nI 0))]) [2, 3, 4, 1, 0] rfl ?_
  exact wX5_finesIfNext_15 C q0 x1 x2 a0 _ ((G q0 5) + (G (q0 + 1) x1.toNatClampNeg)) (nI 0) G h
/-- HedgeChains$Orders.leastOf(I)I -/
theorem wX5_leastOf_5 {r : Int32} (C : xC p s m args meth c cX5_leastOf RX5 4 (some .int) D cy) (q0 : Nat) (x1 : Int32) (a0 : A5 kd NP q0) : ∀ (n : Nat) (x2 : Int32) (x3 : Int32) (G : Mem) (h : itr n (FX5_leastOf_5 q0 x1) (x2, x3, G) = some (r, G')), xX p l e (xR 2 45) s m args below meth c A s.heap D cy ad kd NP 4 0 0 (xQi below D cy ad kd NP A args s r G') G 5 [(0, .ref (ad q0)), (1, .int x1), (2, .int x2), (3, .int x3)] [] := by
  intro n
  induction n with
  | zero =>
    intro x2 x3 G h
    have h : none = some (r, G') := h
    cases h
  | succ n ih =>
    intro x2 x3 G h
    have h : bX5_leastOf_5 q0 x1 (itr n (FX5_leastOf_5 q0 x1)) x2 x3 G = some (r, G') := h
    have hrec5 : ∀ (x2 : Int32) (x3 : Int32) (G : Mem), itr n (FX5_leastOf_5 q0 x1) (x2, x3, G) = some (r, G') → xX p l e (xR 2 45) s m args below meth c A s.heap D cy ad kd NP 4 0 0 (xQi below D cy ad kd NP A args s r G') G 5 [(0, .ref (ad q0)), (1, .int x1), (2, .int x2), (3, .int x3)] [] := fun x2 x3 G h => ih x2 x3 G h
    unfold bX5_leastOf_5 at h
    refine xiload_n C 3 rfl rfl dX5_leastOf_5 ?_
    refine xbipush C (v := (nI 6)) dX5_leastOf_6 (by decide) ?_
    refine xicmp_ge C (tgt := 36) h (by decide) dX5_leastOf_8 (fun h => ?_) (fun h => ?_)
    · refine xiload_n C 2 rfl rfl dX5_leastOf_36 ?_
      obtain ⟨rfl, rfl⟩ := so_2 h
      exact xiret C rfl dX5_leastOf_37
    · refine xiload_n C 3 rfl rfl dX5_leastOf_11 ?_
      refine xiload_n C 1 rfl rfl dX5_leastOf_12 ?_
      obtain ⟨r13, G13, hc13, h⟩ := bd_some h
      refine xSi C (As := [.int x3, .int x1]) (rest := []) (kX5_isIn hc13) w_616 w_617 mwX5_isIn rfl ⟨Nat.le_of_ble_eq_true rfl, Nat.le_of_ble_eq_true rfl⟩ ⟨Nat.le_refl _, Nat.le_refl _⟩ (Nat.le_of_ble_eq_true rfl) dX5_leastOf_13 ?_
      refine xif_eq C (tgt := 30) h (by decide) dX5_leastOf_16 (fun h => ?_) (fun h => ?_)
      · refine xiinc C (v := (x3 + nI 1)) (lv' := [(3, .int (x3 + nI 1)), (0, .ref (ad q0)), (1, .int x1), (2, .int x2)]) 3 rfl rfl (by decide) rfl dX5_leastOf_30 ?_
        refine xgoto C (tgt := 5) (by decide) dX5_leastOf_33 ?_
        refine xsub C (lv' := [(0, .ref (ad q0)), (1, .int x1), (2, .int x2), (3, .int (x3 + nI 1))]) [1, 2, 3, 0] rfl ?_
        exact hrec5 x2 (x3 + nI 1) G13 h
      · refine xiload_n C 2 rfl rfl dX5_leastOf_19 ?_
        refine xaload_n C 0 rfl rfl dX5_leastOf_20 ?_
        refine xiload_n C 3 rfl rfl dX5_leastOf_21 ?_
        refine xiload_n C 1 rfl rfl dX5_leastOf_22 ?_
        obtain ⟨r23, G23, hc23, h⟩ := bd_some h
        refine xVi C (As := [.int x3, .int x1]) (rest := [.int x2]) (kX5_finesIfNext a0 hc23) a0.1 rfl rfl w_619 mvX5_finesIfNext mwX5_finesIfNext rfl ⟨Nat.le_of_ble_eq_true rfl, Nat.le_of_ble_eq_true rfl⟩ ⟨Nat.le_refl _, Nat.le_refl _⟩ (Nat.le_of_ble_eq_true rfl) dX5_leastOf_23 ?_
        refine xmmin C w_624 w_325 w_12 w_326 ⟨Nat.le_of_ble_eq_true rfl, Nat.le_of_ble_eq_true rfl⟩ ⟨Nat.le_refl _, Nat.le_refl _⟩ dX5_leastOf_26 ?_
        refine xistore_n C (lv' := [(2, .int (if r23 < x2 then r23 else x2)), (0, .ref (ad q0)), (1, .int x1), (3, .int x3)]) rfl (by decide) rfl dX5_leastOf_29 ?_
        refine xiinc C (v := (x3 + nI 1)) (lv' := [(3, .int (x3 + nI 1)), (2, .int (if r23 < x2 then r23 else x2)), (0, .ref (ad q0)), (1, .int x1)]) 3 rfl rfl (by decide) rfl dX5_leastOf_30 ?_
        refine xgoto C (tgt := 5) (by decide) dX5_leastOf_33 ?_
        refine xsub C (lv' := [(0, .ref (ad q0)), (1, .int x1), (2, .int (if r23 < x2 then r23 else x2)), (3, .int (x3 + nI 1))]) [2, 3, 1, 0] rfl ?_
        exact hrec5 (if r23 < x2 then r23 else x2) (x3 + nI 1) G23 h
theorem kX5_leastOf {r : Int32}  {q0 : Nat} {x1 : Int32} (a0 : A5 kd NP q0) {G : Mem} (h : fX5_leastOf q0 x1 G = some (r, G')) : xMi l D cy ad kd NP A yX5_leastOf cX5_leastOf 4 (some .int) 2 45 [.ref (ad q0), .int x1] G r G' := by
  refine xMi_of trivial (by decide +kernel) (Nat.le_of_ble_eq_true rfl) (fun p e s m args below meth c C => ?_)
  have C : xC p s m args meth c cX5_leastOf RX5 4 (some .int) D cy := C
  refine xsub C (lv' := [(0, .ref (ad q0)), (1, .int x1)]) [0, 1] rfl ?_
  unfold fX5_leastOf at h
  refine xldc C (v := (nI 1000000000)) w_615 dX5_leastOf_0 ?_
  refine xistore_n C (lv' := [(2, .int (nI 1000000000)), (0, .ref (ad q0)), (1, .int x1)]) rfl (by decide) rfl dX5_leastOf_2 ?_
  refine xiconst C (v := (nI 0)) dX5_leastOf_3 (by decide) ?_
  refine xistore_n C (lv' := [(3, .int (nI 0)), (2, .int (nI 1000000000)), (0, .ref (ad q0)), (1, .int x1)]) rfl (by decide) rfl dX5_leastOf_4 ?_
  refine xsub C (lv' := [(0, .ref (ad q0)), (1, .int x1), (2, .int (nI 1000000000)), (3, .int (nI 0))]) [2, 3, 1, 0] rfl ?_
  exact wX5_leastOf_5 C q0 x1 a0 _ (nI 1000000000) (nI 0) G h
/-- HedgeChains$Orders.reckon(LHedgeChains$Land;)V -/
theorem wX5_reckon_14 (C : xC p s m args meth c cX5_reckon RX5 3 none D cy) (q0 : Nat) (a0 : A5 kd NP q0) : ∀ (n : Nat) (x2 : Int32) (G : Mem) (h : itr n (FX5_reckon_14 q0) (x2, G) = some G'), xX p l e (xR 5 108) s m args below meth c A s.heap D cy ad kd NP 3 0 0 (xQv below D cy ad kd NP A args s G') G 14 [(0, .ref (ad q0)), (2, .int x2)] [] := by
  intro n
  induction n with
  | zero =>
    intro x2 G h
    have h : none = some G' := h
    cases h
  | succ n ih =>
    intro x2 G h
    have h : bX5_reckon_14 q0 (itr n (FX5_reckon_14 q0)) x2 G = some G' := h
    have hrec14 : ∀ (x2 : Int32) (G : Mem), itr n (FX5_reckon_14 q0) (x2, G) = some G' → xX p l e (xR 5 108) s m args below meth c A s.heap D cy ad kd NP 3 0 0 (xQv below D cy ad kd NP A args s G') G 14 [(0, .ref (ad q0)), (2, .int x2)] [] := fun x2 G h => ih x2 G h
    unfold bX5_reckon_14 at h
    refine xiload_n C 1 rfl rfl dX5_reckon_14 ?_
    refine xaload_n C 0 rfl rfl dX5_reckon_15 ?_
    refine xg_5_least C a0.1 w_235 dX5_reckon_16 ?_
    refine xal_12 C a0.2.2.2.2 dX5_reckon_19 ?_
    refine xicmp_ge C (tgt := 51) h (by decide) dX5_reckon_20 (fun h => ?_) (fun h => ?_)
    · obtain rfl := so_1 h
      exact xvret C rfl dX5_reckon_51
    · refine xiload_n C 1 rfl rfl dX5_reckon_23 ?_
      refine xaload_n C 0 rfl rfl dX5_reckon_24 ?_
      refine xg_5_all C a0.1 w_236 dX5_reckon_25 ?_
      refine xiconst C (v := (-1)) dX5_reckon_28 (by decide) ?_
      refine xixor C dX5_reckon_29 ?_
      refine xiand C dX5_reckon_30 ?_
      refine xif_ne C (tgt := 45) h (by decide) dX5_reckon_31 (fun h => ?_) (fun h => ?_)
      · refine xaload_n C 0 rfl rfl dX5_reckon_34 ?_
        refine xg_5_least C a0.1 w_235 dX5_reckon_35 ?_
        refine xiload_n C 1 rfl rfl dX5_reckon_38 ?_
        refine xaload_n C 0 rfl rfl dX5_reckon_39 ?_
        refine xiload_n C 1 rfl rfl dX5_reckon_40 ?_
        obtain ⟨r41, G41, hc41, h⟩ := bd_some h
        refine xVi C (As := [.int x2]) (rest := [.int x2, .ref (ad (q0 + 4))]) (kX5_leastOf a0 hc41) a0.1 rfl rfl w_611 mvX5_leastOf mwX5_leastOf rfl ⟨Nat.le_of_ble_eq_true rfl, Nat.le_of_ble_eq_true rfl⟩ ⟨Nat.le_refl _, Nat.le_refl _⟩ (Nat.le_of_ble_eq_true rfl) dX5_reckon_41 ?_
        obtain ⟨hi44, h⟩ := ix_some h
        refine xis_12 C x2.toNatClampNeg rfl a0.2.2.2.2 hi44 dX5_reckon_44 ?_
        generalize mset G41 (q0 + 4) x2.toNatClampNeg r41 = G44 at h ⊢
        replace h := lt_go h
        refine xiinc C (v := (x2 + nI 1)) (lv' := [(2, .int (x2 + nI 1)), (0, .ref (ad q0))]) 1 rfl rfl (by decide) rfl dX5_reckon_45 ?_
        refine xgoto C (tgt := 14) (by decide) dX5_reckon_48 ?_
        refine xsub C (lv' := [(0, .ref (ad q0)), (2, .int (x2 + nI 1))]) [1, 0] rfl ?_
        exact hrec14 (x2 + nI 1) G44 h
      · refine xiinc C (v := (x2 + nI 1)) (lv' := [(2, .int (x2 + nI 1)), (0, .ref (ad q0))]) 1 rfl rfl (by decide) rfl dX5_reckon_45 ?_
        refine xgoto C (tgt := 14) (by decide) dX5_reckon_48 ?_
        refine xsub C (lv' := [(0, .ref (ad q0)), (2, .int (x2 + nI 1))]) [1, 0] rfl ?_
        exact hrec14 (x2 + nI 1) G h
theorem kX5_reckon  {q0 : Nat} {q1 : Nat} (a0 : A5 kd NP q0) (a1 : A4 kd NP q1) {G : Mem} (h : fX5_reckon q0 q1 G = some G') : xMv l D cy ad kd NP A yX5_reckon cX5_reckon 3 none 5 108 [.ref (ad q0), .ref (ad q1)] G G' := by
  refine xMv_of trivial (by decide +kernel) (Nat.le_of_ble_eq_true rfl) (fun p e s m args below meth c C => ?_)
  have C : xC p s m args meth c cX5_reckon RX5 3 none D cy := C
  refine xsub C (lv' := [(0, .ref (ad q0)), (1, .ref (ad q1))]) [0, 1] rfl ?_
  unfold fX5_reckon at h
  refine xaload_n C 0 rfl rfl dX5_reckon_0 ?_
  refine xaload_n C 1 rfl rfl dX5_reckon_1 ?_
  obtain ⟨G2, hc2, h⟩ := bv_some h
  refine xVv C (As := [.ref (ad q1)]) (rest := []) (kX5_lookAt a0 a1 hc2) a0.1 rfl rfl w_601 mvX5_lookAt mwX5_lookAt rfl ⟨Nat.le_of_ble_eq_true rfl, Nat.le_of_ble_eq_true rfl⟩ ⟨Nat.le_refl _, Nat.le_refl _⟩ (Nat.le_of_ble_eq_true rfl) dX5_reckon_2 ?_
  refine xaload_n C 0 rfl rfl dX5_reckon_5 ?_
  refine xg_5_least C a0.1 w_235 dX5_reckon_6 ?_
  refine xiconst C (v := (nI 0)) dX5_reckon_9 (by decide) ?_
  refine xiconst C (v := (nI 0)) dX5_reckon_10 (by decide) ?_
  refine xis_12 C 0 (by decide) a0.2.2.2.2 (xvi (by decide)) dX5_reckon_11 ?_
  generalize mset G2 (q0 + 4) 0 (nI 0) = G11 at h ⊢
  replace h := lt_go h
  refine xiconst C (v := (nI 1)) dX5_reckon_12 (by decide) ?_
  refine xistore_n C (lv' := [(2, .int (nI 1)), (0, .ref (ad q0)), (1, .ref (ad q1))]) rfl (by decide) rfl dX5_reckon_13 ?_
  refine xsub C (lv' := [(0, .ref (ad q0)), (2, .int (nI 1))]) [1, 0] rfl ?_
  exact wX5_reckon_14 C q0 a0 _ (nI 1) G11 h
/-- HedgeChains$Orders.leastFines()I -/
theorem kX5_leastFines {r : Int32}  {q0 : Nat} (a0 : A5 kd NP q0) {G : Mem} (h : fX5_leastFines q0 G = some (r, G')) : xMi l D cy ad kd NP A yX5_leastFines cX5_leastFines 1 (some .int) 0 0 [.ref (ad q0)] G r G' := by
  refine xMi_of trivial (by decide +kernel) (Nat.le_of_ble_eq_true rfl) (fun p e s m args below meth c C => ?_)
  have C : xC p s m args meth c cX5_leastFines RX5 1 (some .int) D cy := C
  refine xsub C (lv' := [(0, .ref (ad q0))]) [0] rfl ?_
  unfold fX5_leastFines at h
  refine xaload_n C 0 rfl rfl dX5_leastFines_0 ?_
  refine xg_5_least C a0.1 w_235 dX5_leastFines_1 ?_
  refine xaload_n C 0 rfl rfl dX5_leastFines_4 ?_
  refine xg_5_all C a0.1 w_236 dX5_leastFines_5 ?_
  obtain ⟨hi8, h⟩ := ix_some h
  refine xia_12 C (G q0 4).toNatClampNeg rfl a0.2.2.2.2 hi8 dX5_leastFines_8 ?_
  obtain ⟨rfl, rfl⟩ := so_2 h
  exact xiret C rfl dX5_leastFines_9
/-- HedgeChains$Orders.firstField()I -/
theorem wX5_firstField_2 {r : Int32} (C : xC p s m args meth c cX5_firstField RX5 2 (some .int) D cy) (q0 : Nat) (a0 : A5 kd NP q0) : ∀ (n : Nat) (x1 : Int32) (G : Mem) (h : itr n (FX5_firstField_2 q0) (x1, G) = some (r, G')), xX p l e (xR 2 45) s m args below meth c A s.heap D cy ad kd NP 2 0 0 (xQi below D cy ad kd NP A args s r G') G 2 [(0, .ref (ad q0)), (1, .int x1)] [] := by
  intro n
  induction n with
  | zero =>
    intro x1 G h
    have h : none = some (r, G') := h
    cases h
  | succ n ih =>
    intro x1 G h
    have h : bX5_firstField_2 q0 (itr n (FX5_firstField_2 q0)) x1 G = some (r, G') := h
    have hrec2 : ∀ (x1 : Int32) (G : Mem), itr n (FX5_firstField_2 q0) (x1, G) = some (r, G') → xX p l e (xR 2 45) s m args below meth c A s.heap D cy ad kd NP 2 0 0 (xQi below D cy ad kd NP A args s r G') G 2 [(0, .ref (ad q0)), (1, .int x1)] [] := fun x1 G h => ih x1 G h
    unfold bX5_firstField_2 at h
    refine xiload_n C 1 rfl rfl dX5_firstField_2 ?_
    refine xbipush C (v := (nI 6)) dX5_firstField_3 (by decide) ?_
    refine xicmp_ge C (tgt := 48) h (by decide) dX5_firstField_5 (fun h => ?_) (fun h => ?_)
    · refine xbipush C (v := (-9)) dX5_firstField_48 (by decide) ?_
      obtain ⟨rfl, rfl⟩ := so_2 h
      exact xiret C rfl dX5_firstField_50
    · refine xiload_n C 1 rfl rfl dX5_firstField_8 ?_
      refine xaload_n C 0 rfl rfl dX5_firstField_9 ?_
      refine xg_5_all C a0.1 w_236 dX5_firstField_10 ?_
      obtain ⟨r13, G13, hc13, h⟩ := bd_some h
      refine xSi C (As := [.int x1, .int (G q0 4)]) (rest := []) (kX5_isIn hc13) w_616 w_617 mwX5_isIn rfl ⟨Nat.le_of_ble_eq_true rfl, Nat.le_of_ble_eq_true rfl⟩ ⟨Nat.le_refl _, Nat.le_refl _⟩ (Nat.le_of_ble_eq_true rfl) dX5_firstField_13 ?_
      refine xif_eq C (tgt := 42) h (by decide) dX5_firstField_16 (fun h => ?_) (fun h => ?_)
      · refine xiinc C (v := (x1 + nI 1)) (lv' := [(1, .int (x1 + nI 1)), (0, .ref (ad q0))]) 1 rfl rfl (by decide) rfl dX5_firstField_42 ?_
        refine xgoto C (tgt := 2) (by decide) dX5_firstField_45 ?_
        refine xsub C (lv' := [(0, .ref (ad q0)), (1, .int (x1 + nI 1))]) [1, 0] rfl ?_
        exact hrec2 (x1 + nI 1) G13 h
      · refine xaload_n C 0 rfl rfl dX5_firstField_19 ?_
        refine xiload_n C 1 rfl rfl dX5_firstField_20 ?_
        refine xaload_n C 0 rfl rfl dX5_firstField_21 ?_
        refine xg_5_all C a0.1 w_236 dX5_firstField_22 ?_
        obtain ⟨r25, G25, hc25, h⟩ := bd_some h
        refine xVi C (As := [.int x1, .int (G13 q0 4)]) (rest := []) (kX5_finesIfNext a0 hc25) a0.1 rfl rfl w_619 mvX5_finesIfNext mwX5_finesIfNext rfl ⟨Nat.le_of_ble_eq_true rfl, Nat.le_of_ble_eq_true rfl⟩ ⟨Nat.le_refl _, Nat.le_refl _⟩ (Nat.le_of_ble_eq_true rfl) dX5_firstField_25 ?_
        refine xaload_n C 0 rfl rfl dX5_firstField_28 ?_
        refine xg_5_least C a0.1 w_235 dX5_firstField_29 ?_
        refine xaload_n C 0 rfl rfl dX5_firstField_32 ?_
        refine xg_5_all C a0.1 w_236 dX5_firstField_33 ?_
        obtain ⟨hi36, h⟩ := ix_some h
        refine xia_12 C (G25 q0 4).toNatClampNeg rfl a0.2.2.2.2 hi36 dX5_firstField_36 ?_
        refine xicmp_ne C (tgt := 42) h (by decide) dX5_firstField_37 (fun h => ?_) (fun h => ?_)
        · refine xiload_n C 1 rfl rfl dX5_firstField_40 ?_
          obtain ⟨rfl, rfl⟩ := so_2 h
          exact xiret C rfl dX5_firstField_41
        · refine xiinc C (v := (x1 + nI 1)) (lv' := [(1, .int (x1 + nI 1)), (0, .ref (ad q0))]) 1 rfl rfl (by decide) rfl dX5_firstField_42 ?_
          refine xgoto C (tgt := 2) (by decide) dX5_firstField_45 ?_
          refine xsub C (lv' := [(0, .ref (ad q0)), (1, .int (x1 + nI 1))]) [1, 0] rfl ?_
          exact hrec2 (x1 + nI 1) G25 h
theorem kX5_firstField {r : Int32}  {q0 : Nat} (a0 : A5 kd NP q0) {G : Mem} (h : fX5_firstField q0 G = some (r, G')) : xMi l D cy ad kd NP A yX5_firstField cX5_firstField 2 (some .int) 2 45 [.ref (ad q0)] G r G' := by
  refine xMi_of trivial (by decide +kernel) (Nat.le_of_ble_eq_true rfl) (fun p e s m args below meth c C => ?_)
  have C : xC p s m args meth c cX5_firstField RX5 2 (some .int) D cy := C
  refine xsub C (lv' := [(0, .ref (ad q0))]) [0] rfl ?_
  unfold fX5_firstField at h
  refine xiconst C (v := (nI 0)) dX5_firstField_0 (by decide) ?_
  refine xistore_n C (lv' := [(1, .int (nI 0)), (0, .ref (ad q0))]) rfl (by decide) rfl dX5_firstField_1 ?_
  refine xsub C (lv' := [(0, .ref (ad q0)), (1, .int (nI 0))]) [1, 0] rfl ?_
  exact wX5_firstField_2 C q0 a0 _ (nI 0) G h
end
