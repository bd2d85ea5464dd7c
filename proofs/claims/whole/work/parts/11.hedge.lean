section
variable {p : Program} {l : Launch} {e : Env} {s : State} {m : MethodId} {args : Array Value} {below : List Frame} {meth : Method} {c : Code} {A : Nat → Prop} {D : va_G} {cy : xCy} {ad kd : Nat → Nat} {NP : Nat} {G' : Mem}
/-- HedgeChains$Hedge.has(I)Z -/
theorem kX1_has {r : Int32}  {q0 : Nat} {x1 : Int32} (a0 : A1 kd NP q0) {G : Mem} (h : fX1_has q0 x1 G = some (r, G')) : xMi l D cy ad kd NP A yX1_has cX1_has 2 (some .boolean) 0 0 [.ref (ad q0), .int x1] G r G' := by
  refine xMi_of trivial (by decide +kernel) (Nat.le_of_ble_eq_true rfl) (fun p e s m args below meth c C => ?_)
  have C : xC p s m args meth c cX1_has RX1 2 (some .boolean) D cy := C
  refine xsub C (lv' := [(0, .ref (ad q0)), (1, .int x1)]) [0, 1] rfl ?_
  unfold fX1_has at h
  refine xiload_n C 1 rfl rfl dX1_has_0 ?_
  refine xif_lt C (tgt := 16) h (by decide) dX1_has_1 (fun h => ?_) (fun h => ?_)
  · refine xiconst C (v := (nI 0)) dX1_has_16 (by decide) ?_
    obtain ⟨rfl, rfl⟩ := so_2 h
    exact xzret C (Or.inl rfl) rfl dX1_has_17
  · refine xiload_n C 1 rfl rfl dX1_has_4 ?_
    refine xaload_n C 0 rfl rfl dX1_has_5 ?_
    refine xg_1_length C a0.1 w_45 dX1_has_6 ?_
    refine xicmp_ge C (tgt := 16) h (by decide) dX1_has_9 (fun h => ?_) (fun h => ?_)
    · refine xiconst C (v := (nI 0)) dX1_has_16 (by decide) ?_
      obtain ⟨rfl, rfl⟩ := so_2 h
      exact xzret C (Or.inl rfl) rfl dX1_has_17
    · refine xiconst C (v := (nI 1)) dX1_has_12 (by decide) ?_
      refine xgoto C (tgt := 17) (by decide) dX1_has_13 ?_
      obtain ⟨rfl, rfl⟩ := so_2 h
      exact xzret C (Or.inr rfl) rfl dX1_has_17
/-- HedgeChains$Hedge.changeChain(III)V -/
theorem kX1_changeChain  {q0 : Nat} {x1 : Int32} {x2 : Int32} {x3 : Int32} (a0 : A1 kd NP q0) {G : Mem} (h : fX1_changeChain q0 x1 x2 x3 G = some G') : xMv l D cy ad kd NP A yX1_changeChain cX1_changeChain 4 none 1 21 [.ref (ad q0), .int x1, .int x2, .int x3] G G' := by
  refine xMv_of trivial (by decide +kernel) (Nat.le_of_ble_eq_true rfl) (fun p e s m args below meth c C => ?_)
  have C : xC p s m args meth c cX1_changeChain RX1 4 none D cy := C
  refine xsub C (lv' := [(0, .ref (ad q0)), (1, .int x1), (2, .int x2), (3, .int x3)]) [0, 1, 2, 3] rfl ?_
  unfold fX1_changeChain at h
  refine xaload_n C 0 rfl rfl dX1_changeChain_0 ?_
  refine xiload_n C 1 rfl rfl dX1_changeChain_1 ?_
  obtain ⟨r2, G2, hc2, h⟩ := bd_some h
  refine xVi C (As := [.int x1]) (rest := []) (kX1_has a0 hc2) a0.1 rfl rfl w_67 mvX1_has mwX1_has rfl ⟨Nat.le_of_ble_eq_true rfl, Nat.le_of_ble_eq_true rfl⟩ ⟨Nat.le_refl _, Nat.le_refl _⟩ (Nat.le_of_ble_eq_true rfl) dX1_changeChain_2 ?_
  refine xif_eq C (tgt := 29) h (by decide) dX1_changeChain_5 (fun h => ?_) (fun h => ?_)
  · obtain rfl := so_1 h
    exact xvret C rfl dX1_changeChain_29
  · refine xaload_n C 0 rfl rfl dX1_changeChain_8 ?_
    refine xg_1_kinds C a0.1 w_42 dX1_changeChain_9 ?_
    refine xiload_n C 1 rfl rfl dX1_changeChain_12 ?_
    refine xiload_n C 2 rfl rfl dX1_changeChain_13 ?_
    obtain ⟨hi14, h⟩ := ix_some h
    refine xis_10 C x1.toNatClampNeg rfl a0.2.1 hi14 dX1_changeChain_14 ?_
    generalize mset G2 (q0 + 1) x1.toNatClampNeg x2 = G14 at h ⊢
    replace h := lt_go h
    refine xaload_n C 0 rfl rfl dX1_changeChain_15 ?_
    refine xg_1_thicknesses C a0.1 w_43 dX1_changeChain_16 ?_
    refine xiload_n C 1 rfl rfl dX1_changeChain_19 ?_
    refine xiload_n C 3 rfl rfl dX1_changeChain_20 ?_
    obtain ⟨hi21, h⟩ := ix_some h
    refine xis_10 C x1.toNatClampNeg rfl a0.2.2.1 hi21 dX1_changeChain_21 ?_
    generalize mset G14 (q0 + 2) x1.toNatClampNeg x3 = G21 at h ⊢
    replace h := lt_go h
    refine xaload_n C 0 rfl rfl dX1_changeChain_22 ?_
    refine xg_1_ages C a0.1 w_44 dX1_changeChain_23 ?_
    refine xiload_n C 1 rfl rfl dX1_changeChain_26 ?_
    refine xiconst C (v := (nI 0)) dX1_changeChain_27 (by decide) ?_
    obtain ⟨hi28, h⟩ := ix_some h
    refine xis_10 C x1.toNatClampNeg rfl a0.2.2.2 hi28 dX1_changeChain_28 ?_
    generalize mset G21 (q0 + 3) x1.toNatClampNeg (nI 0) = G28 at h ⊢
    replace h := lt_go h
    obtain rfl := so_1 h
    exact xvret C rfl dX1_changeChain_29
/-- HedgeChains$Hedge.addChains(III)V -/
theorem wX1_addChains_3 (C : xC p s m args meth c cX1_addChains RX1 5 none D cy) (q0 : Nat) (x1 : Int32) (x2 : Int32) (x3 : Int32) (a0 : A1 kd NP q0) : ∀ (n : Nat) (x4 : Int32) (G : Mem) (h : itr n (FX1_addChains_3 q0 x1 x2 x3) (x4, G) = some G'), xX p l e (xR 2 44) s m args below meth c A s.heap D cy ad kd NP 5 0 0 (xQv below D cy ad kd NP A args s G') G 3 [(0, .ref (ad q0)), (1, .int x1), (2, .int x2), (3, .int x3), (4, .int x4)] [] := by
  intro n
  induction n with
  | zero =>
    intro x4 G h
    have h : none = some G' := h
    cases h
  | succ n ih =>
    intro x4 G h
    have h : bX1_addChains_3 q0 x1 x2 x3 (itr n (FX1_addChains_3 q0 x1 x2 x3)) x4 G = some G' := h
    have hrec3 : ∀ (x4 : Int32) (G : Mem), itr n (FX1_addChains_3 q0 x1 x2 x3) (x4, G) = some G' → xX p l e (xR 2 44) s m args below meth c A s.heap D cy ad kd NP 5 0 0 (xQv below D cy ad kd NP A args s G') G 3 [(0, .ref (ad q0)), (1, .int x1), (2, .int x2), (3, .int x3), (4, .int x4)] [] := fun x4 G h => ih x4 G h
    unfold bX1_addChains_3 at h
    refine xiload C 4 rfl dX1_addChains_3 ?_
    refine xiload_n C 3 rfl rfl dX1_addChains_5 ?_
    refine xicmp_ge C (tgt := 46) h (by decide) dX1_addChains_6 (fun h => ?_) (fun h => ?_)
    · obtain rfl := so_1 h
      exact xvret C rfl dX1_addChains_46
    · refine xaload_n C 0 rfl rfl dX1_addChains_9 ?_
      refine xg_1_length C a0.1 w_45 dX1_addChains_10 ?_
      refine xbipush C (v := (nI 30)) dX1_addChains_13 (by decide) ?_
      refine xicmp_ge C (tgt := 46) h (by decide) dX1_addChains_15 (fun h => ?_) (fun h => ?_)
      · obtain rfl := so_1 h
        exact xvret C rfl dX1_addChains_46
      · refine xaload_n C 0 rfl rfl dX1_addChains_18 ?_
        refine xdup C dX1_addChains_19 rfl ?_
        refine xg_1_length C a0.1 w_45 dX1_addChains_20 ?_
        refine xiconst C (v := (nI 1)) dX1_addChains_23 (by decide) ?_
        refine xiadd C dX1_addChains_24 ?_
        refine xp_1_length C a0.1 w_45 dX1_addChains_25 ?_
        generalize mset G q0 3 ((G q0 3) + (nI 1)) = G25 at h ⊢
        replace h := lt_go h
        refine xaload_n C 0 rfl rfl dX1_addChains_28 ?_
        refine xaload_n C 0 rfl rfl dX1_addChains_29 ?_
        refine xg_1_length C a0.1 w_45 dX1_addChains_30 ?_
        refine xiconst C (v := (nI 1)) dX1_addChains_33 (by decide) ?_
        refine xisub C dX1_addChains_34 ?_
        refine xiload_n C 1 rfl rfl dX1_addChains_35 ?_
        refine xiload_n C 2 rfl rfl dX1_addChains_36 ?_
        obtain ⟨G37, hc37, h⟩ := bv_some h
        refine xVv C (As := [.int ((G25 q0 3) - (nI 1)), .int x1, .int x2]) (rest := []) (kX1_changeChain a0 hc37) a0.1 rfl rfl w_63 mvX1_changeChain mwX1_changeChain rfl ⟨Nat.le_of_ble_eq_true rfl, Nat.le_of_ble_eq_true rfl⟩ ⟨Nat.le_refl _, Nat.le_refl _⟩ (Nat.le_of_ble_eq_true rfl) dX1_addChains_37 ?_
        refine xiinc C (v := (x4 + nI 1)) (lv' := [(4, .int (x4 + nI 1)), (0, .ref (ad q0)), (1, .int x1), (2, .int x2), (3, .int x3)]) 4 rfl rfl (by decide) rfl dX1_addChains_40 ?_
        refine xgoto C (tgt := 3) (by decide) dX1_addChains_43 ?_
        refine xsub C (lv' := [(0, .ref (ad q0)), (1, .int x1), (2, .int x2), (3, .int x3), (4, .int (x4 + nI 1))]) [1, 2, 3, 4, 0] rfl ?_
        exact hrec3 (x4 + nI 1) G37 h
theorem kX1_addChains  {q0 : Nat} {x1 : Int32} {x2 : Int32} {x3 : Int32} (a0 : A1 kd NP q0) {G : Mem} (h : fX1_addChains q0 x1 x2 x3 G = some G') : xMv l D cy ad kd NP A yX1_addChains cX1_addChains 5 none 2 44 [.ref (ad q0), .int x1, .int x2, .int x3] G G' := by
  refine xMv_of trivial (by decide +kernel) (Nat.le_of_ble_eq_true rfl) (fun p e s m args below meth c C => ?_)
  have C : xC p s m args meth c cX1_addChains RX1 5 none D cy := C
  refine xsub C (lv' := [(0, .ref (ad q0)), (1, .int x1), (2, .int x2), (3, .int x3)]) [0, 1, 2, 3] rfl ?_
  unfold fX1_addChains at h
  refine xiconst C (v := (nI 0)) dX1_addChains_0 (by decide) ?_
  refine xistore C (lv' := [(4, .int (nI 0)), (0, .ref (ad q0)), (1, .int x1), (2, .int x2), (3, .int x3)]) (by decide) rfl dX1_addChains_1 ?_
  refine xsub C (lv' := [(0, .ref (ad q0)), (1, .int x1), (2, .int x2), (3, .int x3), (4, .int (nI 0))]) [1, 2, 3, 4, 0] rfl ?_
  exact wX1_addChains_3 C q0 x1 x2 x3 a0 _ (nI 0) G h
/-- HedgeChains$Hedge.isToLay(I)Z -/
theorem kX1_isToLay {r : Int32}  {q0 : Nat} {x1 : Int32} (a0 : A1 kd NP q0) {G : Mem} (h : fX1_isToLay q0 x1 G = some (r, G')) : xMi l D cy ad kd NP A yX1_isToLay cX1_isToLay 2 (some .boolean) 1 21 [.ref (ad q0), .int x1] G r G' := by
  refine xMi_of trivial (by decide +kernel) (Nat.le_of_ble_eq_true rfl) (fun p e s m args below meth c C => ?_)
  have C : xC p s m args meth c cX1_isToLay RX1 2 (some .boolean) D cy := C
  refine xsub C (lv' := [(0, .ref (ad q0)), (1, .int x1)]) [0, 1] rfl ?_
  unfold fX1_isToLay at h
  refine xaload_n C 0 rfl rfl dX1_isToLay_0 ?_
  refine xiload_n C 1 rfl rfl dX1_isToLay_1 ?_
  obtain ⟨r2, G2, hc2, h⟩ := bd_some h
  refine xVi C (As := [.int x1]) (rest := []) (kX1_has a0 hc2) a0.1 rfl rfl w_67 mvX1_has mwX1_has rfl ⟨Nat.le_of_ble_eq_true rfl, Nat.le_of_ble_eq_true rfl⟩ ⟨Nat.le_refl _, Nat.le_refl _⟩ (Nat.le_of_ble_eq_true rfl) dX1_isToLay_2 ?_
  refine xif_eq C (tgt := 31) h (by decide) dX1_isToLay_5 (fun h => ?_) (fun h => ?_)
  · refine xiconst C (v := (nI 0)) dX1_isToLay_31 (by decide) ?_
    obtain ⟨rfl, rfl⟩ := so_2 h
    exact xzret C (Or.inl rfl) rfl dX1_isToLay_32
  · refine xaload_n C 0 rfl rfl dX1_isToLay_8 ?_
    refine xg_1_kinds C a0.1 w_42 dX1_isToLay_9 ?_
    refine xiload_n C 1 rfl rfl dX1_isToLay_12 ?_
    obtain ⟨hi13, h⟩ := ix_some h
    refine xia_10 C x1.toNatClampNeg rfl a0.2.1 hi13 dX1_isToLay_13 ?_
    refine xif_ne C (tgt := 31) h (by decide) dX1_isToLay_14 (fun h => ?_) (fun h => ?_)
    · refine xaload_n C 0 rfl rfl dX1_isToLay_17 ?_
      refine xg_1_thicknesses C a0.1 w_43 dX1_isToLay_18 ?_
      refine xiload_n C 1 rfl rfl dX1_isToLay_21 ?_
      obtain ⟨hi22, h⟩ := ix_some h
      refine xia_10 C x1.toNatClampNeg rfl a0.2.2.1 hi22 dX1_isToLay_22 ?_
      refine xiconst C (v := (nI 2)) dX1_isToLay_23 (by decide) ?_
      refine xicmp_lt C (tgt := 31) h (by decide) dX1_isToLay_24 (fun h => ?_) (fun h => ?_)
      · refine xiconst C (v := (nI 0)) dX1_isToLay_31 (by decide) ?_
        obtain ⟨rfl, rfl⟩ := so_2 h
        exact xzret C (Or.inl rfl) rfl dX1_isToLay_32
      · refine xiconst C (v := (nI 1)) dX1_isToLay_27 (by decide) ?_
        refine xgoto C (tgt := 32) (by decide) dX1_isToLay_28 ?_
        obtain ⟨rfl, rfl⟩ := so_2 h
        exact xzret C (Or.inr rfl) rfl dX1_isToLay_32
    · refine xiconst C (v := (nI 0)) dX1_isToLay_31 (by decide) ?_
      obtain ⟨rfl, rfl⟩ := so_2 h
      exact xzret C (Or.inl rfl) rfl dX1_isToLay_32
/-- HedgeChains$Hedge.thicknessOf(I)I -/
theorem kX1_thicknessOf {r : Int32}  {q0 : Nat} {x1 : Int32} (a0 : A1 kd NP q0) {G : Mem} (h : fX1_thicknessOf q0 x1 G = some (r, G')) : xMi l D cy ad kd NP A yX1_thicknessOf cX1_thicknessOf 2 (some .int) 1 21 [.ref (ad q0), .int x1] G r G' := by
  refine xMi_of trivial (by decide +kernel) (Nat.le_of_ble_eq_true rfl) (fun p e s m args below meth c C => ?_)
  have C : xC p s m args meth c cX1_thicknessOf RX1 2 (some .int) D cy := C
  refine xsub C (lv' := [(0, .ref (ad q0)), (1, .int x1)]) [0, 1] rfl ?_
  unfold fX1_thicknessOf at h
  refine xaload_n C 0 rfl rfl dX1_thicknessOf_0 ?_
  refine xiload_n C 1 rfl rfl dX1_thicknessOf_1 ?_
  obtain ⟨r2, G2, hc2, h⟩ := bd_some h
  refine xVi C (As := [.int x1]) (rest := []) (kX1_has a0 hc2) a0.1 rfl rfl w_67 mvX1_has mwX1_has rfl ⟨Nat.le_of_ble_eq_true rfl, Nat.le_of_ble_eq_true rfl⟩ ⟨Nat.le_refl _, Nat.le_refl _⟩ (Nat.le_of_ble_eq_true rfl) dX1_thicknessOf_2 ?_
  refine xif_eq C (tgt := 17) h (by decide) dX1_thicknessOf_5 (fun h => ?_) (fun h => ?_)
  · refine xiconst C (v := (nI 0)) dX1_thicknessOf_17 (by decide) ?_
    obtain ⟨rfl, rfl⟩ := so_2 h
    exact xiret C rfl dX1_thicknessOf_18
  · refine xaload_n C 0 rfl rfl dX1_thicknessOf_8 ?_
    refine xg_1_thicknesses C a0.1 w_43 dX1_thicknessOf_9 ?_
    refine xiload_n C 1 rfl rfl dX1_thicknessOf_12 ?_
    obtain ⟨hi13, h⟩ := ix_some h
    refine xia_10 C x1.toNatClampNeg rfl a0.2.2.1 hi13 dX1_thicknessOf_13 ?_
    refine xgoto C (tgt := 18) (by decide) dX1_thicknessOf_14 ?_
    obtain ⟨rfl, rfl⟩ := so_2 h
    exact xiret C rfl dX1_thicknessOf_18
/-- HedgeChains$Hedge.copyFrom(LHedgeChains$Hedge;)V -/
theorem kX1_copyFrom  {q0 : Nat} {q1 : Nat} (a0 : A1 kd NP q0) (a1 : A1 kd NP q1) {G : Mem} (h : fX1_copyFrom q0 q1 G = some G') : xMv l D cy ad kd NP A yX1_copyFrom cX1_copyFrom 2 none 1 26 [.ref (ad q0), .ref (ad q1)] G G' := by
  refine xMv_of trivial (by decide +kernel) (Nat.le_of_ble_eq_true rfl) (fun p e s m args below meth c C => ?_)
  have C : xC p s m args meth c cX1_copyFrom RX1 2 none D cy := C
  refine xsub C (lv' := [(0, .ref (ad q0)), (1, .ref (ad q1))]) [0, 1] rfl ?_
  unfold fX1_copyFrom at h
  refine xaload_n C 1 rfl rfl dX1_copyFrom_0 ?_
  refine xg_1_kinds C a1.1 w_42 dX1_copyFrom_1 ?_
  refine xiconst C (v := (nI 0)) dX1_copyFrom_4 (by decide) ?_
  refine xaload_n C 0 rfl rfl dX1_copyFrom_5 ?_
  refine xg_1_kinds C a0.1 w_42 dX1_copyFrom_6 ?_
  refine xiconst C (v := (nI 0)) dX1_copyFrom_9 (by decide) ?_
  refine xbipush C (v := (nI 30)) dX1_copyFrom_10 (by decide) ?_
  refine xcopy30 C a1.2.1 a0.2.1 w_317 w_319 w_318 w_11 ⟨Nat.le_of_ble_eq_true rfl, by decide +kernel⟩ dX1_copyFrom_12 ?_
  generalize mrow G (q0 + 1) (va_cpy (G (q1 + 1)) (G (q0 + 1)) 0 0 30) = G12 at h ⊢
  replace h := lt_go h
  refine xaload_n C 1 rfl rfl dX1_copyFrom_15 ?_
  refine xg_1_thicknesses C a1.1 w_43 dX1_copyFrom_16 ?_
  refine xiconst C (v := (nI 0)) dX1_copyFrom_19 (by decide) ?_
  refine xaload_n C 0 rfl rfl dX1_copyFrom_20 ?_
  refine xg_1_thicknesses C a0.1 w_43 dX1_copyFrom_21 ?_
  refine xiconst C (v := (nI 0)) dX1_copyFrom_24 (by decide) ?_
  refine xbipush C (v := (nI 30)) dX1_copyFrom_25 (by decide) ?_
  refine xcopy30 C a1.2.2.1 a0.2.2.1 w_317 w_319 w_318 w_11 ⟨Nat.le_of_ble_eq_true rfl, by decide +kernel⟩ dX1_copyFrom_27 ?_
  generalize mrow G12 (q0 + 2) (va_cpy (G12 (q1 + 2)) (G12 (q0 + 2)) 0 0 30) = G27 at h ⊢
  replace h := lt_go h
  refine xaload_n C 1 rfl rfl dX1_copyFrom_30 ?_
  refine xg_1_ages C a1.1 w_44 dX1_copyFrom_31 ?_
  refine xiconst C (v := (nI 0)) dX1_copyFrom_34 (by decide) ?_
  refine xaload_n C 0 rfl rfl dX1_copyFrom_35 ?_
  refine xg_1_ages C a0.1 w_44 dX1_copyFrom_36 ?_
  refine xiconst C (v := (nI 0)) dX1_copyFrom_39 (by decide) ?_
  refine xbipush C (v := (nI 30)) dX1_copyFrom_40 (by decide) ?_
  refine xcopy30 C a1.2.2.2 a0.2.2.2 w_317 w_319 w_318 w_11 ⟨Nat.le_of_ble_eq_true rfl, by decide +kernel⟩ dX1_copyFrom_42 ?_
  generalize mrow G27 (q0 + 3) (va_cpy (G27 (q1 + 3)) (G27 (q0 + 3)) 0 0 30) = G42 at h ⊢
  replace h := lt_go h
  refine xaload_n C 0 rfl rfl dX1_copyFrom_45 ?_
  refine xaload_n C 1 rfl rfl dX1_copyFrom_46 ?_
  refine xg_1_length C a1.1 w_45 dX1_copyFrom_47 ?_
  refine xp_1_length C a0.1 w_45 dX1_copyFrom_50 ?_
  generalize mset G42 q0 3 (G42 q1 3) = G50 at h ⊢
  replace h := lt_go h
  obtain rfl := so_1 h
  exact xvret C rfl dX1_copyFrom_53
/-- HedgeChains$Contract.copyFrom(LHedgeChains$Contract;)V -/
theorem kX0_copyFrom  {q0 : Nat} {q1 : Nat} (a0 : A0 kd NP q0) (a1 : A0 kd NP q1) {G : Mem} (h : fX0_copyFrom q0 q1 G = some G') : xMv l D cy ad kd NP A yX0_copyFrom cX0_copyFrom 2 none 0 0 [.ref (ad q0), .ref (ad q1)] G G' := by
  refine xMv_of trivial (by decide +kernel) (Nat.le_of_ble_eq_true rfl) (fun p e s m args below meth c C => ?_)
  have C : xC p s m args meth c cX0_copyFrom RX0 2 none D cy := C
  refine xsub C (lv' := [(0, .ref (ad q0)), (1, .ref (ad q1))]) [0, 1] rfl ?_
  unfold fX0_copyFrom at h
  refine xaload_n C 0 rfl rfl dX0_copyFrom_0 ?_
  refine xaload_n C 1 rfl rfl dX0_copyFrom_1 ?_
  refine xg_0_made C a1 w_76 dX0_copyFrom_2 ?_
  obtain ⟨hz5, h⟩ := zk_some h
  refine xp_0_made C a0 hz5 w_76 dX0_copyFrom_5 ?_
  generalize mset G q0 0 (G q1 0) = G5 at h ⊢
  replace h := lt_go h
  refine xaload_n C 0 rfl rfl dX0_copyFrom_8 ?_
  refine xaload_n C 1 rfl rfl dX0_copyFrom_9 ?_
  refine xg_0_price C a1 w_80 dX0_copyFrom_10 ?_
  refine xp_0_price C a0 w_80 dX0_copyFrom_13 ?_
  generalize mset G5 q0 1 (G5 q1 1) = G13 at h ⊢
  replace h := lt_go h
  refine xaload_n C 0 rfl rfl dX0_copyFrom_16 ?_
  refine xaload_n C 1 rfl rfl dX0_copyFrom_17 ?_
  refine xg_0_lastWeek C a1 w_83 dX0_copyFrom_18 ?_
  refine xp_0_lastWeek C a0 w_83 dX0_copyFrom_21 ?_
  generalize mset G13 q0 2 (G13 q1 2) = G21 at h ⊢
  replace h := lt_go h
  refine xaload_n C 0 rfl rfl dX0_copyFrom_24 ?_
  refine xaload_n C 1 rfl rfl dX0_copyFrom_25 ?_
  refine xg_0_fine C a1 w_87 dX0_copyFrom_26 ?_
  refine xp_0_fine C a0 w_87 dX0_copyFrom_29 ?_
  generalize mset G21 q0 3 (G21 q1 3) = G29 at h ⊢
  replace h := lt_go h
  obtain rfl := so_1 h
  exact xvret C rfl dX0_copyFrom_32
/-- HedgeChains$Hedge.kindOf(I)I -/
theorem kX1_kindOf {r : Int32}  {q0 : Nat} {x1 : Int32} (a0 : A1 kd NP q0) {G : Mem} (h : fX1_kindOf q0 x1 G = some (r, G')) : xMi l D cy ad kd NP A yX1_kindOf cX1_kindOf 2 (some .int) 1 21 [.ref (ad q0), .int x1] G r G' := by
  refine xMi_of trivial (by decide +kernel) (Nat.le_of_ble_eq_true rfl) (fun p e s m args below meth c C => ?_)
  have C : xC p s m args meth c cX1_kindOf RX1 2 (some .int) D cy := C
  refine xsub C (lv' := [(0, .ref (ad q0)), (1, .int x1)]) [0, 1] rfl ?_
  unfold fX1_kindOf at h
  refine xaload_n C 0 rfl rfl dX1_kindOf_0 ?_
  refine xiload_n C 1 rfl rfl dX1_kindOf_1 ?_
  obtain ⟨r2, G2, hc2, h⟩ := bd_some h
  refine xVi C (As := [.int x1]) (rest := []) (kX1_has a0 hc2) a0.1 rfl rfl w_67 mvX1_has mwX1_has rfl ⟨Nat.le_of_ble_eq_true rfl, Nat.le_of_ble_eq_true rfl⟩ ⟨Nat.le_refl _, Nat.le_refl _⟩ (Nat.le_of_ble_eq_true rfl) dX1_kindOf_2 ?_
  refine xif_eq C (tgt := 17) h (by decide) dX1_kindOf_5 (fun h => ?_) (fun h => ?_)
  · refine xiconst C (v := (-1)) dX1_kindOf_17 (by decide) ?_
    obtain ⟨rfl, rfl⟩ := so_2 h
    exact xiret C rfl dX1_kindOf_18
  · refine xaload_n C 0 rfl rfl dX1_kindOf_8 ?_
    refine xg_1_kinds C a0.1 w_42 dX1_kindOf_9 ?_
    refine xiload_n C 1 rfl rfl dX1_kindOf_12 ?_
    obtain ⟨hi13, h⟩ := ix_some h
    refine xia_10 C x1.toNatClampNeg rfl a0.2.1 hi13 dX1_kindOf_13 ?_
    refine xgoto C (tgt := 18) (by decide) dX1_kindOf_14 ?_
    obtain ⟨rfl, rfl⟩ := so_2 h
    exact xiret C rfl dX1_kindOf_18
/-- HedgeChains$Hedge.numberOf(I)I -/
theorem wX1_numberOf_4 {r : Int32} (C : xC p s m args meth c cX1_numberOf RX1 4 (some .int) D cy) (q0 : Nat) (x1 : Int32) (a0 : A1 kd NP q0) : ∀ (n : Nat) (x2 : Int32) (x3 : Int32) (G : Mem) (h : itr n (FX1_numberOf_4 q0 x1) (x2, x3, G) = some (r, G')), xX p l e (xR 2 42) s m args below meth c A s.heap D cy ad kd NP 4 0 0 (xQi below D cy ad kd NP A args s r G') G 4 [(0, .ref (ad q0)), (1, .int x1), (2, .int x2), (3, .int x3)] [] := by
  intro n
  induction n with
  | zero =>
    intro x2 x3 G h
    have h : none = some (r, G') := h
    cases h
  | succ n ih =>
    intro x2 x3 G h
    have h : bX1_numberOf_4 q0 x1 (itr n (FX1_numberOf_4 q0 x1)) x2 x3 G = some (r, G') := h
    have hrec4 : ∀ (x2 : Int32) (x3 : Int32) (G : Mem), itr n (FX1_numberOf_4 q0 x1) (x2, x3, G) = some (r, G') → xX p l e (xR 2 42) s m args below meth c A s.heap D cy ad kd NP 4 0 0 (xQi below D cy ad kd NP A args s r G') G 4 [(0, .ref (ad q0)), (1, .int x1), (2, .int x2), (3, .int x3)] [] := fun x2 x3 G h => ih x2 x3 G h
    unfold bX1_numberOf_4 at h
    refine xiload_n C 3 rfl rfl dX1_numberOf_4 ?_
    refine xaload_n C 0 rfl rfl dX1_numberOf_5 ?_
    refine xg_1_length C a0.1 w_45 dX1_numberOf_6 ?_
    refine xicmp_ge C (tgt := 30) h (by decide) dX1_numberOf_9 (fun h => ?_) (fun h => ?_)
    · refine xiload_n C 2 rfl rfl dX1_numberOf_30 ?_
      obtain ⟨rfl, rfl⟩ := so_2 h
      exact xiret C rfl dX1_numberOf_31
    · refine xaload_n C 0 rfl rfl dX1_numberOf_12 ?_
      refine xiload_n C 3 rfl rfl dX1_numberOf_13 ?_
      obtain ⟨r14, G14, hc14, h⟩ := bd_some h
      refine xVi C (As := [.int x3]) (rest := []) (kX1_kindOf a0 hc14) a0.1 rfl rfl w_340 mvX1_kindOf mwX1_kindOf rfl ⟨Nat.le_of_ble_eq_true rfl, Nat.le_of_ble_eq_true rfl⟩ ⟨Nat.le_refl _, Nat.le_refl _⟩ (Nat.le_of_ble_eq_true rfl) dX1_numberOf_14 ?_
      refine xiload_n C 1 rfl rfl dX1_numberOf_17 ?_
      refine xicmp_ne C (tgt := 24) h (by decide) dX1_numberOf_18 (fun h => ?_) (fun h => ?_)
      · refine xiinc C (v := (x2 + nI 1)) (lv' := [(2, .int (x2 + nI 1)), (0, .ref (ad q0)), (1, .int x1), (3, .int x3)]) 2 rfl rfl (by decide) rfl dX1_numberOf_21 ?_
        refine xiinc C (v := (x3 + nI 1)) (lv' := [(3, .int (x3 + nI 1)), (2, .int (x2 + nI 1)), (0, .ref (ad q0)), (1, .int x1)]) 3 rfl rfl (by decide) rfl dX1_numberOf_24 ?_
        refine xgoto C (tgt := 4) (by decide) dX1_numberOf_27 ?_
        refine xsub C (lv' := [(0, .ref (ad q0)), (1, .int x1), (2, .int (x2 + nI 1)), (3, .int (x3 + nI 1))]) [2, 3, 1, 0] rfl ?_
        exact hrec4 (x2 + nI 1) (x3 + nI 1) G14 h
      · refine xiinc C (v := (x3 + nI 1)) (lv' := [(3, .int (x3 + nI 1)), (0, .ref (ad q0)), (1, .int x1), (2, .int x2)]) 3 rfl rfl (by decide) rfl dX1_numberOf_24 ?_
        refine xgoto C (tgt := 4) (by decide) dX1_numberOf_27 ?_
        refine xsub C (lv' := [(0, .ref (ad q0)), (1, .int x1), (2, .int x2), (3, .int (x3 + nI 1))]) [1, 2, 3, 0] rfl ?_
        exact hrec4 x2 (x3 + nI 1) G14 h
theorem kX1_numberOf {r : Int32}  {q0 : Nat} {x1 : Int32} (a0 : A1 kd NP q0) {G : Mem} (h : fX1_numberOf q0 x1 G = some (r, G')) : xMi l D cy ad kd NP A yX1_numberOf cX1_numberOf 4 (some .int) 2 42 [.ref (ad q0), .int x1] G r G' := by
  refine xMi_of trivial (by decide +kernel) (Nat.le_of_ble_eq_true rfl) (fun p e s m args below meth c C => ?_)
  have C : xC p s m args meth c cX1_numberOf RX1 4 (some .int) D cy := C
  refine xsub C (lv' := [(0, .ref (ad q0)), (1, .int x1)]) [0, 1] rfl ?_
  unfold fX1_numberOf at h
  refine xiconst C (v := (nI 0)) dX1_numberOf_0 (by decide) ?_
  refine xistore_n C (lv' := [(2, .int (nI 0)), (0, .ref (ad q0)), (1, .int x1)]) rfl (by decide) rfl dX1_numberOf_1 ?_
  refine xiconst C (v := (nI 0)) dX1_numberOf_2 (by decide) ?_
  refine xistore_n C (lv' := [(3, .int (nI 0)), (2, .int (nI 0)), (0, .ref (ad q0)), (1, .int x1)]) rfl (by decide) rfl dX1_numberOf_3 ?_
  refine xsub C (lv' := [(0, .ref (ad q0)), (1, .int x1), (2, .int (nI 0)), (3, .int (nI 0))]) [2, 3, 1, 0] rfl ?_
  exact wX1_numberOf_4 C q0 x1 a0 _ (nI 0) (nI 0) G h
/-- HedgeChains$Hedge.isToCut(I)Z -/
theorem kX1_isToCut {r : Int32}  {q0 : Nat} {x1 : Int32} (a0 : A1 kd NP q0) {G : Mem} (h : fX1_isToCut q0 x1 G = some (r, G')) : xMi l D cy ad kd NP A yX1_isToCut cX1_isToCut 2 (some .boolean) 1 21 [.ref (ad q0), .int x1] G r G' := by
  refine xMi_of trivial (by decide +kernel) (Nat.le_of_ble_eq_true rfl) (fun p e s m args below meth c C => ?_)
  have C : xC p s m args meth c cX1_isToCut RX1 2 (some .boolean) D cy := C
  refine xsub C (lv' := [(0, .ref (ad q0)), (1, .int x1)]) [0, 1] rfl ?_
  unfold fX1_isToCut at h
  refine xaload_n C 0 rfl rfl dX1_isToCut_0 ?_
  refine xiload_n C 1 rfl rfl dX1_isToCut_1 ?_
  obtain ⟨r2, G2, hc2, h⟩ := bd_some h
  refine xVi C (As := [.int x1]) (rest := []) (kX1_has a0 hc2) a0.1 rfl rfl w_67 mvX1_has mwX1_has rfl ⟨Nat.le_of_ble_eq_true rfl, Nat.le_of_ble_eq_true rfl⟩ ⟨Nat.le_refl _, Nat.le_refl _⟩ (Nat.le_of_ble_eq_true rfl) dX1_isToCut_2 ?_
  refine xif_eq C (tgt := 31) h (by decide) dX1_isToCut_5 (fun h => ?_) (fun h => ?_)
  · refine xiconst C (v := (nI 0)) dX1_isToCut_31 (by decide) ?_
    obtain ⟨rfl, rfl⟩ := so_2 h
    exact xzret C (Or.inl rfl) rfl dX1_isToCut_32
  · refine xaload_n C 0 rfl rfl dX1_isToCut_8 ?_
    refine xg_1_kinds C a0.1 w_42 dX1_isToCut_9 ?_
    refine xiload_n C 1 rfl rfl dX1_isToCut_12 ?_
    obtain ⟨hi13, h⟩ := ix_some h
    refine xia_10 C x1.toNatClampNeg rfl a0.2.1 hi13 dX1_isToCut_13 ?_
    refine xif_ne C (tgt := 31) h (by decide) dX1_isToCut_14 (fun h => ?_) (fun h => ?_)
    · refine xaload_n C 0 rfl rfl dX1_isToCut_17 ?_
      refine xg_1_thicknesses C a0.1 w_43 dX1_isToCut_18 ?_
      refine xiload_n C 1 rfl rfl dX1_isToCut_21 ?_
      obtain ⟨hi22, h⟩ := ix_some h
      refine xia_10 C x1.toNatClampNeg rfl a0.2.2.1 hi22 dX1_isToCut_22 ?_
      refine xiconst C (v := (nI 3)) dX1_isToCut_23 (by decide) ?_
      refine xicmp_lt C (tgt := 31) h (by decide) dX1_isToCut_24 (fun h => ?_) (fun h => ?_)
      · refine xiconst C (v := (nI 0)) dX1_isToCut_31 (by decide) ?_
        obtain ⟨rfl, rfl⟩ := so_2 h
        exact xzret C (Or.inl rfl) rfl dX1_isToCut_32
      · refine xiconst C (v := (nI 1)) dX1_isToCut_27 (by decide) ?_
        refine xgoto C (tgt := 32) (by decide) dX1_isToCut_28 ?_
        obtain ⟨rfl, rfl⟩ := so_2 h
        exact xzret C (Or.inr rfl) rfl dX1_isToCut_32
    · refine xiconst C (v := (nI 0)) dX1_isToCut_31 (by decide) ?_
      obtain ⟨rfl, rfl⟩ := so_2 h
      exact xzret C (Or.inl rfl) rfl dX1_isToCut_32
/-- HedgeChains$Hedge.ageOf(I)I -/
theorem kX1_ageOf {r : Int32}  {q0 : Nat} {x1 : Int32} (a0 : A1 kd NP q0) {G : Mem} (h : fX1_ageOf q0 x1 G = some (r, G')) : xMi l D cy ad kd NP A yX1_ageOf cX1_ageOf 2 (some .int) 1 21 [.ref (ad q0), .int x1] G r G' := by
  refine xMi_of trivial (by decide +kernel) (Nat.le_of_ble_eq_true rfl) (fun p e s m args below meth c C => ?_)
  have C : xC p s m args meth c cX1_ageOf RX1 2 (some .int) D cy := C
  refine xsub C (lv' := [(0, .ref (ad q0)), (1, .int x1)]) [0, 1] rfl ?_
  unfold fX1_ageOf at h
  refine xaload_n C 0 rfl rfl dX1_ageOf_0 ?_
  refine xiload_n C 1 rfl rfl dX1_ageOf_1 ?_
  obtain ⟨r2, G2, hc2, h⟩ := bd_some h
  refine xVi C (As := [.int x1]) (rest := []) (kX1_has a0 hc2) a0.1 rfl rfl w_67 mvX1_has mwX1_has rfl ⟨Nat.le_of_ble_eq_true rfl, Nat.le_of_ble_eq_true rfl⟩ ⟨Nat.le_refl _, Nat.le_refl _⟩ (Nat.le_of_ble_eq_true rfl) dX1_ageOf_2 ?_
  refine xif_eq C (tgt := 17) h (by decide) dX1_ageOf_5 (fun h => ?_) (fun h => ?_)
  · refine xiconst C (v := (nI 0)) dX1_ageOf_17 (by decide) ?_
    obtain ⟨rfl, rfl⟩ := so_2 h
    exact xiret C rfl dX1_ageOf_18
  · refine xaload_n C 0 rfl rfl dX1_ageOf_8 ?_
    refine xg_1_ages C a0.1 w_44 dX1_ageOf_9 ?_
    refine xiload_n C 1 rfl rfl dX1_ageOf_12 ?_
    obtain ⟨hi13, h⟩ := ix_some h
    refine xia_10 C x1.toNatClampNeg rfl a0.2.2.2 hi13 dX1_ageOf_13 ?_
    refine xgoto C (tgt := 18) (by decide) dX1_ageOf_14 ?_
    obtain ⟨rfl, rfl⟩ := so_2 h
    exact xiret C rfl dX1_ageOf_18
/-- HedgeChains$Hedge.growOlder(I)V -/
theorem kX1_growOlder  {q0 : Nat} {x1 : Int32} (a0 : A1 kd NP q0) {G : Mem} (h : fX1_growOlder q0 x1 G = some G') : xMv l D cy ad kd NP A yX1_growOlder cX1_growOlder 2 none 2 44 [.ref (ad q0), .int x1] G G' := by
  refine xMv_of trivial (by decide +kernel) (Nat.le_of_ble_eq_true rfl) (fun p e s m args below meth c C => ?_)
  have C : xC p s m args meth c cX1_growOlder RX1 2 none D cy := C
  refine xsub C (lv' := [(0, .ref (ad q0)), (1, .int x1)]) [0, 1] rfl ?_
  unfold fX1_growOlder at h
  refine xaload_n C 0 rfl rfl dX1_growOlder_0 ?_
  refine xiload_n C 1 rfl rfl dX1_growOlder_1 ?_
  obtain ⟨r2, G2, hc2, h⟩ := bd_some h
  refine xVi C (As := [.int x1]) (rest := []) (kX1_ageOf a0 hc2) a0.1 rfl rfl w_398 mvX1_ageOf mwX1_ageOf rfl ⟨Nat.le_of_ble_eq_true rfl, Nat.le_of_ble_eq_true rfl⟩ ⟨Nat.le_refl _, Nat.le_refl _⟩ (Nat.le_of_ble_eq_true rfl) dX1_growOlder_2 ?_
  refine xiconst C (v := (nI 1)) dX1_growOlder_5 (by decide) ?_
  refine xiadd C dX1_growOlder_6 ?_
  refine xbipush C (v := (nI 6)) dX1_growOlder_7 (by decide) ?_
  refine xicmp_lt C (tgt := 22) h (by decide) dX1_growOlder_9 (fun h => ?_) (fun h => ?_)
  · refine xaload_n C 0 rfl rfl dX1_growOlder_22 ?_
    refine xiload_n C 1 rfl rfl dX1_growOlder_23 ?_
    obtain ⟨r24, G24, hc24, h⟩ := bd_some h
    refine xVi C (As := [.int x1]) (rest := []) (kX1_has a0 hc24) a0.1 rfl rfl w_67 mvX1_has mwX1_has rfl ⟨Nat.le_of_ble_eq_true rfl, Nat.le_of_ble_eq_true rfl⟩ ⟨Nat.le_refl _, Nat.le_refl _⟩ (Nat.le_of_ble_eq_true rfl) dX1_growOlder_24 ?_
    refine xif_eq C (tgt := 40) h (by decide) dX1_growOlder_27 (fun h => ?_) (fun h => ?_)
    · obtain rfl := so_1 h
      exact xvret C rfl dX1_growOlder_40
    · refine xaload_n C 0 rfl rfl dX1_growOlder_30 ?_
      refine xg_1_ages C a0.1 w_44 dX1_growOlder_31 ?_
      refine xiload_n C 1 rfl rfl dX1_growOlder_34 ?_
      refine xdup2 C dX1_growOlder_35 rfl rfl ?_
      obtain ⟨hi36, h⟩ := ix_some h
      refine xia_10 C x1.toNatClampNeg rfl a0.2.2.2 hi36 dX1_growOlder_36 ?_
      refine xiconst C (v := (nI 1)) dX1_growOlder_37 (by decide) ?_
      refine xiadd C dX1_growOlder_38 ?_
      obtain ⟨hi39, h⟩ := ix_some h
      refine xis_10 C x1.toNatClampNeg rfl a0.2.2.2 hi39 dX1_growOlder_39 ?_
      generalize mset G24 (q0 + 3) x1.toNatClampNeg ((G24 (q0 + 3) x1.toNatClampNeg) + (nI 1)) = G39 at h ⊢
      replace h := lt_go h
      obtain rfl := so_1 h
      exact xvret C rfl dX1_growOlder_40
  · refine xaload_n C 0 rfl rfl dX1_growOlder_12 ?_
    refine xiload_n C 1 rfl rfl dX1_growOlder_13 ?_
    refine xiconst C (v := (nI 0)) dX1_growOlder_14 (by decide) ?_
    refine xiconst C (v := (nI 1)) dX1_growOlder_15 (by decide) ?_
    obtain ⟨G16, hc16, h⟩ := bv_some h
    refine xVv C (As := [.int x1, .int (nI 0), .int (nI 1)]) (rest := []) (kX1_changeChain a0 hc16) a0.1 rfl rfl w_63 mvX1_changeChain mwX1_changeChain rfl ⟨Nat.le_of_ble_eq_true rfl, Nat.le_of_ble_eq_true rfl⟩ ⟨Nat.le_refl _, Nat.le_refl _⟩ (Nat.le_of_ble_eq_true rfl) dX1_growOlder_16 ?_
    refine xgoto C (tgt := 40) (by decide) dX1_growOlder_19 ?_
    obtain rfl := so_1 h
    exact xvret C rfl dX1_growOlder_40
/-- HedgeChains$Hedge.growLaid(I)V -/
theorem kX1_growLaid  {q0 : Nat} {x1 : Int32} (a0 : A1 kd NP q0) {G : Mem} (h : fX1_growLaid q0 x1 G = some G') : xMv l D cy ad kd NP A yX1_growLaid cX1_growLaid 3 none 2 44 [.ref (ad q0), .int x1] G G' := by
  refine xMv_of trivial (by decide +kernel) (Nat.le_of_ble_eq_true rfl) (fun p e s m args below meth c C => ?_)
  have C : xC p s m args meth c cX1_growLaid RX1 3 none D cy := C
  refine xsub C (lv' := [(0, .ref (ad q0)), (1, .int x1)]) [0, 1] rfl ?_
  unfold fX1_growLaid at h
  refine xaload_n C 0 rfl rfl dX1_growLaid_0 ?_
  refine xiload_n C 1 rfl rfl dX1_growLaid_1 ?_
  obtain ⟨r2, G2, hc2, h⟩ := bd_some h
  refine xVi C (As := [.int x1]) (rest := []) (kX1_thicknessOf a0 hc2) a0.1 rfl rfl w_402 mvX1_thicknessOf mwX1_thicknessOf rfl ⟨Nat.le_of_ble_eq_true rfl, Nat.le_of_ble_eq_true rfl⟩ ⟨Nat.le_refl _, Nat.le_refl _⟩ (Nat.le_of_ble_eq_true rfl) dX1_growLaid_2 ?_
  refine xiconst C (v := (nI 2)) dX1_growLaid_5 (by decide) ?_
  refine xiadd C dX1_growLaid_6 ?_
  refine xistore_n C (lv' := [(2, .int (r2 + (nI 2))), (0, .ref (ad q0)), (1, .int x1)]) rfl (by decide) rfl dX1_growLaid_7 ?_
  refine xiload_n C 0 rfl rfl dX1_growLaid_8 ?_
  refine xbipush C (v := (nI 9)) dX1_growLaid_9 (by decide) ?_
  refine xicmp_le C (tgt := 25) h (by decide) dX1_growLaid_11 (fun h => ?_) (fun h => ?_)
  · refine xaload_n C 1 rfl rfl dX1_growLaid_25 ?_
    refine xiload_n C 2 rfl rfl dX1_growLaid_26 ?_
    refine xiconst C (v := (nI 1)) dX1_growLaid_27 (by decide) ?_
    refine xiload_n C 0 rfl rfl dX1_growLaid_28 ?_
    obtain ⟨G29, hc29, h⟩ := bv_some h
    refine xVv C (As := [.int x1, .int (nI 1), .int (r2 + (nI 2))]) (rest := []) (kX1_changeChain a0 hc29) a0.1 rfl rfl w_63 mvX1_changeChain mwX1_changeChain rfl ⟨Nat.le_of_ble_eq_true rfl, Nat.le_of_ble_eq_true rfl⟩ ⟨Nat.le_refl _, Nat.le_refl _⟩ (Nat.le_of_ble_eq_true rfl) dX1_growLaid_29 ?_
    obtain rfl := so_1 h
    exact xvret C rfl dX1_growLaid_32
  · refine xaload_n C 1 rfl rfl dX1_growLaid_14 ?_
    refine xiload_n C 2 rfl rfl dX1_growLaid_15 ?_
    refine xiconst C (v := (nI 0)) dX1_growLaid_16 (by decide) ?_
    refine xbipush C (v := (nI 9)) dX1_growLaid_17 (by decide) ?_
    obtain ⟨G19, hc19, h⟩ := bv_some h
    refine xVv C (As := [.int x1, .int (nI 0), .int (nI 9)]) (rest := []) (kX1_changeChain a0 hc19) a0.1 rfl rfl w_63 mvX1_changeChain mwX1_changeChain rfl ⟨Nat.le_of_ble_eq_true rfl, Nat.le_of_ble_eq_true rfl⟩ ⟨Nat.le_refl _, Nat.le_refl _⟩ (Nat.le_of_ble_eq_true rfl) dX1_growLaid_19 ?_
    refine xgoto C (tgt := 32) (by decide) dX1_growLaid_22 ?_
    obtain rfl := so_1 h
    exact xvret C rfl dX1_growLaid_32
/-- HedgeChains$Hedge.grow(I)V -/
theorem wX1_grow_60 (C : xC p s m args meth c cX1_grow RX1 4 none D cy) (q0 : Nat) (x1 : Int32) (x2 : Int32) (x3 : Int32) {rec2 : (Int32 × Mem) → Option (Mem)} (hrec2 : ∀ (x2 : Int32) (G : Mem), rec2 (x2, G) = some G' → xX p l e (xR 3 66) s m args below meth c A s.heap D cy ad kd NP 4 0 0 (xQv below D cy ad kd NP A args s G') G 2 [(0, .ref (ad q0)), (1, .int x1), (2, .int x2)] []) (G : Mem) (a0 : A1 kd NP q0) (h : jX1_grow_60 rec2 q0 x1 x2 x3 G = some G') : xX p l e (xR 3 66) s m args below meth c A s.heap D cy ad kd NP 4 0 0 (xQv below D cy ad kd NP A args s G') G 60 [(0, .ref (ad q0)), (1, .int x1), (2, .int x2), (3, .int x3)] [] := by
  unfold jX1_grow_60 at h
  refine xiload_n C 3 rfl rfl dX1_grow_60 ?_
  refine xiconst C (v := (nI 1)) dX1_grow_61 (by decide) ?_
  refine xicmp_ne C (tgt := 77) h (by decide) dX1_grow_62 (fun h => ?_) (fun h => ?_)
  · refine xiload_n C 1 rfl rfl dX1_grow_65 ?_
    refine xbipush C (v := (nI 52)) dX1_grow_66 (by decide) ?_
    refine xirem C dX1_grow_68 (by decide) ?_
    refine xif_ne C (tgt := 77) h (by decide) dX1_grow_69 (fun h => ?_) (fun h => ?_)
    · refine xaload_n C 0 rfl rfl dX1_grow_72 ?_
      refine xiload_n C 2 rfl rfl dX1_grow_73 ?_
      obtain ⟨G74, hc74, h⟩ := bv_some h
      refine xVv C (As := [.int x2]) (rest := []) (kX1_growLaid a0 hc74) a0.1 rfl rfl w_404 mvX1_growLaid mwX1_growLaid rfl ⟨Nat.le_of_ble_eq_true rfl, Nat.le_of_ble_eq_true rfl⟩ ⟨Nat.le_refl _, Nat.le_refl _⟩ (Nat.le_of_ble_eq_true rfl) dX1_grow_74 ?_
      refine xiinc C (v := (x2 + nI 1)) (lv' := [(2, .int (x2 + nI 1)), (0, .ref (ad q0)), (1, .int x1), (3, .int x3)]) 2 rfl rfl (by decide) rfl dX1_grow_77 ?_
      refine xgoto C (tgt := 2) (by decide) dX1_grow_80 ?_
      refine xsub C (lv' := [(0, .ref (ad q0)), (1, .int x1), (2, .int (x2 + nI 1))]) [1, 2, 0] rfl ?_
      exact hrec2 (x2 + nI 1) G74 h
    · refine xiinc C (v := (x2 + nI 1)) (lv' := [(2, .int (x2 + nI 1)), (0, .ref (ad q0)), (1, .int x1), (3, .int x3)]) 2 rfl rfl (by decide) rfl dX1_grow_77 ?_
      refine xgoto C (tgt := 2) (by decide) dX1_grow_80 ?_
      refine xsub C (lv' := [(0, .ref (ad q0)), (1, .int x1), (2, .int (x2 + nI 1))]) [1, 2, 0] rfl ?_
      exact hrec2 (x2 + nI 1) G h
  · refine xiinc C (v := (x2 + nI 1)) (lv' := [(2, .int (x2 + nI 1)), (0, .ref (ad q0)), (1, .int x1), (3, .int x3)]) 2 rfl rfl (by decide) rfl dX1_grow_77 ?_
    refine xgoto C (tgt := 2) (by decide) dX1_grow_80 ?_
    refine xsub C (lv' := [(0, .ref (ad q0)), (1, .int x1), (2, .int (x2 + nI 1))]) [1, 2, 0] rfl ?_
    exact hrec2 (x2 + nI 1) G h
theorem wX1_grow_2 (C : xC p s m args meth c cX1_grow RX1 4 none D cy) (q0 : Nat) (x1 : Int32) (a0 : A1 kd NP q0) : ∀ (n : Nat) (x2 : Int32) (G : Mem) (h : itr n (FX1_grow_2 q0 x1) (x2, G) = some G'), xX p l e (xR 3 66) s m args below meth c A s.heap D cy ad kd NP 4 0 0 (xQv below D cy ad kd NP A args s G') G 2 [(0, .ref (ad q0)), (1, .int x1), (2, .int x2)] [] := by
  intro n
  induction n with
  | zero =>
    intro x2 G h
    have h : none = some G' := h
    cases h
  | succ n ih =>
    intro x2 G h
    have h : bX1_grow_2 q0 x1 (itr n (FX1_grow_2 q0 x1)) x2 G = some G' := h
    have hrec2 : ∀ (x2 : Int32) (G : Mem), itr n (FX1_grow_2 q0 x1) (x2, G) = some G' → xX p l e (xR 3 66) s m args below meth c A s.heap D cy ad kd NP 4 0 0 (xQv below D cy ad kd NP A args s G') G 2 [(0, .ref (ad q0)), (1, .int x1), (2, .int x2)] [] := fun x2 G h => ih x2 G h
    unfold bX1_grow_2 at h
    refine xiload_n C 2 rfl rfl dX1_grow_2 ?_
    refine xaload_n C 0 rfl rfl dX1_grow_3 ?_
    refine xg_1_length C a0.1 w_45 dX1_grow_4 ?_
    refine xicmp_ge C (tgt := 83) h (by decide) dX1_grow_7 (fun h => ?_) (fun h => ?_)
    · obtain rfl := so_1 h
      exact xvret C rfl dX1_grow_83
    · refine xaload_n C 0 rfl rfl dX1_grow_10 ?_
      refine xiload_n C 2 rfl rfl dX1_grow_11 ?_
      obtain ⟨r12, G12, hc12, h⟩ := bd_some h
      refine xVi C (As := [.int x2]) (rest := []) (kX1_kindOf a0 hc12) a0.1 rfl rfl w_340 mvX1_kindOf mwX1_kindOf rfl ⟨Nat.le_of_ble_eq_true rfl, Nat.le_of_ble_eq_true rfl⟩ ⟨Nat.le_refl _, Nat.le_refl _⟩ (Nat.le_of_ble_eq_true rfl) dX1_grow_12 ?_
      refine xistore_n C (lv' := [(3, .int r12), (0, .ref (ad q0)), (1, .int x1), (2, .int x2)]) rfl (by decide) rfl dX1_grow_15 ?_
      refine xiload_n C 0 rfl rfl dX1_grow_16 ?_
      refine xiconst C (v := (nI 3)) dX1_grow_17 (by decide) ?_
      refine xicmp_ne C (tgt := 29) h (by decide) dX1_grow_18 (fun h => ?_) (fun h => ?_)
      · refine xaload_n C 1 rfl rfl dX1_grow_21 ?_
        refine xiload_n C 3 rfl rfl dX1_grow_22 ?_
        obtain ⟨G23, hc23, h⟩ := bv_some h
        refine xVv C (As := [.int x2]) (rest := []) (kX1_growOlder a0 hc23) a0.1 rfl rfl w_394 mvX1_growOlder mwX1_growOlder rfl ⟨Nat.le_of_ble_eq_true rfl, Nat.le_of_ble_eq_true rfl⟩ ⟨Nat.le_refl _, Nat.le_refl _⟩ (Nat.le_of_ble_eq_true rfl) dX1_grow_23 ?_
        refine xgoto C (tgt := 77) (by decide) dX1_grow_26 ?_
        refine xiinc C (v := (x2 + nI 1)) (lv' := [(2, .int (x2 + nI 1)), (3, .int r12), (0, .ref (ad q0)), (1, .int x1)]) 3 rfl rfl (by decide) rfl dX1_grow_77 ?_
        refine xgoto C (tgt := 2) (by decide) dX1_grow_80 ?_
        refine xsub C (lv' := [(0, .ref (ad q0)), (1, .int x1), (2, .int (x2 + nI 1))]) [2, 3, 0] rfl ?_
        exact hrec2 (x2 + nI 1) G23 h
      · refine xiload_n C 0 rfl rfl dX1_grow_29 ?_
        refine xif_ne C (tgt := 60) h (by decide) dX1_grow_30 (fun h => ?_) (fun h => ?_)
        · refine xiload_n C 2 rfl rfl dX1_grow_33 ?_
          refine xiconst C (v := (nI 4)) dX1_grow_34 (by decide) ?_
          refine xirem C dX1_grow_35 (by decide) ?_
          refine xif_ne C (tgt := 60) h (by decide) dX1_grow_36 (fun h => ?_) (fun h => ?_)
          · refine xaload_n C 1 rfl rfl dX1_grow_39 ?_
            refine xiload_n C 3 rfl rfl dX1_grow_40 ?_
            refine xiconst C (v := (nI 0)) dX1_grow_41 (by decide) ?_
            refine xaload_n C 1 rfl rfl dX1_grow_42 ?_
            refine xiload_n C 3 rfl rfl dX1_grow_43 ?_
            obtain ⟨r44, G44, hc44, h⟩ := bd_some h
            refine xVi C (As := [.int x2]) (rest := [.int (nI 0), .int x2, .ref (ad q0)]) (kX1_thicknessOf a0 hc44) a0.1 rfl rfl w_402 mvX1_thicknessOf mwX1_thicknessOf rfl ⟨Nat.le_of_ble_eq_true rfl, Nat.le_of_ble_eq_true rfl⟩ ⟨Nat.le_refl _, Nat.le_refl _⟩ (Nat.le_of_ble_eq_true rfl) dX1_grow_44 ?_
            refine xiconst C (v := (nI 1)) dX1_grow_47 (by decide) ?_
            refine xiadd C dX1_grow_48 ?_
            refine xbipush C (v := (nI 9)) dX1_grow_49 (by decide) ?_
            refine xmmin C w_403 w_325 w_12 w_326 ⟨Nat.le_of_ble_eq_true rfl, Nat.le_of_ble_eq_true rfl⟩ ⟨Nat.le_refl _, Nat.le_refl _⟩ dX1_grow_51 ?_
            obtain ⟨G54, hc54, h⟩ := bv_some h
            refine xVv C (As := [.int x2, .int (nI 0), .int (if (nI 9) < (r44 + (nI 1)) then (nI 9) else (r44 + (nI 1)))]) (rest := []) (kX1_changeChain a0 hc54) a0.1 rfl rfl w_63 mvX1_changeChain mwX1_changeChain rfl ⟨Nat.le_of_ble_eq_true rfl, Nat.le_of_ble_eq_true rfl⟩ ⟨Nat.le_refl _, Nat.le_refl _⟩ (Nat.le_of_ble_eq_true rfl) dX1_grow_54 ?_
            refine xgoto C (tgt := 77) (by decide) dX1_grow_57 ?_
            refine xiinc C (v := (x2 + nI 1)) (lv' := [(2, .int (x2 + nI 1)), (3, .int r12), (0, .ref (ad q0)), (1, .int x1)]) 3 rfl rfl (by decide) rfl dX1_grow_77 ?_
            refine xgoto C (tgt := 2) (by decide) dX1_grow_80 ?_
            refine xsub C (lv' := [(0, .ref (ad q0)), (1, .int x1), (2, .int (x2 + nI 1))]) [2, 3, 0] rfl ?_
            exact hrec2 (x2 + nI 1) G54 h
          · refine xsub C (lv' := [(0, .ref (ad q0)), (1, .int x1), (2, .int x2), (3, .int r12)]) [1, 2, 3, 0] rfl ?_
            exact wX1_grow_60 C q0 x1 x2 r12 hrec2 G12 a0 h
        · refine xsub C (lv' := [(0, .ref (ad q0)), (1, .int x1), (2, .int x2), (3, .int r12)]) [1, 2, 3, 0] rfl ?_
          exact wX1_grow_60 C q0 x1 x2 r12 hrec2 G12 a0 h
theorem kX1_grow  {q0 : Nat} {x1 : Int32} (a0 : A1 kd NP q0) {G : Mem} (h : fX1_grow q0 x1 G = some G') : xMv l D cy ad kd NP A yX1_grow cX1_grow 4 none 3 66 [.ref (ad q0), .int x1] G G' := by
  refine xMv_of trivial (by decide +kernel) (Nat.le_of_ble_eq_true rfl) (fun p e s m args below meth c C => ?_)
  have C : xC p s m args meth c cX1_grow RX1 4 none D cy := C
  refine xsub C (lv' := [(0, .ref (ad q0)), (1, .int x1)]) [0, 1] rfl ?_
  unfold fX1_grow at h
  refine xiconst C (v := (nI 0)) dX1_grow_0 (by decide) ?_
  refine xistore_n C (lv' := [(2, .int (nI 0)), (0, .ref (ad q0)), (1, .int x1)]) rfl (by decide) rfl dX1_grow_1 ?_
  refine xsub C (lv' := [(0, .ref (ad q0)), (1, .int x1), (2, .int (nI 0))]) [1, 2, 0] rfl ?_
  exact wX1_grow_2 C q0 x1 a0 _ (nI 0) G h
/-- HedgeChains$Contract.make(III)V -/
theorem kX0_make  {q0 : Nat} {x1 : Int32} {x2 : Int32} {x3 : Int32} (a0 : A0 kd NP q0) {G : Mem} (h : fX0_make q0 x1 x2 x3 G = some G') : xMv l D cy ad kd NP A yX0_make cX0_make 4 none 0 0 [.ref (ad q0), .int x1, .int x2, .int x3] G G' := by
  refine xMv_of trivial (by decide +kernel) (Nat.le_of_ble_eq_true rfl) (fun p e s m args below meth c C => ?_)
  have C : xC p s m args meth c cX0_make RX0 4 none D cy := C
  refine xsub C (lv' := [(0, .ref (ad q0)), (1, .int x1), (2, .int x2), (3, .int x3)]) [0, 1, 2, 3] rfl ?_
  unfold fX0_make at h
  refine xaload_n C 0 rfl rfl dX0_make_0 ?_
  refine xiconst C (v := (nI 1)) dX0_make_1 (by decide) ?_
  refine xp_0_made C a0 (Or.inr rfl) w_76 dX0_make_2 ?_
  generalize mset G q0 0 (nI 1) = G2 at h ⊢
  replace h := lt_go h
  refine xaload_n C 0 rfl rfl dX0_make_5 ?_
  refine xiload_n C 1 rfl rfl dX0_make_6 ?_
  refine xp_0_price C a0 w_80 dX0_make_7 ?_
  generalize mset G2 q0 1 x1 = G7 at h ⊢
  replace h := lt_go h
  refine xaload_n C 0 rfl rfl dX0_make_10 ?_
  refine xiload_n C 2 rfl rfl dX0_make_11 ?_
  refine xp_0_lastWeek C a0 w_83 dX0_make_12 ?_
  generalize mset G7 q0 2 x2 = G12 at h ⊢
  replace h := lt_go h
  refine xaload_n C 0 rfl rfl dX0_make_15 ?_
  refine xiload_n C 3 rfl rfl dX0_make_16 ?_
  refine xp_0_fine C a0 w_87 dX0_make_17 ?_
  generalize mset G12 q0 3 x3 = G17 at h ⊢
  replace h := lt_go h
  obtain rfl := so_1 h
  exact xvret C rfl dX0_make_20
/-- HedgeChains$Hedge.runFrom(I)I -/
theorem wX1_runFrom_2 {r : Int32} (C : xC p s m args meth c cX1_runFrom RX1 3 (some .int) D cy) (q0 : Nat) (x1 : Int32) (a0 : A1 kd NP q0) : ∀ (n : Nat) (x2 : Int32) (G : Mem) (h : itr n (FX1_runFrom_2 q0 x1) (x2, G) = some (r, G')), xX p l e (xR 2 42) s m args below meth c A s.heap D cy ad kd NP 3 0 0 (xQi below D cy ad kd NP A args s r G') G 2 [(0, .ref (ad q0)), (1, .int x1), (2, .int x2)] [] := by
  intro n
  induction n with
  | zero =>
    intro x2 G h
    have h : none = some (r, G') := h
    cases h
  | succ n ih =>
    intro x2 G h
    have h : bX1_runFrom_2 q0 x1 (itr n (FX1_runFrom_2 q0 x1)) x2 G = some (r, G') := h
    have hrec2 : ∀ (x2 : Int32) (G : Mem), itr n (FX1_runFrom_2 q0 x1) (x2, G) = some (r, G') → xX p l e (xR 2 42) s m args below meth c A s.heap D cy ad kd NP 3 0 0 (xQi below D cy ad kd NP A args s r G') G 2 [(0, .ref (ad q0)), (1, .int x1), (2, .int x2)] [] := fun x2 G h => ih x2 G h
    unfold bX1_runFrom_2 at h
    refine xiload_n C 2 rfl rfl dX1_runFrom_2 ?_
    refine xaload_n C 0 rfl rfl dX1_runFrom_3 ?_
    refine xg_1_length C a0.1 w_45 dX1_runFrom_4 ?_
    refine xicmp_ge C (tgt := 27) h (by decide) dX1_runFrom_7 (fun h => ?_) (fun h => ?_)
    · refine xiload_n C 2 rfl rfl dX1_runFrom_27 ?_
      obtain ⟨rfl, rfl⟩ := so_2 h
      exact xiret C rfl dX1_runFrom_28
    · refine xaload_n C 0 rfl rfl dX1_runFrom_10 ?_
      refine xiload_n C 1 rfl rfl dX1_runFrom_11 ?_
      refine xiload_n C 2 rfl rfl dX1_runFrom_12 ?_
      refine xiadd C dX1_runFrom_13 ?_
      obtain ⟨r14, G14, hc14, h⟩ := bd_some h
      refine xVi C (As := [.int (x1 + x2)]) (rest := []) (kX1_kindOf a0 hc14) a0.1 rfl rfl w_340 mvX1_kindOf mwX1_kindOf rfl ⟨Nat.le_of_ble_eq_true rfl, Nat.le_of_ble_eq_true rfl⟩ ⟨Nat.le_refl _, Nat.le_refl _⟩ (Nat.le_of_ble_eq_true rfl) dX1_runFrom_14 ?_
      refine xiconst C (v := (nI 1)) dX1_runFrom_17 (by decide) ?_
      refine xicmp_ne C (tgt := 27) h (by decide) dX1_runFrom_18 (fun h => ?_) (fun h => ?_)
      · refine xiinc C (v := (x2 + nI 1)) (lv' := [(2, .int (x2 + nI 1)), (0, .ref (ad q0)), (1, .int x1)]) 2 rfl rfl (by decide) rfl dX1_runFrom_21 ?_
        refine xgoto C (tgt := 2) (by decide) dX1_runFrom_24 ?_
        refine xsub C (lv' := [(0, .ref (ad q0)), (1, .int x1), (2, .int (x2 + nI 1))]) [1, 2, 0] rfl ?_
        exact hrec2 (x2 + nI 1) G14 h
      · refine xiload_n C 2 rfl rfl dX1_runFrom_27 ?_
        obtain ⟨rfl, rfl⟩ := so_2 h
        exact xiret C rfl dX1_runFrom_28
theorem kX1_runFrom {r : Int32}  {q0 : Nat} {x1 : Int32} (a0 : A1 kd NP q0) {G : Mem} (h : fX1_runFrom q0 x1 G = some (r, G')) : xMi l D cy ad kd NP A yX1_runFrom cX1_runFrom 3 (some .int) 2 42 [.ref (ad q0), .int x1] G r G' := by
  refine xMi_of trivial (by decide +kernel) (Nat.le_of_ble_eq_true rfl) (fun p e s m args below meth c C => ?_)
  have C : xC p s m args meth c cX1_runFrom RX1 3 (some .int) D cy := C
  refine xsub C (lv' := [(0, .ref (ad q0)), (1, .int x1)]) [0, 1] rfl ?_
  unfold fX1_runFrom at h
  refine xiconst C (v := (nI 0)) dX1_runFrom_0 (by decide) ?_
  refine xistore_n C (lv' := [(2, .int (nI 0)), (0, .ref (ad q0)), (1, .int x1)]) rfl (by decide) rfl dX1_runFrom_1 ?_
  refine xsub C (lv' := [(0, .ref (ad q0)), (1, .int x1), (2, .int (nI 0))]) [1, 2, 0] rfl ?_
  exact wX1_runFrom_2 C q0 x1 a0 _ (nI 0) G h
/-- HedgeChains$Hedge.longestRunBegin()I -/
theorem wX1_longestRunBegin_7 {r : Int32} (C : xC p s m args meth c cX1_longestRunBegin RX1 5 (some .int) D cy) (q0 : Nat) (a0 : A1 kd NP q0) : ∀ (n : Nat) (x1 : Int32) (x2 : Int32) (x3 : Int32) (G : Mem) (h : itr n (FX1_longestRunBegin_7 q0) (x1, x2, x3, G) = some (r, G')), xX p l e (xR 3 64) s m args below meth c A s.heap D cy ad kd NP 5 0 0 (xQi below D cy ad kd NP A args s r G') G 7 [(0, .ref (ad q0)), (1, .int x1), (2, .int x2), (3, .int x3)] [] := by
  intro n
  induction n with
  | zero =>
    intro x1 x2 x3 G h
    have h : none = some (r, G') := h
    cases h
  | succ n ih =>
    intro x1 x2 x3 G h
    have h : bX1_longestRunBegin_7 q0 (itr n (FX1_longestRunBegin_7 q0)) x1 x2 x3 G = some (r, G') := h
    have hrec7 : ∀ (x1 : Int32) (x2 : Int32) (x3 : Int32) (G : Mem), itr n (FX1_longestRunBegin_7 q0) (x1, x2, x3, G) = some (r, G') → xX p l e (xR 3 64) s m args below meth c A s.heap D cy ad kd NP 5 0 0 (xQi below D cy ad kd NP A args s r G') G 7 [(0, .ref (ad q0)), (1, .int x1), (2, .int x2), (3, .int x3)] [] := fun x1 x2 x3 G h => ih x1 x2 x3 G h
    unfold bX1_longestRunBegin_7 at h
    refine xiload_n C 3 rfl rfl dX1_longestRunBegin_7 ?_
    refine xaload_n C 0 rfl rfl dX1_longestRunBegin_8 ?_
    refine xg_1_length C a0.1 w_45 dX1_longestRunBegin_9 ?_
    refine xicmp_ge C (tgt := 39) h (by decide) dX1_longestRunBegin_12 (fun h => ?_) (fun h => ?_)
    · refine xiload_n C 1 rfl rfl dX1_longestRunBegin_39 ?_
      obtain ⟨rfl, rfl⟩ := so_2 h
      exact xiret C rfl dX1_longestRunBegin_40
    · refine xaload_n C 0 rfl rfl dX1_longestRunBegin_15 ?_
      refine xiload_n C 3 rfl rfl dX1_longestRunBegin_16 ?_
      obtain ⟨r17, G17, hc17, h⟩ := bd_some h
      refine xVi C (As := [.int x3]) (rest := []) (kX1_runFrom a0 hc17) a0.1 rfl rfl w_545 mvX1_runFrom mwX1_runFrom rfl ⟨Nat.le_of_ble_eq_true rfl, Nat.le_of_ble_eq_true rfl⟩ ⟨Nat.le_refl _, Nat.le_refl _⟩ (Nat.le_of_ble_eq_true rfl) dX1_longestRunBegin_17 ?_
      refine xistore C (lv' := [(4, .int r17), (0, .ref (ad q0)), (1, .int x1), (2, .int x2), (3, .int x3)]) (by decide) rfl dX1_longestRunBegin_20 ?_
      refine xiload C 0 rfl dX1_longestRunBegin_22 ?_
      refine xiload_n C 3 rfl rfl dX1_longestRunBegin_24 ?_
      refine xicmp_le C (tgt := 33) h (by decide) dX1_longestRunBegin_25 (fun h => ?_) (fun h => ?_)
      · refine xiinc C (v := (x3 + nI 1)) (lv' := [(3, .int (x3 + nI 1)), (4, .int r17), (0, .ref (ad q0)), (1, .int x1), (2, .int x2)]) 4 rfl rfl (by decide) rfl dX1_longestRunBegin_33 ?_
        refine xgoto C (tgt := 7) (by decide) dX1_longestRunBegin_36 ?_
        refine xsub C (lv' := [(0, .ref (ad q0)), (1, .int x1), (2, .int x2), (3, .int (x3 + nI 1))]) [2, 3, 4, 0] rfl ?_
        exact hrec7 x1 x2 (x3 + nI 1) G17 h
      · refine xiload C 0 rfl dX1_longestRunBegin_28 ?_
        refine xistore_n C (lv' := [(2, .int r17), (4, .int r17), (0, .ref (ad q0)), (1, .int x1), (3, .int x3)]) rfl (by decide) rfl dX1_longestRunBegin_30 ?_
        refine xiload_n C 4 rfl rfl dX1_longestRunBegin_31 ?_
        refine xistore_n C (lv' := [(1, .int x3), (2, .int r17), (4, .int r17), (0, .ref (ad q0)), (3, .int x3)]) rfl (by decide) rfl dX1_longestRunBegin_32 ?_
        refine xiinc C (v := (x3 + nI 1)) (lv' := [(3, .int (x3 + nI 1)), (1, .int x3), (2, .int r17), (4, .int r17), (0, .ref (ad q0))]) 4 rfl rfl (by decide) rfl dX1_longestRunBegin_33 ?_
        refine xgoto C (tgt := 7) (by decide) dX1_longestRunBegin_36 ?_
        refine xsub C (lv' := [(0, .ref (ad q0)), (1, .int x3), (2, .int r17), (3, .int (x3 + nI 1))]) [4, 1, 2, 0] rfl ?_
        exact hrec7 x3 r17 (x3 + nI 1) G17 h
theorem kX1_longestRunBegin {r : Int32}  {q0 : Nat} (a0 : A1 kd NP q0) {G : Mem} (h : fX1_longestRunBegin q0 G = some (r, G')) : xMi l D cy ad kd NP A yX1_longestRunBegin cX1_longestRunBegin 5 (some .int) 3 64 [.ref (ad q0)] G r G' := by
  refine xMi_of trivial (by decide +kernel) (Nat.le_of_ble_eq_true rfl) (fun p e s m args below meth c C => ?_)
  have C : xC p s m args meth c cX1_longestRunBegin RX1 5 (some .int) D cy := C
  refine xsub C (lv' := [(0, .ref (ad q0))]) [0] rfl ?_
  unfold fX1_longestRunBegin at h
  refine xbipush C (v := (-9)) dX1_longestRunBegin_0 (by decide) ?_
  refine xistore_n C (lv' := [(1, .int (-9)), (0, .ref (ad q0))]) rfl (by decide) rfl dX1_longestRunBegin_2 ?_
  refine xiconst C (v := (nI 0)) dX1_longestRunBegin_3 (by decide) ?_
  refine xistore_n C (lv' := [(2, .int (nI 0)), (1, .int (-9)), (0, .ref (ad q0))]) rfl (by decide) rfl dX1_longestRunBegin_4 ?_
  refine xiconst C (v := (nI 0)) dX1_longestRunBegin_5 (by decide) ?_
  refine xistore_n C (lv' := [(3, .int (nI 0)), (2, .int (nI 0)), (1, .int (-9)), (0, .ref (ad q0))]) rfl (by decide) rfl dX1_longestRunBegin_6 ?_
  refine xsub C (lv' := [(0, .ref (ad q0)), (1, .int (-9)), (2, .int (nI 0)), (3, .int (nI 0))]) [3, 2, 1, 0] rfl ?_
  exact wX1_longestRunBegin_7 C q0 a0 _ (-9) (nI 0) (nI 0) G h
/-- HedgeChains$Hedge.workToLay()I -/
theorem wX1_workToLay_4 {r : Int32} (C : xC p s m args meth c cX1_workToLay RX1 3 (some .int) D cy) (q0 : Nat) (a0 : A1 kd NP q0) : ∀ (n : Nat) (x1 : Int32) (x2 : Int32) (G : Mem) (h : itr n (FX1_workToLay_4 q0) (x1, x2, G) = some (r, G')), xX p l e (xR 2 42) s m args below meth c A s.heap D cy ad kd NP 3 0 0 (xQi below D cy ad kd NP A args s r G') G 4 [(0, .ref (ad q0)), (1, .int x1), (2, .int x2)] [] := by
  intro n
  induction n with
  | zero =>
    intro x1 x2 G h
    have h : none = some (r, G') := h
    cases h
  | succ n ih =>
    intro x1 x2 G h
    have h : bX1_workToLay_4 q0 (itr n (FX1_workToLay_4 q0)) x1 x2 G = some (r, G') := h
    have hrec4 : ∀ (x1 : Int32) (x2 : Int32) (G : Mem), itr n (FX1_workToLay_4 q0) (x1, x2, G) = some (r, G') → xX p l e (xR 2 42) s m args below meth c A s.heap D cy ad kd NP 3 0 0 (xQi below D cy ad kd NP A args s r G') G 4 [(0, .ref (ad q0)), (1, .int x1), (2, .int x2)] [] := fun x1 x2 G h => ih x1 x2 G h
    unfold bX1_workToLay_4 at h
    refine xiload_n C 2 rfl rfl dX1_workToLay_4 ?_
    refine xaload_n C 0 rfl rfl dX1_workToLay_5 ?_
    refine xg_1_length C a0.1 w_45 dX1_workToLay_6 ?_
    refine xicmp_ge C (tgt := 34) h (by decide) dX1_workToLay_9 (fun h => ?_) (fun h => ?_)
    · refine xiload_n C 1 rfl rfl dX1_workToLay_34 ?_
      obtain ⟨rfl, rfl⟩ := so_2 h
      exact xiret C rfl dX1_workToLay_35
    · refine xaload_n C 0 rfl rfl dX1_workToLay_12 ?_
      refine xiload_n C 2 rfl rfl dX1_workToLay_13 ?_
      obtain ⟨r14, G14, hc14, h⟩ := bd_some h
      refine xVi C (As := [.int x2]) (rest := []) (kX1_isToLay a0 hc14) a0.1 rfl rfl w_564 mvX1_isToLay mwX1_isToLay rfl ⟨Nat.le_of_ble_eq_true rfl, Nat.le_of_ble_eq_true rfl⟩ ⟨Nat.le_refl _, Nat.le_refl _⟩ (Nat.le_of_ble_eq_true rfl) dX1_workToLay_14 ?_
      refine xif_eq C (tgt := 28) h (by decide) dX1_workToLay_17 (fun h => ?_) (fun h => ?_)
      · refine xiinc C (v := (x2 + nI 1)) (lv' := [(2, .int (x2 + nI 1)), (0, .ref (ad q0)), (1, .int x1)]) 2 rfl rfl (by decide) rfl dX1_workToLay_28 ?_
        refine xgoto C (tgt := 4) (by decide) dX1_workToLay_31 ?_
        refine xsub C (lv' := [(0, .ref (ad q0)), (1, .int x1), (2, .int (x2 + nI 1))]) [1, 2, 0] rfl ?_
        exact hrec4 x1 (x2 + nI 1) G14 h
      · refine xiload_n C 1 rfl rfl dX1_workToLay_20 ?_
        refine xaload_n C 0 rfl rfl dX1_workToLay_21 ?_
        refine xiload_n C 2 rfl rfl dX1_workToLay_22 ?_
        obtain ⟨r23, G23, hc23, h⟩ := bd_some h
        refine xVi C (As := [.int x2]) (rest := [.int x1]) (kX1_thicknessOf a0 hc23) a0.1 rfl rfl w_402 mvX1_thicknessOf mwX1_thicknessOf rfl ⟨Nat.le_of_ble_eq_true rfl, Nat.le_of_ble_eq_true rfl⟩ ⟨Nat.le_refl _, Nat.le_refl _⟩ (Nat.le_of_ble_eq_true rfl) dX1_workToLay_23 ?_
        refine xiadd C dX1_workToLay_26 ?_
        refine xistore_n C (lv' := [(1, .int (x1 + r23)), (0, .ref (ad q0)), (2, .int x2)]) rfl (by decide) rfl dX1_workToLay_27 ?_
        refine xiinc C (v := (x2 + nI 1)) (lv' := [(2, .int (x2 + nI 1)), (1, .int (x1 + r23)), (0, .ref (ad q0))]) 2 rfl rfl (by decide) rfl dX1_workToLay_28 ?_
        refine xgoto C (tgt := 4) (by decide) dX1_workToLay_31 ?_
        refine xsub C (lv' := [(0, .ref (ad q0)), (1, .int (x1 + r23)), (2, .int (x2 + nI 1))]) [2, 1, 0] rfl ?_
        exact hrec4 (x1 + r23) (x2 + nI 1) G23 h
theorem kX1_workToLay {r : Int32}  {q0 : Nat} (a0 : A1 kd NP q0) {G : Mem} (h : fX1_workToLay q0 G = some (r, G')) : xMi l D cy ad kd NP A yX1_workToLay cX1_workToLay 3 (some .int) 2 42 [.ref (ad q0)] G r G' := by
  refine xMi_of trivial (by decide +kernel) (Nat.le_of_ble_eq_true rfl) (fun p e s m args below meth c C => ?_)
  have C : xC p s m args meth c cX1_workToLay RX1 3 (some .int) D cy := C
  refine xsub C (lv' := [(0, .ref (ad q0))]) [0] rfl ?_
  unfold fX1_workToLay at h
  refine xiconst C (v := (nI 0)) dX1_workToLay_0 (by decide) ?_
  refine xistore_n C (lv' := [(1, .int (nI 0)), (0, .ref (ad q0))]) rfl (by decide) rfl dX1_workToLay_1 ?_
  refine xiconst C (v := (nI 0)) dX1_workToLay_2 (by decide) ?_
  refine xistore_n C (lv' := [(2, .int (nI 0)), (1, .int (nI 0)), (0, .ref (ad q0))]) rfl (by decide) rfl dX1_workToLay_3 ?_
  refine xsub C (lv' := [(0, .ref (ad q0)), (1, .int (nI 0)), (2, .int (nI 0))]) [2, 1, 0] rfl ?_
  exact wX1_workToLay_4 C q0 a0 _ (nI 0) (nI 0) G h
/-- HedgeChains$Hedge.stakesToLay()I -/
theorem wX1_stakesToLay_4 {r : Int32} (C : xC p s m args meth c cX1_stakesToLay RX1 3 (some .int) D cy) (q0 : Nat) (a0 : A1 kd NP q0) : ∀ (n : Nat) (x1 : Int32) (x2 : Int32) (G : Mem) (h : itr n (FX1_stakesToLay_4 q0) (x1, x2, G) = some (r, G')), xX p l e (xR 2 42) s m args below meth c A s.heap D cy ad kd NP 3 0 0 (xQi below D cy ad kd NP A args s r G') G 4 [(0, .ref (ad q0)), (1, .int x1), (2, .int x2)] [] := by
  intro n
  induction n with
  | zero =>
    intro x1 x2 G h
    have h : none = some (r, G') := h
    cases h
  | succ n ih =>
    intro x1 x2 G h
    have h : bX1_stakesToLay_4 q0 (itr n (FX1_stakesToLay_4 q0)) x1 x2 G = some (r, G') := h
    have hrec4 : ∀ (x1 : Int32) (x2 : Int32) (G : Mem), itr n (FX1_stakesToLay_4 q0) (x1, x2, G) = some (r, G') → xX p l e (xR 2 42) s m args below meth c A s.heap D cy ad kd NP 3 0 0 (xQi below D cy ad kd NP A args s r G') G 4 [(0, .ref (ad q0)), (1, .int x1), (2, .int x2)] [] := fun x1 x2 G h => ih x1 x2 G h
    unfold bX1_stakesToLay_4 at h
    refine xiload_n C 2 rfl rfl dX1_stakesToLay_4 ?_
    refine xaload_n C 0 rfl rfl dX1_stakesToLay_5 ?_
    refine xg_1_length C a0.1 w_45 dX1_stakesToLay_6 ?_
    refine xicmp_ge C (tgt := 29) h (by decide) dX1_stakesToLay_9 (fun h => ?_) (fun h => ?_)
    · refine xiload_n C 1 rfl rfl dX1_stakesToLay_29 ?_
      obtain ⟨rfl, rfl⟩ := so_2 h
      exact xiret C rfl dX1_stakesToLay_30
    · refine xaload_n C 0 rfl rfl dX1_stakesToLay_12 ?_
      refine xiload_n C 2 rfl rfl dX1_stakesToLay_13 ?_
      obtain ⟨r14, G14, hc14, h⟩ := bd_some h
      refine xVi C (As := [.int x2]) (rest := []) (kX1_isToLay a0 hc14) a0.1 rfl rfl w_564 mvX1_isToLay mwX1_isToLay rfl ⟨Nat.le_of_ble_eq_true rfl, Nat.le_of_ble_eq_true rfl⟩ ⟨Nat.le_refl _, Nat.le_refl _⟩ (Nat.le_of_ble_eq_true rfl) dX1_stakesToLay_14 ?_
      refine xif_eq C (tgt := 23) h (by decide) dX1_stakesToLay_17 (fun h => ?_) (fun h => ?_)
      · refine xiinc C (v := (x2 + nI 1)) (lv' := [(2, .int (x2 + nI 1)), (0, .ref (ad q0)), (1, .int x1)]) 2 rfl rfl (by decide) rfl dX1_stakesToLay_23 ?_
        refine xgoto C (tgt := 4) (by decide) dX1_stakesToLay_26 ?_
        refine xsub C (lv' := [(0, .ref (ad q0)), (1, .int x1), (2, .int (x2 + nI 1))]) [1, 2, 0] rfl ?_
        exact hrec4 x1 (x2 + nI 1) G14 h
      · refine xiinc C (v := (x1 + nI 2)) (lv' := [(1, .int (x1 + nI 2)), (0, .ref (ad q0)), (2, .int x2)]) 1 rfl rfl (by decide) rfl dX1_stakesToLay_20 ?_
        refine xiinc C (v := (x2 + nI 1)) (lv' := [(2, .int (x2 + nI 1)), (1, .int (x1 + nI 2)), (0, .ref (ad q0))]) 2 rfl rfl (by decide) rfl dX1_stakesToLay_23 ?_
        refine xgoto C (tgt := 4) (by decide) dX1_stakesToLay_26 ?_
        refine xsub C (lv' := [(0, .ref (ad q0)), (1, .int (x1 + nI 2)), (2, .int (x2 + nI 1))]) [2, 1, 0] rfl ?_
        exact hrec4 (x1 + nI 2) (x2 + nI 1) G14 h
theorem kX1_stakesToLay {r : Int32}  {q0 : Nat} (a0 : A1 kd NP q0) {G : Mem} (h : fX1_stakesToLay q0 G = some (r, G')) : xMi l D cy ad kd NP A yX1_stakesToLay cX1_stakesToLay 3 (some .int) 2 42 [.ref (ad q0)] G r G' := by
  refine xMi_of trivial (by decide +kernel) (Nat.le_of_ble_eq_true rfl) (fun p e s m args below meth c C => ?_)
  have C : xC p s m args meth c cX1_stakesToLay RX1 3 (some .int) D cy := C
  refine xsub C (lv' := [(0, .ref (ad q0))]) [0] rfl ?_
  unfold fX1_stakesToLay at h
  refine xiconst C (v := (nI 0)) dX1_stakesToLay_0 (by decide) ?_
  refine xistore_n C (lv' := [(1, .int (nI 0)), (0, .ref (ad q0))]) rfl (by decide) rfl dX1_stakesToLay_1 ?_
  refine xiconst C (v := (nI 0)) dX1_stakesToLay_2 (by decide) ?_
  refine xistore_n C (lv' := [(2, .int (nI 0)), (1, .int (nI 0)), (0, .ref (ad q0))]) rfl (by decide) rfl dX1_stakesToLay_3 ?_
  refine xsub C (lv' := [(0, .ref (ad q0)), (1, .int (nI 0)), (2, .int (nI 0))]) [2, 1, 0] rfl ?_
  exact wX1_stakesToLay_4 C q0 a0 _ (nI 0) (nI 0) G h
/-- HedgeChains$Hedge.stakesOf(I)I -/
theorem wX1_stakesOf_4 {r : Int32} (C : xC p s m args meth c cX1_stakesOf RX1 3 (some .int) D cy) : ∀ (n : Nat) (x1 : Int32) (x2 : Int32) (G : Mem) (h : itr n (FX1_stakesOf_4) (x1, x2, G) = some (r, G')), xX p l e (xR 0 0) s m args below meth c A s.heap D cy ad kd NP 3 0 0 (xQi below D cy ad kd NP A args s r G') G 4 [(1, .int x1), (2, .int x2)] [] := by
  intro n
  induction n with
  | zero =>
    intro x1 x2 G h
    have h : none = some (r, G') := h
    cases h
  | succ n ih =>
    intro x1 x2 G h
    have h : bX1_stakesOf_4 (itr n (FX1_stakesOf_4)) x1 x2 G = some (r, G') := h
    have hrec4 : ∀ (x1 : Int32) (x2 : Int32) (G : Mem), itr n (FX1_stakesOf_4) (x1, x2, G) = some (r, G') → xX p l e (xR 0 0) s m args below meth c A s.heap D cy ad kd NP 3 0 0 (xQi below D cy ad kd NP A args s r G') G 4 [(1, .int x1), (2, .int x2)] [] := fun x1 x2 G h => ih x1 x2 G h
    unfold bX1_stakesOf_4 at h
    refine xiload_n C 1 rfl rfl dX1_stakesOf_4 ?_
    refine xiconst C (v := (nI 3)) dX1_stakesOf_5 (by decide) ?_
    refine xicmp_lt C (tgt := 19) h (by decide) dX1_stakesOf_6 (fun h => ?_) (fun h => ?_)
    · refine xiload_n C 0 rfl rfl dX1_stakesOf_19 ?_
      obtain ⟨rfl, rfl⟩ := so_2 h
      exact xiret C rfl dX1_stakesOf_20
    · refine xiload_n C 0 rfl rfl dX1_stakesOf_9 ?_
      refine xiload_n C 1 rfl rfl dX1_stakesOf_10 ?_
      refine xiadd C dX1_stakesOf_11 ?_
      refine xistore_n C (lv' := [(1, .int (x1 + x2)), (2, .int x2)]) rfl (by decide) rfl dX1_stakesOf_12 ?_
      refine xiinc C (v := (x2 + Int32.ofInt (-2))) (lv' := [(2, .int (x2 + Int32.ofInt (-2))), (1, .int (x1 + x2))]) 1 rfl rfl (by decide) rfl dX1_stakesOf_13 ?_
      refine xgoto C (tgt := 4) (by decide) dX1_stakesOf_16 ?_
      refine xsub C (lv' := [(1, .int (x1 + x2)), (2, .int (x2 + Int32.ofInt (-2)))]) [1, 0] rfl ?_
      exact hrec4 (x1 + x2) (x2 + Int32.ofInt (-2)) G h
theorem kX1_stakesOf {r : Int32}  {x0 : Int32} {G : Mem} (h : fX1_stakesOf x0 G = some (r, G')) : xMi l D cy ad kd NP A yX1_stakesOf cX1_stakesOf 3 (some .int) 0 0 [.int x0] G r G' := by
  refine xMi_of trivial (by decide +kernel) (Nat.le_of_ble_eq_true rfl) (fun p e s m args below meth c C => ?_)
  have C : xC p s m args meth c cX1_stakesOf RX1 3 (some .int) D cy := C
  refine xsub C (lv' := [(0, .int x0)]) [0] rfl ?_
  unfold fX1_stakesOf at h
  refine xiconst C (v := (nI 0)) dX1_stakesOf_0 (by decide) ?_
  refine xistore_n C (lv' := [(1, .int (nI 0)), (0, .int x0)]) rfl (by decide) rfl dX1_stakesOf_1 ?_
  refine xiload_n C 1 rfl rfl dX1_stakesOf_2 ?_
  refine xistore_n C (lv' := [(2, .int x0), (1, .int (nI 0)), (0, .int x0)]) rfl (by decide) rfl dX1_stakesOf_3 ?_
  refine xsub C (lv' := [(1, .int (nI 0)), (2, .int x0)]) [1, 0] rfl ?_
  exact wX1_stakesOf_4 C _ (nI 0) x0 G h
/-- HedgeChains$Hedge.stakesToCut()I -/
theorem wX1_stakesToCut_4 {r : Int32} (C : xC p s m args meth c cX1_stakesToCut RX1 3 (some .int) D cy) (q0 : Nat) (a0 : A1 kd NP q0) : ∀ (n : Nat) (x1 : Int32) (x2 : Int32) (G : Mem) (h : itr n (FX1_stakesToCut_4 q0) (x1, x2, G) = some (r, G')), xX p l e (xR 2 42) s m args below meth c A s.heap D cy ad kd NP 3 0 0 (xQi below D cy ad kd NP A args s r G') G 4 [(0, .ref (ad q0)), (1, .int x1), (2, .int x2)] [] := by
  intro n
  induction n with
  | zero =>
    intro x1 x2 G h
    have h : none = some (r, G') := h
    cases h
  | succ n ih =>
    intro x1 x2 G h
    have h : bX1_stakesToCut_4 q0 (itr n (FX1_stakesToCut_4 q0)) x1 x2 G = some (r, G') := h
    have hrec4 : ∀ (x1 : Int32) (x2 : Int32) (G : Mem), itr n (FX1_stakesToCut_4 q0) (x1, x2, G) = some (r, G') → xX p l e (xR 2 42) s m args below meth c A s.heap D cy ad kd NP 3 0 0 (xQi below D cy ad kd NP A args s r G') G 4 [(0, .ref (ad q0)), (1, .int x1), (2, .int x2)] [] := fun x1 x2 G h => ih x1 x2 G h
    unfold bX1_stakesToCut_4 at h
    refine xiload_n C 2 rfl rfl dX1_stakesToCut_4 ?_
    refine xaload_n C 0 rfl rfl dX1_stakesToCut_5 ?_
    refine xg_1_length C a0.1 w_45 dX1_stakesToCut_6 ?_
    refine xicmp_ge C (tgt := 37) h (by decide) dX1_stakesToCut_9 (fun h => ?_) (fun h => ?_)
    · refine xiload_n C 1 rfl rfl dX1_stakesToCut_37 ?_
      obtain ⟨rfl, rfl⟩ := so_2 h
      exact xiret C rfl dX1_stakesToCut_38
    · refine xaload_n C 0 rfl rfl dX1_stakesToCut_12 ?_
      refine xiload_n C 2 rfl rfl dX1_stakesToCut_13 ?_
      obtain ⟨r14, G14, hc14, h⟩ := bd_some h
      refine xVi C (As := [.int x2]) (rest := []) (kX1_kindOf a0 hc14) a0.1 rfl rfl w_340 mvX1_kindOf mwX1_kindOf rfl ⟨Nat.le_of_ble_eq_true rfl, Nat.le_of_ble_eq_true rfl⟩ ⟨Nat.le_refl _, Nat.le_refl _⟩ (Nat.le_of_ble_eq_true rfl) dX1_stakesToCut_14 ?_
      refine xif_ne C (tgt := 31) h (by decide) dX1_stakesToCut_17 (fun h => ?_) (fun h => ?_)
      · refine xiload_n C 1 rfl rfl dX1_stakesToCut_20 ?_
        refine xaload_n C 0 rfl rfl dX1_stakesToCut_21 ?_
        refine xiload_n C 2 rfl rfl dX1_stakesToCut_22 ?_
        obtain ⟨r23, G23, hc23, h⟩ := bd_some h
        refine xVi C (As := [.int x2]) (rest := [.int x1]) (kX1_thicknessOf a0 hc23) a0.1 rfl rfl w_402 mvX1_thicknessOf mwX1_thicknessOf rfl ⟨Nat.le_of_ble_eq_true rfl, Nat.le_of_ble_eq_true rfl⟩ ⟨Nat.le_refl _, Nat.le_refl _⟩ (Nat.le_of_ble_eq_true rfl) dX1_stakesToCut_23 ?_
        obtain ⟨r26, G26, hc26, h⟩ := bd_some h
        refine xSi C (As := [.int r23]) (rest := [.int x1]) (kX1_stakesOf hc26) w_577 w_578 mwX1_stakesOf rfl ⟨Nat.le_of_ble_eq_true rfl, Nat.le_of_ble_eq_true rfl⟩ ⟨Nat.le_refl _, Nat.le_refl _⟩ (Nat.le_of_ble_eq_true rfl) dX1_stakesToCut_26 ?_
        refine xiadd C dX1_stakesToCut_29 ?_
        refine xistore_n C (lv' := [(1, .int (x1 + r26)), (0, .ref (ad q0)), (2, .int x2)]) rfl (by decide) rfl dX1_stakesToCut_30 ?_
        refine xiinc C (v := (x2 + nI 1)) (lv' := [(2, .int (x2 + nI 1)), (1, .int (x1 + r26)), (0, .ref (ad q0))]) 2 rfl rfl (by decide) rfl dX1_stakesToCut_31 ?_
        refine xgoto C (tgt := 4) (by decide) dX1_stakesToCut_34 ?_
        refine xsub C (lv' := [(0, .ref (ad q0)), (1, .int (x1 + r26)), (2, .int (x2 + nI 1))]) [2, 1, 0] rfl ?_
        exact hrec4 (x1 + r26) (x2 + nI 1) G26 h
      · refine xiinc C (v := (x2 + nI 1)) (lv' := [(2, .int (x2 + nI 1)), (0, .ref (ad q0)), (1, .int x1)]) 2 rfl rfl (by decide) rfl dX1_stakesToCut_31 ?_
        refine xgoto C (tgt := 4) (by decide) dX1_stakesToCut_34 ?_
        refine xsub C (lv' := [(0, .ref (ad q0)), (1, .int x1), (2, .int (x2 + nI 1))]) [1, 2, 0] rfl ?_
        exact hrec4 x1 (x2 + nI 1) G14 h
theorem kX1_stakesToCut {r : Int32}  {q0 : Nat} (a0 : A1 kd NP q0) {G : Mem} (h : fX1_stakesToCut q0 G = some (r, G')) : xMi l D cy ad kd NP A yX1_stakesToCut cX1_stakesToCut 3 (some .int) 2 42 [.ref (ad q0)] G r G' := by
  refine xMi_of trivial (by decide +kernel) (Nat.le_of_ble_eq_true rfl) (fun p e s m args below meth c C => ?_)
  have C : xC p s m args meth c cX1_stakesToCut RX1 3 (some .int) D cy := C
  refine xsub C (lv' := [(0, .ref (ad q0))]) [0] rfl ?_
  unfold fX1_stakesToCut at h
  refine xiconst C (v := (nI 0)) dX1_stakesToCut_0 (by decide) ?_
  refine xistore_n C (lv' := [(1, .int (nI 0)), (0, .ref (ad q0))]) rfl (by decide) rfl dX1_stakesToCut_1 ?_
  refine xiconst C (v := (nI 0)) dX1_stakesToCut_2 (by decide) ?_
  refine xistore_n C (lv' := [(2, .int (nI 0)), (1, .int (nI 0)), (0, .ref (ad q0))]) rfl (by decide) rfl dX1_stakesToCut_3 ?_
  refine xsub C (lv' := [(0, .ref (ad q0)), (1, .int (nI 0)), (2, .int (nI 0))]) [2, 1, 0] rfl ?_
  exact wX1_stakesToCut_4 C q0 a0 _ (nI 0) (nI 0) G h
end
