section
variable {p : Program} {l : Launch} {e : Env} {s : State} {m : MethodId} {args : Array Value} {below : List Frame} {meth : Method} {c : Code} {A : Nat → Prop} {D : va_G} {cy : xCy} {ad kd : Nat → Nat} {NP : Nat} {G' : Mem}
/-- HedgeChainsModel.lays(IIII)V -/
theorem kX9_lays  {q0 : Nat} {x1 : Int32} {x2 : Int32} {x3 : Int32} {x4 : Int32} (a0 : A9 kd NP q0) {G : Mem} (h : fX9_lays q0 x1 x2 x3 x4 G = some G') : xMv l D cy ad kd NP A yX9_lays cX9_lays 5 none 0 0 [.ref (ad q0), .int x1, .int x2, .int x3, .int x4] G G' := by
  refine xMv_of trivial (by decide +kernel) (Nat.le_of_ble_eq_true rfl) (fun p e s m args below meth c C => ?_)
  have C : xC p s m args meth c cX9_lays RX9 5 none D cy := C
  refine xsub C (lv' := [(0, .ref (ad q0)), (1, .int x1), (2, .int x2), (3, .int x3), (4, .int x4)]) [0, 1, 2, 3, 4] rfl ?_
  unfold fX9_lays at h
  refine xaload_n C 0 rfl rfl dX9_lays_0 ?_
  refine xg_9_s C a0.1 w_643 dX9_lays_1 ?_
  refine xbipush C (v := (nI 42)) dX9_lays_4 (by decide) ?_
  refine xbipush C (v := (nI 30)) dX9_lays_6 (by decide) ?_
  refine xiload_n C 1 rfl rfl dX9_lays_8 ?_
  refine ximul C dX9_lays_9 ?_
  refine xiadd C dX9_lays_10 ?_
  refine xiload_n C 2 rfl rfl dX9_lays_11 ?_
  refine xiadd C dX9_lays_12 ?_
  refine xiload_n C 3 rfl rfl dX9_lays_13 ?_
  refine xiconst C (v := (nI 4)) dX9_lays_14 (by decide) ?_
  refine xiload C 4 rfl dX9_lays_15 ?_
  refine ximul C dX9_lays_17 ?_
  refine xiadd C dX9_lays_18 ?_
  obtain ⟨hi19, h⟩ := ix_some h
  refine xis_14 C (((nI 42) + ((nI 30) * x1)) + x2).toNatClampNeg rfl a0.2.1 hi19 dX9_lays_19 ?_
  generalize mset G (q0 + 1) (((nI 42) + ((nI 30) * x1)) + x2).toNatClampNeg (x3 + ((nI 4) * x4)) = G19 at h ⊢
  replace h := lt_go h
  obtain rfl := so_1 h
  exact xvret C rfl dX9_lays_20
/-- HedgeChainsModel.in(III)Z -/
theorem kX9_in {r : Int32}  {x0 : Int32} {x1 : Int32} {x2 : Int32} {G : Mem} (h : fX9_in x0 x1 x2 G = some (r, G')) : xMi l D cy ad kd NP A yX9_in cX9_in 3 (some .boolean) 0 0 [.int x0, .int x1, .int x2] G r G' := by
  refine xMi_of trivial (by decide +kernel) (Nat.le_of_ble_eq_true rfl) (fun p e s m args below meth c C => ?_)
  have C : xC p s m args meth c cX9_in RX9 3 (some .boolean) D cy := C
  refine xsub C (lv' := [(0, .int x0), (1, .int x1), (2, .int x2)]) [0, 1, 2] rfl ?_
  unfold fX9_in at h
  refine xiload_n C 0 rfl rfl dX9_in_0 ?_
  refine xiload_n C 1 rfl rfl dX9_in_1 ?_
  refine xicmp_lt C (tgt := 14) h (by decide) dX9_in_2 (fun h => ?_) (fun h => ?_)
  · refine xiconst C (v := (nI 0)) dX9_in_14 (by decide) ?_
    obtain ⟨rfl, rfl⟩ := so_2 h
    exact xzret C (Or.inl rfl) rfl dX9_in_15
  · refine xiload_n C 0 rfl rfl dX9_in_5 ?_
    refine xiload_n C 2 rfl rfl dX9_in_6 ?_
    refine xicmp_gt C (tgt := 14) h (by decide) dX9_in_7 (fun h => ?_) (fun h => ?_)
    · refine xiconst C (v := (nI 0)) dX9_in_14 (by decide) ?_
      obtain ⟨rfl, rfl⟩ := so_2 h
      exact xzret C (Or.inl rfl) rfl dX9_in_15
    · refine xiconst C (v := (nI 1)) dX9_in_10 (by decide) ?_
      refine xgoto C (tgt := 15) (by decide) dX9_in_11 ?_
      obtain ⟨rfl, rfl⟩ := so_2 h
      exact xzret C (Or.inr rfl) rfl dX9_in_15
/-- HedgeChainsModel.isField(I)Z -/
theorem kX9_isField {r : Int32}  {x0 : Int32} {G : Mem} (h : fX9_isField x0 G = some (r, G')) : xMi l D cy ad kd NP A yX9_isField cX9_isField 1 (some .boolean) 1 22 [.int x0] G r G' := by
  refine xMi_of trivial (by decide +kernel) (Nat.le_of_ble_eq_true rfl) (fun p e s m args below meth c C => ?_)
  have C : xC p s m args meth c cX9_isField RX9 1 (some .boolean) D cy := C
  refine xsub C (lv' := [(0, .int x0)]) [0] rfl ?_
  unfold fX9_isField at h
  refine xiload_n C 0 rfl rfl dX9_isField_0 ?_
  refine xiconst C (v := (nI 0)) dX9_isField_1 (by decide) ?_
  refine xiconst C (v := (nI 5)) dX9_isField_2 (by decide) ?_
  obtain ⟨r3, G3, hc3, h⟩ := bd_some h
  refine xSi C (As := [.int x0, .int (nI 0), .int (nI 5)]) (rest := []) (kX9_in hc3) w_688 w_689 mwX9_in rfl ⟨Nat.le_of_ble_eq_true rfl, Nat.le_of_ble_eq_true rfl⟩ ⟨Nat.le_refl _, Nat.le_refl _⟩ (Nat.le_of_ble_eq_true rfl) dX9_isField_3 ?_
  obtain ⟨hz, h⟩ := zk_some h
  obtain ⟨rfl, rfl⟩ := so_2 h
  exact xzret C hz rfl dX9_isField_6
/-- HedgeChainsModel.isChain(II)Z -/
theorem kX9_isChain {r : Int32}  {q0 : Nat} {x1 : Int32} {x2 : Int32} (a0 : A9 kd NP q0) {G : Mem} (h : fX9_isChain q0 x1 x2 G = some (r, G')) : xMi l D cy ad kd NP A yX9_isChain cX9_isChain 3 (some .boolean) 2 42 [.ref (ad q0), .int x1, .int x2] G r G' := by
  refine xMi_of trivial (by decide +kernel) (Nat.le_of_ble_eq_true rfl) (fun p e s m args below meth c C => ?_)
  have C : xC p s m args meth c cX9_isChain RX9 3 (some .boolean) D cy := C
  refine xsub C (lv' := [(0, .ref (ad q0)), (1, .int x1), (2, .int x2)]) [0, 1, 2] rfl ?_
  unfold fX9_isChain at h
  refine xiload_n C 1 rfl rfl dX9_isChain_0 ?_
  obtain ⟨r1, G1, hc1, h⟩ := bd_some h
  refine xSi C (As := [.int x1]) (rest := []) (kX9_isField hc1) w_685 w_686 mwX9_isField rfl ⟨Nat.le_of_ble_eq_true rfl, Nat.le_of_ble_eq_true rfl⟩ ⟨Nat.le_refl _, Nat.le_refl _⟩ (Nat.le_of_ble_eq_true rfl) dX9_isChain_1 ?_
  refine xif_eq C (tgt := 30) h (by decide) dX9_isChain_4 (fun h => ?_) (fun h => ?_)
  · refine xiconst C (v := (nI 0)) dX9_isChain_30 (by decide) ?_
    obtain ⟨rfl, rfl⟩ := so_2 h
    exact xzret C (Or.inl rfl) rfl dX9_isChain_31
  · refine xiload_n C 2 rfl rfl dX9_isChain_7 ?_
    refine xiconst C (v := (nI 0)) dX9_isChain_8 (by decide) ?_
    refine xaload_n C 0 rfl rfl dX9_isChain_9 ?_
    refine xg_9_s C a0.1 w_643 dX9_isChain_10 ?_
    refine xbipush C (v := (nI 12)) dX9_isChain_13 (by decide) ?_
    refine xiload_n C 1 rfl rfl dX9_isChain_15 ?_
    refine xiadd C dX9_isChain_16 ?_
    obtain ⟨hi17, h⟩ := ix_some h
    refine xia_14 C ((nI 12) + x1).toNatClampNeg rfl a0.2.1 hi17 dX9_isChain_17 ?_
    refine xiconst C (v := (nI 1)) dX9_isChain_18 (by decide) ?_
    refine xisub C dX9_isChain_19 ?_
    obtain ⟨r20, G20, hc20, h⟩ := bd_some h
    refine xSi C (As := [.int x2, .int (nI 0), .int ((G1 (q0 + 1) ((nI 12) + x1).toNatClampNeg) - (nI 1))]) (rest := []) (kX9_in hc20) w_688 w_689 mwX9_in rfl ⟨Nat.le_of_ble_eq_true rfl, Nat.le_of_ble_eq_true rfl⟩ ⟨Nat.le_refl _, Nat.le_refl _⟩ (Nat.le_of_ble_eq_true rfl) dX9_isChain_20 ?_
    refine xif_eq C (tgt := 30) h (by decide) dX9_isChain_23 (fun h => ?_) (fun h => ?_)
    · refine xiconst C (v := (nI 0)) dX9_isChain_30 (by decide) ?_
      obtain ⟨rfl, rfl⟩ := so_2 h
      exact xzret C (Or.inl rfl) rfl dX9_isChain_31
    · refine xiconst C (v := (nI 1)) dX9_isChain_26 (by decide) ?_
      refine xgoto C (tgt := 31) (by decide) dX9_isChain_27 ?_
      obtain ⟨rfl, rfl⟩ := so_2 h
      exact xzret C (Or.inr rfl) rfl dX9_isChain_31
/-- HedgeChainsModel.isClosed(I)Z -/
theorem kX9_isClosed {r : Int32}  {q0 : Nat} {x1 : Int32} (a0 : A9 kd NP q0) {G : Mem} (h : fX9_isClosed q0 x1 G = some (r, G')) : xMi l D cy ad kd NP A yX9_isClosed cX9_isClosed 3 (some .boolean) 0 0 [.ref (ad q0), .int x1] G r G' := by
  refine xMi_of trivial (by decide +kernel) (Nat.le_of_ble_eq_true rfl) (fun p e s m args below meth c C => ?_)
  have C : xC p s m args meth c cX9_isClosed RX9 3 (some .boolean) D cy := C
  refine xsub C (lv' := [(0, .ref (ad q0)), (1, .int x1)]) [0, 1] rfl ?_
  unfold fX9_isClosed at h
  refine xiload_n C 1 rfl rfl dX9_isClosed_0 ?_
  refine xbipush C (v := (nI 52)) dX9_isClosed_1 (by decide) ?_
  refine xirem C dX9_isClosed_3 (by decide) ?_
  refine xistore_n C (lv' := [(2, .int (x1 - x1 / (nI 52) * (nI 52))), (0, .ref (ad q0)), (1, .int x1)]) rfl (by decide) rfl dX9_isClosed_4 ?_
  refine xaload_n C 1 rfl rfl dX9_isClosed_5 ?_
  refine xg_9_s C a0.1 w_643 dX9_isClosed_6 ?_
  refine xbipush C (v := (nI 9)) dX9_isClosed_9 (by decide) ?_
  refine xia_14 C 9 (by decide) a0.2.1 (xvi (by decide)) dX9_isClosed_11 ?_
  refine xaload_n C 1 rfl rfl dX9_isClosed_12 ?_
  refine xg_9_s C a0.1 w_643 dX9_isClosed_13 ?_
  refine xbipush C (v := (nI 10)) dX9_isClosed_16 (by decide) ?_
  refine xia_14 C 10 (by decide) a0.2.1 (xvi (by decide)) dX9_isClosed_18 ?_
  refine xicmp_gt C (tgt := 52) h (by decide) dX9_isClosed_19 (fun h => ?_) (fun h => ?_)
  · refine xiload_n C 0 rfl rfl dX9_isClosed_52 ?_
    refine xaload_n C 1 rfl rfl dX9_isClosed_53 ?_
    refine xg_9_s C a0.1 w_643 dX9_isClosed_54 ?_
    refine xbipush C (v := (nI 9)) dX9_isClosed_57 (by decide) ?_
    refine xia_14 C 9 (by decide) a0.2.1 (xvi (by decide)) dX9_isClosed_59 ?_
    refine xicmp_ge C (tgt := 74) h (by decide) dX9_isClosed_60 (fun h => ?_) (fun h => ?_)
    · refine xiconst C (v := (nI 1)) dX9_isClosed_74 (by decide) ?_
      refine xgoto C (tgt := 79) (by decide) dX9_isClosed_75 ?_
      obtain ⟨rfl, rfl⟩ := so_2 h
      exact xzret C (Or.inr rfl) rfl dX9_isClosed_79
    · refine xiload_n C 0 rfl rfl dX9_isClosed_63 ?_
      refine xaload_n C 1 rfl rfl dX9_isClosed_64 ?_
      refine xg_9_s C a0.1 w_643 dX9_isClosed_65 ?_
      refine xbipush C (v := (nI 10)) dX9_isClosed_68 (by decide) ?_
      refine xia_14 C 10 (by decide) a0.2.1 (xvi (by decide)) dX9_isClosed_70 ?_
      refine xicmp_gt C (tgt := 78) h (by decide) dX9_isClosed_71 (fun h => ?_) (fun h => ?_)
      · refine xiconst C (v := (nI 0)) dX9_isClosed_78 (by decide) ?_
        obtain ⟨rfl, rfl⟩ := so_2 h
        exact xzret C (Or.inl rfl) rfl dX9_isClosed_79
      · refine xiconst C (v := (nI 1)) dX9_isClosed_74 (by decide) ?_
        refine xgoto C (tgt := 79) (by decide) dX9_isClosed_75 ?_
        obtain ⟨rfl, rfl⟩ := so_2 h
        exact xzret C (Or.inr rfl) rfl dX9_isClosed_79
  · refine xiload_n C 0 rfl rfl dX9_isClosed_22 ?_
    refine xaload_n C 1 rfl rfl dX9_isClosed_23 ?_
    refine xg_9_s C a0.1 w_643 dX9_isClosed_24 ?_
    refine xbipush C (v := (nI 9)) dX9_isClosed_27 (by decide) ?_
    refine xia_14 C 9 (by decide) a0.2.1 (xvi (by decide)) dX9_isClosed_29 ?_
    refine xicmp_lt C (tgt := 48) h (by decide) dX9_isClosed_30 (fun h => ?_) (fun h => ?_)
    · refine xiconst C (v := (nI 0)) dX9_isClosed_48 (by decide) ?_
      refine xgoto C (tgt := 79) (by decide) dX9_isClosed_49 ?_
      obtain ⟨rfl, rfl⟩ := so_2 h
      exact xzret C (Or.inl rfl) rfl dX9_isClosed_79
    · refine xiload_n C 0 rfl rfl dX9_isClosed_33 ?_
      refine xaload_n C 1 rfl rfl dX9_isClosed_34 ?_
      refine xg_9_s C a0.1 w_643 dX9_isClosed_35 ?_
      refine xbipush C (v := (nI 10)) dX9_isClosed_38 (by decide) ?_
      refine xia_14 C 10 (by decide) a0.2.1 (xvi (by decide)) dX9_isClosed_40 ?_
      refine xicmp_gt C (tgt := 48) h (by decide) dX9_isClosed_41 (fun h => ?_) (fun h => ?_)
      · refine xiconst C (v := (nI 0)) dX9_isClosed_48 (by decide) ?_
        refine xgoto C (tgt := 79) (by decide) dX9_isClosed_49 ?_
        obtain ⟨rfl, rfl⟩ := so_2 h
        exact xzret C (Or.inl rfl) rfl dX9_isClosed_79
      · refine xiconst C (v := (nI 1)) dX9_isClosed_44 (by decide) ?_
        refine xgoto C (tgt := 79) (by decide) dX9_isClosed_45 ?_
        obtain ⟨rfl, rfl⟩ := so_2 h
        exact xzret C (Or.inr rfl) rfl dX9_isClosed_79
/-- HedgeChainsModel.thickness(II)I -/
theorem kX9_thickness {r : Int32}  {q0 : Nat} {x1 : Int32} {x2 : Int32} (a0 : A9 kd NP q0) {G : Mem} (h : fX9_thickness q0 x1 x2 G = some (r, G')) : xMi l D cy ad kd NP A yX9_thickness cX9_thickness 3 (some .int) 0 0 [.ref (ad q0), .int x1, .int x2] G r G' := by
  refine xMi_of trivial (by decide +kernel) (Nat.le_of_ble_eq_true rfl) (fun p e s m args below meth c C => ?_)
  have C : xC p s m args meth c cX9_thickness RX9 3 (some .int) D cy := C
  refine xsub C (lv' := [(0, .ref (ad q0)), (1, .int x1), (2, .int x2)]) [0, 1, 2] rfl ?_
  unfold fX9_thickness at h
  refine xaload_n C 0 rfl rfl dX9_thickness_0 ?_
  refine xg_9_s C a0.1 w_643 dX9_thickness_1 ?_
  refine xbipush C (v := (nI 42)) dX9_thickness_4 (by decide) ?_
  refine xbipush C (v := (nI 30)) dX9_thickness_6 (by decide) ?_
  refine xiload_n C 1 rfl rfl dX9_thickness_8 ?_
  refine ximul C dX9_thickness_9 ?_
  refine xiadd C dX9_thickness_10 ?_
  refine xiload_n C 2 rfl rfl dX9_thickness_11 ?_
  refine xiadd C dX9_thickness_12 ?_
  obtain ⟨hi13, h⟩ := ix_some h
  refine xia_14 C (((nI 42) + ((nI 30) * x1)) + x2).toNatClampNeg rfl a0.2.1 hi13 dX9_thickness_13 ?_
  refine xiconst C (v := (nI 4)) dX9_thickness_14 (by decide) ?_
  refine xidiv C dX9_thickness_15 (by decide) ?_
  refine xbipush C (v := (nI 16)) dX9_thickness_16 (by decide) ?_
  refine xirem C dX9_thickness_18 (by decide) ?_
  obtain ⟨rfl, rfl⟩ := so_2 h
  exact xiret C rfl dX9_thickness_19
/-- HedgeChainsModel.kindOf(II)I -/
theorem kX9_kindOf {r : Int32}  {q0 : Nat} {x1 : Int32} {x2 : Int32} (a0 : A9 kd NP q0) {G : Mem} (h : fX9_kindOf q0 x1 x2 G = some (r, G')) : xMi l D cy ad kd NP A yX9_kindOf cX9_kindOf 3 (some .int) 0 0 [.ref (ad q0), .int x1, .int x2] G r G' := by
  refine xMi_of trivial (by decide +kernel) (Nat.le_of_ble_eq_true rfl) (fun p e s m args below meth c C => ?_)
  have C : xC p s m args meth c cX9_kindOf RX9 3 (some .int) D cy := C
  refine xsub C (lv' := [(0, .ref (ad q0)), (1, .int x1), (2, .int x2)]) [0, 1, 2] rfl ?_
  unfold fX9_kindOf at h
  refine xaload_n C 0 rfl rfl dX9_kindOf_0 ?_
  refine xg_9_s C a0.1 w_643 dX9_kindOf_1 ?_
  refine xbipush C (v := (nI 42)) dX9_kindOf_4 (by decide) ?_
  refine xbipush C (v := (nI 30)) dX9_kindOf_6 (by decide) ?_
  refine xiload_n C 1 rfl rfl dX9_kindOf_8 ?_
  refine ximul C dX9_kindOf_9 ?_
  refine xiadd C dX9_kindOf_10 ?_
  refine xiload_n C 2 rfl rfl dX9_kindOf_11 ?_
  refine xiadd C dX9_kindOf_12 ?_
  obtain ⟨hi13, h⟩ := ix_some h
  refine xia_14 C (((nI 42) + ((nI 30) * x1)) + x2).toNatClampNeg rfl a0.2.1 hi13 dX9_kindOf_13 ?_
  refine xiconst C (v := (nI 4)) dX9_kindOf_14 (by decide) ?_
  refine xirem C dX9_kindOf_15 (by decide) ?_
  obtain ⟨rfl, rfl⟩ := so_2 h
  exact xiret C rfl dX9_kindOf_16
/-- HedgeChainsModel.canLay(II)Z -/
theorem kX9_canLay {r : Int32}  {q0 : Nat} {x1 : Int32} {x2 : Int32} (a0 : A9 kd NP q0) {G : Mem} (h : fX9_canLay q0 x1 x2 G = some (r, G')) : xMi l D cy ad kd NP A yX9_canLay cX9_canLay 4 (some .boolean) 1 22 [.ref (ad q0), .int x1, .int x2] G r G' := by
  refine xMi_of trivial (by decide +kernel) (Nat.le_of_ble_eq_true rfl) (fun p e s m args below meth c C => ?_)
  have C : xC p s m args meth c cX9_canLay RX9 4 (some .boolean) D cy := C
  refine xsub C (lv' := [(0, .ref (ad q0)), (1, .int x1), (2, .int x2)]) [0, 1, 2] rfl ?_
  unfold fX9_canLay at h
  refine xaload_n C 0 rfl rfl dX9_canLay_0 ?_
  refine xiload_n C 1 rfl rfl dX9_canLay_1 ?_
  refine xiload_n C 2 rfl rfl dX9_canLay_2 ?_
  obtain ⟨r3, G3, hc3, h⟩ := bd_some h
  refine xVi C (As := [.int x1, .int x2]) (rest := []) (kX9_thickness a0 hc3) a0.1 rfl rfl w_699 mvX9_thickness mwX9_thickness rfl ⟨Nat.le_of_ble_eq_true rfl, Nat.le_of_ble_eq_true rfl⟩ ⟨Nat.le_refl _, Nat.le_refl _⟩ (Nat.le_of_ble_eq_true rfl) dX9_canLay_3 ?_
  refine xistore_n C (lv' := [(3, .int r3), (0, .ref (ad q0)), (1, .int x1), (2, .int x2)]) rfl (by decide) rfl dX9_canLay_6 ?_
  refine xaload_n C 1 rfl rfl dX9_canLay_7 ?_
  refine xiload_n C 2 rfl rfl dX9_canLay_8 ?_
  refine xiload_n C 3 rfl rfl dX9_canLay_9 ?_
  obtain ⟨r10, G10, hc10, h⟩ := bd_some h
  refine xVi C (As := [.int x1, .int x2]) (rest := []) (kX9_kindOf a0 hc10) a0.1 rfl rfl w_703 mvX9_kindOf mwX9_kindOf rfl ⟨Nat.le_of_ble_eq_true rfl, Nat.le_of_ble_eq_true rfl⟩ ⟨Nat.le_refl _, Nat.le_refl _⟩ (Nat.le_of_ble_eq_true rfl) dX9_canLay_10 ?_
  refine xif_ne C (tgt := 45) h (by decide) dX9_canLay_13 (fun h => ?_) (fun h => ?_)
  · refine xiload_n C 0 rfl rfl dX9_canLay_16 ?_
    refine xiconst C (v := (nI 2)) dX9_canLay_17 (by decide) ?_
    refine xicmp_lt C (tgt := 45) h (by decide) dX9_canLay_18 (fun h => ?_) (fun h => ?_)
    · refine xiconst C (v := (nI 0)) dX9_canLay_45 (by decide) ?_
      obtain ⟨rfl, rfl⟩ := so_2 h
      exact xzret C (Or.inl rfl) rfl dX9_canLay_46
    · refine xaload_n C 1 rfl rfl dX9_canLay_21 ?_
      refine xg_9_s C a0.1 w_643 dX9_canLay_22 ?_
      refine xiconst C (v := (nI 1)) dX9_canLay_25 (by decide) ?_
      refine xia_14 C 1 (by decide) a0.2.1 (xvi (by decide)) dX9_canLay_26 ?_
      refine xiload_n C 0 rfl rfl dX9_canLay_27 ?_
      refine xicmp_lt C (tgt := 45) h (by decide) dX9_canLay_28 (fun h => ?_) (fun h => ?_)
      · refine xiconst C (v := (nI 0)) dX9_canLay_45 (by decide) ?_
        obtain ⟨rfl, rfl⟩ := so_2 h
        exact xzret C (Or.inl rfl) rfl dX9_canLay_46
      · refine xaload_n C 1 rfl rfl dX9_canLay_31 ?_
        refine xg_9_s C a0.1 w_643 dX9_canLay_32 ?_
        refine xiconst C (v := (nI 2)) dX9_canLay_35 (by decide) ?_
        refine xia_14 C 2 (by decide) a0.2.1 (xvi (by decide)) dX9_canLay_36 ?_
        refine xiconst C (v := (nI 2)) dX9_canLay_37 (by decide) ?_
        refine xicmp_lt C (tgt := 45) h (by decide) dX9_canLay_38 (fun h => ?_) (fun h => ?_)
        · refine xiconst C (v := (nI 0)) dX9_canLay_45 (by decide) ?_
          obtain ⟨rfl, rfl⟩ := so_2 h
          exact xzret C (Or.inl rfl) rfl dX9_canLay_46
        · refine xiconst C (v := (nI 1)) dX9_canLay_41 (by decide) ?_
          refine xgoto C (tgt := 46) (by decide) dX9_canLay_42 ?_
          obtain ⟨rfl, rfl⟩ := so_2 h
          exact xzret C (Or.inr rfl) rfl dX9_canLay_46
  · refine xiconst C (v := (nI 0)) dX9_canLay_45 (by decide) ?_
    obtain ⟨rfl, rfl⟩ := so_2 h
    exact xzret C (Or.inl rfl) rfl dX9_canLay_46
/-- HedgeChainsModel.keeps()V -/
theorem wX9_keeps_2 (C : xC p s m args meth c cX9_keeps RX9 2 none D cy) (q0 : Nat) (a0 : A9 kd NP q0) : ∀ (n : Nat) (x1 : Int32) (G : Mem) (h : itr n (FX9_keeps_2 q0) (x1, G) = some G'), xX p l e (xR 0 0) s m args below meth c A s.heap D cy ad kd NP 2 0 0 (xQv below D cy ad kd NP A args s G') G 2 [(0, .ref (ad q0)), (1, .int x1)] [] := by
  intro n
  induction n with
  | zero =>
    intro x1 G h
    have h : none = some G' := h
    cases h
  | succ n ih =>
    intro x1 G h
    have h : bX9_keeps_2 q0 (itr n (FX9_keeps_2 q0)) x1 G = some G' := h
    have hrec2 : ∀ (x1 : Int32) (G : Mem), itr n (FX9_keeps_2 q0) (x1, G) = some G' → xX p l e (xR 0 0) s m args below meth c A s.heap D cy ad kd NP 2 0 0 (xQv below D cy ad kd NP A args s G') G 2 [(0, .ref (ad q0)), (1, .int x1)] [] := fun x1 G h => ih x1 G h
    unfold bX9_keeps_2 at h
    refine xiload_n C 1 rfl rfl dX9_keeps_2 ?_
    refine xsipush C (v := (nI 668)) dX9_keeps_3 (by decide) ?_
    refine xicmp_ge C (tgt := 27) h (by decide) dX9_keeps_6 (fun h => ?_) (fun h => ?_)
    · obtain rfl := so_1 h
      exact xvret C rfl dX9_keeps_27
    · refine xaload_n C 0 rfl rfl dX9_keeps_9 ?_
      refine xg_9_begun C a0.1 w_645 dX9_keeps_10 ?_
      refine xiload_n C 1 rfl rfl dX9_keeps_13 ?_
      refine xaload_n C 0 rfl rfl dX9_keeps_14 ?_
      refine xg_9_s C a0.1 w_643 dX9_keeps_15 ?_
      refine xiload_n C 1 rfl rfl dX9_keeps_18 ?_
      obtain ⟨hi19, h⟩ := ix_some h
      refine xia_14 C x1.toNatClampNeg rfl a0.2.1 hi19 dX9_keeps_19 ?_
      obtain ⟨hi20, h⟩ := ix_some h
      refine xis_14 C x1.toNatClampNeg rfl a0.2.2.2.1 hi20 dX9_keeps_20 ?_
      generalize mset G (q0 + 3) x1.toNatClampNeg (G (q0 + 1) x1.toNatClampNeg) = G20 at h ⊢
      replace h := lt_go h
      refine xiinc C (v := (x1 + nI 1)) (lv' := [(1, .int (x1 + nI 1)), (0, .ref (ad q0))]) 1 rfl rfl (by decide) rfl dX9_keeps_21 ?_
      refine xgoto C (tgt := 2) (by decide) dX9_keeps_24 ?_
      refine xsub C (lv' := [(0, .ref (ad q0)), (1, .int (x1 + nI 1))]) [1, 0] rfl ?_
      exact hrec2 (x1 + nI 1) G20 h
theorem kX9_keeps  {q0 : Nat} (a0 : A9 kd NP q0) {G : Mem} (h : fX9_keeps q0 G = some G') : xMv l D cy ad kd NP A yX9_keeps cX9_keeps 2 none 0 0 [.ref (ad q0)] G G' := by
  refine xMv_of trivial (by decide +kernel) (Nat.le_of_ble_eq_true rfl) (fun p e s m args below meth c C => ?_)
  have C : xC p s m args meth c cX9_keeps RX9 2 none D cy := C
  refine xsub C (lv' := [(0, .ref (ad q0))]) [0] rfl ?_
  unfold fX9_keeps at h
  refine xiconst C (v := (nI 0)) dX9_keeps_0 (by decide) ?_
  refine xistore_n C (lv' := [(1, .int (nI 0)), (0, .ref (ad q0))]) rfl (by decide) rfl dX9_keeps_1 ?_
  refine xsub C (lv' := [(0, .ref (ad q0)), (1, .int (nI 0))]) [1, 0] rfl ?_
  exact wX9_keeps_2 C q0 a0 _ (nI 0) G h
/-- HedgeChainsModel.con(II)I -/
theorem kX9_con {r : Int32}  {q0 : Nat} {x1 : Int32} {x2 : Int32} (a0 : A9 kd NP q0) {G : Mem} (h : fX9_con q0 x1 x2 G = some (r, G')) : xMi l D cy ad kd NP A yX9_con cX9_con 3 (some .int) 0 0 [.ref (ad q0), .int x1, .int x2] G r G' := by
  refine xMi_of trivial (by decide +kernel) (Nat.le_of_ble_eq_true rfl) (fun p e s m args below meth c C => ?_)
  have C : xC p s m args meth c cX9_con RX9 3 (some .int) D cy := C
  refine xsub C (lv' := [(0, .ref (ad q0)), (1, .int x1), (2, .int x2)]) [0, 1, 2] rfl ?_
  unfold fX9_con at h
  refine xaload_n C 0 rfl rfl dX9_con_0 ?_
  refine xg_9_s C a0.1 w_643 dX9_con_1 ?_
  refine xbipush C (v := (nI 18)) dX9_con_4 (by decide) ?_
  refine xiconst C (v := (nI 4)) dX9_con_6 (by decide) ?_
  refine xiload_n C 1 rfl rfl dX9_con_7 ?_
  refine ximul C dX9_con_8 ?_
  refine xiadd C dX9_con_9 ?_
  refine xiload_n C 2 rfl rfl dX9_con_10 ?_
  refine xiadd C dX9_con_11 ?_
  obtain ⟨hi12, h⟩ := ix_some h
  refine xia_14 C (((nI 18) + ((nI 4) * x1)) + x2).toNatClampNeg rfl a0.2.1 hi12 dX9_con_12 ?_
  obtain ⟨rfl, rfl⟩ := so_2 h
  exact xiret C rfl dX9_con_13
/-- HedgeChainsModel.ofKind(II)I -/
theorem wX9_ofKind_36 {r : Int32} (C : xC p s m args meth c cX9_ofKind RX9 5 (some .int) D cy) (q0 : Nat) (x1 : Int32) (x2 : Int32) (x4 : Int32) (y0 : Int32) (y1 : Int32) {rec5 : (Int32 × Int32 × Mem) → Option (Int32 × Mem)} (hrec5 : ∀ (x3 : Int32) (x4 : Int32) (G : Mem), rec5 (x3, x4, G) = some (r, G') → xX p l e (xR 1 22) s m args below meth c A s.heap D cy ad kd NP 5 0 0 (xQi below D cy ad kd NP A args s r G') G 5 [(0, .ref (ad q0)), (1, .int x1), (2, .int x2), (3, .int x3), (4, .int x4)] []) (G : Mem) (a0 : A9 kd NP q0) (h : jX9_ofKind_36 rec5 q0 x1 x2 x4 y0 y1 G = some (r, G')) : xX p l e (xR 1 22) s m args below meth c A s.heap D cy ad kd NP 5 0 0 (xQi below D cy ad kd NP A args s r G') G 36 [(0, .ref (ad q0)), (1, .int x1), (2, .int x2), (4, .int x4)] [.int y0, .int y1] := by
  unfold jX9_ofKind_36 at h
  refine xiadd C dX9_ofKind_36 ?_
  refine xistore_n C (lv' := [(3, .int (y1 + y0)), (0, .ref (ad q0)), (1, .int x1), (2, .int x2), (4, .int x4)]) rfl (by decide) rfl dX9_ofKind_37 ?_
  refine xiinc C (v := (x4 + nI 1)) (lv' := [(4, .int (x4 + nI 1)), (3, .int (y1 + y0)), (0, .ref (ad q0)), (1, .int x1), (2, .int x2)]) 4 rfl rfl (by decide) rfl dX9_ofKind_38 ?_
  refine xgoto C (tgt := 5) (by decide) dX9_ofKind_41 ?_
  refine xsub C (lv' := [(0, .ref (ad q0)), (1, .int x1), (2, .int x2), (3, .int (y1 + y0)), (4, .int (x4 + nI 1))]) [2, 3, 4, 1, 0] rfl ?_
  exact hrec5 (y1 + y0) (x4 + nI 1) G h
theorem wX9_ofKind_5 {r : Int32} (C : xC p s m args meth c cX9_ofKind RX9 5 (some .int) D cy) (q0 : Nat) (x1 : Int32) (x2 : Int32) (a0 : A9 kd NP q0) : ∀ (n : Nat) (x3 : Int32) (x4 : Int32) (G : Mem) (h : itr n (FX9_ofKind_5 q0 x1 x2) (x3, x4, G) = some (r, G')), xX p l e (xR 1 22) s m args below meth c A s.heap D cy ad kd NP 5 0 0 (xQi below D cy ad kd NP A args s r G') G 5 [(0, .ref (ad q0)), (1, .int x1), (2, .int x2), (3, .int x3), (4, .int x4)] [] := by
  intro n
  induction n with
  | zero =>
    intro x3 x4 G h
    have h : none = some (r, G') := h
    cases h
  | succ n ih =>
    intro x3 x4 G h
    have h : bX9_ofKind_5 q0 x1 x2 (itr n (FX9_ofKind_5 q0 x1 x2)) x3 x4 G = some (r, G') := h
    have hrec5 : ∀ (x3 : Int32) (x4 : Int32) (G : Mem), itr n (FX9_ofKind_5 q0 x1 x2) (x3, x4, G) = some (r, G') → xX p l e (xR 1 22) s m args below meth c A s.heap D cy ad kd NP 5 0 0 (xQi below D cy ad kd NP A args s r G') G 5 [(0, .ref (ad q0)), (1, .int x1), (2, .int x2), (3, .int x3), (4, .int x4)] [] := fun x3 x4 G h => ih x3 x4 G h
    unfold bX9_ofKind_5 at h
    refine xiload C 4 rfl dX9_ofKind_5 ?_
    refine xaload_n C 0 rfl rfl dX9_ofKind_7 ?_
    refine xg_9_s C a0.1 w_643 dX9_ofKind_8 ?_
    refine xbipush C (v := (nI 12)) dX9_ofKind_11 (by decide) ?_
    refine xiload_n C 1 rfl rfl dX9_ofKind_13 ?_
    refine xiadd C dX9_ofKind_14 ?_
    obtain ⟨hi15, h⟩ := ix_some h
    refine xia_14 C ((nI 12) + x1).toNatClampNeg rfl a0.2.1 hi15 dX9_ofKind_15 ?_
    refine xicmp_ge C (tgt := 44) h (by decide) dX9_ofKind_16 (fun h => ?_) (fun h => ?_)
    · refine xiload_n C 3 rfl rfl dX9_ofKind_44 ?_
      obtain ⟨rfl, rfl⟩ := so_2 h
      exact xiret C rfl dX9_ofKind_45
    · refine xiload_n C 3 rfl rfl dX9_ofKind_19 ?_
      refine xaload_n C 0 rfl rfl dX9_ofKind_20 ?_
      refine xiload_n C 1 rfl rfl dX9_ofKind_21 ?_
      refine xiload C 4 rfl dX9_ofKind_22 ?_
      obtain ⟨r24, G24, hc24, h⟩ := bd_some h
      refine xVi C (As := [.int x1, .int x4]) (rest := [.int x3]) (kX9_kindOf a0 hc24) a0.1 rfl rfl w_703 mvX9_kindOf mwX9_kindOf rfl ⟨Nat.le_of_ble_eq_true rfl, Nat.le_of_ble_eq_true rfl⟩ ⟨Nat.le_refl _, Nat.le_refl _⟩ (Nat.le_of_ble_eq_true rfl) dX9_ofKind_24 ?_
      refine xiload_n C 2 rfl rfl dX9_ofKind_27 ?_
      refine xicmp_ne C (tgt := 35) h (by decide) dX9_ofKind_28 (fun h => ?_) (fun h => ?_)
      · refine xiconst C (v := (nI 1)) dX9_ofKind_31 (by decide) ?_
        refine xgoto C (tgt := 36) (by decide) dX9_ofKind_32 ?_
        refine xsub C (lv' := [(0, .ref (ad q0)), (1, .int x1), (2, .int x2), (4, .int x4)]) [0, 1, 2, 4] rfl ?_
        exact wX9_ofKind_36 C q0 x1 x2 x4 (nI 1) x3 hrec5 G24 a0 h
      · refine xiconst C (v := (nI 0)) dX9_ofKind_35 (by decide) ?_
        refine xsub C (lv' := [(0, .ref (ad q0)), (1, .int x1), (2, .int x2), (4, .int x4)]) [0, 1, 2, 4] rfl ?_
        exact wX9_ofKind_36 C q0 x1 x2 x4 (nI 0) x3 hrec5 G24 a0 h
theorem kX9_ofKind {r : Int32}  {q0 : Nat} {x1 : Int32} {x2 : Int32} (a0 : A9 kd NP q0) {G : Mem} (h : fX9_ofKind q0 x1 x2 G = some (r, G')) : xMi l D cy ad kd NP A yX9_ofKind cX9_ofKind 5 (some .int) 1 22 [.ref (ad q0), .int x1, .int x2] G r G' := by
  refine xMi_of trivial (by decide +kernel) (Nat.le_of_ble_eq_true rfl) (fun p e s m args below meth c C => ?_)
  have C : xC p s m args meth c cX9_ofKind RX9 5 (some .int) D cy := C
  refine xsub C (lv' := [(0, .ref (ad q0)), (1, .int x1), (2, .int x2)]) [0, 1, 2] rfl ?_
  unfold fX9_ofKind at h
  refine xiconst C (v := (nI 0)) dX9_ofKind_0 (by decide) ?_
  refine xistore_n C (lv' := [(3, .int (nI 0)), (0, .ref (ad q0)), (1, .int x1), (2, .int x2)]) rfl (by decide) rfl dX9_ofKind_1 ?_
  refine xiconst C (v := (nI 0)) dX9_ofKind_2 (by decide) ?_
  refine xistore C (lv' := [(4, .int (nI 0)), (3, .int (nI 0)), (0, .ref (ad q0)), (1, .int x1), (2, .int x2)]) (by decide) rfl dX9_ofKind_3 ?_
  refine xsub C (lv' := [(0, .ref (ad q0)), (1, .int x1), (2, .int x2), (3, .int (nI 0)), (4, .int (nI 0))]) [2, 3, 4, 1, 0] rfl ?_
  exact wX9_ofKind_5 C q0 x1 x2 a0 _ (nI 0) (nI 0) G h
/-- HedgeChainsModel.ends(I)V -/
theorem wX9_ends_2 (C : xC p s m args meth c cX9_ends RX9 3 none D cy) (q0 : Nat) (x1 : Int32) (a0 : A9 kd NP q0) : ∀ (n : Nat) (x2 : Int32) (G : Mem) (h : itr n (FX9_ends_2 q0 x1) (x2, G) = some G'), xX p l e (xR 2 46) s m args below meth c A s.heap D cy ad kd NP 3 0 0 (xQv below D cy ad kd NP A args s G') G 2 [(0, .ref (ad q0)), (1, .int x1), (2, .int x2)] [] := by
  intro n
  induction n with
  | zero =>
    intro x2 G h
    have h : none = some G' := h
    cases h
  | succ n ih =>
    intro x2 G h
    have h : bX9_ends_2 q0 x1 (itr n (FX9_ends_2 q0 x1)) x2 G = some G' := h
    have hrec2 : ∀ (x2 : Int32) (G : Mem), itr n (FX9_ends_2 q0 x1) (x2, G) = some G' → xX p l e (xR 2 46) s m args below meth c A s.heap D cy ad kd NP 3 0 0 (xQv below D cy ad kd NP A args s G') G 2 [(0, .ref (ad q0)), (1, .int x1), (2, .int x2)] [] := fun x2 G h => ih x2 G h
    unfold bX9_ends_2 at h
    refine xiload_n C 2 rfl rfl dX9_ends_2 ?_
    refine xiconst C (v := (nI 4)) dX9_ends_3 (by decide) ?_
    refine xicmp_ge C (tgt := 36) h (by decide) dX9_ends_4 (fun h => ?_) (fun h => ?_)
    · obtain rfl := so_1 h
      exact xvret C rfl dX9_ends_36
    · refine xaload_n C 0 rfl rfl dX9_ends_7 ?_
      refine xiload_n C 1 rfl rfl dX9_ends_8 ?_
      refine xiconst C (v := (nI 0)) dX9_ends_9 (by decide) ?_
      obtain ⟨r10, G10, hc10, h⟩ := bd_some h
      refine xVi C (As := [.int x1, .int (nI 0)]) (rest := []) (kX9_ofKind a0 hc10) a0.1 rfl rfl w_719 mvX9_ofKind mwX9_ofKind rfl ⟨Nat.le_of_ble_eq_true rfl, Nat.le_of_ble_eq_true rfl⟩ ⟨Nat.le_refl _, Nat.le_refl _⟩ (Nat.le_of_ble_eq_true rfl) dX9_ends_10 ?_
      refine xif_ne C (tgt := 36) h (by decide) dX9_ends_13 (fun h => ?_) (fun h => ?_)
      · refine xaload_n C 0 rfl rfl dX9_ends_16 ?_
        refine xg_9_s C a0.1 w_643 dX9_ends_17 ?_
        refine xbipush C (v := (nI 18)) dX9_ends_20 (by decide) ?_
        refine xiconst C (v := (nI 4)) dX9_ends_22 (by decide) ?_
        refine xiload_n C 1 rfl rfl dX9_ends_23 ?_
        refine ximul C dX9_ends_24 ?_
        refine xiadd C dX9_ends_25 ?_
        refine xiload_n C 2 rfl rfl dX9_ends_26 ?_
        refine xiadd C dX9_ends_27 ?_
        refine xiconst C (v := (nI 0)) dX9_ends_28 (by decide) ?_
        obtain ⟨hi29, h⟩ := ix_some h
        refine xis_14 C (((nI 18) + ((nI 4) * x1)) + x2).toNatClampNeg rfl a0.2.1 hi29 dX9_ends_29 ?_
        generalize mset G10 (q0 + 1) (((nI 18) + ((nI 4) * x1)) + x2).toNatClampNeg (nI 0) = G29 at h ⊢
        replace h := lt_go h
        refine xiinc C (v := (x2 + nI 1)) (lv' := [(2, .int (x2 + nI 1)), (0, .ref (ad q0)), (1, .int x1)]) 2 rfl rfl (by decide) rfl dX9_ends_30 ?_
        refine xgoto C (tgt := 2) (by decide) dX9_ends_33 ?_
        refine xsub C (lv' := [(0, .ref (ad q0)), (1, .int x1), (2, .int (x2 + nI 1))]) [1, 2, 0] rfl ?_
        exact hrec2 (x2 + nI 1) G29 h
      · obtain rfl := so_1 h
        exact xvret C rfl dX9_ends_36
theorem kX9_ends  {q0 : Nat} {x1 : Int32} (a0 : A9 kd NP q0) {G : Mem} (h : fX9_ends q0 x1 G = some G') : xMv l D cy ad kd NP A yX9_ends cX9_ends 3 none 2 46 [.ref (ad q0), .int x1] G G' := by
  refine xMv_of trivial (by decide +kernel) (Nat.le_of_ble_eq_true rfl) (fun p e s m args below meth c C => ?_)
  have C : xC p s m args meth c cX9_ends RX9 3 none D cy := C
  refine xsub C (lv' := [(0, .ref (ad q0)), (1, .int x1)]) [0, 1] rfl ?_
  unfold fX9_ends at h
  refine xiconst C (v := (nI 0)) dX9_ends_0 (by decide) ?_
  refine xistore_n C (lv' := [(2, .int (nI 0)), (0, .ref (ad q0)), (1, .int x1)]) rfl (by decide) rfl dX9_ends_1 ?_
  refine xsub C (lv' := [(0, .ref (ad q0)), (1, .int x1), (2, .int (nI 0))]) [1, 2, 0] rfl ?_
  exact wX9_ends_2 C q0 x1 a0 _ (nI 0) G h
/-- HedgeChainsModel.acted(I)I -/
theorem wX9_acted_55 {r : Int32} (C : xC p s m args meth c cX9_acted RX9 3 (some .int) D cy) (q0 : Nat) (x1 : Int32) (a0 : A9 kd NP q0) : ∀ (n : Nat) (x2 : Int32) (G : Mem) (h : itr n (FX9_acted_55 q0 x1) (x2, G) = some (r, G')), xX p l e (xR 0 0) s m args below meth c A s.heap D cy ad kd NP 3 0 0 (xQi below D cy ad kd NP A args s r G') G 55 [(0, .ref (ad q0)), (1, .int x1), (2, .int x2)] [] := by
  intro n
  induction n with
  | zero =>
    intro x2 G h
    have h : none = some (r, G') := h
    cases h
  | succ n ih =>
    intro x2 G h
    have h : bX9_acted_55 q0 x1 (itr n (FX9_acted_55 q0 x1)) x2 G = some (r, G') := h
    have hrec55 : ∀ (x2 : Int32) (G : Mem), itr n (FX9_acted_55 q0 x1) (x2, G) = some (r, G') → xX p l e (xR 0 0) s m args below meth c A s.heap D cy ad kd NP 3 0 0 (xQi below D cy ad kd NP A args s r G') G 55 [(0, .ref (ad q0)), (1, .int x1), (2, .int x2)] [] := fun x2 G h => ih x2 G h
    unfold bX9_acted_55 at h
    refine xiload_n C 2 rfl rfl dX9_acted_55 ?_
    refine xsipush C (v := (nI 668)) dX9_acted_56 (by decide) ?_
    refine xicmp_ge C (tgt := 89) h (by decide) dX9_acted_59 (fun h => ?_) (fun h => ?_)
    · refine xaload_n C 0 rfl rfl dX9_acted_89 ?_
      refine xdup C dX9_acted_90 rfl ?_
      refine xg_9_states C a0.1 w_647 dX9_acted_91 ?_
      refine xiconst C (v := (nI 1)) dX9_acted_94 (by decide) ?_
      refine xiadd C dX9_acted_95 ?_
      refine xp_9_states C a0.1 w_647 dX9_acted_96 ?_
      generalize mset G q0 4 ((G q0 4) + (nI 1)) = G96 at h ⊢
      replace h := lt_go h
      refine xiload_n C 1 rfl rfl dX9_acted_99 ?_
      obtain ⟨rfl, rfl⟩ := so_2 h
      exact xiret C rfl dX9_acted_100
    · refine xaload_n C 0 rfl rfl dX9_acted_62 ?_
      refine xg_9_was C a0.1 w_644 dX9_acted_63 ?_
      refine xsipush C (v := (nI 668)) dX9_acted_66 (by decide) ?_
      refine xaload_n C 0 rfl rfl dX9_acted_69 ?_
      refine xg_9_states C a0.1 w_647 dX9_acted_70 ?_
      refine ximul C dX9_acted_73 ?_
      refine xiload_n C 2 rfl rfl dX9_acted_74 ?_
      refine xiadd C dX9_acted_75 ?_
      refine xaload_n C 0 rfl rfl dX9_acted_76 ?_
      refine xg_9_begun C a0.1 w_645 dX9_acted_77 ?_
      refine xiload_n C 2 rfl rfl dX9_acted_80 ?_
      obtain ⟨hi81, h⟩ := ix_some h
      refine xia_14 C x2.toNatClampNeg rfl a0.2.2.2.1 hi81 dX9_acted_81 ?_
      obtain ⟨hi82, h⟩ := ix_some h
      refine xis_15 C (((nI 668) * (G q0 4)) + x2).toNatClampNeg rfl a0.2.2.1 hi82 dX9_acted_82 ?_
      generalize mset G (q0 + 2) (((nI 668) * (G q0 4)) + x2).toNatClampNeg (G (q0 + 3) x2.toNatClampNeg) = G82 at h ⊢
      replace h := lt_go h
      refine xiinc C (v := (x2 + nI 1)) (lv' := [(2, .int (x2 + nI 1)), (0, .ref (ad q0)), (1, .int x1)]) 2 rfl rfl (by decide) rfl dX9_acted_83 ?_
      refine xgoto C (tgt := 55) (by decide) dX9_acted_86 ?_
      refine xsub C (lv' := [(0, .ref (ad q0)), (1, .int x1), (2, .int (x2 + nI 1))]) [1, 2, 0] rfl ?_
      exact hrec55 (x2 + nI 1) G82 h
theorem wX9_acted_14 {r : Int32} (C : xC p s m args meth c cX9_acted RX9 3 (some .int) D cy) (q0 : Nat) (x1 : Int32) (a0 : A9 kd NP q0) : ∀ (n : Nat) (x2 : Int32) (G : Mem) (h : itr n (FX9_acted_14 q0 x1) (x2, G) = some (r, G')), xX p l e (xR 0 0) s m args below meth c A s.heap D cy ad kd NP 3 0 0 (xQi below D cy ad kd NP A args s r G') G 14 [(0, .ref (ad q0)), (1, .int x1), (2, .int x2)] [] := by
  intro n
  induction n with
  | zero =>
    intro x2 G h
    have h : none = some (r, G') := h
    cases h
  | succ n ih =>
    intro x2 G h
    have h : bX9_acted_14 q0 x1 (itr n (FX9_acted_14 q0 x1)) x2 G = some (r, G') := h
    have hrec14 : ∀ (x2 : Int32) (G : Mem), itr n (FX9_acted_14 q0 x1) (x2, G) = some (r, G') → xX p l e (xR 0 0) s m args below meth c A s.heap D cy ad kd NP 3 0 0 (xQi below D cy ad kd NP A args s r G') G 14 [(0, .ref (ad q0)), (1, .int x1), (2, .int x2)] [] := fun x2 G h => ih x2 G h
    unfold bX9_acted_14 at h
    refine xiload_n C 2 rfl rfl dX9_acted_14 ?_
    refine xsipush C (v := (nI 2672)) dX9_acted_15 (by decide) ?_
    refine xicmp_ge C (tgt := 43) h (by decide) dX9_acted_18 (fun h => ?_) (fun h => ?_)
    · refine xaload_n C 0 rfl rfl dX9_acted_43 ?_
      refine xdup C dX9_acted_44 rfl ?_
      refine xg_9_states C a0.1 w_647 dX9_acted_45 ?_
      refine xiconst C (v := (nI 1)) dX9_acted_48 (by decide) ?_
      refine xisub C dX9_acted_49 ?_
      refine xp_9_states C a0.1 w_647 dX9_acted_50 ?_
      generalize mset G q0 4 ((G q0 4) - (nI 1)) = G50 at h ⊢
      replace h := lt_go h
      refine xiconst C (v := (nI 0)) dX9_acted_53 (by decide) ?_
      refine xistore_n C (lv' := [(2, .int (nI 0)), (0, .ref (ad q0)), (1, .int x1)]) rfl (by decide) rfl dX9_acted_54 ?_
      refine xsub C (lv' := [(0, .ref (ad q0)), (1, .int x1), (2, .int (nI 0))]) [1, 2, 0] rfl ?_
      exact wX9_acted_55 C q0 x1 a0 _ (nI 0) G50 h
    · refine xaload_n C 0 rfl rfl dX9_acted_21 ?_
      refine xg_9_was C a0.1 w_644 dX9_acted_22 ?_
      refine xiload_n C 2 rfl rfl dX9_acted_25 ?_
      refine xaload_n C 0 rfl rfl dX9_acted_26 ?_
      refine xg_9_was C a0.1 w_644 dX9_acted_27 ?_
      refine xiload_n C 2 rfl rfl dX9_acted_30 ?_
      refine xsipush C (v := (nI 668)) dX9_acted_31 (by decide) ?_
      refine xiadd C dX9_acted_34 ?_
      obtain ⟨hi35, h⟩ := ix_some h
      refine xia_15 C (x2 + (nI 668)).toNatClampNeg rfl a0.2.2.1 hi35 dX9_acted_35 ?_
      obtain ⟨hi36, h⟩ := ix_some h
      refine xis_15 C x2.toNatClampNeg rfl a0.2.2.1 hi36 dX9_acted_36 ?_
      generalize mset G (q0 + 2) x2.toNatClampNeg (G (q0 + 2) (x2 + (nI 668)).toNatClampNeg) = G36 at h ⊢
      replace h := lt_go h
      refine xiinc C (v := (x2 + nI 1)) (lv' := [(2, .int (x2 + nI 1)), (0, .ref (ad q0)), (1, .int x1)]) 2 rfl rfl (by decide) rfl dX9_acted_37 ?_
      refine xgoto C (tgt := 14) (by decide) dX9_acted_40 ?_
      refine xsub C (lv' := [(0, .ref (ad q0)), (1, .int x1), (2, .int (x2 + nI 1))]) [1, 2, 0] rfl ?_
      exact hrec14 (x2 + nI 1) G36 h
theorem kX9_acted {r : Int32}  {q0 : Nat} {x1 : Int32} (a0 : A9 kd NP q0) {G : Mem} (h : fX9_acted q0 x1 G = some (r, G')) : xMi l D cy ad kd NP A yX9_acted cX9_acted 3 (some .int) 0 0 [.ref (ad q0), .int x1] G r G' := by
  refine xMi_of trivial (by decide +kernel) (Nat.le_of_ble_eq_true rfl) (fun p e s m args below meth c C => ?_)
  have C : xC p s m args meth c cX9_acted RX9 3 (some .int) D cy := C
  refine xsub C (lv' := [(0, .ref (ad q0)), (1, .int x1)]) [0, 1] rfl ?_
  unfold fX9_acted at h
  refine xiload_n C 1 rfl rfl dX9_acted_0 ?_
  refine xif_lt C (tgt := 99) h (by decide) dX9_acted_1 (fun h => ?_) (fun h => ?_)
  · refine xiload_n C 1 rfl rfl dX9_acted_99 ?_
    obtain ⟨rfl, rfl⟩ := so_2 h
    exact xiret C rfl dX9_acted_100
  · refine xaload_n C 0 rfl rfl dX9_acted_4 ?_
    refine xg_9_states C a0.1 w_647 dX9_acted_5 ?_
    refine xiconst C (v := (nI 5)) dX9_acted_8 (by decide) ?_
    refine xicmp_ne C (tgt := 53) h (by decide) dX9_acted_9 (fun h => ?_) (fun h => ?_)
    · refine xiconst C (v := (nI 0)) dX9_acted_12 (by decide) ?_
      refine xistore_n C (lv' := [(2, .int (nI 0)), (0, .ref (ad q0)), (1, .int x1)]) rfl (by decide) rfl dX9_acted_13 ?_
      refine xsub C (lv' := [(0, .ref (ad q0)), (1, .int x1), (2, .int (nI 0))]) [1, 2, 0] rfl ?_
      exact wX9_acted_14 C q0 x1 a0 _ (nI 0) G h
    · refine xiconst C (v := (nI 0)) dX9_acted_53 (by decide) ?_
      refine xistore_n C (lv' := [(2, .int (nI 0)), (0, .ref (ad q0)), (1, .int x1)]) rfl (by decide) rfl dX9_acted_54 ?_
      refine xsub C (lv' := [(0, .ref (ad q0)), (1, .int x1), (2, .int (nI 0))]) [1, 2, 0] rfl ?_
      exact wX9_acted_55 C q0 x1 a0 _ (nI 0) G h
/-- HedgeChainsModel.lay(III)I -/
theorem wX9_lay_191 {r : Int32} (C : xC p s m args meth c cX9_lay RX9 6 (some .int) D cy) (q0 : Nat) (x1 : Int32) (x4 : Int32) (G : Mem) (a0 : A9 kd NP q0) (h : jX9_lay_191 q0 x1 x4 G = some (r, G')) : xX p l e (xR 3 68) s m args below meth c A s.heap D cy ad kd NP 6 0 0 (xQi below D cy ad kd NP A args s r G') G 191 [(0, .ref (ad q0)), (1, .int x1), (4, .int x4)] [] := by
  unfold jX9_lay_191 at h
  refine xaload_n C 0 rfl rfl dX9_lay_191 ?_
  refine xiload_n C 1 rfl rfl dX9_lay_192 ?_
  obtain ⟨G193, hc193, h⟩ := bv_some h
  refine xVv C (As := [.int x1]) (rest := []) (kX9_ends a0 hc193) a0.1 rfl rfl w_715 mvX9_ends mwX9_ends rfl ⟨Nat.le_of_ble_eq_true rfl, Nat.le_of_ble_eq_true rfl⟩ ⟨Nat.le_refl _, Nat.le_refl _⟩ (Nat.le_of_ble_eq_true rfl) dX9_lay_193 ?_
  refine xaload_n C 0 rfl rfl dX9_lay_196 ?_
  refine xiload C 2 rfl dX9_lay_197 ?_
  obtain ⟨r199, G199, hc199, h⟩ := bd_some h
  refine xVi C (As := [.int x4]) (rest := []) (kX9_acted a0 hc199) a0.1 rfl rfl w_723 mvX9_acted mwX9_acted rfl ⟨Nat.le_of_ble_eq_true rfl, Nat.le_of_ble_eq_true rfl⟩ ⟨Nat.le_refl _, Nat.le_refl _⟩ (Nat.le_of_ble_eq_true rfl) dX9_lay_199 ?_
  obtain ⟨rfl, rfl⟩ := so_2 h
  exact xiret C rfl dX9_lay_202
theorem wX9_lay_56 {r : Int32} (C : xC p s m args meth c cX9_lay RX9 6 (some .int) D cy) (q0 : Nat) (x1 : Int32) (x3 : Int32) (a0 : A9 kd NP q0) : ∀ (n : Nat) (x4 : Int32) (x5 : Int32) (G : Mem) (h : itr n (FX9_lay_56 q0 x1 x3) (x4, x5, G) = some (r, G')), xX p l e (xR 3 68) s m args below meth c A s.heap D cy ad kd NP 6 0 0 (xQi below D cy ad kd NP A args s r G') G 56 [(0, .ref (ad q0)), (1, .int x1), (3, .int x3), (4, .int x4), (5, .int x5)] [] := by
  intro n
  induction n with
  | zero =>
    intro x4 x5 G h
    have h : none = some (r, G') := h
    cases h
  | succ n ih =>
    intro x4 x5 G h
    have h : bX9_lay_56 q0 x1 x3 (itr n (FX9_lay_56 q0 x1 x3)) x4 x5 G = some (r, G') := h
    have hrec56 : ∀ (x4 : Int32) (x5 : Int32) (G : Mem), itr n (FX9_lay_56 q0 x1 x3) (x4, x5, G) = some (r, G') → xX p l e (xR 3 68) s m args below meth c A s.heap D cy ad kd NP 6 0 0 (xQi below D cy ad kd NP A args s r G') G 56 [(0, .ref (ad q0)), (1, .int x1), (3, .int x3), (4, .int x4), (5, .int x5)] [] := fun x4 x5 G h => ih x4 x5 G h
    unfold bX9_lay_56 at h
    refine xiload C 4 rfl dX9_lay_56 ?_
    refine xaload_n C 0 rfl rfl dX9_lay_58 ?_
    refine xg_9_s C a0.1 w_643 dX9_lay_59 ?_
    refine xbipush C (v := (nI 12)) dX9_lay_62 (by decide) ?_
    refine xiload_n C 1 rfl rfl dX9_lay_64 ?_
    refine xiadd C dX9_lay_65 ?_
    obtain ⟨hi66, h⟩ := ix_some h
    refine xia_14 C ((nI 12) + x1).toNatClampNeg rfl a0.2.1 hi66 dX9_lay_66 ?_
    refine xicmp_ge C (tgt := 191) h (by decide) dX9_lay_67 (fun h => ?_) (fun h => ?_)
    · refine xsub C (lv' := [(0, .ref (ad q0)), (1, .int x1), (4, .int x4)]) [0, 1, 3] rfl ?_
      exact wX9_lay_191 C q0 x1 x4 G a0 h
    · refine xiload C 3 rfl dX9_lay_70 ?_
      refine xiload_n C 2 rfl rfl dX9_lay_72 ?_
      refine xicmp_ge C (tgt := 191) h (by decide) dX9_lay_73 (fun h => ?_) (fun h => ?_)
      · refine xsub C (lv' := [(0, .ref (ad q0)), (1, .int x1), (4, .int x4)]) [0, 1, 3] rfl ?_
        exact wX9_lay_191 C q0 x1 x4 G a0 h
      · refine xaload_n C 0 rfl rfl dX9_lay_76 ?_
        refine xiload_n C 1 rfl rfl dX9_lay_77 ?_
        refine xiload C 4 rfl dX9_lay_78 ?_
        obtain ⟨r80, G80, hc80, h⟩ := bd_some h
        refine xVi C (As := [.int x1, .int x5]) (rest := []) (kX9_canLay a0 hc80) a0.1 rfl rfl w_695 mvX9_canLay mwX9_canLay rfl ⟨Nat.le_of_ble_eq_true rfl, Nat.le_of_ble_eq_true rfl⟩ ⟨Nat.le_refl _, Nat.le_refl _⟩ (Nat.le_of_ble_eq_true rfl) dX9_lay_80 ?_
        refine xif_eq C (tgt := 191) h (by decide) dX9_lay_83 (fun h => ?_) (fun h => ?_)
        · refine xsub C (lv' := [(0, .ref (ad q0)), (1, .int x1), (4, .int x4)]) [0, 1, 3] rfl ?_
          exact wX9_lay_191 C q0 x1 x4 G80 a0 h
        · refine xaload_n C 0 rfl rfl dX9_lay_86 ?_
          refine xg_9_s C a0.1 w_643 dX9_lay_87 ?_
          refine xiconst C (v := (nI 1)) dX9_lay_90 (by decide) ?_
          refine xdup2 C dX9_lay_91 rfl rfl ?_
          refine xia_14 C 1 (by decide) a0.2.1 (xvi (by decide)) dX9_lay_92 ?_
          refine xaload_n C 0 rfl rfl dX9_lay_93 ?_
          refine xiload_n C 1 rfl rfl dX9_lay_94 ?_
          refine xiload C 4 rfl dX9_lay_95 ?_
          obtain ⟨r97, G97, hc97, h⟩ := bd_some h
          refine xVi C (As := [.int x1, .int x5]) (rest := [.int (G80 (q0 + 1) 1), .int (nI 1), .ref (ad (q0 + 1))]) (kX9_thickness a0 hc97) a0.1 rfl rfl w_699 mvX9_thickness mwX9_thickness rfl ⟨Nat.le_of_ble_eq_true rfl, Nat.le_of_ble_eq_true rfl⟩ ⟨Nat.le_refl _, Nat.le_refl _⟩ (Nat.le_of_ble_eq_true rfl) dX9_lay_97 ?_
          refine xisub C dX9_lay_100 ?_
          refine xis_14 C 1 (by decide) a0.2.1 (xvi (by decide)) dX9_lay_101 ?_
          generalize mset G97 (q0 + 1) 1 ((G80 (q0 + 1) 1) - r97) = G101 at h ⊢
          replace h := lt_go h
          refine xaload_n C 0 rfl rfl dX9_lay_102 ?_
          refine xg_9_s C a0.1 w_643 dX9_lay_103 ?_
          refine xiconst C (v := (nI 2)) dX9_lay_106 (by decide) ?_
          refine xdup2 C dX9_lay_107 rfl rfl ?_
          refine xia_14 C 2 (by decide) a0.2.1 (xvi (by decide)) dX9_lay_108 ?_
          refine xiconst C (v := (nI 2)) dX9_lay_109 (by decide) ?_
          refine xisub C dX9_lay_110 ?_
          refine xis_14 C 2 (by decide) a0.2.1 (xvi (by decide)) dX9_lay_111 ?_
          generalize mset G101 (q0 + 1) 2 ((G101 (q0 + 1) 2) - (nI 2)) = G111 at h ⊢
          replace h := lt_go h
          refine xaload_n C 0 rfl rfl dX9_lay_112 ?_
          refine xiload_n C 1 rfl rfl dX9_lay_113 ?_
          refine xiload C 4 rfl dX9_lay_114 ?_
          refine xiconst C (v := (nI 1)) dX9_lay_116 (by decide) ?_
          refine xaload_n C 0 rfl rfl dX9_lay_117 ?_
          refine xiload_n C 1 rfl rfl dX9_lay_118 ?_
          refine xiload C 4 rfl dX9_lay_119 ?_
          obtain ⟨r121, G121, hc121, h⟩ := bd_some h
          refine xVi C (As := [.int x1, .int x5]) (rest := [.int (nI 1), .int x5, .int x1, .ref (ad q0)]) (kX9_thickness a0 hc121) a0.1 rfl rfl w_699 mvX9_thickness mwX9_thickness rfl ⟨Nat.le_of_ble_eq_true rfl, Nat.le_of_ble_eq_true rfl⟩ ⟨Nat.le_refl _, Nat.le_refl _⟩ (Nat.le_of_ble_eq_true rfl) dX9_lay_121 ?_
          obtain ⟨G124, hc124, h⟩ := bv_some h
          refine xVv C (As := [.int x1, .int x5, .int (nI 1), .int r121]) (rest := []) (kX9_lays a0 hc124) a0.1 rfl rfl w_639 mvX9_lays mwX9_lays rfl ⟨Nat.le_of_ble_eq_true rfl, Nat.le_of_ble_eq_true rfl⟩ ⟨Nat.le_refl _, Nat.le_refl _⟩ (Nat.le_of_ble_eq_true rfl) dX9_lay_124 ?_
          refine xaload_n C 0 rfl rfl dX9_lay_127 ?_
          refine xg_9_s C a0.1 w_643 dX9_lay_128 ?_
          refine xiconst C (v := (nI 3)) dX9_lay_131 (by decide) ?_
          refine xdup2 C dX9_lay_132 rfl rfl ?_
          refine xia_14 C 3 (by decide) a0.2.1 (xvi (by decide)) dX9_lay_133 ?_
          refine xaload_n C 0 rfl rfl dX9_lay_134 ?_
          refine xiload_n C 1 rfl rfl dX9_lay_135 ?_
          refine xiconst C (v := (nI 0)) dX9_lay_136 (by decide) ?_
          obtain ⟨r137, G137, hc137, h⟩ := bd_some h
          refine xVi C (As := [.int x1, .int (nI 0)]) (rest := [.int (G124 (q0 + 1) 3), .int (nI 3), .ref (ad (q0 + 1))]) (kX9_con a0 hc137) a0.1 rfl rfl w_711 mvX9_con mwX9_con rfl ⟨Nat.le_of_ble_eq_true rfl, Nat.le_of_ble_eq_true rfl⟩ ⟨Nat.le_refl _, Nat.le_refl _⟩ (Nat.le_of_ble_eq_true rfl) dX9_lay_137 ?_
          refine xaload_n C 0 rfl rfl dX9_lay_140 ?_
          refine xiload_n C 1 rfl rfl dX9_lay_141 ?_
          refine xiconst C (v := (nI 1)) dX9_lay_142 (by decide) ?_
          obtain ⟨r143, G143, hc143, h⟩ := bd_some h
          refine xVi C (As := [.int x1, .int (nI 1)]) (rest := [.int r137, .int (G124 (q0 + 1) 3), .int (nI 3), .ref (ad (q0 + 1))]) (kX9_con a0 hc143) a0.1 rfl rfl w_711 mvX9_con mwX9_con rfl ⟨Nat.le_of_ble_eq_true rfl, Nat.le_of_ble_eq_true rfl⟩ ⟨Nat.le_refl _, Nat.le_refl _⟩ (Nat.le_of_ble_eq_true rfl) dX9_lay_143 ?_
          refine ximul C dX9_lay_146 ?_
          refine xiadd C dX9_lay_147 ?_
          refine xis_14 C 3 (by decide) a0.2.1 (xvi (by decide)) dX9_lay_148 ?_
          generalize mset G143 (q0 + 1) 3 ((G124 (q0 + 1) 3) + (r137 * r143)) = G148 at h ⊢
          replace h := lt_go h
          refine xaload_n C 0 rfl rfl dX9_lay_149 ?_
          refine xg_9_s C a0.1 w_643 dX9_lay_150 ?_
          refine xiconst C (v := (nI 5)) dX9_lay_153 (by decide) ?_
          refine xdup2 C dX9_lay_154 rfl rfl ?_
          refine xia_14 C 5 (by decide) a0.2.1 (xvi (by decide)) dX9_lay_155 ?_
          refine xaload_n C 0 rfl rfl dX9_lay_156 ?_
          refine xiload_n C 1 rfl rfl dX9_lay_157 ?_
          refine xiconst C (v := (nI 0)) dX9_lay_158 (by decide) ?_
          obtain ⟨r159, G159, hc159, h⟩ := bd_some h
          refine xVi C (As := [.int x1, .int (nI 0)]) (rest := [.int (G148 (q0 + 1) 5), .int (nI 5), .ref (ad (q0 + 1))]) (kX9_con a0 hc159) a0.1 rfl rfl w_711 mvX9_con mwX9_con rfl ⟨Nat.le_of_ble_eq_true rfl, Nat.le_of_ble_eq_true rfl⟩ ⟨Nat.le_refl _, Nat.le_refl _⟩ (Nat.le_of_ble_eq_true rfl) dX9_lay_159 ?_
          refine xaload_n C 0 rfl rfl dX9_lay_162 ?_
          refine xiload_n C 1 rfl rfl dX9_lay_163 ?_
          refine xiconst C (v := (nI 1)) dX9_lay_164 (by decide) ?_
          obtain ⟨r165, G165, hc165, h⟩ := bd_some h
          refine xVi C (As := [.int x1, .int (nI 1)]) (rest := [.int r159, .int (G148 (q0 + 1) 5), .int (nI 5), .ref (ad (q0 + 1))]) (kX9_con a0 hc165) a0.1 rfl rfl w_711 mvX9_con mwX9_con rfl ⟨Nat.le_of_ble_eq_true rfl, Nat.le_of_ble_eq_true rfl⟩ ⟨Nat.le_refl _, Nat.le_refl _⟩ (Nat.le_of_ble_eq_true rfl) dX9_lay_165 ?_
          refine ximul C dX9_lay_168 ?_
          refine xiadd C dX9_lay_169 ?_
          refine xis_14 C 5 (by decide) a0.2.1 (xvi (by decide)) dX9_lay_170 ?_
          generalize mset G165 (q0 + 1) 5 ((G148 (q0 + 1) 5) + (r159 * r165)) = G170 at h ⊢
          replace h := lt_go h
          refine xaload_n C 0 rfl rfl dX9_lay_171 ?_
          refine xg_9_s C a0.1 w_643 dX9_lay_172 ?_
          refine xbipush C (v := (nI 7)) dX9_lay_175 (by decide) ?_
          refine xdup2 C dX9_lay_177 rfl rfl ?_
          refine xia_14 C 7 (by decide) a0.2.1 (xvi (by decide)) dX9_lay_178 ?_
          refine xiconst C (v := (nI 1)) dX9_lay_179 (by decide) ?_
          refine xiadd C dX9_lay_180 ?_
          refine xis_14 C 7 (by decide) a0.2.1 (xvi (by decide)) dX9_lay_181 ?_
          generalize mset G170 (q0 + 1) 7 ((G170 (q0 + 1) 7) + (nI 1)) = G181 at h ⊢
          replace h := lt_go h
          refine xiinc C (v := (x4 + nI 1)) (lv' := [(4, .int (x4 + nI 1)), (0, .ref (ad q0)), (1, .int x1), (3, .int x3), (5, .int x5)]) 3 rfl rfl (by decide) rfl dX9_lay_182 ?_
          refine xiinc C (v := (x5 + nI 1)) (lv' := [(5, .int (x5 + nI 1)), (4, .int (x4 + nI 1)), (0, .ref (ad q0)), (1, .int x1), (3, .int x3)]) 4 rfl rfl (by decide) rfl dX9_lay_185 ?_
          refine xgoto C (tgt := 56) (by decide) dX9_lay_188 ?_
          refine xsub C (lv' := [(0, .ref (ad q0)), (1, .int x1), (3, .int x3), (4, .int (x4 + nI 1)), (5, .int (x5 + nI 1))]) [2, 3, 4, 1, 0] rfl ?_
          exact hrec56 (x4 + nI 1) (x5 + nI 1) G181 h
theorem kX9_lay {r : Int32}  {q0 : Nat} {x1 : Int32} {x2 : Int32} {x3 : Int32} (a0 : A9 kd NP q0) {G : Mem} (h : fX9_lay q0 x1 x2 x3 G = some (r, G')) : xMi l D cy ad kd NP A yX9_lay cX9_lay 6 (some .int) 3 68 [.ref (ad q0), .int x1, .int x2, .int x3] G r G' := by
  refine xMi_of trivial (by decide +kernel) (Nat.le_of_ble_eq_true rfl) (fun p e s m args below meth c C => ?_)
  have C : xC p s m args meth c cX9_lay RX9 6 (some .int) D cy := C
  refine xsub C (lv' := [(0, .ref (ad q0)), (1, .int x1), (2, .int x2), (3, .int x3)]) [0, 1, 2, 3] rfl ?_
  unfold fX9_lay at h
  refine xaload_n C 0 rfl rfl dX9_lay_0 ?_
  refine xiload_n C 1 rfl rfl dX9_lay_1 ?_
  refine xiload_n C 2 rfl rfl dX9_lay_2 ?_
  obtain ⟨r3, G3, hc3, h⟩ := bd_some h
  refine xVi C (As := [.int x1, .int x2]) (rest := []) (kX9_isChain a0 hc3) a0.1 rfl rfl w_681 mvX9_isChain mwX9_isChain rfl ⟨Nat.le_of_ble_eq_true rfl, Nat.le_of_ble_eq_true rfl⟩ ⟨Nat.le_refl _, Nat.le_refl _⟩ (Nat.le_of_ble_eq_true rfl) dX9_lay_3 ?_
  refine xif_eq C (tgt := 19) h (by decide) dX9_lay_6 (fun h => ?_) (fun h => ?_)
  · refine xiconst C (v := (-1)) dX9_lay_19 (by decide) ?_
    obtain ⟨rfl, rfl⟩ := so_2 h
    exact xiret C rfl dX9_lay_20
  · refine xiload_n C 3 rfl rfl dX9_lay_9 ?_
    refine xiconst C (v := (nI 1)) dX9_lay_10 (by decide) ?_
    refine xbipush C (v := (nI 30)) dX9_lay_11 (by decide) ?_
    obtain ⟨r13, G13, hc13, h⟩ := bd_some h
    refine xSi C (As := [.int x3, .int (nI 1), .int (nI 30)]) (rest := []) (kX9_in hc13) w_688 w_689 mwX9_in rfl ⟨Nat.le_of_ble_eq_true rfl, Nat.le_of_ble_eq_true rfl⟩ ⟨Nat.le_refl _, Nat.le_refl _⟩ (Nat.le_of_ble_eq_true rfl) dX9_lay_13 ?_
    refine xif_ne C (tgt := 21) h (by decide) dX9_lay_16 (fun h => ?_) (fun h => ?_)
    · refine xiconst C (v := (-1)) dX9_lay_19 (by decide) ?_
      obtain ⟨rfl, rfl⟩ := so_2 h
      exact xiret C rfl dX9_lay_20
    · refine xaload_n C 0 rfl rfl dX9_lay_21 ?_
      refine xaload_n C 0 rfl rfl dX9_lay_22 ?_
      refine xg_9_s C a0.1 w_643 dX9_lay_23 ?_
      refine xiconst C (v := (nI 0)) dX9_lay_26 (by decide) ?_
      refine xia_14 C 0 (by decide) a0.2.1 (xvi (by decide)) dX9_lay_27 ?_
      obtain ⟨r28, G28, hc28, h⟩ := bd_some h
      refine xVi C (As := [.int (G13 (q0 + 1) 0)]) (rest := []) (kX9_isClosed a0 hc28) a0.1 rfl rfl w_691 mvX9_isClosed mwX9_isClosed rfl ⟨Nat.le_of_ble_eq_true rfl, Nat.le_of_ble_eq_true rfl⟩ ⟨Nat.le_refl _, Nat.le_refl _⟩ (Nat.le_of_ble_eq_true rfl) dX9_lay_28 ?_
      refine xif_ne C (tgt := 43) h (by decide) dX9_lay_31 (fun h => ?_) (fun h => ?_)
      · refine xaload_n C 0 rfl rfl dX9_lay_34 ?_
        refine xiload_n C 1 rfl rfl dX9_lay_35 ?_
        refine xiload_n C 2 rfl rfl dX9_lay_36 ?_
        obtain ⟨r37, G37, hc37, h⟩ := bd_some h
        refine xVi C (As := [.int x1, .int x2]) (rest := []) (kX9_canLay a0 hc37) a0.1 rfl rfl w_695 mvX9_canLay mwX9_canLay rfl ⟨Nat.le_of_ble_eq_true rfl, Nat.le_of_ble_eq_true rfl⟩ ⟨Nat.le_refl _, Nat.le_refl _⟩ (Nat.le_of_ble_eq_true rfl) dX9_lay_37 ?_
        refine xif_ne C (tgt := 46) h (by decide) dX9_lay_40 (fun h => ?_) (fun h => ?_)
        · refine xbipush C (v := (-2)) dX9_lay_43 (by decide) ?_
          obtain ⟨rfl, rfl⟩ := so_2 h
          exact xiret C rfl dX9_lay_45
        · refine xaload_n C 0 rfl rfl dX9_lay_46 ?_
          obtain ⟨G47, hc47, h⟩ := bv_some h
          refine xVv C (As := []) (rest := []) (kX9_keeps a0 hc47) a0.1 rfl rfl w_707 mvX9_keeps mwX9_keeps rfl ⟨Nat.le_of_ble_eq_true rfl, Nat.le_of_ble_eq_true rfl⟩ ⟨Nat.le_refl _, Nat.le_refl _⟩ (Nat.le_of_ble_eq_true rfl) dX9_lay_47 ?_
          refine xiconst C (v := (nI 0)) dX9_lay_50 (by decide) ?_
          refine xistore C (lv' := [(4, .int (nI 0)), (0, .ref (ad q0)), (1, .int x1), (2, .int x2), (3, .int x3)]) (by decide) rfl dX9_lay_51 ?_
          refine xiload_n C 3 rfl rfl dX9_lay_53 ?_
          refine xistore C (lv' := [(5, .int x2), (4, .int (nI 0)), (0, .ref (ad q0)), (1, .int x1), (2, .int x2), (3, .int x3)]) (by decide) rfl dX9_lay_54 ?_
          refine xsub C (lv' := [(0, .ref (ad q0)), (1, .int x1), (3, .int x3), (4, .int (nI 0)), (5, .int x2)]) [2, 3, 5, 1, 0] rfl ?_
          exact wX9_lay_56 C q0 x1 x3 a0 _ (nI 0) x2 G47 h
      · refine xbipush C (v := (-2)) dX9_lay_43 (by decide) ?_
        obtain ⟨rfl, rfl⟩ := so_2 h
        exact xiret C rfl dX9_lay_45
/-- HedgeChainsModel.cut(II)I -/
theorem kX9_cut {r : Int32}  {q0 : Nat} {x1 : Int32} {x2 : Int32} (a0 : A9 kd NP q0) {G : Mem} (h : fX9_cut q0 x1 x2 G = some (r, G')) : xMi l D cy ad kd NP A yX9_cut cX9_cut 4 (some .int) 3 64 [.ref (ad q0), .int x1, .int x2] G r G' := by
  refine xMi_of trivial (by decide +kernel) (Nat.le_of_ble_eq_true rfl) (fun p e s m args below meth c C => ?_)
  have C : xC p s m args meth c cX9_cut RX9 4 (some .int) D cy := C
  refine xsub C (lv' := [(0, .ref (ad q0)), (1, .int x1), (2, .int x2)]) [0, 1, 2] rfl ?_
  unfold fX9_cut at h
  refine xaload_n C 0 rfl rfl dX9_cut_0 ?_
  refine xiload_n C 1 rfl rfl dX9_cut_1 ?_
  refine xiload_n C 2 rfl rfl dX9_cut_2 ?_
  obtain ⟨r3, G3, hc3, h⟩ := bd_some h
  refine xVi C (As := [.int x1, .int x2]) (rest := []) (kX9_isChain a0 hc3) a0.1 rfl rfl w_681 mvX9_isChain mwX9_isChain rfl ⟨Nat.le_of_ble_eq_true rfl, Nat.le_of_ble_eq_true rfl⟩ ⟨Nat.le_refl _, Nat.le_refl _⟩ (Nat.le_of_ble_eq_true rfl) dX9_cut_3 ?_
  refine xif_ne C (tgt := 11) h (by decide) dX9_cut_6 (fun h => ?_) (fun h => ?_)
  · refine xiconst C (v := (-1)) dX9_cut_9 (by decide) ?_
    obtain ⟨rfl, rfl⟩ := so_2 h
    exact xiret C rfl dX9_cut_10
  · refine xaload_n C 0 rfl rfl dX9_cut_11 ?_
    refine xiload_n C 1 rfl rfl dX9_cut_12 ?_
    refine xiload_n C 2 rfl rfl dX9_cut_13 ?_
    obtain ⟨r14, G14, hc14, h⟩ := bd_some h
    refine xVi C (As := [.int x1, .int x2]) (rest := []) (kX9_thickness a0 hc14) a0.1 rfl rfl w_699 mvX9_thickness mwX9_thickness rfl ⟨Nat.le_of_ble_eq_true rfl, Nat.le_of_ble_eq_true rfl⟩ ⟨Nat.le_refl _, Nat.le_refl _⟩ (Nat.le_of_ble_eq_true rfl) dX9_cut_14 ?_
    refine xistore_n C (lv' := [(3, .int r14), (0, .ref (ad q0)), (1, .int x1), (2, .int x2)]) rfl (by decide) rfl dX9_cut_17 ?_
    refine xaload_n C 1 rfl rfl dX9_cut_18 ?_
    refine xaload_n C 1 rfl rfl dX9_cut_19 ?_
    refine xg_9_s C a0.1 w_643 dX9_cut_20 ?_
    refine xiconst C (v := (nI 0)) dX9_cut_23 (by decide) ?_
    refine xia_14 C 0 (by decide) a0.2.1 (xvi (by decide)) dX9_cut_24 ?_
    obtain ⟨r25, G25, hc25, h⟩ := bd_some h
    refine xVi C (As := [.int (G14 (q0 + 1) 0)]) (rest := []) (kX9_isClosed a0 hc25) a0.1 rfl rfl w_691 mvX9_isClosed mwX9_isClosed rfl ⟨Nat.le_of_ble_eq_true rfl, Nat.le_of_ble_eq_true rfl⟩ ⟨Nat.le_refl _, Nat.le_refl _⟩ (Nat.le_of_ble_eq_true rfl) dX9_cut_25 ?_
    refine xif_ne C (tgt := 55) h (by decide) dX9_cut_28 (fun h => ?_) (fun h => ?_)
    · refine xaload_n C 1 rfl rfl dX9_cut_31 ?_
      refine xiload_n C 2 rfl rfl dX9_cut_32 ?_
      refine xiload_n C 3 rfl rfl dX9_cut_33 ?_
      obtain ⟨r34, G34, hc34, h⟩ := bd_some h
      refine xVi C (As := [.int x1, .int x2]) (rest := []) (kX9_kindOf a0 hc34) a0.1 rfl rfl w_703 mvX9_kindOf mwX9_kindOf rfl ⟨Nat.le_of_ble_eq_true rfl, Nat.le_of_ble_eq_true rfl⟩ ⟨Nat.le_refl _, Nat.le_refl _⟩ (Nat.le_of_ble_eq_true rfl) dX9_cut_34 ?_
      refine xif_ne C (tgt := 55) h (by decide) dX9_cut_37 (fun h => ?_) (fun h => ?_)
      · refine xiload_n C 0 rfl rfl dX9_cut_40 ?_
        refine xiconst C (v := (nI 3)) dX9_cut_41 (by decide) ?_
        refine xicmp_lt C (tgt := 55) h (by decide) dX9_cut_42 (fun h => ?_) (fun h => ?_)
        · refine xbipush C (v := (-2)) dX9_cut_55 (by decide) ?_
          obtain ⟨rfl, rfl⟩ := so_2 h
          exact xiret C rfl dX9_cut_57
        · refine xaload_n C 1 rfl rfl dX9_cut_45 ?_
          refine xg_9_s C a0.1 w_643 dX9_cut_46 ?_
          refine xiconst C (v := (nI 1)) dX9_cut_49 (by decide) ?_
          refine xia_14 C 1 (by decide) a0.2.1 (xvi (by decide)) dX9_cut_50 ?_
          refine xiconst C (v := (nI 1)) dX9_cut_51 (by decide) ?_
          refine xicmp_ge C (tgt := 58) h (by decide) dX9_cut_52 (fun h => ?_) (fun h => ?_)
          · refine xaload_n C 1 rfl rfl dX9_cut_58 ?_
            obtain ⟨G59, hc59, h⟩ := bv_some h
            refine xVv C (As := []) (rest := []) (kX9_keeps a0 hc59) a0.1 rfl rfl w_707 mvX9_keeps mwX9_keeps rfl ⟨Nat.le_of_ble_eq_true rfl, Nat.le_of_ble_eq_true rfl⟩ ⟨Nat.le_refl _, Nat.le_refl _⟩ (Nat.le_of_ble_eq_true rfl) dX9_cut_59 ?_
            refine xaload_n C 1 rfl rfl dX9_cut_62 ?_
            refine xg_9_s C a0.1 w_643 dX9_cut_63 ?_
            refine xiconst C (v := (nI 2)) dX9_cut_66 (by decide) ?_
            refine xdup2 C dX9_cut_67 rfl rfl ?_
            refine xia_14 C 2 (by decide) a0.2.1 (xvi (by decide)) dX9_cut_68 ?_
            refine xiload_n C 0 rfl rfl dX9_cut_69 ?_
            refine xiadd C dX9_cut_70 ?_
            refine xis_14 C 2 (by decide) a0.2.1 (xvi (by decide)) dX9_cut_71 ?_
            generalize mset G59 (q0 + 1) 2 ((G59 (q0 + 1) 2) + r14) = G71 at h ⊢
            replace h := lt_go h
            refine xaload_n C 1 rfl rfl dX9_cut_72 ?_
            refine xiload_n C 2 rfl rfl dX9_cut_73 ?_
            refine xiload_n C 3 rfl rfl dX9_cut_74 ?_
            refine xiconst C (v := (nI 0)) dX9_cut_75 (by decide) ?_
            refine xiload_n C 0 rfl rfl dX9_cut_76 ?_
            refine xiconst C (v := (nI 2)) dX9_cut_77 (by decide) ?_
            refine xisub C dX9_cut_78 ?_
            obtain ⟨G79, hc79, h⟩ := bv_some h
            refine xVv C (As := [.int x1, .int x2, .int (nI 0), .int (r14 - (nI 2))]) (rest := []) (kX9_lays a0 hc79) a0.1 rfl rfl w_639 mvX9_lays mwX9_lays rfl ⟨Nat.le_of_ble_eq_true rfl, Nat.le_of_ble_eq_true rfl⟩ ⟨Nat.le_refl _, Nat.le_refl _⟩ (Nat.le_of_ble_eq_true rfl) dX9_cut_79 ?_
            refine xaload_n C 1 rfl rfl dX9_cut_82 ?_
            refine xg_9_s C a0.1 w_643 dX9_cut_83 ?_
            refine xiconst C (v := (nI 1)) dX9_cut_86 (by decide) ?_
            refine xdup2 C dX9_cut_87 rfl rfl ?_
            refine xia_14 C 1 (by decide) a0.2.1 (xvi (by decide)) dX9_cut_88 ?_
            refine xiconst C (v := (nI 1)) dX9_cut_89 (by decide) ?_
            refine xisub C dX9_cut_90 ?_
            refine xis_14 C 1 (by decide) a0.2.1 (xvi (by decide)) dX9_cut_91 ?_
            generalize mset G79 (q0 + 1) 1 ((G79 (q0 + 1) 1) - (nI 1)) = G91 at h ⊢
            replace h := lt_go h
            refine xaload_n C 1 rfl rfl dX9_cut_92 ?_
            refine xaload_n C 1 rfl rfl dX9_cut_93 ?_
            refine xg_9_s C a0.1 w_643 dX9_cut_94 ?_
            refine xiconst C (v := (nI 2)) dX9_cut_97 (by decide) ?_
            refine xia_14 C 2 (by decide) a0.2.1 (xvi (by decide)) dX9_cut_98 ?_
            obtain ⟨r99, G99, hc99, h⟩ := bd_some h
            refine xVi C (As := [.int (G91 (q0 + 1) 2)]) (rest := []) (kX9_acted a0 hc99) a0.1 rfl rfl w_723 mvX9_acted mwX9_acted rfl ⟨Nat.le_of_ble_eq_true rfl, Nat.le_of_ble_eq_true rfl⟩ ⟨Nat.le_refl _, Nat.le_refl _⟩ (Nat.le_of_ble_eq_true rfl) dX9_cut_99 ?_
            obtain ⟨rfl, rfl⟩ := so_2 h
            exact xiret C rfl dX9_cut_102
          · refine xbipush C (v := (-2)) dX9_cut_55 (by decide) ?_
            obtain ⟨rfl, rfl⟩ := so_2 h
            exact xiret C rfl dX9_cut_57
      · refine xbipush C (v := (-2)) dX9_cut_55 (by decide) ?_
        obtain ⟨rfl, rfl⟩ := so_2 h
        exact xiret C rfl dX9_cut_57
    · refine xbipush C (v := (-2)) dX9_cut_55 (by decide) ?_
      obtain ⟨rfl, rfl⟩ := so_2 h
      exact xiret C rfl dX9_cut_57
/-- HedgeChainsModel.plant(II)I -/
theorem kX9_plant {r : Int32}  {q0 : Nat} {x1 : Int32} {x2 : Int32} (a0 : A9 kd NP q0) {G : Mem} (h : fX9_plant q0 x1 x2 G = some (r, G')) : xMi l D cy ad kd NP A yX9_plant cX9_plant 3 (some .int) 3 64 [.ref (ad q0), .int x1, .int x2] G r G' := by
  refine xMi_of trivial (by decide +kernel) (Nat.le_of_ble_eq_true rfl) (fun p e s m args below meth c C => ?_)
  have C : xC p s m args meth c cX9_plant RX9 3 (some .int) D cy := C
  refine xsub C (lv' := [(0, .ref (ad q0)), (1, .int x1), (2, .int x2)]) [0, 1, 2] rfl ?_
  unfold fX9_plant at h
  refine xaload_n C 0 rfl rfl dX9_plant_0 ?_
  refine xiload_n C 1 rfl rfl dX9_plant_1 ?_
  refine xiload_n C 2 rfl rfl dX9_plant_2 ?_
  obtain ⟨r3, G3, hc3, h⟩ := bd_some h
  refine xVi C (As := [.int x1, .int x2]) (rest := []) (kX9_isChain a0 hc3) a0.1 rfl rfl w_681 mvX9_isChain mwX9_isChain rfl ⟨Nat.le_of_ble_eq_true rfl, Nat.le_of_ble_eq_true rfl⟩ ⟨Nat.le_refl _, Nat.le_refl _⟩ (Nat.le_of_ble_eq_true rfl) dX9_plant_3 ?_
  refine xif_ne C (tgt := 11) h (by decide) dX9_plant_6 (fun h => ?_) (fun h => ?_)
  · refine xiconst C (v := (-1)) dX9_plant_9 (by decide) ?_
    obtain ⟨rfl, rfl⟩ := so_2 h
    exact xiret C rfl dX9_plant_10
  · refine xaload_n C 0 rfl rfl dX9_plant_11 ?_
    refine xiload_n C 1 rfl rfl dX9_plant_12 ?_
    refine xiload_n C 2 rfl rfl dX9_plant_13 ?_
    obtain ⟨r14, G14, hc14, h⟩ := bd_some h
    refine xVi C (As := [.int x1, .int x2]) (rest := []) (kX9_kindOf a0 hc14) a0.1 rfl rfl w_703 mvX9_kindOf mwX9_kindOf rfl ⟨Nat.le_of_ble_eq_true rfl, Nat.le_of_ble_eq_true rfl⟩ ⟨Nat.le_refl _, Nat.le_refl _⟩ (Nat.le_of_ble_eq_true rfl) dX9_plant_14 ?_
    refine xiconst C (v := (nI 2)) dX9_plant_17 (by decide) ?_
    refine xicmp_ne C (tgt := 41) h (by decide) dX9_plant_18 (fun h => ?_) (fun h => ?_)
    · refine xaload_n C 0 rfl rfl dX9_plant_21 ?_
      refine xg_9_s C a0.1 w_643 dX9_plant_22 ?_
      refine xiconst C (v := (nI 1)) dX9_plant_25 (by decide) ?_
      refine xia_14 C 1 (by decide) a0.2.1 (xvi (by decide)) dX9_plant_26 ?_
      refine xiconst C (v := (nI 2)) dX9_plant_27 (by decide) ?_
      refine xicmp_lt C (tgt := 41) h (by decide) dX9_plant_28 (fun h => ?_) (fun h => ?_)
      · refine xbipush C (v := (-2)) dX9_plant_41 (by decide) ?_
        obtain ⟨rfl, rfl⟩ := so_2 h
        exact xiret C rfl dX9_plant_43
      · refine xaload_n C 0 rfl rfl dX9_plant_31 ?_
        refine xg_9_s C a0.1 w_643 dX9_plant_32 ?_
        refine xiconst C (v := (nI 3)) dX9_plant_35 (by decide) ?_
        refine xia_14 C 3 (by decide) a0.2.1 (xvi (by decide)) dX9_plant_36 ?_
        refine xiconst C (v := (nI 3)) dX9_plant_37 (by decide) ?_
        refine xicmp_ge C (tgt := 44) h (by decide) dX9_plant_38 (fun h => ?_) (fun h => ?_)
        · refine xaload_n C 0 rfl rfl dX9_plant_44 ?_
          obtain ⟨G45, hc45, h⟩ := bv_some h
          refine xVv C (As := []) (rest := []) (kX9_keeps a0 hc45) a0.1 rfl rfl w_707 mvX9_keeps mwX9_keeps rfl ⟨Nat.le_of_ble_eq_true rfl, Nat.le_of_ble_eq_true rfl⟩ ⟨Nat.le_refl _, Nat.le_refl _⟩ (Nat.le_of_ble_eq_true rfl) dX9_plant_45 ?_
          refine xaload_n C 0 rfl rfl dX9_plant_48 ?_
          refine xg_9_s C a0.1 w_643 dX9_plant_49 ?_
          refine xiconst C (v := (nI 1)) dX9_plant_52 (by decide) ?_
          refine xdup2 C dX9_plant_53 rfl rfl ?_
          refine xia_14 C 1 (by decide) a0.2.1 (xvi (by decide)) dX9_plant_54 ?_
          refine xiconst C (v := (nI 2)) dX9_plant_55 (by decide) ?_
          refine xisub C dX9_plant_56 ?_
          refine xis_14 C 1 (by decide) a0.2.1 (xvi (by decide)) dX9_plant_57 ?_
          generalize mset G45 (q0 + 1) 1 ((G45 (q0 + 1) 1) - (nI 2)) = G57 at h ⊢
          replace h := lt_go h
          refine xaload_n C 0 rfl rfl dX9_plant_58 ?_
          refine xg_9_s C a0.1 w_643 dX9_plant_59 ?_
          refine xiconst C (v := (nI 3)) dX9_plant_62 (by decide) ?_
          refine xdup2 C dX9_plant_63 rfl rfl ?_
          refine xia_14 C 3 (by decide) a0.2.1 (xvi (by decide)) dX9_plant_64 ?_
          refine xiconst C (v := (nI 3)) dX9_plant_65 (by decide) ?_
          refine xisub C dX9_plant_66 ?_
          refine xis_14 C 3 (by decide) a0.2.1 (xvi (by decide)) dX9_plant_67 ?_
          generalize mset G57 (q0 + 1) 3 ((G57 (q0 + 1) 3) - (nI 3)) = G67 at h ⊢
          replace h := lt_go h
          refine xaload_n C 0 rfl rfl dX9_plant_68 ?_
          refine xiload_n C 1 rfl rfl dX9_plant_69 ?_
          refine xiload_n C 2 rfl rfl dX9_plant_70 ?_
          refine xiconst C (v := (nI 3)) dX9_plant_71 (by decide) ?_
          refine xiconst C (v := (nI 0)) dX9_plant_72 (by decide) ?_
          obtain ⟨G73, hc73, h⟩ := bv_some h
          refine xVv C (As := [.int x1, .int x2, .int (nI 3), .int (nI 0)]) (rest := []) (kX9_lays a0 hc73) a0.1 rfl rfl w_639 mvX9_lays mwX9_lays rfl ⟨Nat.le_of_ble_eq_true rfl, Nat.le_of_ble_eq_true rfl⟩ ⟨Nat.le_refl _, Nat.le_refl _⟩ (Nat.le_of_ble_eq_true rfl) dX9_plant_73 ?_
          refine xaload_n C 0 rfl rfl dX9_plant_76 ?_
          refine xg_9_s C a0.1 w_643 dX9_plant_77 ?_
          refine xbipush C (v := (nI 8)) dX9_plant_80 (by decide) ?_
          refine xdup2 C dX9_plant_82 rfl rfl ?_
          refine xia_14 C 8 (by decide) a0.2.1 (xvi (by decide)) dX9_plant_83 ?_
          refine xiconst C (v := (nI 1)) dX9_plant_84 (by decide) ?_
          refine xiadd C dX9_plant_85 ?_
          refine xis_14 C 8 (by decide) a0.2.1 (xvi (by decide)) dX9_plant_86 ?_
          generalize mset G73 (q0 + 1) 8 ((G73 (q0 + 1) 8) + (nI 1)) = G86 at h ⊢
          replace h := lt_go h
          refine xaload_n C 0 rfl rfl dX9_plant_87 ?_
          refine xaload_n C 0 rfl rfl dX9_plant_88 ?_
          refine xg_9_s C a0.1 w_643 dX9_plant_89 ?_
          refine xiconst C (v := (nI 1)) dX9_plant_92 (by decide) ?_
          refine xia_14 C 1 (by decide) a0.2.1 (xvi (by decide)) dX9_plant_93 ?_
          obtain ⟨r94, G94, hc94, h⟩ := bd_some h
          refine xVi C (As := [.int (G86 (q0 + 1) 1)]) (rest := []) (kX9_acted a0 hc94) a0.1 rfl rfl w_723 mvX9_acted mwX9_acted rfl ⟨Nat.le_of_ble_eq_true rfl, Nat.le_of_ble_eq_true rfl⟩ ⟨Nat.le_refl _, Nat.le_refl _⟩ (Nat.le_of_ble_eq_true rfl) dX9_plant_94 ?_
          obtain ⟨rfl, rfl⟩ := so_2 h
          exact xiret C rfl dX9_plant_97
        · refine xbipush C (v := (-2)) dX9_plant_41 (by decide) ?_
          obtain ⟨rfl, rfl⟩ := so_2 h
          exact xiret C rfl dX9_plant_43
    · refine xbipush C (v := (-2)) dX9_plant_41 (by decide) ?_
      obtain ⟨rfl, rfl⟩ := so_2 h
      exact xiret C rfl dX9_plant_43
/-- HedgeChainsModel.grub(II)I -/
theorem kX9_grub {r : Int32}  {q0 : Nat} {x1 : Int32} {x2 : Int32} (a0 : A9 kd NP q0) {G : Mem} (h : fX9_grub q0 x1 x2 G = some (r, G')) : xMi l D cy ad kd NP A yX9_grub cX9_grub 4 (some .int) 3 68 [.ref (ad q0), .int x1, .int x2] G r G' := by
  refine xMi_of trivial (by decide +kernel) (Nat.le_of_ble_eq_true rfl) (fun p e s m args below meth c C => ?_)
  have C : xC p s m args meth c cX9_grub RX9 4 (some .int) D cy := C
  refine xsub C (lv' := [(0, .ref (ad q0)), (1, .int x1), (2, .int x2)]) [0, 1, 2] rfl ?_
  unfold fX9_grub at h
  refine xaload_n C 0 rfl rfl dX9_grub_0 ?_
  refine xiload_n C 1 rfl rfl dX9_grub_1 ?_
  refine xiload_n C 2 rfl rfl dX9_grub_2 ?_
  obtain ⟨r3, G3, hc3, h⟩ := bd_some h
  refine xVi C (As := [.int x1, .int x2]) (rest := []) (kX9_isChain a0 hc3) a0.1 rfl rfl w_681 mvX9_isChain mwX9_isChain rfl ⟨Nat.le_of_ble_eq_true rfl, Nat.le_of_ble_eq_true rfl⟩ ⟨Nat.le_refl _, Nat.le_refl _⟩ (Nat.le_of_ble_eq_true rfl) dX9_grub_3 ?_
  refine xif_ne C (tgt := 11) h (by decide) dX9_grub_6 (fun h => ?_) (fun h => ?_)
  · refine xiconst C (v := (-1)) dX9_grub_9 (by decide) ?_
    obtain ⟨rfl, rfl⟩ := so_2 h
    exact xiret C rfl dX9_grub_10
  · refine xaload_n C 0 rfl rfl dX9_grub_11 ?_
    refine xiload_n C 1 rfl rfl dX9_grub_12 ?_
    refine xiload_n C 2 rfl rfl dX9_grub_13 ?_
    obtain ⟨r14, G14, hc14, h⟩ := bd_some h
    refine xVi C (As := [.int x1, .int x2]) (rest := []) (kX9_kindOf a0 hc14) a0.1 rfl rfl w_703 mvX9_kindOf mwX9_kindOf rfl ⟨Nat.le_of_ble_eq_true rfl, Nat.le_of_ble_eq_true rfl⟩ ⟨Nat.le_refl _, Nat.le_refl _⟩ (Nat.le_of_ble_eq_true rfl) dX9_grub_14 ?_
    refine xistore_n C (lv' := [(3, .int r14), (0, .ref (ad q0)), (1, .int x1), (2, .int x2)]) rfl (by decide) rfl dX9_grub_17 ?_
    refine xiload_n C 0 rfl rfl dX9_grub_18 ?_
    refine xiconst C (v := (nI 2)) dX9_grub_19 (by decide) ?_
    refine xicmp_ne C (tgt := 26) h (by decide) dX9_grub_20 (fun h => ?_) (fun h => ?_)
    · refine xbipush C (v := (-2)) dX9_grub_23 (by decide) ?_
      obtain ⟨rfl, rfl⟩ := so_2 h
      exact xiret C rfl dX9_grub_25
    · refine xaload_n C 1 rfl rfl dX9_grub_26 ?_
      obtain ⟨G27, hc27, h⟩ := bv_some h
      refine xVv C (As := []) (rest := []) (kX9_keeps a0 hc27) a0.1 rfl rfl w_707 mvX9_keeps mwX9_keeps rfl ⟨Nat.le_of_ble_eq_true rfl, Nat.le_of_ble_eq_true rfl⟩ ⟨Nat.le_refl _, Nat.le_refl _⟩ (Nat.le_of_ble_eq_true rfl) dX9_grub_27 ?_
      refine xaload_n C 1 rfl rfl dX9_grub_30 ?_
      refine xiload_n C 2 rfl rfl dX9_grub_31 ?_
      refine xiload_n C 3 rfl rfl dX9_grub_32 ?_
      refine xiconst C (v := (nI 2)) dX9_grub_33 (by decide) ?_
      refine xiconst C (v := (nI 0)) dX9_grub_34 (by decide) ?_
      obtain ⟨G35, hc35, h⟩ := bv_some h
      refine xVv C (As := [.int x1, .int x2, .int (nI 2), .int (nI 0)]) (rest := []) (kX9_lays a0 hc35) a0.1 rfl rfl w_639 mvX9_lays mwX9_lays rfl ⟨Nat.le_of_ble_eq_true rfl, Nat.le_of_ble_eq_true rfl⟩ ⟨Nat.le_refl _, Nat.le_refl _⟩ (Nat.le_of_ble_eq_true rfl) dX9_grub_35 ?_
      refine xaload_n C 1 rfl rfl dX9_grub_38 ?_
      refine xiload_n C 2 rfl rfl dX9_grub_39 ?_
      obtain ⟨G40, hc40, h⟩ := bv_some h
      refine xVv C (As := [.int x1]) (rest := []) (kX9_ends a0 hc40) a0.1 rfl rfl w_715 mvX9_ends mwX9_ends rfl ⟨Nat.le_of_ble_eq_true rfl, Nat.le_of_ble_eq_true rfl⟩ ⟨Nat.le_refl _, Nat.le_refl _⟩ (Nat.le_of_ble_eq_true rfl) dX9_grub_40 ?_
      refine xaload_n C 1 rfl rfl dX9_grub_43 ?_
      refine xiload_n C 0 rfl rfl dX9_grub_44 ?_
      obtain ⟨r45, G45, hc45, h⟩ := bd_some h
      refine xVi C (As := [.int r14]) (rest := []) (kX9_acted a0 hc45) a0.1 rfl rfl w_723 mvX9_acted mwX9_acted rfl ⟨Nat.le_of_ble_eq_true rfl, Nat.le_of_ble_eq_true rfl⟩ ⟨Nat.le_refl _, Nat.le_refl _⟩ (Nat.le_of_ble_eq_true rfl) dX9_grub_45 ?_
      obtain ⟨rfl, rfl⟩ := so_2 h
      exact xiret C rfl dX9_grub_48
/-- HedgeChainsModel.age(II)I -/
theorem kX9_age {r : Int32}  {q0 : Nat} {x1 : Int32} {x2 : Int32} (a0 : A9 kd NP q0) {G : Mem} (h : fX9_age q0 x1 x2 G = some (r, G')) : xMi l D cy ad kd NP A yX9_age cX9_age 3 (some .int) 0 0 [.ref (ad q0), .int x1, .int x2] G r G' := by
  refine xMi_of trivial (by decide +kernel) (Nat.le_of_ble_eq_true rfl) (fun p e s m args below meth c C => ?_)
  have C : xC p s m args meth c cX9_age RX9 3 (some .int) D cy := C
  refine xsub C (lv' := [(0, .ref (ad q0)), (1, .int x1), (2, .int x2)]) [0, 1, 2] rfl ?_
  unfold fX9_age at h
  refine xaload_n C 0 rfl rfl dX9_age_0 ?_
  refine xg_9_s C a0.1 w_643 dX9_age_1 ?_
  refine xbipush C (v := (nI 42)) dX9_age_4 (by decide) ?_
  refine xbipush C (v := (nI 30)) dX9_age_6 (by decide) ?_
  refine xiload_n C 1 rfl rfl dX9_age_8 ?_
  refine ximul C dX9_age_9 ?_
  refine xiadd C dX9_age_10 ?_
  refine xiload_n C 2 rfl rfl dX9_age_11 ?_
  refine xiadd C dX9_age_12 ?_
  obtain ⟨hi13, h⟩ := ix_some h
  refine xia_14 C (((nI 42) + ((nI 30) * x1)) + x2).toNatClampNeg rfl a0.2.1 hi13 dX9_age_13 ?_
  refine xbipush C (v := (nI 64)) dX9_age_14 (by decide) ?_
  refine xidiv C dX9_age_16 (by decide) ?_
  obtain ⟨rfl, rfl⟩ := so_2 h
  exact xiret C rfl dX9_age_17
/-- HedgeChainsModel.grows(II)V -/
theorem wX9_grows_141 (C : xC p s m args meth c cX9_grows RX9 5 none D cy) (x4 : Int32) (y0 : Int32) (y1 : Int32) (y2 : Int32) (z3 : Nat) (G : Mem) (b3 : A9 kd NP z3) (h : jX9_grows_141 x4 y0 y1 y2 z3 G = some G') : xX p l e (xR 1 24) s m args below meth c A s.heap D cy ad kd NP 5 0 0 (xQv below D cy ad kd NP A args s G') G 141 [(4, .int x4)] [.int y0, .int y1, .int y2, .ref (ad z3)] := by
  unfold jX9_grows_141 at h
  refine xiload C 0 rfl dX9_grows_141 ?_
  refine xbipush C (v := (nI 7)) dX9_grows_143 (by decide) ?_
  refine xicmp_le C (tgt := 153) h (by decide) dX9_grows_145 (fun h => ?_) (fun h => ?_)
  · refine xiload C 0 rfl dX9_grows_153 ?_
    refine xiconst C (v := (nI 2)) dX9_grows_155 (by decide) ?_
    refine xiadd C dX9_grows_156 ?_
    obtain ⟨G157, hc157, h⟩ := bv_some h
    refine xVv C (As := [.int y2, .int y1, .int y0, .int (x4 + (nI 2))]) (rest := []) (kX9_lays b3 hc157) b3.1 rfl rfl w_639 mvX9_lays mwX9_lays rfl ⟨Nat.le_of_ble_eq_true rfl, Nat.le_of_ble_eq_true rfl⟩ ⟨Nat.le_refl _, Nat.le_refl _⟩ (Nat.le_of_ble_eq_true rfl) dX9_grows_157 ?_
    obtain rfl := so_1 h
    exact xvret C rfl dX9_grows_160
  · refine xbipush C (v := (nI 9)) dX9_grows_148 (by decide) ?_
    refine xgoto C (tgt := 157) (by decide) dX9_grows_150 ?_
    obtain ⟨G157, hc157, h⟩ := bv_some h
    refine xVv C (As := [.int y2, .int y1, .int y0, .int (nI 9)]) (rest := []) (kX9_lays b3 hc157) b3.1 rfl rfl w_639 mvX9_lays mwX9_lays rfl ⟨Nat.le_of_ble_eq_true rfl, Nat.le_of_ble_eq_true rfl⟩ ⟨Nat.le_refl _, Nat.le_refl _⟩ (Nat.le_of_ble_eq_true rfl) dX9_grows_157 ?_
    obtain rfl := so_1 h
    exact xvret C rfl dX9_grows_160
theorem wX9_grows_109 (C : xC p s m args meth c cX9_grows RX9 5 none D cy) (q0 : Nat) (x1 : Int32) (x2 : Int32) (x3 : Int32) (x4 : Int32) (G : Mem) (a0 : A9 kd NP q0) (h : jX9_grows_109 q0 x1 x2 x3 x4 G = some G') : xX p l e (xR 1 24) s m args below meth c A s.heap D cy ad kd NP 5 0 0 (xQv below D cy ad kd NP A args s G') G 109 [(0, .ref (ad q0)), (1, .int x1), (2, .int x2), (3, .int x3), (4, .int x4)] [] := by
  unfold jX9_grows_109 at h
  refine xiload_n C 3 rfl rfl dX9_grows_109 ?_
  refine xiconst C (v := (nI 1)) dX9_grows_110 (by decide) ?_
  refine xicmp_ne C (tgt := 160) h (by decide) dX9_grows_111 (fun h => ?_) (fun h => ?_)
  · refine xaload_n C 0 rfl rfl dX9_grows_114 ?_
    refine xg_9_s C a0.1 w_643 dX9_grows_115 ?_
    refine xiconst C (v := (nI 0)) dX9_grows_118 (by decide) ?_
    refine xia_14 C 0 (by decide) a0.2.1 (xvi (by decide)) dX9_grows_119 ?_
    refine xbipush C (v := (nI 52)) dX9_grows_120 (by decide) ?_
    refine xirem C dX9_grows_122 (by decide) ?_
    refine xif_ne C (tgt := 160) h (by decide) dX9_grows_123 (fun h => ?_) (fun h => ?_)
    · refine xaload_n C 0 rfl rfl dX9_grows_126 ?_
      refine xiload_n C 1 rfl rfl dX9_grows_127 ?_
      refine xiload_n C 2 rfl rfl dX9_grows_128 ?_
      refine xiload C 4 rfl dX9_grows_129 ?_
      refine xbipush C (v := (nI 7)) dX9_grows_131 (by decide) ?_
      refine xicmp_le C (tgt := 140) h (by decide) dX9_grows_133 (fun h => ?_) (fun h => ?_)
      · refine xiconst C (v := (nI 1)) dX9_grows_140 (by decide) ?_
        refine xsub C (lv' := [(4, .int x4)]) [4] rfl ?_
        exact wX9_grows_141 C x4 (nI 1) x2 x1 q0 G a0 h
      · refine xiconst C (v := (nI 0)) dX9_grows_136 (by decide) ?_
        refine xgoto C (tgt := 141) (by decide) dX9_grows_137 ?_
        refine xsub C (lv' := [(4, .int x4)]) [4] rfl ?_
        exact wX9_grows_141 C x4 (nI 0) x2 x1 q0 G a0 h
    · obtain rfl := so_1 h
      exact xvret C rfl dX9_grows_160
  · obtain rfl := so_1 h
    exact xvret C rfl dX9_grows_160
theorem wX9_grows_41 (C : xC p s m args meth c cX9_grows RX9 5 none D cy) (q0 : Nat) (x1 : Int32) (x2 : Int32) (x3 : Int32) (x4 : Int32) (G : Mem) (a0 : A9 kd NP q0) (h : jX9_grows_41 q0 x1 x2 x3 x4 G = some G') : xX p l e (xR 1 24) s m args below meth c A s.heap D cy ad kd NP 5 0 0 (xQv below D cy ad kd NP A args s G') G 41 [(0, .ref (ad q0)), (1, .int x1), (2, .int x2), (3, .int x3), (4, .int x4)] [] := by
  unfold jX9_grows_41 at h
  refine xiload_n C 3 rfl rfl dX9_grows_41 ?_
  refine xiconst C (v := (nI 3)) dX9_grows_42 (by decide) ?_
  refine xicmp_ne C (tgt := 68) h (by decide) dX9_grows_43 (fun h => ?_) (fun h => ?_)
  · refine xaload_n C 0 rfl rfl dX9_grows_46 ?_
    refine xg_9_s C a0.1 w_643 dX9_grows_47 ?_
    refine xbipush C (v := (nI 42)) dX9_grows_50 (by decide) ?_
    refine xbipush C (v := (nI 30)) dX9_grows_52 (by decide) ?_
    refine xiload_n C 1 rfl rfl dX9_grows_54 ?_
    refine ximul C dX9_grows_55 ?_
    refine xiadd C dX9_grows_56 ?_
    refine xiload_n C 2 rfl rfl dX9_grows_57 ?_
    refine xiadd C dX9_grows_58 ?_
    refine xdup2 C dX9_grows_59 rfl rfl ?_
    obtain ⟨hi60, h⟩ := ix_some h
    refine xia_14 C (((nI 42) + ((nI 30) * x1)) + x2).toNatClampNeg rfl a0.2.1 hi60 dX9_grows_60 ?_
    refine xbipush C (v := (nI 64)) dX9_grows_61 (by decide) ?_
    refine xiadd C dX9_grows_63 ?_
    obtain ⟨hi64, h⟩ := ix_some h
    refine xis_14 C (((nI 42) + ((nI 30) * x1)) + x2).toNatClampNeg rfl a0.2.1 hi64 dX9_grows_64 ?_
    generalize mset G (q0 + 1) (((nI 42) + ((nI 30) * x1)) + x2).toNatClampNeg ((G (q0 + 1) (((nI 42) + ((nI 30) * x1)) + x2).toNatClampNeg) + (nI 64)) = G64 at h ⊢
    replace h := lt_go h
    refine xgoto C (tgt := 160) (by decide) dX9_grows_65 ?_
    obtain rfl := so_1 h
    exact xvret C rfl dX9_grows_160
  · refine xiload_n C 3 rfl rfl dX9_grows_68 ?_
    refine xif_ne C (tgt := 109) h (by decide) dX9_grows_69 (fun h => ?_) (fun h => ?_)
    · refine xaload_n C 0 rfl rfl dX9_grows_72 ?_
      refine xg_9_s C a0.1 w_643 dX9_grows_73 ?_
      refine xiconst C (v := (nI 0)) dX9_grows_76 (by decide) ?_
      refine xia_14 C 0 (by decide) a0.2.1 (xvi (by decide)) dX9_grows_77 ?_
      refine xiconst C (v := (nI 4)) dX9_grows_78 (by decide) ?_
      refine xirem C dX9_grows_79 (by decide) ?_
      refine xif_ne C (tgt := 109) h (by decide) dX9_grows_80 (fun h => ?_) (fun h => ?_)
      · refine xaload_n C 0 rfl rfl dX9_grows_83 ?_
        refine xiload_n C 1 rfl rfl dX9_grows_84 ?_
        refine xiload_n C 2 rfl rfl dX9_grows_85 ?_
        refine xiconst C (v := (nI 0)) dX9_grows_86 (by decide) ?_
        refine xiload C 4 rfl dX9_grows_87 ?_
        refine xbipush C (v := (nI 9)) dX9_grows_89 (by decide) ?_
        refine xicmp_ge C (tgt := 101) h (by decide) dX9_grows_91 (fun h => ?_) (fun h => ?_)
        · refine xbipush C (v := (nI 9)) dX9_grows_101 (by decide) ?_
          obtain ⟨G103, hc103, h⟩ := bv_some h
          refine xVv C (As := [.int x1, .int x2, .int (nI 0), .int (nI 9)]) (rest := []) (kX9_lays a0 hc103) a0.1 rfl rfl w_639 mvX9_lays mwX9_lays rfl ⟨Nat.le_of_ble_eq_true rfl, Nat.le_of_ble_eq_true rfl⟩ ⟨Nat.le_refl _, Nat.le_refl _⟩ (Nat.le_of_ble_eq_true rfl) dX9_grows_103 ?_
          refine xgoto C (tgt := 160) (by decide) dX9_grows_106 ?_
          obtain rfl := so_1 h
          exact xvret C rfl dX9_grows_160
        · refine xiload C 4 rfl dX9_grows_94 ?_
          refine xiconst C (v := (nI 1)) dX9_grows_96 (by decide) ?_
          refine xiadd C dX9_grows_97 ?_
          refine xgoto C (tgt := 103) (by decide) dX9_grows_98 ?_
          obtain ⟨G103, hc103, h⟩ := bv_some h
          refine xVv C (As := [.int x1, .int x2, .int (nI 0), .int (x4 + (nI 1))]) (rest := []) (kX9_lays a0 hc103) a0.1 rfl rfl w_639 mvX9_lays mwX9_lays rfl ⟨Nat.le_of_ble_eq_true rfl, Nat.le_of_ble_eq_true rfl⟩ ⟨Nat.le_refl _, Nat.le_refl _⟩ (Nat.le_of_ble_eq_true rfl) dX9_grows_103 ?_
          refine xgoto C (tgt := 160) (by decide) dX9_grows_106 ?_
          obtain rfl := so_1 h
          exact xvret C rfl dX9_grows_160
      · exact wX9_grows_109 C q0 x1 x2 x3 x4 G a0 h
    · exact wX9_grows_109 C q0 x1 x2 x3 x4 G a0 h
theorem kX9_grows  {q0 : Nat} {x1 : Int32} {x2 : Int32} (a0 : A9 kd NP q0) {G : Mem} (h : fX9_grows q0 x1 x2 G = some G') : xMv l D cy ad kd NP A yX9_grows cX9_grows 5 none 1 24 [.ref (ad q0), .int x1, .int x2] G G' := by
  refine xMv_of trivial (by decide +kernel) (Nat.le_of_ble_eq_true rfl) (fun p e s m args below meth c C => ?_)
  have C : xC p s m args meth c cX9_grows RX9 5 none D cy := C
  refine xsub C (lv' := [(0, .ref (ad q0)), (1, .int x1), (2, .int x2)]) [0, 1, 2] rfl ?_
  unfold fX9_grows at h
  refine xaload_n C 0 rfl rfl dX9_grows_0 ?_
  refine xiload_n C 1 rfl rfl dX9_grows_1 ?_
  refine xiload_n C 2 rfl rfl dX9_grows_2 ?_
  obtain ⟨r3, G3, hc3, h⟩ := bd_some h
  refine xVi C (As := [.int x1, .int x2]) (rest := []) (kX9_kindOf a0 hc3) a0.1 rfl rfl w_703 mvX9_kindOf mwX9_kindOf rfl ⟨Nat.le_of_ble_eq_true rfl, Nat.le_of_ble_eq_true rfl⟩ ⟨Nat.le_refl _, Nat.le_refl _⟩ (Nat.le_of_ble_eq_true rfl) dX9_grows_3 ?_
  refine xistore_n C (lv' := [(3, .int r3), (0, .ref (ad q0)), (1, .int x1), (2, .int x2)]) rfl (by decide) rfl dX9_grows_6 ?_
  refine xaload_n C 1 rfl rfl dX9_grows_7 ?_
  refine xiload_n C 2 rfl rfl dX9_grows_8 ?_
  refine xiload_n C 3 rfl rfl dX9_grows_9 ?_
  obtain ⟨r10, G10, hc10, h⟩ := bd_some h
  refine xVi C (As := [.int x1, .int x2]) (rest := []) (kX9_thickness a0 hc10) a0.1 rfl rfl w_699 mvX9_thickness mwX9_thickness rfl ⟨Nat.le_of_ble_eq_true rfl, Nat.le_of_ble_eq_true rfl⟩ ⟨Nat.le_refl _, Nat.le_refl _⟩ (Nat.le_of_ble_eq_true rfl) dX9_grows_10 ?_
  refine xistore C (lv' := [(4, .int r10), (3, .int r3), (0, .ref (ad q0)), (1, .int x1), (2, .int x2)]) (by decide) rfl dX9_grows_13 ?_
  refine xiload_n C 1 rfl rfl dX9_grows_15 ?_
  refine xiconst C (v := (nI 3)) dX9_grows_16 (by decide) ?_
  refine xicmp_ne C (tgt := 41) h (by decide) dX9_grows_17 (fun h => ?_) (fun h => ?_)
  · refine xaload_n C 2 rfl rfl dX9_grows_20 ?_
    refine xiload_n C 3 rfl rfl dX9_grows_21 ?_
    refine xiload_n C 4 rfl rfl dX9_grows_22 ?_
    obtain ⟨r23, G23, hc23, h⟩ := bd_some h
    refine xVi C (As := [.int x1, .int x2]) (rest := []) (kX9_age a0 hc23) a0.1 rfl rfl w_751 mvX9_age mwX9_age rfl ⟨Nat.le_of_ble_eq_true rfl, Nat.le_of_ble_eq_true rfl⟩ ⟨Nat.le_refl _, Nat.le_refl _⟩ (Nat.le_of_ble_eq_true rfl) dX9_grows_23 ?_
    refine xiconst C (v := (nI 5)) dX9_grows_26 (by decide) ?_
    refine xicmp_ne C (tgt := 41) h (by decide) dX9_grows_27 (fun h => ?_) (fun h => ?_)
    · refine xaload_n C 2 rfl rfl dX9_grows_30 ?_
      refine xiload_n C 3 rfl rfl dX9_grows_31 ?_
      refine xiload_n C 4 rfl rfl dX9_grows_32 ?_
      refine xiconst C (v := (nI 0)) dX9_grows_33 (by decide) ?_
      refine xiconst C (v := (nI 1)) dX9_grows_34 (by decide) ?_
      obtain ⟨G35, hc35, h⟩ := bv_some h
      refine xVv C (As := [.int x1, .int x2, .int (nI 0), .int (nI 1)]) (rest := []) (kX9_lays a0 hc35) a0.1 rfl rfl w_639 mvX9_lays mwX9_lays rfl ⟨Nat.le_of_ble_eq_true rfl, Nat.le_of_ble_eq_true rfl⟩ ⟨Nat.le_refl _, Nat.le_refl _⟩ (Nat.le_of_ble_eq_true rfl) dX9_grows_35 ?_
      refine xgoto C (tgt := 160) (by decide) dX9_grows_38 ?_
      obtain rfl := so_1 h
      exact xvret C rfl dX9_grows_160
    · refine xsub C (lv' := [(0, .ref (ad q0)), (1, .int x1), (2, .int x2), (3, .int r3), (4, .int r10)]) [2, 3, 4, 1, 0] rfl ?_
      exact wX9_grows_41 C q0 x1 x2 r3 r10 G23 a0 h
  · refine xsub C (lv' := [(0, .ref (ad q0)), (1, .int x1), (2, .int x2), (3, .int r3), (4, .int r10)]) [2, 3, 4, 1, 0] rfl ?_
    exact wX9_grows_41 C q0 x1 x2 r3 r10 G10 a0 h
/-- HedgeChainsModel.pays(I)V -/
theorem wX9_pays_20 (C : xC p s m args meth c cX9_pays RX9 3 none D cy) (q0 : Nat) (x1 : Int32) (y0 : Int32) (G : Mem) (a0 : A9 kd NP q0) (h : jX9_pays_20 q0 x1 y0 G = some G') : xX p l e (xR 0 0) s m args below meth c A s.heap D cy ad kd NP 3 0 0 (xQv below D cy ad kd NP A args s G') G 20 [(0, .ref (ad q0)), (1, .int x1)] [.int y0] := by
  unfold jX9_pays_20 at h
  refine xistore_n C (lv' := [(2, .int y0), (0, .ref (ad q0)), (1, .int x1)]) rfl (by decide) rfl dX9_pays_20 ?_
  refine xaload_n C 1 rfl rfl dX9_pays_21 ?_
  refine xg_9_s C a0.1 w_643 dX9_pays_22 ?_
  refine xiconst C (v := (nI 3)) dX9_pays_25 (by decide) ?_
  refine xdup2 C dX9_pays_26 rfl rfl ?_
  refine xia_14 C 3 (by decide) a0.2.1 (xvi (by decide)) dX9_pays_27 ?_
  refine xiload_n C 0 rfl rfl dX9_pays_28 ?_
  refine xisub C dX9_pays_29 ?_
  refine xis_14 C 3 (by decide) a0.2.1 (xvi (by decide)) dX9_pays_30 ?_
  generalize mset G (q0 + 1) 3 ((G (q0 + 1) 3) - y0) = G30 at h ⊢
  replace h := lt_go h
  refine xaload_n C 1 rfl rfl dX9_pays_31 ?_
  refine xg_9_s C a0.1 w_643 dX9_pays_32 ?_
  refine xiconst C (v := (nI 4)) dX9_pays_35 (by decide) ?_
  refine xdup2 C dX9_pays_36 rfl rfl ?_
  refine xia_14 C 4 (by decide) a0.2.1 (xvi (by decide)) dX9_pays_37 ?_
  refine xiload_n C 2 rfl rfl dX9_pays_38 ?_
  refine xiload_n C 0 rfl rfl dX9_pays_39 ?_
  refine xisub C dX9_pays_40 ?_
  refine xiadd C dX9_pays_41 ?_
  refine xis_14 C 4 (by decide) a0.2.1 (xvi (by decide)) dX9_pays_42 ?_
  generalize mset G30 (q0 + 1) 4 ((G30 (q0 + 1) 4) + (x1 - y0)) = G42 at h ⊢
  replace h := lt_go h
  obtain rfl := so_1 h
  exact xvret C rfl dX9_pays_43
theorem kX9_pays  {q0 : Nat} {x1 : Int32} (a0 : A9 kd NP q0) {G : Mem} (h : fX9_pays q0 x1 G = some G') : xMv l D cy ad kd NP A yX9_pays cX9_pays 3 none 0 0 [.ref (ad q0), .int x1] G G' := by
  refine xMv_of trivial (by decide +kernel) (Nat.le_of_ble_eq_true rfl) (fun p e s m args below meth c C => ?_)
  have C : xC p s m args meth c cX9_pays RX9 3 none D cy := C
  refine xsub C (lv' := [(0, .ref (ad q0)), (1, .int x1)]) [0, 1] rfl ?_
  unfold fX9_pays at h
  refine xaload_n C 0 rfl rfl dX9_pays_0 ?_
  refine xg_9_s C a0.1 w_643 dX9_pays_1 ?_
  refine xiconst C (v := (nI 3)) dX9_pays_4 (by decide) ?_
  refine xia_14 C 3 (by decide) a0.2.1 (xvi (by decide)) dX9_pays_5 ?_
  refine xiload_n C 1 rfl rfl dX9_pays_6 ?_
  refine xicmp_ge C (tgt := 19) h (by decide) dX9_pays_7 (fun h => ?_) (fun h => ?_)
  · refine xiload_n C 1 rfl rfl dX9_pays_19 ?_
    exact wX9_pays_20 C q0 x1 x1 G a0 h
  · refine xaload_n C 0 rfl rfl dX9_pays_10 ?_
    refine xg_9_s C a0.1 w_643 dX9_pays_11 ?_
    refine xiconst C (v := (nI 3)) dX9_pays_14 (by decide) ?_
    refine xia_14 C 3 (by decide) a0.2.1 (xvi (by decide)) dX9_pays_15 ?_
    refine xgoto C (tgt := 20) (by decide) dX9_pays_16 ?_
    exact wX9_pays_20 C q0 x1 (G (q0 + 1) 3) G a0 h
/-- HedgeChainsModel.passesOne()I -/
theorem wX9_passesOne_116 {r : Int32} (C : xC p s m args meth c cX9_passesOne RX9 4 (some .int) D cy) (q0 : Nat) (x1 : Int32) (x2 : Int32) (y0 : Int32) {rec68 : (Int32 × Int32 × Mem) → Option (Int32 × Mem)} (hrec68 : ∀ (x1 : Int32) (x2 : Int32) (G : Mem), rec68 (x1, x2, G) = some (r, G') → xX p l e (xR 2 48) s m args below meth c A s.heap D cy ad kd NP 4 0 0 (xQi below D cy ad kd NP A args s r G') G 68 [(0, .ref (ad q0)), (1, .int x1), (2, .int x2)] []) (G : Mem) (a0 : A9 kd NP q0) (h : jX9_passesOne_116 rec68 q0 x1 x2 y0 G = some (r, G')) : xX p l e (xR 2 48) s m args below meth c A s.heap D cy ad kd NP 4 0 0 (xQi below D cy ad kd NP A args s r G') G 116 [(0, .ref (ad q0)), (1, .int x1), (2, .int x2)] [.int y0] := by
  unfold jX9_passesOne_116 at h
  refine xistore_n C (lv' := [(3, .int y0), (0, .ref (ad q0)), (1, .int x1), (2, .int x2)]) rfl (by decide) rfl dX9_passesOne_116 ?_
  refine xaload_n C 1 rfl rfl dX9_passesOne_117 ?_
  refine xiload_n C 0 rfl rfl dX9_passesOne_118 ?_
  obtain ⟨G119, hc119, h⟩ := bv_some h
  refine xVv C (As := [.int y0]) (rest := []) (kX9_pays a0 hc119) a0.1 rfl rfl w_755 mvX9_pays mwX9_pays rfl ⟨Nat.le_of_ble_eq_true rfl, Nat.le_of_ble_eq_true rfl⟩ ⟨Nat.le_refl _, Nat.le_refl _⟩ (Nat.le_of_ble_eq_true rfl) dX9_passesOne_119 ?_
  refine xiload_n C 2 rfl rfl dX9_passesOne_122 ?_
  refine xiload_n C 0 rfl rfl dX9_passesOne_123 ?_
  refine xiadd C dX9_passesOne_124 ?_
  refine xistore_n C (lv' := [(1, .int (x1 + y0)), (3, .int y0), (0, .ref (ad q0)), (2, .int x2)]) rfl (by decide) rfl dX9_passesOne_125 ?_
  refine xiinc C (v := (x2 + nI 1)) (lv' := [(2, .int (x2 + nI 1)), (1, .int (x1 + y0)), (3, .int y0), (0, .ref (ad q0))]) 3 rfl rfl (by decide) rfl dX9_passesOne_126 ?_
  refine xgoto C (tgt := 68) (by decide) dX9_passesOne_129 ?_
  refine xsub C (lv' := [(0, .ref (ad q0)), (1, .int (x1 + y0)), (2, .int (x2 + nI 1))]) [3, 1, 0] rfl ?_
  exact hrec68 (x1 + y0) (x2 + nI 1) G119 h
theorem wX9_passesOne_115 {r : Int32} (C : xC p s m args meth c cX9_passesOne RX9 4 (some .int) D cy) (q0 : Nat) (x1 : Int32) (x2 : Int32) {rec68 : (Int32 × Int32 × Mem) → Option (Int32 × Mem)} (hrec68 : ∀ (x1 : Int32) (x2 : Int32) (G : Mem), rec68 (x1, x2, G) = some (r, G') → xX p l e (xR 2 48) s m args below meth c A s.heap D cy ad kd NP 4 0 0 (xQi below D cy ad kd NP A args s r G') G 68 [(0, .ref (ad q0)), (1, .int x1), (2, .int x2)] []) (G : Mem) (a0 : A9 kd NP q0) (h : jX9_passesOne_115 rec68 q0 x1 x2 G = some (r, G')) : xX p l e (xR 2 48) s m args below meth c A s.heap D cy ad kd NP 4 0 0 (xQi below D cy ad kd NP A args s r G') G 115 [(0, .ref (ad q0)), (1, .int x1), (2, .int x2)] [] := by
  unfold jX9_passesOne_115 at h
  refine xiconst C (v := (nI 0)) dX9_passesOne_115 (by decide) ?_
  exact wX9_passesOne_116 C q0 x1 x2 (nI 0) hrec68 G a0 h
theorem wX9_passesOne_68 {r : Int32} (C : xC p s m args meth c cX9_passesOne RX9 4 (some .int) D cy) (q0 : Nat) (a0 : A9 kd NP q0) : ∀ (n : Nat) (x1 : Int32) (x2 : Int32) (G : Mem) (h : itr n (FX9_passesOne_68 q0) (x1, x2, G) = some (r, G')), xX p l e (xR 2 48) s m args below meth c A s.heap D cy ad kd NP 4 0 0 (xQi below D cy ad kd NP A args s r G') G 68 [(0, .ref (ad q0)), (1, .int x1), (2, .int x2)] [] := by
  intro n
  induction n with
  | zero =>
    intro x1 x2 G h
    have h : none = some (r, G') := h
    cases h
  | succ n ih =>
    intro x1 x2 G h
    have h : bX9_passesOne_68 q0 (itr n (FX9_passesOne_68 q0)) x1 x2 G = some (r, G') := h
    have hrec68 : ∀ (x1 : Int32) (x2 : Int32) (G : Mem), itr n (FX9_passesOne_68 q0) (x1, x2, G) = some (r, G') → xX p l e (xR 2 48) s m args below meth c A s.heap D cy ad kd NP 4 0 0 (xQi below D cy ad kd NP A args s r G') G 68 [(0, .ref (ad q0)), (1, .int x1), (2, .int x2)] [] := fun x1 x2 G h => ih x1 x2 G h
    unfold bX9_passesOne_68 at h
    refine xiload_n C 2 rfl rfl dX9_passesOne_68 ?_
    refine xbipush C (v := (nI 6)) dX9_passesOne_69 (by decide) ?_
    refine xicmp_ge C (tgt := 132) h (by decide) dX9_passesOne_71 (fun h => ?_) (fun h => ?_)
    · refine xaload_n C 0 rfl rfl dX9_passesOne_132 ?_
      refine xg_9_s C a0.1 w_643 dX9_passesOne_133 ?_
      refine xbipush C (v := (nI 6)) dX9_passesOne_136 (by decide) ?_
      refine xdup2 C dX9_passesOne_138 rfl rfl ?_
      refine xia_14 C 6 (by decide) a0.2.1 (xvi (by decide)) dX9_passesOne_139 ?_
      refine xiload_n C 1 rfl rfl dX9_passesOne_140 ?_
      refine xiadd C dX9_passesOne_141 ?_
      refine xis_14 C 6 (by decide) a0.2.1 (xvi (by decide)) dX9_passesOne_142 ?_
      generalize mset G (q0 + 1) 6 ((G (q0 + 1) 6) + x1) = G142 at h ⊢
      replace h := lt_go h
      refine xiload_n C 1 rfl rfl dX9_passesOne_143 ?_
      obtain ⟨rfl, rfl⟩ := so_2 h
      exact xiret C rfl dX9_passesOne_144
    · refine xaload_n C 0 rfl rfl dX9_passesOne_74 ?_
      refine xiload_n C 2 rfl rfl dX9_passesOne_75 ?_
      refine xiconst C (v := (nI 0)) dX9_passesOne_76 (by decide) ?_
      obtain ⟨r77, G77, hc77, h⟩ := bd_some h
      refine xVi C (As := [.int x2, .int (nI 0)]) (rest := []) (kX9_con a0 hc77) a0.1 rfl rfl w_711 mvX9_con mwX9_con rfl ⟨Nat.le_of_ble_eq_true rfl, Nat.le_of_ble_eq_true rfl⟩ ⟨Nat.le_refl _, Nat.le_refl _⟩ (Nat.le_of_ble_eq_true rfl) dX9_passesOne_77 ?_
      refine xiconst C (v := (nI 1)) dX9_passesOne_80 (by decide) ?_
      refine xicmp_ne C (tgt := 115) h (by decide) dX9_passesOne_81 (fun h => ?_) (fun h => ?_)
      · refine xaload_n C 0 rfl rfl dX9_passesOne_84 ?_
        refine xiload_n C 2 rfl rfl dX9_passesOne_85 ?_
        refine xiconst C (v := (nI 2)) dX9_passesOne_86 (by decide) ?_
        obtain ⟨r87, G87, hc87, h⟩ := bd_some h
        refine xVi C (As := [.int x2, .int (nI 2)]) (rest := []) (kX9_con a0 hc87) a0.1 rfl rfl w_711 mvX9_con mwX9_con rfl ⟨Nat.le_of_ble_eq_true rfl, Nat.le_of_ble_eq_true rfl⟩ ⟨Nat.le_refl _, Nat.le_refl _⟩ (Nat.le_of_ble_eq_true rfl) dX9_passesOne_87 ?_
        refine xaload_n C 0 rfl rfl dX9_passesOne_90 ?_
        refine xg_9_s C a0.1 w_643 dX9_passesOne_91 ?_
        refine xiconst C (v := (nI 0)) dX9_passesOne_94 (by decide) ?_
        refine xia_14 C 0 (by decide) a0.2.1 (xvi (by decide)) dX9_passesOne_95 ?_
        refine xicmp_ge C (tgt := 115) h (by decide) dX9_passesOne_96 (fun h => ?_) (fun h => ?_)
        · exact wX9_passesOne_115 C q0 x1 x2 hrec68 G87 a0 h
        · refine xaload_n C 0 rfl rfl dX9_passesOne_99 ?_
          refine xiload_n C 2 rfl rfl dX9_passesOne_100 ?_
          refine xiconst C (v := (nI 3)) dX9_passesOne_101 (by decide) ?_
          obtain ⟨r102, G102, hc102, h⟩ := bd_some h
          refine xVi C (As := [.int x2, .int (nI 3)]) (rest := []) (kX9_con a0 hc102) a0.1 rfl rfl w_711 mvX9_con mwX9_con rfl ⟨Nat.le_of_ble_eq_true rfl, Nat.le_of_ble_eq_true rfl⟩ ⟨Nat.le_refl _, Nat.le_refl _⟩ (Nat.le_of_ble_eq_true rfl) dX9_passesOne_102 ?_
          refine xaload_n C 0 rfl rfl dX9_passesOne_105 ?_
          refine xiload_n C 2 rfl rfl dX9_passesOne_106 ?_
          refine xiconst C (v := (nI 0)) dX9_passesOne_107 (by decide) ?_
          obtain ⟨r108, G108, hc108, h⟩ := bd_some h
          refine xVi C (As := [.int x2, .int (nI 0)]) (rest := [.int r102]) (kX9_ofKind a0 hc108) a0.1 rfl rfl w_719 mvX9_ofKind mwX9_ofKind rfl ⟨Nat.le_of_ble_eq_true rfl, Nat.le_of_ble_eq_true rfl⟩ ⟨Nat.le_refl _, Nat.le_refl _⟩ (Nat.le_of_ble_eq_true rfl) dX9_passesOne_108 ?_
          refine ximul C dX9_passesOne_111 ?_
          refine xgoto C (tgt := 116) (by decide) dX9_passesOne_112 ?_
          exact wX9_passesOne_116 C q0 x1 x2 (r102 * r108) hrec68 G108 a0 h
      · exact wX9_passesOne_115 C q0 x1 x2 hrec68 G77 a0 h
theorem wX9_passesOne_35 {r : Int32} (C : xC p s m args meth c cX9_passesOne RX9 4 (some .int) D cy) (q0 : Nat) (x1 : Int32) (x2 : Int32) {rec27 : (Int32 × Mem) → Option (Int32 × Mem)} (hrec27 : ∀ (x2 : Int32) (G : Mem), rec27 (x2, G) = some (r, G') → xX p l e (xR 2 48) s m args below meth c A s.heap D cy ad kd NP 4 0 0 (xQi below D cy ad kd NP A args s r G') G 27 [(0, .ref (ad q0)), (1, .int x1), (2, .int x2)] []) (a0 : A9 kd NP q0) : ∀ (n : Nat) (x3 : Int32) (G : Mem) (h : itr n (FX9_passesOne_35 rec27 q0 x1 x2) (x3, G) = some (r, G')), xX p l e (xR 2 48) s m args below meth c A s.heap D cy ad kd NP 4 0 0 (xQi below D cy ad kd NP A args s r G') G 35 [(0, .ref (ad q0)), (1, .int x1), (2, .int x2), (3, .int x3)] [] := by
  intro n
  induction n with
  | zero =>
    intro x3 G h
    have h : none = some (r, G') := h
    cases h
  | succ n ih =>
    intro x3 G h
    have h : bX9_passesOne_35 rec27 q0 x1 x2 (itr n (FX9_passesOne_35 rec27 q0 x1 x2)) x3 G = some (r, G') := h
    have hrec35 : ∀ (x3 : Int32) (G : Mem), itr n (FX9_passesOne_35 rec27 q0 x1 x2) (x3, G) = some (r, G') → xX p l e (xR 2 48) s m args below meth c A s.heap D cy ad kd NP 4 0 0 (xQi below D cy ad kd NP A args s r G') G 35 [(0, .ref (ad q0)), (1, .int x1), (2, .int x2), (3, .int x3)] [] := fun x3 G h => ih x3 G h
    unfold bX9_passesOne_35 at h
    refine xiload_n C 3 rfl rfl dX9_passesOne_35 ?_
    refine xaload_n C 0 rfl rfl dX9_passesOne_36 ?_
    refine xg_9_s C a0.1 w_643 dX9_passesOne_37 ?_
    refine xbipush C (v := (nI 12)) dX9_passesOne_40 (by decide) ?_
    refine xiload_n C 2 rfl rfl dX9_passesOne_42 ?_
    refine xiadd C dX9_passesOne_43 ?_
    obtain ⟨hi44, h⟩ := ix_some h
    refine xia_14 C ((nI 12) + x2).toNatClampNeg rfl a0.2.1 hi44 dX9_passesOne_44 ?_
    refine xicmp_ge C (tgt := 60) h (by decide) dX9_passesOne_45 (fun h => ?_) (fun h => ?_)
    · refine xiinc C (v := (x2 + nI 1)) (lv' := [(2, .int (x2 + nI 1)), (0, .ref (ad q0)), (1, .int x1), (3, .int x3)]) 2 rfl rfl (by decide) rfl dX9_passesOne_60 ?_
      refine xgoto C (tgt := 27) (by decide) dX9_passesOne_63 ?_
      refine xsub C (lv' := [(0, .ref (ad q0)), (1, .int x1), (2, .int (x2 + nI 1))]) [1, 2, 0] rfl ?_
      exact hrec27 (x2 + nI 1) G h
    · refine xaload_n C 0 rfl rfl dX9_passesOne_48 ?_
      refine xiload_n C 2 rfl rfl dX9_passesOne_49 ?_
      refine xiload_n C 3 rfl rfl dX9_passesOne_50 ?_
      obtain ⟨G51, hc51, h⟩ := bv_some h
      refine xVv C (As := [.int x2, .int x3]) (rest := []) (kX9_grows a0 hc51) a0.1 rfl rfl w_747 mvX9_grows mwX9_grows rfl ⟨Nat.le_of_ble_eq_true rfl, Nat.le_of_ble_eq_true rfl⟩ ⟨Nat.le_refl _, Nat.le_refl _⟩ (Nat.le_of_ble_eq_true rfl) dX9_passesOne_51 ?_
      refine xiinc C (v := (x3 + nI 1)) (lv' := [(3, .int (x3 + nI 1)), (0, .ref (ad q0)), (1, .int x1), (2, .int x2)]) 3 rfl rfl (by decide) rfl dX9_passesOne_54 ?_
      refine xgoto C (tgt := 35) (by decide) dX9_passesOne_57 ?_
      refine xsub C (lv' := [(0, .ref (ad q0)), (1, .int x1), (2, .int x2), (3, .int (x3 + nI 1))]) [1, 2, 3, 0] rfl ?_
      exact hrec35 (x3 + nI 1) G51 h
theorem wX9_passesOne_27 {r : Int32} (C : xC p s m args meth c cX9_passesOne RX9 4 (some .int) D cy) (q0 : Nat) (x1 : Int32) (a0 : A9 kd NP q0) : ∀ (n : Nat) (x2 : Int32) (G : Mem) (h : itr n (FX9_passesOne_27 q0 x1) (x2, G) = some (r, G')), xX p l e (xR 2 48) s m args below meth c A s.heap D cy ad kd NP 4 0 0 (xQi below D cy ad kd NP A args s r G') G 27 [(0, .ref (ad q0)), (1, .int x1), (2, .int x2)] [] := by
  intro n
  induction n with
  | zero =>
    intro x2 G h
    have h : none = some (r, G') := h
    cases h
  | succ n ih =>
    intro x2 G h
    have h : bX9_passesOne_27 q0 x1 (itr n (FX9_passesOne_27 q0 x1)) x2 G = some (r, G') := h
    have hrec27 : ∀ (x2 : Int32) (G : Mem), itr n (FX9_passesOne_27 q0 x1) (x2, G) = some (r, G') → xX p l e (xR 2 48) s m args below meth c A s.heap D cy ad kd NP 4 0 0 (xQi below D cy ad kd NP A args s r G') G 27 [(0, .ref (ad q0)), (1, .int x1), (2, .int x2)] [] := fun x2 G h => ih x2 G h
    unfold bX9_passesOne_27 at h
    refine xiload_n C 2 rfl rfl dX9_passesOne_27 ?_
    refine xbipush C (v := (nI 6)) dX9_passesOne_28 (by decide) ?_
    refine xicmp_ge C (tgt := 66) h (by decide) dX9_passesOne_30 (fun h => ?_) (fun h => ?_)
    · refine xiconst C (v := (nI 0)) dX9_passesOne_66 (by decide) ?_
      refine xistore_n C (lv' := [(2, .int (nI 0)), (0, .ref (ad q0)), (1, .int x1)]) rfl (by decide) rfl dX9_passesOne_67 ?_
      refine xsub C (lv' := [(0, .ref (ad q0)), (1, .int x1), (2, .int (nI 0))]) [1, 2, 0] rfl ?_
      exact wX9_passesOne_68 C q0 a0 _ x1 (nI 0) G h
    · refine xiconst C (v := (nI 0)) dX9_passesOne_33 (by decide) ?_
      refine xistore_n C (lv' := [(3, .int (nI 0)), (0, .ref (ad q0)), (1, .int x1), (2, .int x2)]) rfl (by decide) rfl dX9_passesOne_34 ?_
      refine xsub C (lv' := [(0, .ref (ad q0)), (1, .int x1), (2, .int x2), (3, .int (nI 0))]) [1, 2, 3, 0] rfl ?_
      exact wX9_passesOne_35 C q0 x1 x2 hrec27 a0 _ (nI 0) G h
theorem kX9_passesOne {r : Int32}  {q0 : Nat} (a0 : A9 kd NP q0) {G : Mem} (h : fX9_passesOne q0 G = some (r, G')) : xMi l D cy ad kd NP A yX9_passesOne cX9_passesOne 4 (some .int) 2 48 [.ref (ad q0)] G r G' := by
  refine xMi_of trivial (by decide +kernel) (Nat.le_of_ble_eq_true rfl) (fun p e s m args below meth c C => ?_)
  have C : xC p s m args meth c cX9_passesOne RX9 4 (some .int) D cy := C
  refine xsub C (lv' := [(0, .ref (ad q0))]) [0] rfl ?_
  unfold fX9_passesOne at h
  refine xaload_n C 0 rfl rfl dX9_passesOne_0 ?_
  refine xg_9_s C a0.1 w_643 dX9_passesOne_1 ?_
  refine xiconst C (v := (nI 0)) dX9_passesOne_4 (by decide) ?_
  refine xdup2 C dX9_passesOne_5 rfl rfl ?_
  refine xia_14 C 0 (by decide) a0.2.1 (xvi (by decide)) dX9_passesOne_6 ?_
  refine xiconst C (v := (nI 1)) dX9_passesOne_7 (by decide) ?_
  refine xiadd C dX9_passesOne_8 ?_
  refine xis_14 C 0 (by decide) a0.2.1 (xvi (by decide)) dX9_passesOne_9 ?_
  generalize mset G (q0 + 1) 0 ((G (q0 + 1) 0) + (nI 1)) = G9 at h ⊢
  replace h := lt_go h
  refine xaload_n C 0 rfl rfl dX9_passesOne_10 ?_
  refine xg_9_s C a0.1 w_643 dX9_passesOne_11 ?_
  refine xiconst C (v := (nI 1)) dX9_passesOne_14 (by decide) ?_
  refine xaload_n C 0 rfl rfl dX9_passesOne_15 ?_
  refine xg_9_s C a0.1 w_643 dX9_passesOne_16 ?_
  refine xbipush C (v := (nI 11)) dX9_passesOne_19 (by decide) ?_
  refine xia_14 C 11 (by decide) a0.2.1 (xvi (by decide)) dX9_passesOne_21 ?_
  refine xis_14 C 1 (by decide) a0.2.1 (xvi (by decide)) dX9_passesOne_22 ?_
  generalize mset G9 (q0 + 1) 1 (G9 (q0 + 1) 11) = G22 at h ⊢
  replace h := lt_go h
  refine xiconst C (v := (nI 0)) dX9_passesOne_23 (by decide) ?_
  refine xistore_n C (lv' := [(1, .int (nI 0)), (0, .ref (ad q0))]) rfl (by decide) rfl dX9_passesOne_24 ?_
  refine xiconst C (v := (nI 0)) dX9_passesOne_25 (by decide) ?_
  refine xistore_n C (lv' := [(2, .int (nI 0)), (1, .int (nI 0)), (0, .ref (ad q0))]) rfl (by decide) rfl dX9_passesOne_26 ?_
  refine xsub C (lv' := [(0, .ref (ad q0)), (1, .int (nI 0)), (2, .int (nI 0))]) [2, 1, 0] rfl ?_
  exact wX9_passesOne_27 C q0 (nI 0) a0 _ (nI 0) G22 h
/-- HedgeChainsModel.pass(I)I -/
theorem wX9_pass_37 {r : Int32} (C : xC p s m args meth c cX9_pass RX9 4 (some .int) D cy) (q0 : Nat) (x1 : Int32) (a0 : A9 kd NP q0) : ∀ (n : Nat) (x2 : Int32) (x3 : Int32) (G : Mem) (h : itr n (FX9_pass_37 q0 x1) (x2, x3, G) = some (r, G')), xX p l e (xR 3 71) s m args below meth c A s.heap D cy ad kd NP 4 0 0 (xQi below D cy ad kd NP A args s r G') G 37 [(0, .ref (ad q0)), (1, .int x1), (2, .int x2), (3, .int x3)] [] := by
  intro n
  induction n with
  | zero =>
    intro x2 x3 G h
    have h : none = some (r, G') := h
    cases h
  | succ n ih =>
    intro x2 x3 G h
    have h : bX9_pass_37 q0 x1 (itr n (FX9_pass_37 q0 x1)) x2 x3 G = some (r, G') := h
    have hrec37 : ∀ (x2 : Int32) (x3 : Int32) (G : Mem), itr n (FX9_pass_37 q0 x1) (x2, x3, G) = some (r, G') → xX p l e (xR 3 71) s m args below meth c A s.heap D cy ad kd NP 4 0 0 (xQi below D cy ad kd NP A args s r G') G 37 [(0, .ref (ad q0)), (1, .int x1), (2, .int x2), (3, .int x3)] [] := fun x2 x3 G h => ih x2 x3 G h
    unfold bX9_pass_37 at h
    refine xiload_n C 3 rfl rfl dX9_pass_37 ?_
    refine xiload_n C 1 rfl rfl dX9_pass_38 ?_
    refine xicmp_ge C (tgt := 55) h (by decide) dX9_pass_39 (fun h => ?_) (fun h => ?_)
    · refine xaload_n C 0 rfl rfl dX9_pass_55 ?_
      refine xiload_n C 2 rfl rfl dX9_pass_56 ?_
      obtain ⟨r57, G57, hc57, h⟩ := bd_some h
      refine xVi C (As := [.int x2]) (rest := []) (kX9_acted a0 hc57) a0.1 rfl rfl w_723 mvX9_acted mwX9_acted rfl ⟨Nat.le_of_ble_eq_true rfl, Nat.le_of_ble_eq_true rfl⟩ ⟨Nat.le_refl _, Nat.le_refl _⟩ (Nat.le_of_ble_eq_true rfl) dX9_pass_57 ?_
      obtain ⟨rfl, rfl⟩ := so_2 h
      exact xiret C rfl dX9_pass_60
    · refine xiload_n C 2 rfl rfl dX9_pass_42 ?_
      refine xaload_n C 0 rfl rfl dX9_pass_43 ?_
      obtain ⟨r44, G44, hc44, h⟩ := bd_some h
      refine xVi C (As := []) (rest := [.int x2]) (kX9_passesOne a0 hc44) a0.1 rfl rfl w_743 mvX9_passesOne mwX9_passesOne rfl ⟨Nat.le_of_ble_eq_true rfl, Nat.le_of_ble_eq_true rfl⟩ ⟨Nat.le_refl _, Nat.le_refl _⟩ (Nat.le_of_ble_eq_true rfl) dX9_pass_44 ?_
      refine xiadd C dX9_pass_47 ?_
      refine xistore_n C (lv' := [(2, .int (x2 + r44)), (0, .ref (ad q0)), (1, .int x1), (3, .int x3)]) rfl (by decide) rfl dX9_pass_48 ?_
      refine xiinc C (v := (x3 + nI 1)) (lv' := [(3, .int (x3 + nI 1)), (2, .int (x2 + r44)), (0, .ref (ad q0)), (1, .int x1)]) 3 rfl rfl (by decide) rfl dX9_pass_49 ?_
      refine xgoto C (tgt := 37) (by decide) dX9_pass_52 ?_
      refine xsub C (lv' := [(0, .ref (ad q0)), (1, .int x1), (2, .int (x2 + r44)), (3, .int (x3 + nI 1))]) [2, 3, 1, 0] rfl ?_
      exact hrec37 (x2 + r44) (x3 + nI 1) G44 h
theorem kX9_pass {r : Int32}  {q0 : Nat} {x1 : Int32} (a0 : A9 kd NP q0) {G : Mem} (h : fX9_pass q0 x1 G = some (r, G')) : xMi l D cy ad kd NP A yX9_pass cX9_pass 4 (some .int) 3 71 [.ref (ad q0), .int x1] G r G' := by
  refine xMi_of trivial (by decide +kernel) (Nat.le_of_ble_eq_true rfl) (fun p e s m args below meth c C => ?_)
  have C : xC p s m args meth c cX9_pass RX9 4 (some .int) D cy := C
  refine xsub C (lv' := [(0, .ref (ad q0)), (1, .int x1)]) [0, 1] rfl ?_
  unfold fX9_pass at h
  refine xiload_n C 1 rfl rfl dX9_pass_0 ?_
  refine xiconst C (v := (nI 1)) dX9_pass_1 (by decide) ?_
  refine xbipush C (v := (nI 60)) dX9_pass_2 (by decide) ?_
  obtain ⟨r4, G4, hc4, h⟩ := bd_some h
  refine xSi C (As := [.int x1, .int (nI 1), .int (nI 60)]) (rest := []) (kX9_in hc4) w_688 w_689 mwX9_in rfl ⟨Nat.le_of_ble_eq_true rfl, Nat.le_of_ble_eq_true rfl⟩ ⟨Nat.le_refl _, Nat.le_refl _⟩ (Nat.le_of_ble_eq_true rfl) dX9_pass_4 ?_
  refine xif_ne C (tgt := 12) h (by decide) dX9_pass_7 (fun h => ?_) (fun h => ?_)
  · refine xiconst C (v := (-1)) dX9_pass_10 (by decide) ?_
    obtain ⟨rfl, rfl⟩ := so_2 h
    exact xiret C rfl dX9_pass_11
  · refine xaload_n C 0 rfl rfl dX9_pass_12 ?_
    refine xg_9_s C a0.1 w_643 dX9_pass_13 ?_
    refine xiconst C (v := (nI 0)) dX9_pass_16 (by decide) ?_
    refine xia_14 C 0 (by decide) a0.2.1 (xvi (by decide)) dX9_pass_17 ?_
    refine xiload_n C 1 rfl rfl dX9_pass_18 ?_
    refine xiadd C dX9_pass_19 ?_
    refine xsipush C (v := (nI 1000)) dX9_pass_20 (by decide) ?_
    refine xicmp_le C (tgt := 29) h (by decide) dX9_pass_23 (fun h => ?_) (fun h => ?_)
    · refine xaload_n C 0 rfl rfl dX9_pass_29 ?_
      obtain ⟨G30, hc30, h⟩ := bv_some h
      refine xVv C (As := []) (rest := []) (kX9_keeps a0 hc30) a0.1 rfl rfl w_707 mvX9_keeps mwX9_keeps rfl ⟨Nat.le_of_ble_eq_true rfl, Nat.le_of_ble_eq_true rfl⟩ ⟨Nat.le_refl _, Nat.le_refl _⟩ (Nat.le_of_ble_eq_true rfl) dX9_pass_30 ?_
      refine xiconst C (v := (nI 0)) dX9_pass_33 (by decide) ?_
      refine xistore_n C (lv' := [(2, .int (nI 0)), (0, .ref (ad q0)), (1, .int x1)]) rfl (by decide) rfl dX9_pass_34 ?_
      refine xiconst C (v := (nI 0)) dX9_pass_35 (by decide) ?_
      refine xistore_n C (lv' := [(3, .int (nI 0)), (2, .int (nI 0)), (0, .ref (ad q0)), (1, .int x1)]) rfl (by decide) rfl dX9_pass_36 ?_
      refine xsub C (lv' := [(0, .ref (ad q0)), (1, .int x1), (2, .int (nI 0)), (3, .int (nI 0))]) [2, 3, 1, 0] rfl ?_
      exact wX9_pass_37 C q0 x1 a0 _ (nI 0) (nI 0) G30 h
    · refine xbipush C (v := (-3)) dX9_pass_26 (by decide) ?_
      obtain ⟨rfl, rfl⟩ := so_2 h
      exact xiret C rfl dX9_pass_28
/-- HedgeChainsModel.set(II)I -/
theorem wX9_set_97 {r : Int32} (C : xC p s m args meth c cX9_set RX9 5 (some .int) D cy) (q0 : Nat) (x3 : Int32) (y0 : Int32) (y1 : Int32) (z2 : Nat) (G : Mem) (a0 : A9 kd NP q0) (b2 : xO kd NP 14 z2) (h : jX9_set_97 q0 x3 y0 y1 z2 G = some (r, G')) : xX p l e (xR 1 22) s m args below meth c A s.heap D cy ad kd NP 5 0 0 (xQi below D cy ad kd NP A args s r G') G 97 [(0, .ref (ad q0)), (3, .int x3)] [.int y0, .int y1, .ref (ad z2)] := by
  unfold jX9_set_97 at h
  obtain ⟨hi97, h⟩ := ix_some h
  refine xis_14 C y1.toNatClampNeg rfl b2 hi97 dX9_set_97 ?_
  generalize mset G z2 y1.toNatClampNeg y0 = G97 at h ⊢
  replace h := lt_go h
  refine xaload_n C 0 rfl rfl dX9_set_98 ?_
  refine xiload_n C 1 rfl rfl dX9_set_99 ?_
  obtain ⟨r100, G100, hc100, h⟩ := bd_some h
  refine xVi C (As := [.int x3]) (rest := []) (kX9_acted a0 hc100) a0.1 rfl rfl w_723 mvX9_acted mwX9_acted rfl ⟨Nat.le_of_ble_eq_true rfl, Nat.le_of_ble_eq_true rfl⟩ ⟨Nat.le_refl _, Nat.le_refl _⟩ (Nat.le_of_ble_eq_true rfl) dX9_set_100 ?_
  obtain ⟨rfl, rfl⟩ := so_2 h
  exact xiret C rfl dX9_set_103
theorem wX9_set_32 {r : Int32} (C : xC p s m args meth c cX9_set RX9 5 (some .int) D cy) (q0 : Nat) (x1 : Int32) (x2 : Int32) (y0 : Int32) (y1 : Int32) (y2 : Int32) (G : Mem) (a0 : A9 kd NP q0) (h : jX9_set_32 q0 x1 x2 y0 y1 y2 G = some (r, G')) : xX p l e (xR 1 22) s m args below meth c A s.heap D cy ad kd NP 5 0 0 (xQi below D cy ad kd NP A args s r G') G 32 [(0, .ref (ad q0)), (1, .int x1), (2, .int x2)] [.int y0, .int y1, .int y2] := by
  unfold jX9_set_32 at h
  obtain ⟨r32, G32, hc32, h⟩ := bd_some h
  refine xSi C (As := [.int y2, .int y1, .int y0]) (rest := []) (kX9_in hc32) w_688 w_689 mwX9_in rfl ⟨Nat.le_of_ble_eq_true rfl, Nat.le_of_ble_eq_true rfl⟩ ⟨Nat.le_refl _, Nat.le_refl _⟩ (Nat.le_of_ble_eq_true rfl) dX9_set_32 ?_
  refine xif_ne C (tgt := 40) h (by decide) dX9_set_35 (fun h => ?_) (fun h => ?_)
  · refine xiconst C (v := (-1)) dX9_set_38 (by decide) ?_
    obtain ⟨rfl, rfl⟩ := so_2 h
    exact xiret C rfl dX9_set_39
  · refine xaload_n C 0 rfl rfl dX9_set_40 ?_
    obtain ⟨G41, hc41, h⟩ := bv_some h
    refine xVv C (As := []) (rest := []) (kX9_keeps a0 hc41) a0.1 rfl rfl w_707 mvX9_keeps mwX9_keeps rfl ⟨Nat.le_of_ble_eq_true rfl, Nat.le_of_ble_eq_true rfl⟩ ⟨Nat.le_refl _, Nat.le_refl _⟩ (Nat.le_of_ble_eq_true rfl) dX9_set_41 ?_
    refine xaload_n C 0 rfl rfl dX9_set_44 ?_
    refine xg_9_s C a0.1 w_643 dX9_set_45 ?_
    refine xbipush C (v := (nI 9)) dX9_set_48 (by decide) ?_
    refine xiload_n C 1 rfl rfl dX9_set_50 ?_
    refine xiadd C dX9_set_51 ?_
    obtain ⟨hi52, h⟩ := ix_some h
    refine xia_14 C ((nI 9) + x1).toNatClampNeg rfl a0.2.1 hi52 dX9_set_52 ?_
    refine xistore_n C (lv' := [(3, .int (G41 (q0 + 1) ((nI 9) + x1).toNatClampNeg)), (0, .ref (ad q0)), (1, .int x1), (2, .int x2)]) rfl (by decide) rfl dX9_set_53 ?_
    refine xaload_n C 1 rfl rfl dX9_set_54 ?_
    refine xg_9_s C a0.1 w_643 dX9_set_55 ?_
    refine xbipush C (v := (nI 9)) dX9_set_58 (by decide) ?_
    refine xiload_n C 2 rfl rfl dX9_set_60 ?_
    refine xiadd C dX9_set_61 ?_
    refine xiload_n C 3 rfl rfl dX9_set_62 ?_
    obtain ⟨hi63, h⟩ := ix_some h
    refine xis_14 C ((nI 9) + x1).toNatClampNeg rfl a0.2.1 hi63 dX9_set_63 ?_
    generalize mset G41 (q0 + 1) ((nI 9) + x1).toNatClampNeg x2 = G63 at h ⊢
    replace h := lt_go h
    refine xiload_n C 2 rfl rfl dX9_set_64 ?_
    refine xiconst C (v := (nI 2)) dX9_set_65 (by decide) ?_
    refine xicmp_ne C (tgt := 98) h (by decide) dX9_set_66 (fun h => ?_) (fun h => ?_)
    · refine xaload_n C 1 rfl rfl dX9_set_69 ?_
      refine xg_9_s C a0.1 w_643 dX9_set_70 ?_
      refine xiconst C (v := (nI 1)) dX9_set_73 (by decide) ?_
      refine xia_14 C 1 (by decide) a0.2.1 (xvi (by decide)) dX9_set_74 ?_
      refine xiload_n C 3 rfl rfl dX9_set_75 ?_
      refine xiadd C dX9_set_76 ?_
      refine xiload_n C 0 rfl rfl dX9_set_77 ?_
      refine xisub C dX9_set_78 ?_
      refine xistore C (lv' := [(4, .int (((G63 (q0 + 1) 1) + x2) - (G41 (q0 + 1) ((nI 9) + x1).toNatClampNeg))), (3, .int (G41 (q0 + 1) ((nI 9) + x1).toNatClampNeg)), (0, .ref (ad q0)), (1, .int x1), (2, .int x2)]) (by decide) rfl dX9_set_79 ?_
      refine xaload_n C 2 rfl rfl dX9_set_81 ?_
      refine xg_9_s C a0.1 w_643 dX9_set_82 ?_
      refine xiconst C (v := (nI 1)) dX9_set_85 (by decide) ?_
      refine xiload C 0 rfl dX9_set_86 ?_
      refine xif_ge C (tgt := 95) h (by decide) dX9_set_88 (fun h => ?_) (fun h => ?_)
      · refine xiload C 0 rfl dX9_set_95 ?_
        refine xsub C (lv' := [(0, .ref (ad q0)), (3, .int (G41 (q0 + 1) ((nI 9) + x1).toNatClampNeg))]) [2, 1] rfl ?_
        exact wX9_set_97 C q0 (G41 (q0 + 1) ((nI 9) + x1).toNatClampNeg) (((G63 (q0 + 1) 1) + x2) - (G41 (q0 + 1) ((nI 9) + x1).toNatClampNeg)) (nI 1) (q0 + 1) G63 a0 a0.2.1 h
      · refine xiconst C (v := (nI 0)) dX9_set_91 (by decide) ?_
        refine xgoto C (tgt := 97) (by decide) dX9_set_92 ?_
        refine xsub C (lv' := [(0, .ref (ad q0)), (3, .int (G41 (q0 + 1) ((nI 9) + x1).toNatClampNeg))]) [2, 1] rfl ?_
        exact wX9_set_97 C q0 (G41 (q0 + 1) ((nI 9) + x1).toNatClampNeg) (nI 0) (nI 1) (q0 + 1) G63 a0 a0.2.1 h
    · refine xaload_n C 1 rfl rfl dX9_set_98 ?_
      refine xiload_n C 0 rfl rfl dX9_set_99 ?_
      obtain ⟨r100, G100, hc100, h⟩ := bd_some h
      refine xVi C (As := [.int (G41 (q0 + 1) ((nI 9) + x1).toNatClampNeg)]) (rest := []) (kX9_acted a0 hc100) a0.1 rfl rfl w_723 mvX9_acted mwX9_acted rfl ⟨Nat.le_of_ble_eq_true rfl, Nat.le_of_ble_eq_true rfl⟩ ⟨Nat.le_refl _, Nat.le_refl _⟩ (Nat.le_of_ble_eq_true rfl) dX9_set_100 ?_
      obtain ⟨rfl, rfl⟩ := so_2 h
      exact xiret C rfl dX9_set_103
theorem wX9_set_20 {r : Int32} (C : xC p s m args meth c cX9_set RX9 5 (some .int) D cy) (q0 : Nat) (x1 : Int32) (x2 : Int32) (y0 : Int32) (y1 : Int32) (G : Mem) (a0 : A9 kd NP q0) (h : jX9_set_20 q0 x1 x2 y0 y1 G = some (r, G')) : xX p l e (xR 1 22) s m args below meth c A s.heap D cy ad kd NP 5 0 0 (xQi below D cy ad kd NP A args s r G') G 20 [(0, .ref (ad q0)), (1, .int x1), (2, .int x2)] [.int y0, .int y1] := by
  unfold jX9_set_20 at h
  refine xiload_n C 1 rfl rfl dX9_set_20 ?_
  refine xiconst C (v := (nI 2)) dX9_set_21 (by decide) ?_
  refine xicmp_ne C (tgt := 30) h (by decide) dX9_set_22 (fun h => ?_) (fun h => ?_)
  · refine xbipush C (v := (nI 100)) dX9_set_25 (by decide) ?_
    refine xgoto C (tgt := 32) (by decide) dX9_set_27 ?_
    exact wX9_set_32 C q0 x1 x2 (nI 100) y0 y1 G a0 h
  · refine xbipush C (v := (nI 51)) dX9_set_30 (by decide) ?_
    exact wX9_set_32 C q0 x1 x2 (nI 51) y0 y1 G a0 h
theorem kX9_set {r : Int32}  {q0 : Nat} {x1 : Int32} {x2 : Int32} (a0 : A9 kd NP q0) {G : Mem} (h : fX9_set q0 x1 x2 G = some (r, G')) : xMi l D cy ad kd NP A yX9_set cX9_set 5 (some .int) 1 22 [.ref (ad q0), .int x1, .int x2] G r G' := by
  refine xMi_of trivial (by decide +kernel) (Nat.le_of_ble_eq_true rfl) (fun p e s m args below meth c C => ?_)
  have C : xC p s m args meth c cX9_set RX9 5 (some .int) D cy := C
  refine xsub C (lv' := [(0, .ref (ad q0)), (1, .int x1), (2, .int x2)]) [0, 1, 2] rfl ?_
  unfold fX9_set at h
  refine xiload_n C 1 rfl rfl dX9_set_0 ?_
  refine xiconst C (v := (nI 0)) dX9_set_1 (by decide) ?_
  refine xiconst C (v := (nI 2)) dX9_set_2 (by decide) ?_
  obtain ⟨r3, G3, hc3, h⟩ := bd_some h
  refine xSi C (As := [.int x1, .int (nI 0), .int (nI 2)]) (rest := []) (kX9_in hc3) w_688 w_689 mwX9_in rfl ⟨Nat.le_of_ble_eq_true rfl, Nat.le_of_ble_eq_true rfl⟩ ⟨Nat.le_refl _, Nat.le_refl _⟩ (Nat.le_of_ble_eq_true rfl) dX9_set_3 ?_
  refine xif_eq C (tgt := 38) h (by decide) dX9_set_6 (fun h => ?_) (fun h => ?_)
  · refine xiconst C (v := (-1)) dX9_set_38 (by decide) ?_
    obtain ⟨rfl, rfl⟩ := so_2 h
    exact xiret C rfl dX9_set_39
  · refine xiload_n C 2 rfl rfl dX9_set_9 ?_
    refine xiload_n C 1 rfl rfl dX9_set_10 ?_
    refine xiconst C (v := (nI 2)) dX9_set_11 (by decide) ?_
    refine xicmp_ne C (tgt := 19) h (by decide) dX9_set_12 (fun h => ?_) (fun h => ?_)
    · refine xiconst C (v := (nI 1)) dX9_set_15 (by decide) ?_
      refine xgoto C (tgt := 20) (by decide) dX9_set_16 ?_
      exact wX9_set_20 C q0 x1 x2 (nI 1) x2 G3 a0 h
    · refine xiconst C (v := (nI 0)) dX9_set_19 (by decide) ?_
      exact wX9_set_20 C q0 x1 x2 (nI 0) x2 G3 a0 h
/-- HedgeChainsModel.contract(IIII)I -/
theorem kX9_contract {r : Int32}  {q0 : Nat} {x1 : Int32} {x2 : Int32} {x3 : Int32} {x4 : Int32} (a0 : A9 kd NP q0) {G : Mem} (h : fX9_contract q0 x1 x2 x3 x4 G = some (r, G')) : xMi l D cy ad kd NP A yX9_contract cX9_contract 6 (some .int) 2 46 [.ref (ad q0), .int x1, .int x2, .int x3, .int x4] G r G' := by
  refine xMi_of trivial (by decide +kernel) (Nat.le_of_ble_eq_true rfl) (fun p e s m args below meth c C => ?_)
  have C : xC p s m args meth c cX9_contract RX9 6 (some .int) D cy := C
  refine xsub C (lv' := [(0, .ref (ad q0)), (1, .int x1), (2, .int x2), (3, .int x3), (4, .int x4)]) [0, 1, 2, 3, 4] rfl ?_
  unfold fX9_contract at h
  refine xiload_n C 1 rfl rfl dX9_contract_0 ?_
  obtain ⟨r1, G1, hc1, h⟩ := bd_some h
  refine xSi C (As := [.int x1]) (rest := []) (kX9_isField hc1) w_685 w_686 mwX9_isField rfl ⟨Nat.le_of_ble_eq_true rfl, Nat.le_of_ble_eq_true rfl⟩ ⟨Nat.le_refl _, Nat.le_refl _⟩ (Nat.le_of_ble_eq_true rfl) dX9_contract_1 ?_
  refine xif_eq C (tgt := 38) h (by decide) dX9_contract_4 (fun h => ?_) (fun h => ?_)
  · refine xiconst C (v := (-1)) dX9_contract_38 (by decide) ?_
    obtain ⟨rfl, rfl⟩ := so_2 h
    exact xiret C rfl dX9_contract_39
  · refine xiload_n C 2 rfl rfl dX9_contract_7 ?_
    refine xiconst C (v := (nI 0)) dX9_contract_8 (by decide) ?_
    refine xbipush C (v := (nI 20)) dX9_contract_9 (by decide) ?_
    obtain ⟨r11, G11, hc11, h⟩ := bd_some h
    refine xSi C (As := [.int x2, .int (nI 0), .int (nI 20)]) (rest := []) (kX9_in hc11) w_688 w_689 mwX9_in rfl ⟨Nat.le_of_ble_eq_true rfl, Nat.le_of_ble_eq_true rfl⟩ ⟨Nat.le_refl _, Nat.le_refl _⟩ (Nat.le_of_ble_eq_true rfl) dX9_contract_11 ?_
    refine xif_eq C (tgt := 38) h (by decide) dX9_contract_14 (fun h => ?_) (fun h => ?_)
    · refine xiconst C (v := (-1)) dX9_contract_38 (by decide) ?_
      obtain ⟨rfl, rfl⟩ := so_2 h
      exact xiret C rfl dX9_contract_39
    · refine xiload_n C 3 rfl rfl dX9_contract_17 ?_
      refine xiconst C (v := (nI 0)) dX9_contract_18 (by decide) ?_
      refine xbipush C (v := (nI 100)) dX9_contract_19 (by decide) ?_
      obtain ⟨r21, G21, hc21, h⟩ := bd_some h
      refine xSi C (As := [.int x3, .int (nI 0), .int (nI 100)]) (rest := []) (kX9_in hc21) w_688 w_689 mwX9_in rfl ⟨Nat.le_of_ble_eq_true rfl, Nat.le_of_ble_eq_true rfl⟩ ⟨Nat.le_refl _, Nat.le_refl _⟩ (Nat.le_of_ble_eq_true rfl) dX9_contract_21 ?_
      refine xif_eq C (tgt := 38) h (by decide) dX9_contract_24 (fun h => ?_) (fun h => ?_)
      · refine xiconst C (v := (-1)) dX9_contract_38 (by decide) ?_
        obtain ⟨rfl, rfl⟩ := so_2 h
        exact xiret C rfl dX9_contract_39
      · refine xiload C 4 rfl dX9_contract_27 ?_
        refine xiconst C (v := (nI 0)) dX9_contract_29 (by decide) ?_
        refine xbipush C (v := (nI 9)) dX9_contract_30 (by decide) ?_
        obtain ⟨r32, G32, hc32, h⟩ := bd_some h
        refine xSi C (As := [.int x4, .int (nI 0), .int (nI 9)]) (rest := []) (kX9_in hc32) w_688 w_689 mwX9_in rfl ⟨Nat.le_of_ble_eq_true rfl, Nat.le_of_ble_eq_true rfl⟩ ⟨Nat.le_refl _, Nat.le_refl _⟩ (Nat.le_of_ble_eq_true rfl) dX9_contract_32 ?_
        refine xif_ne C (tgt := 40) h (by decide) dX9_contract_35 (fun h => ?_) (fun h => ?_)
        · refine xiconst C (v := (-1)) dX9_contract_38 (by decide) ?_
          obtain ⟨rfl, rfl⟩ := so_2 h
          exact xiret C rfl dX9_contract_39
        · refine xaload_n C 0 rfl rfl dX9_contract_40 ?_
          refine xiload_n C 1 rfl rfl dX9_contract_41 ?_
          refine xiconst C (v := (nI 0)) dX9_contract_42 (by decide) ?_
          obtain ⟨r43, G43, hc43, h⟩ := bd_some h
          refine xVi C (As := [.int x1, .int (nI 0)]) (rest := []) (kX9_con a0 hc43) a0.1 rfl rfl w_711 mvX9_con mwX9_con rfl ⟨Nat.le_of_ble_eq_true rfl, Nat.le_of_ble_eq_true rfl⟩ ⟨Nat.le_refl _, Nat.le_refl _⟩ (Nat.le_of_ble_eq_true rfl) dX9_contract_43 ?_
          refine xiconst C (v := (nI 1)) dX9_contract_46 (by decide) ?_
          refine xicmp_eq C (tgt := 59) h (by decide) dX9_contract_47 (fun h => ?_) (fun h => ?_)
          · refine xbipush C (v := (-2)) dX9_contract_59 (by decide) ?_
            obtain ⟨rfl, rfl⟩ := so_2 h
            exact xiret C rfl dX9_contract_61
          · refine xaload_n C 0 rfl rfl dX9_contract_50 ?_
            refine xiload_n C 1 rfl rfl dX9_contract_51 ?_
            refine xiconst C (v := (nI 0)) dX9_contract_52 (by decide) ?_
            obtain ⟨r53, G53, hc53, h⟩ := bd_some h
            refine xVi C (As := [.int x1, .int (nI 0)]) (rest := []) (kX9_ofKind a0 hc53) a0.1 rfl rfl w_719 mvX9_ofKind mwX9_ofKind rfl ⟨Nat.le_of_ble_eq_true rfl, Nat.le_of_ble_eq_true rfl⟩ ⟨Nat.le_refl _, Nat.le_refl _⟩ (Nat.le_of_ble_eq_true rfl) dX9_contract_53 ?_
            refine xif_ne C (tgt := 62) h (by decide) dX9_contract_56 (fun h => ?_) (fun h => ?_)
            · refine xbipush C (v := (-2)) dX9_contract_59 (by decide) ?_
              obtain ⟨rfl, rfl⟩ := so_2 h
              exact xiret C rfl dX9_contract_61
            · refine xaload_n C 0 rfl rfl dX9_contract_62 ?_
              obtain ⟨G63, hc63, h⟩ := bv_some h
              refine xVv C (As := []) (rest := []) (kX9_keeps a0 hc63) a0.1 rfl rfl w_707 mvX9_keeps mwX9_keeps rfl ⟨Nat.le_of_ble_eq_true rfl, Nat.le_of_ble_eq_true rfl⟩ ⟨Nat.le_refl _, Nat.le_refl _⟩ (Nat.le_of_ble_eq_true rfl) dX9_contract_63 ?_
              refine xbipush C (v := (nI 18)) dX9_contract_66 (by decide) ?_
              refine xiconst C (v := (nI 4)) dX9_contract_68 (by decide) ?_
              refine xiload_n C 1 rfl rfl dX9_contract_69 ?_
              refine ximul C dX9_contract_70 ?_
              refine xiadd C dX9_contract_71 ?_
              refine xistore C (lv' := [(5, .int ((nI 18) + ((nI 4) * x1))), (0, .ref (ad q0)), (1, .int x1), (2, .int x2), (3, .int x3), (4, .int x4)]) (by decide) rfl dX9_contract_72 ?_
              refine xaload_n C 1 rfl rfl dX9_contract_74 ?_
              refine xg_9_s C a0.1 w_643 dX9_contract_75 ?_
              refine xiload C 0 rfl dX9_contract_78 ?_
              refine xiconst C (v := (nI 1)) dX9_contract_80 (by decide) ?_
              obtain ⟨hi81, h⟩ := ix_some h
              refine xis_14 C ((nI 18) + ((nI 4) * x1)).toNatClampNeg rfl a0.2.1 hi81 dX9_contract_81 ?_
              generalize mset G63 (q0 + 1) ((nI 18) + ((nI 4) * x1)).toNatClampNeg (nI 1) = G81 at h ⊢
              replace h := lt_go h
              refine xaload_n C 1 rfl rfl dX9_contract_82 ?_
              refine xg_9_s C a0.1 w_643 dX9_contract_83 ?_
              refine xiload C 0 rfl dX9_contract_86 ?_
              refine xiconst C (v := (nI 1)) dX9_contract_88 (by decide) ?_
              refine xiadd C dX9_contract_89 ?_
              refine xiload_n C 3 rfl rfl dX9_contract_90 ?_
              obtain ⟨hi91, h⟩ := ix_some h
              refine xis_14 C (((nI 18) + ((nI 4) * x1)) + (nI 1)).toNatClampNeg rfl a0.2.1 hi91 dX9_contract_91 ?_
              generalize mset G81 (q0 + 1) (((nI 18) + ((nI 4) * x1)) + (nI 1)).toNatClampNeg x2 = G91 at h ⊢
              replace h := lt_go h
              refine xaload_n C 1 rfl rfl dX9_contract_92 ?_
              refine xg_9_s C a0.1 w_643 dX9_contract_93 ?_
              refine xiload C 0 rfl dX9_contract_96 ?_
              refine xiconst C (v := (nI 2)) dX9_contract_98 (by decide) ?_
              refine xiadd C dX9_contract_99 ?_
              refine xaload_n C 1 rfl rfl dX9_contract_100 ?_
              refine xg_9_s C a0.1 w_643 dX9_contract_101 ?_
              refine xiconst C (v := (nI 0)) dX9_contract_104 (by decide) ?_
              refine xia_14 C 0 (by decide) a0.2.1 (xvi (by decide)) dX9_contract_105 ?_
              refine xiload_n C 4 rfl rfl dX9_contract_106 ?_
              refine xiadd C dX9_contract_107 ?_
              obtain ⟨hi108, h⟩ := ix_some h
              refine xis_14 C (((nI 18) + ((nI 4) * x1)) + (nI 2)).toNatClampNeg rfl a0.2.1 hi108 dX9_contract_108 ?_
              generalize mset G91 (q0 + 1) (((nI 18) + ((nI 4) * x1)) + (nI 2)).toNatClampNeg ((G91 (q0 + 1) 0) + x3) = G108 at h ⊢
              replace h := lt_go h
              refine xaload_n C 1 rfl rfl dX9_contract_109 ?_
              refine xg_9_s C a0.1 w_643 dX9_contract_110 ?_
              refine xiload C 0 rfl dX9_contract_113 ?_
              refine xiconst C (v := (nI 3)) dX9_contract_115 (by decide) ?_
              refine xiadd C dX9_contract_116 ?_
              refine xiload C 5 rfl dX9_contract_117 ?_
              obtain ⟨hi119, h⟩ := ix_some h
              refine xis_14 C (((nI 18) + ((nI 4) * x1)) + (nI 3)).toNatClampNeg rfl a0.2.1 hi119 dX9_contract_119 ?_
              generalize mset G108 (q0 + 1) (((nI 18) + ((nI 4) * x1)) + (nI 3)).toNatClampNeg x4 = G119 at h ⊢
              replace h := lt_go h
              refine xaload_n C 1 rfl rfl dX9_contract_120 ?_
              refine xaload_n C 1 rfl rfl dX9_contract_121 ?_
              refine xiload_n C 2 rfl rfl dX9_contract_122 ?_
              refine xiconst C (v := (nI 0)) dX9_contract_123 (by decide) ?_
              obtain ⟨r124, G124, hc124, h⟩ := bd_some h
              refine xVi C (As := [.int x1, .int (nI 0)]) (rest := [.ref (ad q0)]) (kX9_ofKind a0 hc124) a0.1 rfl rfl w_719 mvX9_ofKind mwX9_ofKind rfl ⟨Nat.le_of_ble_eq_true rfl, Nat.le_of_ble_eq_true rfl⟩ ⟨Nat.le_refl _, Nat.le_refl _⟩ (Nat.le_of_ble_eq_true rfl) dX9_contract_124 ?_
              obtain ⟨r127, G127, hc127, h⟩ := bd_some h
              refine xVi C (As := [.int r124]) (rest := []) (kX9_acted a0 hc127) a0.1 rfl rfl w_723 mvX9_acted mwX9_acted rfl ⟨Nat.le_of_ble_eq_true rfl, Nat.le_of_ble_eq_true rfl⟩ ⟨Nat.le_refl _, Nat.le_refl _⟩ (Nat.le_of_ble_eq_true rfl) dX9_contract_127 ?_
              obtain ⟨rfl, rfl⟩ := so_2 h
              exact xiret C rfl dX9_contract_130
/-- HedgeChainsModel.giveBack(I)I -/
theorem wX9_giveBack_41 {r : Int32} (C : xC p s m args meth c cX9_giveBack RX9 4 (some .int) D cy) (q0 : Nat) (x1 : Int32) (x2 : Int32) (a0 : A9 kd NP q0) : ∀ (n : Nat) (x3 : Int32) (G : Mem) (h : itr n (FX9_giveBack_41 q0 x1 x2) (x3, G) = some (r, G')), xX p l e (xR 2 42) s m args below meth c A s.heap D cy ad kd NP 4 0 0 (xQi below D cy ad kd NP A args s r G') G 41 [(0, .ref (ad q0)), (1, .int x1), (2, .int x2), (3, .int x3)] [] := by
  intro n
  induction n with
  | zero =>
    intro x3 G h
    have h : none = some (r, G') := h
    cases h
  | succ n ih =>
    intro x3 G h
    have h : bX9_giveBack_41 q0 x1 x2 (itr n (FX9_giveBack_41 q0 x1 x2)) x3 G = some (r, G') := h
    have hrec41 : ∀ (x3 : Int32) (G : Mem), itr n (FX9_giveBack_41 q0 x1 x2) (x3, G) = some (r, G') → xX p l e (xR 2 42) s m args below meth c A s.heap D cy ad kd NP 4 0 0 (xQi below D cy ad kd NP A args s r G') G 41 [(0, .ref (ad q0)), (1, .int x1), (2, .int x2), (3, .int x3)] [] := fun x3 G h => ih x3 G h
    unfold bX9_giveBack_41 at h
    refine xiload_n C 3 rfl rfl dX9_giveBack_41 ?_
    refine xiconst C (v := (nI 4)) dX9_giveBack_42 (by decide) ?_
    refine xicmp_ge C (tgt := 66) h (by decide) dX9_giveBack_43 (fun h => ?_) (fun h => ?_)
    · refine xaload_n C 0 rfl rfl dX9_giveBack_66 ?_
      refine xiload_n C 2 rfl rfl dX9_giveBack_67 ?_
      obtain ⟨r68, G68, hc68, h⟩ := bd_some h
      refine xVi C (As := [.int x2]) (rest := []) (kX9_acted a0 hc68) a0.1 rfl rfl w_723 mvX9_acted mwX9_acted rfl ⟨Nat.le_of_ble_eq_true rfl, Nat.le_of_ble_eq_true rfl⟩ ⟨Nat.le_refl _, Nat.le_refl _⟩ (Nat.le_of_ble_eq_true rfl) dX9_giveBack_68 ?_
      obtain ⟨rfl, rfl⟩ := so_2 h
      exact xiret C rfl dX9_giveBack_71
    · refine xaload_n C 0 rfl rfl dX9_giveBack_46 ?_
      refine xg_9_s C a0.1 w_643 dX9_giveBack_47 ?_
      refine xbipush C (v := (nI 18)) dX9_giveBack_50 (by decide) ?_
      refine xiconst C (v := (nI 4)) dX9_giveBack_52 (by decide) ?_
      refine xiload_n C 1 rfl rfl dX9_giveBack_53 ?_
      refine ximul C dX9_giveBack_54 ?_
      refine xiadd C dX9_giveBack_55 ?_
      refine xiload_n C 3 rfl rfl dX9_giveBack_56 ?_
      refine xiadd C dX9_giveBack_57 ?_
      refine xiconst C (v := (nI 0)) dX9_giveBack_58 (by decide) ?_
      obtain ⟨hi59, h⟩ := ix_some h
      refine xis_14 C (((nI 18) + ((nI 4) * x1)) + x3).toNatClampNeg rfl a0.2.1 hi59 dX9_giveBack_59 ?_
      generalize mset G (q0 + 1) (((nI 18) + ((nI 4) * x1)) + x3).toNatClampNeg (nI 0) = G59 at h ⊢
      replace h := lt_go h
      refine xiinc C (v := (x3 + nI 1)) (lv' := [(3, .int (x3 + nI 1)), (0, .ref (ad q0)), (1, .int x1), (2, .int x2)]) 3 rfl rfl (by decide) rfl dX9_giveBack_60 ?_
      refine xgoto C (tgt := 41) (by decide) dX9_giveBack_63 ?_
      refine xsub C (lv' := [(0, .ref (ad q0)), (1, .int x1), (2, .int x2), (3, .int (x3 + nI 1))]) [1, 2, 3, 0] rfl ?_
      exact hrec41 (x3 + nI 1) G59 h
theorem kX9_giveBack {r : Int32}  {q0 : Nat} {x1 : Int32} (a0 : A9 kd NP q0) {G : Mem} (h : fX9_giveBack q0 x1 G = some (r, G')) : xMi l D cy ad kd NP A yX9_giveBack cX9_giveBack 4 (some .int) 2 42 [.ref (ad q0), .int x1] G r G' := by
  refine xMi_of trivial (by decide +kernel) (Nat.le_of_ble_eq_true rfl) (fun p e s m args below meth c C => ?_)
  have C : xC p s m args meth c cX9_giveBack RX9 4 (some .int) D cy := C
  refine xsub C (lv' := [(0, .ref (ad q0)), (1, .int x1)]) [0, 1] rfl ?_
  unfold fX9_giveBack at h
  refine xiload_n C 1 rfl rfl dX9_giveBack_0 ?_
  obtain ⟨r1, G1, hc1, h⟩ := bd_some h
  refine xSi C (As := [.int x1]) (rest := []) (kX9_isField hc1) w_685 w_686 mwX9_isField rfl ⟨Nat.le_of_ble_eq_true rfl, Nat.le_of_ble_eq_true rfl⟩ ⟨Nat.le_refl _, Nat.le_refl _⟩ (Nat.le_of_ble_eq_true rfl) dX9_giveBack_1 ?_
  refine xif_ne C (tgt := 9) h (by decide) dX9_giveBack_4 (fun h => ?_) (fun h => ?_)
  · refine xiconst C (v := (-1)) dX9_giveBack_7 (by decide) ?_
    obtain ⟨rfl, rfl⟩ := so_2 h
    exact xiret C rfl dX9_giveBack_8
  · refine xaload_n C 0 rfl rfl dX9_giveBack_9 ?_
    refine xiload_n C 1 rfl rfl dX9_giveBack_10 ?_
    refine xiconst C (v := (nI 0)) dX9_giveBack_11 (by decide) ?_
    obtain ⟨r12, G12, hc12, h⟩ := bd_some h
    refine xVi C (As := [.int x1, .int (nI 0)]) (rest := []) (kX9_con a0 hc12) a0.1 rfl rfl w_711 mvX9_con mwX9_con rfl ⟨Nat.le_of_ble_eq_true rfl, Nat.le_of_ble_eq_true rfl⟩ ⟨Nat.le_refl _, Nat.le_refl _⟩ (Nat.le_of_ble_eq_true rfl) dX9_giveBack_12 ?_
    refine xif_ne C (tgt := 21) h (by decide) dX9_giveBack_15 (fun h => ?_) (fun h => ?_)
    · refine xbipush C (v := (-2)) dX9_giveBack_18 (by decide) ?_
      obtain ⟨rfl, rfl⟩ := so_2 h
      exact xiret C rfl dX9_giveBack_20
    · refine xaload_n C 0 rfl rfl dX9_giveBack_21 ?_
      obtain ⟨G22, hc22, h⟩ := bv_some h
      refine xVv C (As := []) (rest := []) (kX9_keeps a0 hc22) a0.1 rfl rfl w_707 mvX9_keeps mwX9_keeps rfl ⟨Nat.le_of_ble_eq_true rfl, Nat.le_of_ble_eq_true rfl⟩ ⟨Nat.le_refl _, Nat.le_refl _⟩ (Nat.le_of_ble_eq_true rfl) dX9_giveBack_22 ?_
      refine xiconst C (v := (nI 5)) dX9_giveBack_25 (by decide) ?_
      refine xaload_n C 0 rfl rfl dX9_giveBack_26 ?_
      refine xiload_n C 1 rfl rfl dX9_giveBack_27 ?_
      refine xiconst C (v := (nI 3)) dX9_giveBack_28 (by decide) ?_
      obtain ⟨r29, G29, hc29, h⟩ := bd_some h
      refine xVi C (As := [.int x1, .int (nI 3)]) (rest := [.int (nI 5)]) (kX9_con a0 hc29) a0.1 rfl rfl w_711 mvX9_con mwX9_con rfl ⟨Nat.le_of_ble_eq_true rfl, Nat.le_of_ble_eq_true rfl⟩ ⟨Nat.le_refl _, Nat.le_refl _⟩ (Nat.le_of_ble_eq_true rfl) dX9_giveBack_29 ?_
      refine ximul C dX9_giveBack_32 ?_
      refine xistore_n C (lv' := [(2, .int ((nI 5) * r29)), (0, .ref (ad q0)), (1, .int x1)]) rfl (by decide) rfl dX9_giveBack_33 ?_
      refine xaload_n C 1 rfl rfl dX9_giveBack_34 ?_
      refine xiload_n C 0 rfl rfl dX9_giveBack_35 ?_
      obtain ⟨G36, hc36, h⟩ := bv_some h
      refine xVv C (As := [.int ((nI 5) * r29)]) (rest := []) (kX9_pays a0 hc36) a0.1 rfl rfl w_755 mvX9_pays mwX9_pays rfl ⟨Nat.le_of_ble_eq_true rfl, Nat.le_of_ble_eq_true rfl⟩ ⟨Nat.le_refl _, Nat.le_refl _⟩ (Nat.le_of_ble_eq_true rfl) dX9_giveBack_36 ?_
      refine xiconst C (v := (nI 0)) dX9_giveBack_39 (by decide) ?_
      refine xistore_n C (lv' := [(3, .int (nI 0)), (2, .int ((nI 5) * r29)), (0, .ref (ad q0)), (1, .int x1)]) rfl (by decide) rfl dX9_giveBack_40 ?_
      refine xsub C (lv' := [(0, .ref (ad q0)), (1, .int x1), (2, .int ((nI 5) * r29)), (3, .int (nI 0))]) [2, 3, 1, 0] rfl ?_
      exact wX9_giveBack_41 C q0 x1 ((nI 5) * r29) a0 _ (nI 0) G36 h
/-- HedgeChainsModel.payDebt()I -/
theorem wX9_payDebt_55 {r : Int32} (C : xC p s m args meth c cX9_payDebt RX9 2 (some .int) D cy) (q0 : Nat) (y0 : Int32) (G : Mem) (a0 : A9 kd NP q0) (h : jX9_payDebt_55 q0 y0 G = some (r, G')) : xX p l e (xR 1 22) s m args below meth c A s.heap D cy ad kd NP 2 0 0 (xQi below D cy ad kd NP A args s r G') G 55 [(0, .ref (ad q0))] [.int y0] := by
  unfold jX9_payDebt_55 at h
  refine xistore_n C (lv' := [(1, .int y0), (0, .ref (ad q0))]) rfl (by decide) rfl dX9_payDebt_55 ?_
  refine xaload_n C 1 rfl rfl dX9_payDebt_56 ?_
  refine xg_9_s C a0.1 w_643 dX9_payDebt_57 ?_
  refine xiconst C (v := (nI 4)) dX9_payDebt_60 (by decide) ?_
  refine xdup2 C dX9_payDebt_61 rfl rfl ?_
  refine xia_14 C 4 (by decide) a0.2.1 (xvi (by decide)) dX9_payDebt_62 ?_
  refine xiload_n C 0 rfl rfl dX9_payDebt_63 ?_
  refine xisub C dX9_payDebt_64 ?_
  refine xis_14 C 4 (by decide) a0.2.1 (xvi (by decide)) dX9_payDebt_65 ?_
  generalize mset G (q0 + 1) 4 ((G (q0 + 1) 4) - y0) = G65 at h ⊢
  replace h := lt_go h
  refine xaload_n C 1 rfl rfl dX9_payDebt_66 ?_
  refine xg_9_s C a0.1 w_643 dX9_payDebt_67 ?_
  refine xiconst C (v := (nI 3)) dX9_payDebt_70 (by decide) ?_
  refine xdup2 C dX9_payDebt_71 rfl rfl ?_
  refine xia_14 C 3 (by decide) a0.2.1 (xvi (by decide)) dX9_payDebt_72 ?_
  refine xiload_n C 0 rfl rfl dX9_payDebt_73 ?_
  refine xisub C dX9_payDebt_74 ?_
  refine xis_14 C 3 (by decide) a0.2.1 (xvi (by decide)) dX9_payDebt_75 ?_
  generalize mset G65 (q0 + 1) 3 ((G65 (q0 + 1) 3) - y0) = G75 at h ⊢
  replace h := lt_go h
  refine xaload_n C 1 rfl rfl dX9_payDebt_76 ?_
  refine xiload_n C 0 rfl rfl dX9_payDebt_77 ?_
  obtain ⟨r78, G78, hc78, h⟩ := bd_some h
  refine xVi C (As := [.int y0]) (rest := []) (kX9_acted a0 hc78) a0.1 rfl rfl w_723 mvX9_acted mwX9_acted rfl ⟨Nat.le_of_ble_eq_true rfl, Nat.le_of_ble_eq_true rfl⟩ ⟨Nat.le_refl _, Nat.le_refl _⟩ (Nat.le_of_ble_eq_true rfl) dX9_payDebt_78 ?_
  obtain ⟨rfl, rfl⟩ := so_2 h
  exact xiret C rfl dX9_payDebt_81
theorem kX9_payDebt {r : Int32}  {q0 : Nat} (a0 : A9 kd NP q0) {G : Mem} (h : fX9_payDebt q0 G = some (r, G')) : xMi l D cy ad kd NP A yX9_payDebt cX9_payDebt 2 (some .int) 1 22 [.ref (ad q0)] G r G' := by
  refine xMi_of trivial (by decide +kernel) (Nat.le_of_ble_eq_true rfl) (fun p e s m args below meth c C => ?_)
  have C : xC p s m args meth c cX9_payDebt RX9 2 (some .int) D cy := C
  refine xsub C (lv' := [(0, .ref (ad q0))]) [0] rfl ?_
  unfold fX9_payDebt at h
  refine xaload_n C 0 rfl rfl dX9_payDebt_0 ?_
  refine xg_9_s C a0.1 w_643 dX9_payDebt_1 ?_
  refine xiconst C (v := (nI 4)) dX9_payDebt_4 (by decide) ?_
  refine xia_14 C 4 (by decide) a0.2.1 (xvi (by decide)) dX9_payDebt_5 ?_
  refine xif_eq C (tgt := 18) h (by decide) dX9_payDebt_6 (fun h => ?_) (fun h => ?_)
  · refine xbipush C (v := (-2)) dX9_payDebt_18 (by decide) ?_
    obtain ⟨rfl, rfl⟩ := so_2 h
    exact xiret C rfl dX9_payDebt_20
  · refine xaload_n C 0 rfl rfl dX9_payDebt_9 ?_
    refine xg_9_s C a0.1 w_643 dX9_payDebt_10 ?_
    refine xiconst C (v := (nI 3)) dX9_payDebt_13 (by decide) ?_
    refine xia_14 C 3 (by decide) a0.2.1 (xvi (by decide)) dX9_payDebt_14 ?_
    refine xif_ne C (tgt := 21) h (by decide) dX9_payDebt_15 (fun h => ?_) (fun h => ?_)
    · refine xbipush C (v := (-2)) dX9_payDebt_18 (by decide) ?_
      obtain ⟨rfl, rfl⟩ := so_2 h
      exact xiret C rfl dX9_payDebt_20
    · refine xaload_n C 0 rfl rfl dX9_payDebt_21 ?_
      obtain ⟨G22, hc22, h⟩ := bv_some h
      refine xVv C (As := []) (rest := []) (kX9_keeps a0 hc22) a0.1 rfl rfl w_707 mvX9_keeps mwX9_keeps rfl ⟨Nat.le_of_ble_eq_true rfl, Nat.le_of_ble_eq_true rfl⟩ ⟨Nat.le_refl _, Nat.le_refl _⟩ (Nat.le_of_ble_eq_true rfl) dX9_payDebt_22 ?_
      refine xaload_n C 0 rfl rfl dX9_payDebt_25 ?_
      refine xg_9_s C a0.1 w_643 dX9_payDebt_26 ?_
      refine xiconst C (v := (nI 4)) dX9_payDebt_29 (by decide) ?_
      refine xia_14 C 4 (by decide) a0.2.1 (xvi (by decide)) dX9_payDebt_30 ?_
      refine xaload_n C 0 rfl rfl dX9_payDebt_31 ?_
      refine xg_9_s C a0.1 w_643 dX9_payDebt_32 ?_
      refine xiconst C (v := (nI 3)) dX9_payDebt_35 (by decide) ?_
      refine xia_14 C 3 (by decide) a0.2.1 (xvi (by decide)) dX9_payDebt_36 ?_
      refine xicmp_ge C (tgt := 49) h (by decide) dX9_payDebt_37 (fun h => ?_) (fun h => ?_)
      · refine xaload_n C 0 rfl rfl dX9_payDebt_49 ?_
        refine xg_9_s C a0.1 w_643 dX9_payDebt_50 ?_
        refine xiconst C (v := (nI 3)) dX9_payDebt_53 (by decide) ?_
        refine xia_14 C 3 (by decide) a0.2.1 (xvi (by decide)) dX9_payDebt_54 ?_
        exact wX9_payDebt_55 C q0 (G22 (q0 + 1) 3) G22 a0 h
      · refine xaload_n C 0 rfl rfl dX9_payDebt_40 ?_
        refine xg_9_s C a0.1 w_643 dX9_payDebt_41 ?_
        refine xiconst C (v := (nI 4)) dX9_payDebt_44 (by decide) ?_
        refine xia_14 C 4 (by decide) a0.2.1 (xvi (by decide)) dX9_payDebt_45 ?_
        refine xgoto C (tgt := 55) (by decide) dX9_payDebt_46 ?_
        exact wX9_payDebt_55 C q0 (G22 (q0 + 1) 4) G22 a0 h
/-- HedgeChainsModel.take(I)I -/
theorem wX9_take_34 {r : Int32} (C : xC p s m args meth c cX9_take RX9 4 (some .int) D cy) (q0 : Nat) (x2 : Int32) (a0 : A9 kd NP q0) : ∀ (n : Nat) (x3 : Int32) (G : Mem) (h : itr n (FX9_take_34 q0 x2) (x3, G) = some (r, G')), xX p l e (xR 1 22) s m args below meth c A s.heap D cy ad kd NP 4 0 0 (xQi below D cy ad kd NP A args s r G') G 34 [(0, .ref (ad q0)), (2, .int x2), (3, .int x3)] [] := by
  intro n
  induction n with
  | zero =>
    intro x3 G h
    have h : none = some (r, G') := h
    cases h
  | succ n ih =>
    intro x3 G h
    have h : bX9_take_34 q0 x2 (itr n (FX9_take_34 q0 x2)) x3 G = some (r, G') := h
    have hrec34 : ∀ (x3 : Int32) (G : Mem), itr n (FX9_take_34 q0 x2) (x3, G) = some (r, G') → xX p l e (xR 1 22) s m args below meth c A s.heap D cy ad kd NP 4 0 0 (xQi below D cy ad kd NP A args s r G') G 34 [(0, .ref (ad q0)), (2, .int x2), (3, .int x3)] [] := fun x3 G h => ih x3 G h
    unfold bX9_take_34 at h
    refine xiload_n C 2 rfl rfl dX9_take_34 ?_
    refine xsipush C (v := (nI 222)) dX9_take_35 (by decide) ?_
    refine xicmp_ge C (tgt := 63) h (by decide) dX9_take_38 (fun h => ?_) (fun h => ?_)
    · refine xaload_n C 0 rfl rfl dX9_take_63 ?_
      refine xaload_n C 0 rfl rfl dX9_take_64 ?_
      refine xg_9_s C a0.1 w_643 dX9_take_65 ?_
      refine xiconst C (v := (nI 0)) dX9_take_68 (by decide) ?_
      refine xia_14 C 0 (by decide) a0.2.1 (xvi (by decide)) dX9_take_69 ?_
      obtain ⟨r70, G70, hc70, h⟩ := bd_some h
      refine xVi C (As := [.int (G (q0 + 1) 0)]) (rest := []) (kX9_acted a0 hc70) a0.1 rfl rfl w_723 mvX9_acted mwX9_acted rfl ⟨Nat.le_of_ble_eq_true rfl, Nat.le_of_ble_eq_true rfl⟩ ⟨Nat.le_refl _, Nat.le_refl _⟩ (Nat.le_of_ble_eq_true rfl) dX9_take_70 ?_
      obtain ⟨rfl, rfl⟩ := so_2 h
      exact xiret C rfl dX9_take_73
    · refine xaload_n C 0 rfl rfl dX9_take_41 ?_
      refine xg_9_s C a0.1 w_643 dX9_take_42 ?_
      refine xiload_n C 1 rfl rfl dX9_take_45 ?_
      refine xiconst C (v := (nI 1)) dX9_take_46 (by decide) ?_
      refine xiadd C dX9_take_47 ?_
      refine xiload_n C 2 rfl rfl dX9_take_48 ?_
      refine xiadd C dX9_take_49 ?_
      refine xaload_n C 0 rfl rfl dX9_take_50 ?_
      refine xg_9_s C a0.1 w_643 dX9_take_51 ?_
      refine xiload_n C 2 rfl rfl dX9_take_54 ?_
      obtain ⟨hi55, h⟩ := ix_some h
      refine xia_14 C x3.toNatClampNeg rfl a0.2.1 hi55 dX9_take_55 ?_
      obtain ⟨hi56, h⟩ := ix_some h
      refine xis_14 C ((x2 + (nI 1)) + x3).toNatClampNeg rfl a0.2.1 hi56 dX9_take_56 ?_
      generalize mset G (q0 + 1) ((x2 + (nI 1)) + x3).toNatClampNeg (G (q0 + 1) x3.toNatClampNeg) = G56 at h ⊢
      replace h := lt_go h
      refine xiinc C (v := (x3 + nI 1)) (lv' := [(3, .int (x3 + nI 1)), (0, .ref (ad q0)), (2, .int x2)]) 2 rfl rfl (by decide) rfl dX9_take_57 ?_
      refine xgoto C (tgt := 34) (by decide) dX9_take_60 ?_
      refine xsub C (lv' := [(0, .ref (ad q0)), (2, .int x2), (3, .int (x3 + nI 1))]) [1, 2, 0] rfl ?_
      exact hrec34 (x3 + nI 1) G56 h
theorem kX9_take {r : Int32}  {q0 : Nat} {x1 : Int32} (a0 : A9 kd NP q0) {G : Mem} (h : fX9_take q0 x1 G = some (r, G')) : xMi l D cy ad kd NP A yX9_take cX9_take 4 (some .int) 1 22 [.ref (ad q0), .int x1] G r G' := by
  refine xMi_of trivial (by decide +kernel) (Nat.le_of_ble_eq_true rfl) (fun p e s m args below meth c C => ?_)
  have C : xC p s m args meth c cX9_take RX9 4 (some .int) D cy := C
  refine xsub C (lv' := [(0, .ref (ad q0)), (1, .int x1)]) [0, 1] rfl ?_
  unfold fX9_take at h
  refine xiload_n C 1 rfl rfl dX9_take_0 ?_
  refine xiconst C (v := (nI 0)) dX9_take_1 (by decide) ?_
  refine xiconst C (v := (nI 1)) dX9_take_2 (by decide) ?_
  obtain ⟨r3, G3, hc3, h⟩ := bd_some h
  refine xSi C (As := [.int x1, .int (nI 0), .int (nI 1)]) (rest := []) (kX9_in hc3) w_688 w_689 mwX9_in rfl ⟨Nat.le_of_ble_eq_true rfl, Nat.le_of_ble_eq_true rfl⟩ ⟨Nat.le_refl _, Nat.le_refl _⟩ (Nat.le_of_ble_eq_true rfl) dX9_take_3 ?_
  refine xif_ne C (tgt := 11) h (by decide) dX9_take_6 (fun h => ?_) (fun h => ?_)
  · refine xiconst C (v := (-1)) dX9_take_9 (by decide) ?_
    obtain ⟨rfl, rfl⟩ := so_2 h
    exact xiret C rfl dX9_take_10
  · refine xaload_n C 0 rfl rfl dX9_take_11 ?_
    obtain ⟨G12, hc12, h⟩ := bv_some h
    refine xVv C (As := []) (rest := []) (kX9_keeps a0 hc12) a0.1 rfl rfl w_707 mvX9_keeps mwX9_keeps rfl ⟨Nat.le_of_ble_eq_true rfl, Nat.le_of_ble_eq_true rfl⟩ ⟨Nat.le_refl _, Nat.le_refl _⟩ (Nat.le_of_ble_eq_true rfl) dX9_take_12 ?_
    refine xsipush C (v := (nI 222)) dX9_take_15 (by decide) ?_
    refine xsipush C (v := (nI 223)) dX9_take_18 (by decide) ?_
    refine xiload_n C 1 rfl rfl dX9_take_21 ?_
    refine ximul C dX9_take_22 ?_
    refine xiadd C dX9_take_23 ?_
    refine xistore_n C (lv' := [(2, .int ((nI 222) + ((nI 223) * x1))), (0, .ref (ad q0)), (1, .int x1)]) rfl (by decide) rfl dX9_take_24 ?_
    refine xaload_n C 1 rfl rfl dX9_take_25 ?_
    refine xg_9_s C a0.1 w_643 dX9_take_26 ?_
    refine xiload_n C 0 rfl rfl dX9_take_29 ?_
    refine xiconst C (v := (nI 1)) dX9_take_30 (by decide) ?_
    obtain ⟨hi31, h⟩ := ix_some h
    refine xis_14 C ((nI 222) + ((nI 223) * x1)).toNatClampNeg rfl a0.2.1 hi31 dX9_take_31 ?_
    generalize mset G12 (q0 + 1) ((nI 222) + ((nI 223) * x1)).toNatClampNeg (nI 1) = G31 at h ⊢
    replace h := lt_go h
    refine xiconst C (v := (nI 0)) dX9_take_32 (by decide) ?_
    refine xistore_n C (lv' := [(3, .int (nI 0)), (2, .int ((nI 222) + ((nI 223) * x1))), (0, .ref (ad q0)), (1, .int x1)]) rfl (by decide) rfl dX9_take_33 ?_
    refine xsub C (lv' := [(0, .ref (ad q0)), (2, .int ((nI 222) + ((nI 223) * x1))), (3, .int (nI 0))]) [2, 1, 0] rfl ?_
    exact wX9_take_34 C q0 ((nI 222) + ((nI 223) * x1)) a0 _ (nI 0) G31 h
/-- HedgeChainsModel.restore(I)I -/
theorem wX9_restore_39 {r : Int32} (C : xC p s m args meth c cX9_restore RX9 4 (some .int) D cy) (q0 : Nat) (x2 : Int32) (a0 : A9 kd NP q0) : ∀ (n : Nat) (x3 : Int32) (G : Mem) (h : itr n (FX9_restore_39 q0 x2) (x3, G) = some (r, G')), xX p l e (xR 1 22) s m args below meth c A s.heap D cy ad kd NP 4 0 0 (xQi below D cy ad kd NP A args s r G') G 39 [(0, .ref (ad q0)), (2, .int x2), (3, .int x3)] [] := by
  intro n
  induction n with
  | zero =>
    intro x3 G h
    have h : none = some (r, G') := h
    cases h
  | succ n ih =>
    intro x3 G h
    have h : bX9_restore_39 q0 x2 (itr n (FX9_restore_39 q0 x2)) x3 G = some (r, G') := h
    have hrec39 : ∀ (x3 : Int32) (G : Mem), itr n (FX9_restore_39 q0 x2) (x3, G) = some (r, G') → xX p l e (xR 1 22) s m args below meth c A s.heap D cy ad kd NP 4 0 0 (xQi below D cy ad kd NP A args s r G') G 39 [(0, .ref (ad q0)), (2, .int x2), (3, .int x3)] [] := fun x3 G h => ih x3 G h
    unfold bX9_restore_39 at h
    refine xiload_n C 2 rfl rfl dX9_restore_39 ?_
    refine xsipush C (v := (nI 222)) dX9_restore_40 (by decide) ?_
    refine xicmp_ge C (tgt := 68) h (by decide) dX9_restore_43 (fun h => ?_) (fun h => ?_)
    · refine xaload_n C 0 rfl rfl dX9_restore_68 ?_
      refine xaload_n C 0 rfl rfl dX9_restore_69 ?_
      refine xg_9_s C a0.1 w_643 dX9_restore_70 ?_
      refine xiconst C (v := (nI 0)) dX9_restore_73 (by decide) ?_
      refine xia_14 C 0 (by decide) a0.2.1 (xvi (by decide)) dX9_restore_74 ?_
      obtain ⟨r75, G75, hc75, h⟩ := bd_some h
      refine xVi C (As := [.int (G (q0 + 1) 0)]) (rest := []) (kX9_acted a0 hc75) a0.1 rfl rfl w_723 mvX9_acted mwX9_acted rfl ⟨Nat.le_of_ble_eq_true rfl, Nat.le_of_ble_eq_true rfl⟩ ⟨Nat.le_refl _, Nat.le_refl _⟩ (Nat.le_of_ble_eq_true rfl) dX9_restore_75 ?_
      obtain ⟨rfl, rfl⟩ := so_2 h
      exact xiret C rfl dX9_restore_78
    · refine xaload_n C 0 rfl rfl dX9_restore_46 ?_
      refine xg_9_s C a0.1 w_643 dX9_restore_47 ?_
      refine xiload_n C 2 rfl rfl dX9_restore_50 ?_
      refine xaload_n C 0 rfl rfl dX9_restore_51 ?_
      refine xg_9_s C a0.1 w_643 dX9_restore_52 ?_
      refine xiload_n C 1 rfl rfl dX9_restore_55 ?_
      refine xiconst C (v := (nI 1)) dX9_restore_56 (by decide) ?_
      refine xiadd C dX9_restore_57 ?_
      refine xiload_n C 2 rfl rfl dX9_restore_58 ?_
      refine xiadd C dX9_restore_59 ?_
      obtain ⟨hi60, h⟩ := ix_some h
      refine xia_14 C ((x2 + (nI 1)) + x3).toNatClampNeg rfl a0.2.1 hi60 dX9_restore_60 ?_
      obtain ⟨hi61, h⟩ := ix_some h
      refine xis_14 C x3.toNatClampNeg rfl a0.2.1 hi61 dX9_restore_61 ?_
      generalize mset G (q0 + 1) x3.toNatClampNeg (G (q0 + 1) ((x2 + (nI 1)) + x3).toNatClampNeg) = G61 at h ⊢
      replace h := lt_go h
      refine xiinc C (v := (x3 + nI 1)) (lv' := [(3, .int (x3 + nI 1)), (0, .ref (ad q0)), (2, .int x2)]) 2 rfl rfl (by decide) rfl dX9_restore_62 ?_
      refine xgoto C (tgt := 39) (by decide) dX9_restore_65 ?_
      refine xsub C (lv' := [(0, .ref (ad q0)), (2, .int x2), (3, .int (x3 + nI 1))]) [1, 2, 0] rfl ?_
      exact hrec39 (x3 + nI 1) G61 h
theorem kX9_restore {r : Int32}  {q0 : Nat} {x1 : Int32} (a0 : A9 kd NP q0) {G : Mem} (h : fX9_restore q0 x1 G = some (r, G')) : xMi l D cy ad kd NP A yX9_restore cX9_restore 4 (some .int) 1 22 [.ref (ad q0), .int x1] G r G' := by
  refine xMi_of trivial (by decide +kernel) (Nat.le_of_ble_eq_true rfl) (fun p e s m args below meth c C => ?_)
  have C : xC p s m args meth c cX9_restore RX9 4 (some .int) D cy := C
  refine xsub C (lv' := [(0, .ref (ad q0)), (1, .int x1)]) [0, 1] rfl ?_
  unfold fX9_restore at h
  refine xiload_n C 1 rfl rfl dX9_restore_0 ?_
  refine xiconst C (v := (nI 0)) dX9_restore_1 (by decide) ?_
  refine xiconst C (v := (nI 1)) dX9_restore_2 (by decide) ?_
  obtain ⟨r3, G3, hc3, h⟩ := bd_some h
  refine xSi C (As := [.int x1, .int (nI 0), .int (nI 1)]) (rest := []) (kX9_in hc3) w_688 w_689 mwX9_in rfl ⟨Nat.le_of_ble_eq_true rfl, Nat.le_of_ble_eq_true rfl⟩ ⟨Nat.le_refl _, Nat.le_refl _⟩ (Nat.le_of_ble_eq_true rfl) dX9_restore_3 ?_
  refine xif_ne C (tgt := 11) h (by decide) dX9_restore_6 (fun h => ?_) (fun h => ?_)
  · refine xiconst C (v := (-1)) dX9_restore_9 (by decide) ?_
    obtain ⟨rfl, rfl⟩ := so_2 h
    exact xiret C rfl dX9_restore_10
  · refine xsipush C (v := (nI 222)) dX9_restore_11 (by decide) ?_
    refine xsipush C (v := (nI 223)) dX9_restore_14 (by decide) ?_
    refine xiload_n C 1 rfl rfl dX9_restore_17 ?_
    refine ximul C dX9_restore_18 ?_
    refine xiadd C dX9_restore_19 ?_
    refine xistore_n C (lv' := [(2, .int ((nI 222) + ((nI 223) * x1))), (0, .ref (ad q0)), (1, .int x1)]) rfl (by decide) rfl dX9_restore_20 ?_
    refine xaload_n C 1 rfl rfl dX9_restore_21 ?_
    refine xg_9_s C a0.1 w_643 dX9_restore_22 ?_
    refine xiload_n C 0 rfl rfl dX9_restore_25 ?_
    obtain ⟨hi26, h⟩ := ix_some h
    refine xia_14 C ((nI 222) + ((nI 223) * x1)).toNatClampNeg rfl a0.2.1 hi26 dX9_restore_26 ?_
    refine xif_ne C (tgt := 33) h (by decide) dX9_restore_27 (fun h => ?_) (fun h => ?_)
    · refine xbipush C (v := (-2)) dX9_restore_30 (by decide) ?_
      obtain ⟨rfl, rfl⟩ := so_2 h
      exact xiret C rfl dX9_restore_32
    · refine xaload_n C 1 rfl rfl dX9_restore_33 ?_
      obtain ⟨G34, hc34, h⟩ := bv_some h
      refine xVv C (As := []) (rest := []) (kX9_keeps a0 hc34) a0.1 rfl rfl w_707 mvX9_keeps mwX9_keeps rfl ⟨Nat.le_of_ble_eq_true rfl, Nat.le_of_ble_eq_true rfl⟩ ⟨Nat.le_refl _, Nat.le_refl _⟩ (Nat.le_of_ble_eq_true rfl) dX9_restore_34 ?_
      refine xiconst C (v := (nI 0)) dX9_restore_37 (by decide) ?_
      refine xistore_n C (lv' := [(3, .int (nI 0)), (2, .int ((nI 222) + ((nI 223) * x1))), (0, .ref (ad q0)), (1, .int x1)]) rfl (by decide) rfl dX9_restore_38 ?_
      refine xsub C (lv' := [(0, .ref (ad q0)), (2, .int ((nI 222) + ((nI 223) * x1))), (3, .int (nI 0))]) [2, 1, 0] rfl ?_
      exact wX9_restore_39 C q0 ((nI 222) + ((nI 223) * x1)) a0 _ (nI 0) G34 h
/-- HedgeChainsModel.undo()I -/
theorem wX9_undo_22 {r : Int32} (C : xC p s m args meth c cX9_undo RX9 2 (some .int) D cy) (q0 : Nat) (a0 : A9 kd NP q0) : ∀ (n : Nat) (x1 : Int32) (G : Mem) (h : itr n (FX9_undo_22 q0) (x1, G) = some (r, G')), xX p l e (xR 0 0) s m args below meth c A s.heap D cy ad kd NP 2 0 0 (xQi below D cy ad kd NP A args s r G') G 22 [(0, .ref (ad q0)), (1, .int x1)] [] := by
  intro n
  induction n with
  | zero =>
    intro x1 G h
    have h : none = some (r, G') := h
    cases h
  | succ n ih =>
    intro x1 G h
    have h : bX9_undo_22 q0 (itr n (FX9_undo_22 q0)) x1 G = some (r, G') := h
    have hrec22 : ∀ (x1 : Int32) (G : Mem), itr n (FX9_undo_22 q0) (x1, G) = some (r, G') → xX p l e (xR 0 0) s m args below meth c A s.heap D cy ad kd NP 2 0 0 (xQi below D cy ad kd NP A args s r G') G 22 [(0, .ref (ad q0)), (1, .int x1)] [] := fun x1 G h => ih x1 G h
    unfold bX9_undo_22 at h
    refine xiload_n C 1 rfl rfl dX9_undo_22 ?_
    refine xsipush C (v := (nI 668)) dX9_undo_23 (by decide) ?_
    refine xicmp_ge C (tgt := 56) h (by decide) dX9_undo_26 (fun h => ?_) (fun h => ?_)
    · refine xaload_n C 0 rfl rfl dX9_undo_56 ?_
      refine xg_9_states C a0.1 w_647 dX9_undo_57 ?_
      obtain ⟨rfl, rfl⟩ := so_2 h
      exact xiret C rfl dX9_undo_60
    · refine xaload_n C 0 rfl rfl dX9_undo_29 ?_
      refine xg_9_s C a0.1 w_643 dX9_undo_30 ?_
      refine xiload_n C 1 rfl rfl dX9_undo_33 ?_
      refine xaload_n C 0 rfl rfl dX9_undo_34 ?_
      refine xg_9_was C a0.1 w_644 dX9_undo_35 ?_
      refine xsipush C (v := (nI 668)) dX9_undo_38 (by decide) ?_
      refine xaload_n C 0 rfl rfl dX9_undo_41 ?_
      refine xg_9_states C a0.1 w_647 dX9_undo_42 ?_
      refine ximul C dX9_undo_45 ?_
      refine xiload_n C 1 rfl rfl dX9_undo_46 ?_
      refine xiadd C dX9_undo_47 ?_
      obtain ⟨hi48, h⟩ := ix_some h
      refine xia_15 C (((nI 668) * (G q0 4)) + x1).toNatClampNeg rfl a0.2.2.1 hi48 dX9_undo_48 ?_
      obtain ⟨hi49, h⟩ := ix_some h
      refine xis_14 C x1.toNatClampNeg rfl a0.2.1 hi49 dX9_undo_49 ?_
      generalize mset G (q0 + 1) x1.toNatClampNeg (G (q0 + 2) (((nI 668) * (G q0 4)) + x1).toNatClampNeg) = G49 at h ⊢
      replace h := lt_go h
      refine xiinc C (v := (x1 + nI 1)) (lv' := [(1, .int (x1 + nI 1)), (0, .ref (ad q0))]) 1 rfl rfl (by decide) rfl dX9_undo_50 ?_
      refine xgoto C (tgt := 22) (by decide) dX9_undo_53 ?_
      refine xsub C (lv' := [(0, .ref (ad q0)), (1, .int (x1 + nI 1))]) [1, 0] rfl ?_
      exact hrec22 (x1 + nI 1) G49 h
theorem kX9_undo {r : Int32}  {q0 : Nat} (a0 : A9 kd NP q0) {G : Mem} (h : fX9_undo q0 G = some (r, G')) : xMi l D cy ad kd NP A yX9_undo cX9_undo 2 (some .int) 0 0 [.ref (ad q0)] G r G' := by
  refine xMi_of trivial (by decide +kernel) (Nat.le_of_ble_eq_true rfl) (fun p e s m args below meth c C => ?_)
  have C : xC p s m args meth c cX9_undo RX9 2 (some .int) D cy := C
  refine xsub C (lv' := [(0, .ref (ad q0))]) [0] rfl ?_
  unfold fX9_undo at h
  refine xaload_n C 0 rfl rfl dX9_undo_0 ?_
  refine xg_9_states C a0.1 w_647 dX9_undo_1 ?_
  refine xif_ne C (tgt := 10) h (by decide) dX9_undo_4 (fun h => ?_) (fun h => ?_)
  · refine xbipush C (v := (-2)) dX9_undo_7 (by decide) ?_
    obtain ⟨rfl, rfl⟩ := so_2 h
    exact xiret C rfl dX9_undo_9
  · refine xaload_n C 0 rfl rfl dX9_undo_10 ?_
    refine xdup C dX9_undo_11 rfl ?_
    refine xg_9_states C a0.1 w_647 dX9_undo_12 ?_
    refine xiconst C (v := (nI 1)) dX9_undo_15 (by decide) ?_
    refine xisub C dX9_undo_16 ?_
    refine xp_9_states C a0.1 w_647 dX9_undo_17 ?_
    generalize mset G q0 4 ((G q0 4) - (nI 1)) = G17 at h ⊢
    replace h := lt_go h
    refine xiconst C (v := (nI 0)) dX9_undo_20 (by decide) ?_
    refine xistore_n C (lv' := [(1, .int (nI 0)), (0, .ref (ad q0))]) rfl (by decide) rfl dX9_undo_21 ?_
    refine xsub C (lv' := [(0, .ref (ad q0)), (1, .int (nI 0))]) [1, 0] rfl ?_
    exact wX9_undo_22 C q0 a0 _ (nI 0) G17 h
/-- HedgeChainsModel.append(I)I -/
theorem kX9_append {r : Int32}  {q0 : Nat} {x1 : Int32} (a0 : A9 kd NP q0) {G : Mem} (h : fX9_append q0 x1 G = some (r, G')) : xMi l D cy ad kd NP A yX9_append cX9_append 2 (some .int) 1 22 [.ref (ad q0), .int x1] G r G' := by
  refine xMi_of trivial (by decide +kernel) (Nat.le_of_ble_eq_true rfl) (fun p e s m args below meth c C => ?_)
  have C : xC p s m args meth c cX9_append RX9 2 (some .int) D cy := C
  refine xsub C (lv' := [(0, .ref (ad q0)), (1, .int x1)]) [0, 1] rfl ?_
  unfold fX9_append at h
  refine xiload_n C 1 rfl rfl dX9_append_0 ?_
  refine xiconst C (v := (nI 1)) dX9_append_1 (by decide) ?_
  refine xsipush C (v := (nI 255)) dX9_append_2 (by decide) ?_
  obtain ⟨r5, G5, hc5, h⟩ := bd_some h
  refine xSi C (As := [.int x1, .int (nI 1), .int (nI 255)]) (rest := []) (kX9_in hc5) w_688 w_689 mwX9_in rfl ⟨Nat.le_of_ble_eq_true rfl, Nat.le_of_ble_eq_true rfl⟩ ⟨Nat.le_refl _, Nat.le_refl _⟩ (Nat.le_of_ble_eq_true rfl) dX9_append_5 ?_
  refine xif_ne C (tgt := 13) h (by decide) dX9_append_8 (fun h => ?_) (fun h => ?_)
  · refine xiconst C (v := (-1)) dX9_append_11 (by decide) ?_
    obtain ⟨rfl, rfl⟩ := so_2 h
    exact xiret C rfl dX9_append_12
  · refine xaload_n C 0 rfl rfl dX9_append_13 ?_
    refine xg_9_typed C a0.1 w_649 dX9_append_14 ?_
    refine xbipush C (v := (nI 80)) dX9_append_17 (by decide) ?_
    refine xicmp_ne C (tgt := 25) h (by decide) dX9_append_19 (fun h => ?_) (fun h => ?_)
    · refine xbipush C (v := (-3)) dX9_append_22 (by decide) ?_
      obtain ⟨rfl, rfl⟩ := so_2 h
      exact xiret C rfl dX9_append_24
    · refine xaload_n C 0 rfl rfl dX9_append_25 ?_
      refine xg_9_text C a0.1 w_648 dX9_append_26 ?_
      refine xaload_n C 0 rfl rfl dX9_append_29 ?_
      refine xg_9_typed C a0.1 w_649 dX9_append_30 ?_
      refine xiload_n C 1 rfl rfl dX9_append_33 ?_
      obtain ⟨hi34, h⟩ := ix_some h
      refine xis_13 C (G5 q0 6).toNatClampNeg rfl a0.2.2.2.2.2 hi34 dX9_append_34 ?_
      generalize mset G5 (q0 + 5) (G5 q0 6).toNatClampNeg x1 = G34 at h ⊢
      replace h := lt_go h
      refine xaload_n C 0 rfl rfl dX9_append_35 ?_
      refine xdup C dX9_append_36 rfl ?_
      refine xg_9_typed C a0.1 w_649 dX9_append_37 ?_
      refine xiconst C (v := (nI 1)) dX9_append_40 (by decide) ?_
      refine xiadd C dX9_append_41 ?_
      refine xp_9_typed C a0.1 w_649 dX9_append_42 ?_
      generalize mset G34 q0 6 ((G34 q0 6) + (nI 1)) = G42 at h ⊢
      replace h := lt_go h
      refine xaload_n C 0 rfl rfl dX9_append_45 ?_
      refine xg_9_typed C a0.1 w_649 dX9_append_46 ?_
      obtain ⟨rfl, rfl⟩ := so_2 h
      exact xiret C rfl dX9_append_49
/-- HedgeChainsModel.clearText()I -/
theorem kX9_clearText {r : Int32}  {q0 : Nat} (a0 : A9 kd NP q0) {G : Mem} (h : fX9_clearText q0 G = some (r, G')) : xMi l D cy ad kd NP A yX9_clearText cX9_clearText 2 (some .int) 0 0 [.ref (ad q0)] G r G' := by
  refine xMi_of trivial (by decide +kernel) (Nat.le_of_ble_eq_true rfl) (fun p e s m args below meth c C => ?_)
  have C : xC p s m args meth c cX9_clearText RX9 2 (some .int) D cy := C
  refine xsub C (lv' := [(0, .ref (ad q0))]) [0] rfl ?_
  unfold fX9_clearText at h
  refine xaload_n C 0 rfl rfl dX9_clearText_0 ?_
  refine xg_9_typed C a0.1 w_649 dX9_clearText_1 ?_
  refine xistore_n C (lv' := [(1, .int (G q0 6)), (0, .ref (ad q0))]) rfl (by decide) rfl dX9_clearText_4 ?_
  refine xaload_n C 1 rfl rfl dX9_clearText_5 ?_
  refine xiconst C (v := (nI 0)) dX9_clearText_6 (by decide) ?_
  refine xp_9_typed C a0.1 w_649 dX9_clearText_7 ?_
  generalize mset G q0 6 (nI 0) = G7 at h ⊢
  replace h := lt_go h
  refine xiload_n C 0 rfl rfl dX9_clearText_10 ?_
  obtain ⟨rfl, rfl⟩ := so_2 h
  exact xiret C rfl dX9_clearText_11
/-- HedgeChainsModel.sign()I -/
theorem kX9_sign {r : Int32}  {q0 : Nat} (a0 : A9 kd NP q0) {G : Mem} (h : fX9_sign q0 G = some (r, G')) : xMi l D cy ad kd NP A yX9_sign cX9_sign 1 (some .int) 0 0 [.ref (ad q0)] G r G' := by
  refine xMi_of trivial (by decide +kernel) (Nat.le_of_ble_eq_true rfl) (fun p e s m args below meth c C => ?_)
  have C : xC p s m args meth c cX9_sign RX9 1 (some .int) D cy := C
  refine xsub C (lv' := [(0, .ref (ad q0))]) [0] rfl ?_
  unfold fX9_sign at h
  refine xaload_n C 0 rfl rfl dX9_sign_0 ?_
  refine xg_9_at C a0.1 w_650 dX9_sign_1 ?_
  refine xaload_n C 0 rfl rfl dX9_sign_4 ?_
  refine xg_9_typed C a0.1 w_649 dX9_sign_5 ?_
  refine xicmp_ge C (tgt := 23) h (by decide) dX9_sign_8 (fun h => ?_) (fun h => ?_)
  · refine xiconst C (v := (-1)) dX9_sign_23 (by decide) ?_
    obtain ⟨rfl, rfl⟩ := so_2 h
    exact xiret C rfl dX9_sign_24
  · refine xaload_n C 0 rfl rfl dX9_sign_11 ?_
    refine xg_9_text C a0.1 w_648 dX9_sign_12 ?_
    refine xaload_n C 0 rfl rfl dX9_sign_15 ?_
    refine xg_9_at C a0.1 w_650 dX9_sign_16 ?_
    obtain ⟨hi19, h⟩ := ix_some h
    refine xia_13 C (G q0 7).toNatClampNeg rfl a0.2.2.2.2.2 hi19 dX9_sign_19 ?_
    refine xgoto C (tgt := 24) (by decide) dX9_sign_20 ?_
    obtain ⟨rfl, rfl⟩ := so_2 h
    exact xiret C rfl dX9_sign_24
/-- HedgeChainsModel.readsPart()Z -/
theorem wX9_readsPart_182 {r : Int32} (C : xC p s m args meth c cX9_readsPart RX9 2 (some .boolean) D cy) (q0 : Nat) (a0 : A9 kd NP q0) : ∀ (n : Nat) (G : Mem) (h : itr n (FX9_readsPart_182 q0) (G) = some (r, G')), xX p l e (xR 1 22) s m args below meth c A s.heap D cy ad kd NP 2 0 0 (xQi below D cy ad kd NP A args s r G') G 182 [(0, .ref (ad q0))] [] := by
  intro n
  induction n with
  | zero =>
    intro G h
    have h : none = some (r, G') := h
    cases h
  | succ n ih =>
    intro G h
    have h : bX9_readsPart_182 q0 (itr n (FX9_readsPart_182 q0)) G = some (r, G') := h
    have hrec182 : ∀ (G : Mem), itr n (FX9_readsPart_182 q0) (G) = some (r, G') → xX p l e (xR 1 22) s m args below meth c A s.heap D cy ad kd NP 2 0 0 (xQi below D cy ad kd NP A args s r G') G 182 [(0, .ref (ad q0))] [] := fun G h => ih G h
    unfold bX9_readsPart_182 at h
    refine xaload_n C 0 rfl rfl dX9_readsPart_182 ?_
    obtain ⟨r183, G183, hc183, h⟩ := bd_some h
    refine xVi C (As := []) (rest := []) (kX9_sign a0 hc183) a0.1 rfl rfl w_807 mvX9_sign mwX9_sign rfl ⟨Nat.le_of_ble_eq_true rfl, Nat.le_of_ble_eq_true rfl⟩ ⟨Nat.le_refl _, Nat.le_refl _⟩ (Nat.le_of_ble_eq_true rfl) dX9_readsPart_183 ?_
    refine xbipush C (v := (nI 48)) dX9_readsPart_186 (by decide) ?_
    refine xbipush C (v := (nI 57)) dX9_readsPart_188 (by decide) ?_
    obtain ⟨r190, G190, hc190, h⟩ := bd_some h
    refine xSi C (As := [.int r183, .int (nI 48), .int (nI 57)]) (rest := []) (kX9_in hc190) w_688 w_689 mwX9_in rfl ⟨Nat.le_of_ble_eq_true rfl, Nat.le_of_ble_eq_true rfl⟩ ⟨Nat.le_refl _, Nat.le_refl _⟩ (Nat.le_of_ble_eq_true rfl) dX9_readsPart_190 ?_
    refine xif_eq C (tgt := 250) h (by decide) dX9_readsPart_193 (fun h => ?_) (fun h => ?_)
    · refine xiconst C (v := (nI 1)) dX9_readsPart_250 (by decide) ?_
      obtain ⟨rfl, rfl⟩ := so_2 h
      exact xzret C (Or.inr rfl) rfl dX9_readsPart_251
    · refine xbipush C (v := (nI 10)) dX9_readsPart_196 (by decide) ?_
      refine xaload_n C 0 rfl rfl dX9_readsPart_198 ?_
      refine xg_9_many C a0.1 w_653 dX9_readsPart_199 ?_
      refine ximul C dX9_readsPart_202 ?_
      refine xaload_n C 0 rfl rfl dX9_readsPart_203 ?_
      obtain ⟨r204, G204, hc204, h⟩ := bd_some h
      refine xVi C (As := []) (rest := [.int ((nI 10) * (G190 q0 10))]) (kX9_sign a0 hc204) a0.1 rfl rfl w_807 mvX9_sign mwX9_sign rfl ⟨Nat.le_of_ble_eq_true rfl, Nat.le_of_ble_eq_true rfl⟩ ⟨Nat.le_refl _, Nat.le_refl _⟩ (Nat.le_of_ble_eq_true rfl) dX9_readsPart_204 ?_
      refine xiadd C dX9_readsPart_207 ?_
      refine xbipush C (v := (nI 48)) dX9_readsPart_208 (by decide) ?_
      refine xisub C dX9_readsPart_210 ?_
      refine xbipush C (v := (nI 30)) dX9_readsPart_211 (by decide) ?_
      refine xicmp_le C (tgt := 218) h (by decide) dX9_readsPart_213 (fun h => ?_) (fun h => ?_)
      · refine xaload_n C 0 rfl rfl dX9_readsPart_218 ?_
        refine xbipush C (v := (nI 10)) dX9_readsPart_219 (by decide) ?_
        refine xaload_n C 0 rfl rfl dX9_readsPart_221 ?_
        refine xg_9_many C a0.1 w_653 dX9_readsPart_222 ?_
        refine ximul C dX9_readsPart_225 ?_
        refine xaload_n C 0 rfl rfl dX9_readsPart_226 ?_
        obtain ⟨r227, G227, hc227, h⟩ := bd_some h
        refine xVi C (As := []) (rest := [.int ((nI 10) * (G204 q0 10)), .ref (ad q0)]) (kX9_sign a0 hc227) a0.1 rfl rfl w_807 mvX9_sign mwX9_sign rfl ⟨Nat.le_of_ble_eq_true rfl, Nat.le_of_ble_eq_true rfl⟩ ⟨Nat.le_refl _, Nat.le_refl _⟩ (Nat.le_of_ble_eq_true rfl) dX9_readsPart_227 ?_
        refine xiadd C dX9_readsPart_230 ?_
        refine xbipush C (v := (nI 48)) dX9_readsPart_231 (by decide) ?_
        refine xisub C dX9_readsPart_233 ?_
        refine xp_9_many C a0.1 w_653 dX9_readsPart_234 ?_
        generalize mset G227 q0 10 ((((nI 10) * (G204 q0 10)) + r227) - (nI 48)) = G234 at h ⊢
        replace h := lt_go h
        refine xaload_n C 0 rfl rfl dX9_readsPart_237 ?_
        refine xdup C dX9_readsPart_238 rfl ?_
        refine xg_9_at C a0.1 w_650 dX9_readsPart_239 ?_
        refine xiconst C (v := (nI 1)) dX9_readsPart_242 (by decide) ?_
        refine xiadd C dX9_readsPart_243 ?_
        refine xp_9_at C a0.1 w_650 dX9_readsPart_244 ?_
        generalize mset G234 q0 7 ((G234 q0 7) + (nI 1)) = G244 at h ⊢
        replace h := lt_go h
        refine xgoto C (tgt := 182) (by decide) dX9_readsPart_247 ?_
        exact hrec182 G244 h
      · refine xiconst C (v := (nI 0)) dX9_readsPart_216 (by decide) ?_
        obtain ⟨rfl, rfl⟩ := so_2 h
        exact xzret C (Or.inl rfl) rfl dX9_readsPart_217
theorem wX9_readsPart_124 {r : Int32} (C : xC p s m args meth c cX9_readsPart RX9 2 (some .boolean) D cy) (q0 : Nat) (G : Mem) (a0 : A9 kd NP q0) (h : jX9_readsPart_124 q0 G = some (r, G')) : xX p l e (xR 1 22) s m args below meth c A s.heap D cy ad kd NP 2 0 0 (xQi below D cy ad kd NP A args s r G') G 124 [(0, .ref (ad q0))] [] := by
  unfold jX9_readsPart_124 at h
  refine xaload_n C 0 rfl rfl dX9_readsPart_124 ?_
  obtain ⟨r125, G125, hc125, h⟩ := bd_some h
  refine xVi C (As := []) (rest := []) (kX9_sign a0 hc125) a0.1 rfl rfl w_807 mvX9_sign mwX9_sign rfl ⟨Nat.le_of_ble_eq_true rfl, Nat.le_of_ble_eq_true rfl⟩ ⟨Nat.le_refl _, Nat.le_refl _⟩ (Nat.le_of_ble_eq_true rfl) dX9_readsPart_125 ?_
  refine xbipush C (v := (nI 42)) dX9_readsPart_128 (by decide) ?_
  refine xicmp_eq C (tgt := 135) h (by decide) dX9_readsPart_130 (fun h => ?_) (fun h => ?_)
  · refine xaload_n C 0 rfl rfl dX9_readsPart_135 ?_
    refine xdup C dX9_readsPart_136 rfl ?_
    refine xg_9_at C a0.1 w_650 dX9_readsPart_137 ?_
    refine xiconst C (v := (nI 1)) dX9_readsPart_140 (by decide) ?_
    refine xiadd C dX9_readsPart_141 ?_
    refine xp_9_at C a0.1 w_650 dX9_readsPart_142 ?_
    generalize mset G125 q0 7 ((G125 q0 7) + (nI 1)) = G142 at h ⊢
    replace h := lt_go h
    refine xaload_n C 0 rfl rfl dX9_readsPart_145 ?_
    obtain ⟨r146, G146, hc146, h⟩ := bd_some h
    refine xVi C (As := []) (rest := []) (kX9_sign a0 hc146) a0.1 rfl rfl w_807 mvX9_sign mwX9_sign rfl ⟨Nat.le_of_ble_eq_true rfl, Nat.le_of_ble_eq_true rfl⟩ ⟨Nat.le_refl _, Nat.le_refl _⟩ (Nat.le_of_ble_eq_true rfl) dX9_readsPart_146 ?_
    refine xbipush C (v := (nI 49)) dX9_readsPart_149 (by decide) ?_
    refine xbipush C (v := (nI 57)) dX9_readsPart_151 (by decide) ?_
    obtain ⟨r153, G153, hc153, h⟩ := bd_some h
    refine xSi C (As := [.int r146, .int (nI 49), .int (nI 57)]) (rest := []) (kX9_in hc153) w_688 w_689 mwX9_in rfl ⟨Nat.le_of_ble_eq_true rfl, Nat.le_of_ble_eq_true rfl⟩ ⟨Nat.le_refl _, Nat.le_refl _⟩ (Nat.le_of_ble_eq_true rfl) dX9_readsPart_153 ?_
    refine xif_ne C (tgt := 161) h (by decide) dX9_readsPart_156 (fun h => ?_) (fun h => ?_)
    · refine xiconst C (v := (nI 0)) dX9_readsPart_159 (by decide) ?_
      obtain ⟨rfl, rfl⟩ := so_2 h
      exact xzret C (Or.inl rfl) rfl dX9_readsPart_160
    · refine xaload_n C 0 rfl rfl dX9_readsPart_161 ?_
      refine xaload_n C 0 rfl rfl dX9_readsPart_162 ?_
      obtain ⟨r163, G163, hc163, h⟩ := bd_some h
      refine xVi C (As := []) (rest := [.ref (ad q0)]) (kX9_sign a0 hc163) a0.1 rfl rfl w_807 mvX9_sign mwX9_sign rfl ⟨Nat.le_of_ble_eq_true rfl, Nat.le_of_ble_eq_true rfl⟩ ⟨Nat.le_refl _, Nat.le_refl _⟩ (Nat.le_of_ble_eq_true rfl) dX9_readsPart_163 ?_
      refine xbipush C (v := (nI 48)) dX9_readsPart_166 (by decide) ?_
      refine xisub C dX9_readsPart_168 ?_
      refine xp_9_many C a0.1 w_653 dX9_readsPart_169 ?_
      generalize mset G163 q0 10 (r163 - (nI 48)) = G169 at h ⊢
      replace h := lt_go h
      refine xaload_n C 0 rfl rfl dX9_readsPart_172 ?_
      refine xdup C dX9_readsPart_173 rfl ?_
      refine xg_9_at C a0.1 w_650 dX9_readsPart_174 ?_
      refine xiconst C (v := (nI 1)) dX9_readsPart_177 (by decide) ?_
      refine xiadd C dX9_readsPart_178 ?_
      refine xp_9_at C a0.1 w_650 dX9_readsPart_179 ?_
      generalize mset G169 q0 7 ((G169 q0 7) + (nI 1)) = G179 at h ⊢
      replace h := lt_go h
      exact wX9_readsPart_182 C q0 a0 _ G179 h
  · refine xiconst C (v := (nI 1)) dX9_readsPart_133 (by decide) ?_
    obtain ⟨rfl, rfl⟩ := so_2 h
    exact xzret C (Or.inr rfl) rfl dX9_readsPart_134
theorem wX9_readsPart_47 {r : Int32} (C : xC p s m args meth c cX9_readsPart RX9 2 (some .boolean) D cy) (q0 : Nat) (y0 : Int32) (z1 : Nat) (G : Mem) (a0 : A9 kd NP q0) (b1 : A9 kd NP z1) (h : jX9_readsPart_47 q0 y0 z1 G = some (r, G')) : xX p l e (xR 1 22) s m args below meth c A s.heap D cy ad kd NP 2 0 0 (xQi below D cy ad kd NP A args s r G') G 47 [(0, .ref (ad q0))] [.int y0, .ref (ad z1)] := by
  unfold jX9_readsPart_47 at h
  refine xp_9_kind C b1.1 w_651 dX9_readsPart_47 ?_
  generalize mset G z1 8 y0 = G47 at h ⊢
  replace h := lt_go h
  refine xaload_n C 0 rfl rfl dX9_readsPart_50 ?_
  refine xiconst C (v := (nI 0)) dX9_readsPart_51 (by decide) ?_
  refine xp_9_thick C a0.1 w_652 dX9_readsPart_52 ?_
  generalize mset G47 q0 9 (nI 0) = G52 at h ⊢
  replace h := lt_go h
  refine xaload_n C 0 rfl rfl dX9_readsPart_55 ?_
  refine xiconst C (v := (nI 1)) dX9_readsPart_56 (by decide) ?_
  refine xp_9_many C a0.1 w_653 dX9_readsPart_57 ?_
  generalize mset G52 q0 10 (nI 1) = G57 at h ⊢
  replace h := lt_go h
  refine xaload_n C 0 rfl rfl dX9_readsPart_60 ?_
  refine xg_9_kind C a0.1 w_651 dX9_readsPart_61 ?_
  refine xif_ge C (tgt := 69) h (by decide) dX9_readsPart_64 (fun h => ?_) (fun h => ?_)
  · refine xaload_n C 0 rfl rfl dX9_readsPart_69 ?_
    refine xdup C dX9_readsPart_70 rfl ?_
    refine xg_9_at C a0.1 w_650 dX9_readsPart_71 ?_
    refine xiconst C (v := (nI 1)) dX9_readsPart_74 (by decide) ?_
    refine xiadd C dX9_readsPart_75 ?_
    refine xp_9_at C a0.1 w_650 dX9_readsPart_76 ?_
    generalize mset G57 q0 7 ((G57 q0 7) + (nI 1)) = G76 at h ⊢
    replace h := lt_go h
    refine xaload_n C 0 rfl rfl dX9_readsPart_79 ?_
    refine xg_9_kind C a0.1 w_651 dX9_readsPart_80 ?_
    refine xiconst C (v := (nI 2)) dX9_readsPart_83 (by decide) ?_
    refine xicmp_ge C (tgt := 124) h (by decide) dX9_readsPart_84 (fun h => ?_) (fun h => ?_)
    · exact wX9_readsPart_124 C q0 G76 a0 h
    · refine xaload_n C 0 rfl rfl dX9_readsPart_87 ?_
      obtain ⟨r88, G88, hc88, h⟩ := bd_some h
      refine xVi C (As := []) (rest := []) (kX9_sign a0 hc88) a0.1 rfl rfl w_807 mvX9_sign mwX9_sign rfl ⟨Nat.le_of_ble_eq_true rfl, Nat.le_of_ble_eq_true rfl⟩ ⟨Nat.le_refl _, Nat.le_refl _⟩ (Nat.le_of_ble_eq_true rfl) dX9_readsPart_88 ?_
      refine xbipush C (v := (nI 49)) dX9_readsPart_91 (by decide) ?_
      refine xbipush C (v := (nI 57)) dX9_readsPart_93 (by decide) ?_
      obtain ⟨r95, G95, hc95, h⟩ := bd_some h
      refine xSi C (As := [.int r88, .int (nI 49), .int (nI 57)]) (rest := []) (kX9_in hc95) w_688 w_689 mwX9_in rfl ⟨Nat.le_of_ble_eq_true rfl, Nat.le_of_ble_eq_true rfl⟩ ⟨Nat.le_refl _, Nat.le_refl _⟩ (Nat.le_of_ble_eq_true rfl) dX9_readsPart_95 ?_
      refine xif_ne C (tgt := 103) h (by decide) dX9_readsPart_98 (fun h => ?_) (fun h => ?_)
      · refine xiconst C (v := (nI 0)) dX9_readsPart_101 (by decide) ?_
        obtain ⟨rfl, rfl⟩ := so_2 h
        exact xzret C (Or.inl rfl) rfl dX9_readsPart_102
      · refine xaload_n C 0 rfl rfl dX9_readsPart_103 ?_
        refine xaload_n C 0 rfl rfl dX9_readsPart_104 ?_
        obtain ⟨r105, G105, hc105, h⟩ := bd_some h
        refine xVi C (As := []) (rest := [.ref (ad q0)]) (kX9_sign a0 hc105) a0.1 rfl rfl w_807 mvX9_sign mwX9_sign rfl ⟨Nat.le_of_ble_eq_true rfl, Nat.le_of_ble_eq_true rfl⟩ ⟨Nat.le_refl _, Nat.le_refl _⟩ (Nat.le_of_ble_eq_true rfl) dX9_readsPart_105 ?_
        refine xbipush C (v := (nI 48)) dX9_readsPart_108 (by decide) ?_
        refine xisub C dX9_readsPart_110 ?_
        refine xp_9_thick C a0.1 w_652 dX9_readsPart_111 ?_
        generalize mset G105 q0 9 (r105 - (nI 48)) = G111 at h ⊢
        replace h := lt_go h
        refine xaload_n C 0 rfl rfl dX9_readsPart_114 ?_
        refine xdup C dX9_readsPart_115 rfl ?_
        refine xg_9_at C a0.1 w_650 dX9_readsPart_116 ?_
        refine xiconst C (v := (nI 1)) dX9_readsPart_119 (by decide) ?_
        refine xiadd C dX9_readsPart_120 ?_
        refine xp_9_at C a0.1 w_650 dX9_readsPart_121 ?_
        generalize mset G111 q0 7 ((G111 q0 7) + (nI 1)) = G121 at h ⊢
        replace h := lt_go h
        exact wX9_readsPart_124 C q0 G121 a0 h
  · refine xiconst C (v := (nI 0)) dX9_readsPart_67 (by decide) ?_
    obtain ⟨rfl, rfl⟩ := so_2 h
    exact xzret C (Or.inl rfl) rfl dX9_readsPart_68
theorem kX9_readsPart {r : Int32}  {q0 : Nat} (a0 : A9 kd NP q0) {G : Mem} (h : fX9_readsPart q0 G = some (r, G')) : xMi l D cy ad kd NP A yX9_readsPart cX9_readsPart 2 (some .boolean) 1 22 [.ref (ad q0)] G r G' := by
  refine xMi_of trivial (by decide +kernel) (Nat.le_of_ble_eq_true rfl) (fun p e s m args below meth c C => ?_)
  have C : xC p s m args meth c cX9_readsPart RX9 2 (some .boolean) D cy := C
  refine xsub C (lv' := [(0, .ref (ad q0))]) [0] rfl ?_
  unfold fX9_readsPart at h
  refine xaload_n C 0 rfl rfl dX9_readsPart_0 ?_
  obtain ⟨r1, G1, hc1, h⟩ := bd_some h
  refine xVi C (As := []) (rest := []) (kX9_sign a0 hc1) a0.1 rfl rfl w_807 mvX9_sign mwX9_sign rfl ⟨Nat.le_of_ble_eq_true rfl, Nat.le_of_ble_eq_true rfl⟩ ⟨Nat.le_refl _, Nat.le_refl _⟩ (Nat.le_of_ble_eq_true rfl) dX9_readsPart_1 ?_
  refine xistore_n C (lv' := [(1, .int r1), (0, .ref (ad q0))]) rfl (by decide) rfl dX9_readsPart_4 ?_
  refine xaload_n C 1 rfl rfl dX9_readsPart_5 ?_
  refine xiload_n C 0 rfl rfl dX9_readsPart_6 ?_
  refine xbipush C (v := (nI 116)) dX9_readsPart_7 (by decide) ?_
  refine xicmp_ne C (tgt := 16) h (by decide) dX9_readsPart_9 (fun h => ?_) (fun h => ?_)
  · refine xiconst C (v := (nI 0)) dX9_readsPart_12 (by decide) ?_
    refine xgoto C (tgt := 47) (by decide) dX9_readsPart_13 ?_
    refine xsub C (lv' := [(0, .ref (ad q0))]) [1] rfl ?_
    exact wX9_readsPart_47 C q0 (nI 0) q0 G1 a0 a0 h
  · refine xiload_n C 0 rfl rfl dX9_readsPart_16 ?_
    refine xbipush C (v := (nI 108)) dX9_readsPart_17 (by decide) ?_
    refine xicmp_ne C (tgt := 26) h (by decide) dX9_readsPart_19 (fun h => ?_) (fun h => ?_)
    · refine xiconst C (v := (nI 1)) dX9_readsPart_22 (by decide) ?_
      refine xgoto C (tgt := 47) (by decide) dX9_readsPart_23 ?_
      refine xsub C (lv' := [(0, .ref (ad q0))]) [1] rfl ?_
      exact wX9_readsPart_47 C q0 (nI 1) q0 G1 a0 a0 h
    · refine xiload_n C 0 rfl rfl dX9_readsPart_26 ?_
      refine xbipush C (v := (nI 103)) dX9_readsPart_27 (by decide) ?_
      refine xicmp_ne C (tgt := 36) h (by decide) dX9_readsPart_29 (fun h => ?_) (fun h => ?_)
      · refine xiconst C (v := (nI 2)) dX9_readsPart_32 (by decide) ?_
        refine xgoto C (tgt := 47) (by decide) dX9_readsPart_33 ?_
        refine xsub C (lv' := [(0, .ref (ad q0))]) [1] rfl ?_
        exact wX9_readsPart_47 C q0 (nI 2) q0 G1 a0 a0 h
      · refine xiload_n C 0 rfl rfl dX9_readsPart_36 ?_
        refine xbipush C (v := (nI 112)) dX9_readsPart_37 (by decide) ?_
        refine xicmp_ne C (tgt := 46) h (by decide) dX9_readsPart_39 (fun h => ?_) (fun h => ?_)
        · refine xiconst C (v := (nI 3)) dX9_readsPart_42 (by decide) ?_
          refine xgoto C (tgt := 47) (by decide) dX9_readsPart_43 ?_
          refine xsub C (lv' := [(0, .ref (ad q0))]) [1] rfl ?_
          exact wX9_readsPart_47 C q0 (nI 3) q0 G1 a0 a0 h
        · refine xiconst C (v := (-1)) dX9_readsPart_46 (by decide) ?_
          refine xsub C (lv' := [(0, .ref (ad q0))]) [1] rfl ?_
          exact wX9_readsPart_47 C q0 (-1) q0 G1 a0 a0 h
/-- HedgeChainsModel.chains()I -/
theorem wX9_chains_50 {r : Int32} (C : xC p s m args meth c cX9_chains RX9 3 (some .int) D cy) (x1 : Int32) (x2 : Int32) (G : Mem) (h : jX9_chains_50 x1 x2 G = some (r, G')) : xX p l e (xR 2 43) s m args below meth c A s.heap D cy ad kd NP 3 0 0 (xQi below D cy ad kd NP A args s r G') G 50 [(1, .int x1), (2, .int x2)] [] := by
  unfold jX9_chains_50 at h
  refine xiload_n C 1 rfl rfl dX9_chains_50 ?_
  refine xif_eq C (tgt := 58) h (by decide) dX9_chains_51 (fun h => ?_) (fun h => ?_)
  · refine xiconst C (v := (-1)) dX9_chains_58 (by decide) ?_
    obtain ⟨rfl, rfl⟩ := so_2 h
    exact xiret C rfl dX9_chains_59
  · refine xiload_n C 0 rfl rfl dX9_chains_54 ?_
    refine xgoto C (tgt := 59) (by decide) dX9_chains_55 ?_
    obtain ⟨rfl, rfl⟩ := so_2 h
    exact xiret C rfl dX9_chains_59
theorem wX9_chains_20 {r : Int32} (C : xC p s m args meth c cX9_chains RX9 3 (some .int) D cy) (q0 : Nat) (a0 : A9 kd NP q0) : ∀ (n : Nat) (x1 : Int32) (x2 : Int32) (G : Mem) (h : itr n (FX9_chains_20 q0) (x1, x2, G) = some (r, G')), xX p l e (xR 2 43) s m args below meth c A s.heap D cy ad kd NP 3 0 0 (xQi below D cy ad kd NP A args s r G') G 20 [(0, .ref (ad q0)), (1, .int x1), (2, .int x2)] [] := by
  intro n
  induction n with
  | zero =>
    intro x1 x2 G h
    have h : none = some (r, G') := h
    cases h
  | succ n ih =>
    intro x1 x2 G h
    have h : bX9_chains_20 q0 (itr n (FX9_chains_20 q0)) x1 x2 G = some (r, G') := h
    have hrec20 : ∀ (x1 : Int32) (x2 : Int32) (G : Mem), itr n (FX9_chains_20 q0) (x1, x2, G) = some (r, G') → xX p l e (xR 2 43) s m args below meth c A s.heap D cy ad kd NP 3 0 0 (xQi below D cy ad kd NP A args s r G') G 20 [(0, .ref (ad q0)), (1, .int x1), (2, .int x2)] [] := fun x1 x2 G h => ih x1 x2 G h
    unfold bX9_chains_20 at h
    refine xiload_n C 2 rfl rfl dX9_chains_20 ?_
    refine xif_eq C (tgt := 50) h (by decide) dX9_chains_21 (fun h => ?_) (fun h => ?_)
    · refine xsub C (lv' := [(1, .int x1), (2, .int x2)]) [1, 2] rfl ?_
      exact wX9_chains_50 C x1 x2 G h
    · refine xaload_n C 0 rfl rfl dX9_chains_24 ?_
      refine xg_9_at C a0.1 w_650 dX9_chains_25 ?_
      refine xaload_n C 0 rfl rfl dX9_chains_28 ?_
      refine xg_9_typed C a0.1 w_649 dX9_chains_29 ?_
      refine xicmp_ge C (tgt := 50) h (by decide) dX9_chains_32 (fun h => ?_) (fun h => ?_)
      · refine xsub C (lv' := [(1, .int x1), (2, .int x2)]) [1, 2] rfl ?_
        exact wX9_chains_50 C x1 x2 G h
      · refine xaload_n C 0 rfl rfl dX9_chains_35 ?_
        obtain ⟨r36, G36, hc36, h⟩ := bd_some h
        refine xVi C (As := []) (rest := []) (kX9_readsPart a0 hc36) a0.1 rfl rfl w_803 mvX9_readsPart mwX9_readsPart rfl ⟨Nat.le_of_ble_eq_true rfl, Nat.le_of_ble_eq_true rfl⟩ ⟨Nat.le_refl _, Nat.le_refl _⟩ (Nat.le_of_ble_eq_true rfl) dX9_chains_36 ?_
        refine xistore_n C (lv' := [(2, .int r36), (0, .ref (ad q0)), (1, .int x1)]) rfl (by decide) rfl dX9_chains_39 ?_
        refine xiload_n C 2 rfl rfl dX9_chains_40 ?_
        refine xaload_n C 1 rfl rfl dX9_chains_41 ?_
        refine xg_9_many C a0.1 w_653 dX9_chains_42 ?_
        refine xiadd C dX9_chains_45 ?_
        refine xistore_n C (lv' := [(1, .int (x1 + (G36 q0 10))), (2, .int r36), (0, .ref (ad q0))]) rfl (by decide) rfl dX9_chains_46 ?_
        refine xgoto C (tgt := 20) (by decide) dX9_chains_47 ?_
        refine xsub C (lv' := [(0, .ref (ad q0)), (1, .int (x1 + (G36 q0 10))), (2, .int r36)]) [2, 0, 1] rfl ?_
        exact hrec20 (x1 + (G36 q0 10)) r36 G36 h
theorem kX9_chains {r : Int32}  {q0 : Nat} (a0 : A9 kd NP q0) {G : Mem} (h : fX9_chains q0 G = some (r, G')) : xMi l D cy ad kd NP A yX9_chains cX9_chains 3 (some .int) 2 43 [.ref (ad q0)] G r G' := by
  refine xMi_of trivial (by decide +kernel) (Nat.le_of_ble_eq_true rfl) (fun p e s m args below meth c C => ?_)
  have C : xC p s m args meth c cX9_chains RX9 3 (some .int) D cy := C
  refine xsub C (lv' := [(0, .ref (ad q0))]) [0] rfl ?_
  unfold fX9_chains at h
  refine xaload_n C 0 rfl rfl dX9_chains_0 ?_
  refine xiconst C (v := (nI 0)) dX9_chains_1 (by decide) ?_
  refine xp_9_at C a0.1 w_650 dX9_chains_2 ?_
  generalize mset G q0 7 (nI 0) = G2 at h ⊢
  replace h := lt_go h
  refine xiconst C (v := (nI 0)) dX9_chains_5 (by decide) ?_
  refine xistore_n C (lv' := [(1, .int (nI 0)), (0, .ref (ad q0))]) rfl (by decide) rfl dX9_chains_6 ?_
  refine xaload_n C 1 rfl rfl dX9_chains_7 ?_
  refine xg_9_typed C a0.1 w_649 dX9_chains_8 ?_
  refine xif_le C (tgt := 18) h (by decide) dX9_chains_11 (fun h => ?_) (fun h => ?_)
  · refine xiconst C (v := (nI 0)) dX9_chains_18 (by decide) ?_
    refine xistore_n C (lv' := [(2, .int (nI 0)), (1, .int (nI 0)), (0, .ref (ad q0))]) rfl (by decide) rfl dX9_chains_19 ?_
    refine xsub C (lv' := [(0, .ref (ad q0)), (1, .int (nI 0)), (2, .int (nI 0))]) [2, 1, 0] rfl ?_
    exact wX9_chains_20 C q0 a0 _ (nI 0) (nI 0) G2 h
  · refine xiconst C (v := (nI 1)) dX9_chains_14 (by decide) ?_
    refine xgoto C (tgt := 19) (by decide) dX9_chains_15 ?_
    refine xistore_n C (lv' := [(2, .int (nI 1)), (1, .int (nI 0)), (0, .ref (ad q0))]) rfl (by decide) rfl dX9_chains_19 ?_
    refine xsub C (lv' := [(0, .ref (ad q0)), (1, .int (nI 0)), (2, .int (nI 1))]) [2, 1, 0] rfl ?_
    exact wX9_chains_20 C q0 a0 _ (nI 0) (nI 1) G2 h
/-- HedgeChainsModel.read(I)I -/
theorem wX9_read_127 {r : Int32} (C : xC p s m args meth c cX9_read RX9 4 (some .int) D cy) (q0 : Nat) (x1 : Int32) (x2 : Int32) (a0 : A9 kd NP q0) : ∀ (n : Nat) (x3 : Int32) (G : Mem) (h : itr n (FX9_read_127 q0 x1 x2) (x3, G) = some (r, G')), xX p l e (xR 3 68) s m args below meth c A s.heap D cy ad kd NP 4 0 0 (xQi below D cy ad kd NP A args s r G') G 127 [(0, .ref (ad q0)), (1, .int x1), (2, .int x2), (3, .int x3)] [] := by
  intro n
  induction n with
  | zero =>
    intro x3 G h
    have h : none = some (r, G') := h
    cases h
  | succ n ih =>
    intro x3 G h
    have h : bX9_read_127 q0 x1 x2 (itr n (FX9_read_127 q0 x1 x2)) x3 G = some (r, G') := h
    have hrec127 : ∀ (x3 : Int32) (G : Mem), itr n (FX9_read_127 q0 x1 x2) (x3, G) = some (r, G') → xX p l e (xR 3 68) s m args below meth c A s.heap D cy ad kd NP 4 0 0 (xQi below D cy ad kd NP A args s r G') G 127 [(0, .ref (ad q0)), (1, .int x1), (2, .int x2), (3, .int x3)] [] := fun x3 G h => ih x3 G h
    unfold bX9_read_127 at h
    refine xiload_n C 3 rfl rfl dX9_read_127 ?_
    refine xbipush C (v := (nI 30)) dX9_read_128 (by decide) ?_
    refine xicmp_ge C (tgt := 154) h (by decide) dX9_read_130 (fun h => ?_) (fun h => ?_)
    · refine xaload_n C 0 rfl rfl dX9_read_154 ?_
      refine xiconst C (v := (nI 0)) dX9_read_155 (by decide) ?_
      refine xp_9_typed C a0.1 w_649 dX9_read_156 ?_
      generalize mset G q0 6 (nI 0) = G156 at h ⊢
      replace h := lt_go h
      refine xaload_n C 0 rfl rfl dX9_read_159 ?_
      refine xiload_n C 1 rfl rfl dX9_read_160 ?_
      obtain ⟨G161, hc161, h⟩ := bv_some h
      refine xVv C (As := [.int x1]) (rest := []) (kX9_ends a0 hc161) a0.1 rfl rfl w_715 mvX9_ends mwX9_ends rfl ⟨Nat.le_of_ble_eq_true rfl, Nat.le_of_ble_eq_true rfl⟩ ⟨Nat.le_refl _, Nat.le_refl _⟩ (Nat.le_of_ble_eq_true rfl) dX9_read_161 ?_
      refine xaload_n C 0 rfl rfl dX9_read_164 ?_
      refine xiload_n C 2 rfl rfl dX9_read_165 ?_
      obtain ⟨r166, G166, hc166, h⟩ := bd_some h
      refine xVi C (As := [.int x2]) (rest := []) (kX9_acted a0 hc166) a0.1 rfl rfl w_723 mvX9_acted mwX9_acted rfl ⟨Nat.le_of_ble_eq_true rfl, Nat.le_of_ble_eq_true rfl⟩ ⟨Nat.le_refl _, Nat.le_refl _⟩ (Nat.le_of_ble_eq_true rfl) dX9_read_166 ?_
      obtain ⟨rfl, rfl⟩ := so_2 h
      exact xiret C rfl dX9_read_169
    · refine xaload_n C 0 rfl rfl dX9_read_133 ?_
      refine xg_9_s C a0.1 w_643 dX9_read_134 ?_
      refine xbipush C (v := (nI 42)) dX9_read_137 (by decide) ?_
      refine xbipush C (v := (nI 30)) dX9_read_139 (by decide) ?_
      refine xiload_n C 1 rfl rfl dX9_read_141 ?_
      refine ximul C dX9_read_142 ?_
      refine xiadd C dX9_read_143 ?_
      refine xiload_n C 3 rfl rfl dX9_read_144 ?_
      refine xiadd C dX9_read_145 ?_
      refine xiconst C (v := (nI 0)) dX9_read_146 (by decide) ?_
      obtain ⟨hi147, h⟩ := ix_some h
      refine xis_14 C (((nI 42) + ((nI 30) * x1)) + x3).toNatClampNeg rfl a0.2.1 hi147 dX9_read_147 ?_
      generalize mset G (q0 + 1) (((nI 42) + ((nI 30) * x1)) + x3).toNatClampNeg (nI 0) = G147 at h ⊢
      replace h := lt_go h
      refine xiinc C (v := (x3 + nI 1)) (lv' := [(3, .int (x3 + nI 1)), (0, .ref (ad q0)), (1, .int x1), (2, .int x2)]) 3 rfl rfl (by decide) rfl dX9_read_148 ?_
      refine xgoto C (tgt := 127) (by decide) dX9_read_151 ?_
      refine xsub C (lv' := [(0, .ref (ad q0)), (1, .int x1), (2, .int x2), (3, .int (x3 + nI 1))]) [1, 2, 3, 0] rfl ?_
      exact hrec127 (x3 + nI 1) G147 h
theorem wX9_read_73 {r : Int32} (C : xC p s m args meth c cX9_read RX9 4 (some .int) D cy) (q0 : Nat) (x1 : Int32) (x2 : Int32) {rec55 : Mem → Option (Int32 × Mem)} (hrec55 : ∀ (G : Mem), rec55 (G) = some (r, G') → xX p l e (xR 3 68) s m args below meth c A s.heap D cy ad kd NP 4 0 0 (xQi below D cy ad kd NP A args s r G') G 55 [(0, .ref (ad q0)), (1, .int x1), (2, .int x2)] []) (a0 : A9 kd NP q0) : ∀ (n : Nat) (x3 : Int32) (G : Mem) (h : itr n (FX9_read_73 rec55 q0 x1 x2) (x3, G) = some (r, G')), xX p l e (xR 3 68) s m args below meth c A s.heap D cy ad kd NP 4 0 0 (xQi below D cy ad kd NP A args s r G') G 73 [(0, .ref (ad q0)), (1, .int x1), (2, .int x2), (3, .int x3)] [] := by
  intro n
  induction n with
  | zero =>
    intro x3 G h
    have h : none = some (r, G') := h
    cases h
  | succ n ih =>
    intro x3 G h
    have h : bX9_read_73 rec55 q0 x1 x2 (itr n (FX9_read_73 rec55 q0 x1 x2)) x3 G = some (r, G') := h
    have hrec73 : ∀ (x3 : Int32) (G : Mem), itr n (FX9_read_73 rec55 q0 x1 x2) (x3, G) = some (r, G') → xX p l e (xR 3 68) s m args below meth c A s.heap D cy ad kd NP 4 0 0 (xQi below D cy ad kd NP A args s r G') G 73 [(0, .ref (ad q0)), (1, .int x1), (2, .int x2), (3, .int x3)] [] := fun x3 G h => ih x3 G h
    unfold bX9_read_73 at h
    refine xiload_n C 3 rfl rfl dX9_read_73 ?_
    refine xaload_n C 0 rfl rfl dX9_read_74 ?_
    refine xg_9_many C a0.1 w_653 dX9_read_75 ?_
    refine xicmp_ge C (tgt := 122) h (by decide) dX9_read_78 (fun h => ?_) (fun h => ?_)
    · refine xgoto C (tgt := 55) (by decide) dX9_read_122 ?_
      refine xsub C (lv' := [(0, .ref (ad q0)), (1, .int x1), (2, .int x2)]) [0, 1, 2] rfl ?_
      exact hrec55 G h
    · refine xaload_n C 0 rfl rfl dX9_read_81 ?_
      refine xiload_n C 1 rfl rfl dX9_read_82 ?_
      refine xaload_n C 0 rfl rfl dX9_read_83 ?_
      refine xg_9_s C a0.1 w_643 dX9_read_84 ?_
      refine xbipush C (v := (nI 12)) dX9_read_87 (by decide) ?_
      refine xiload_n C 1 rfl rfl dX9_read_89 ?_
      refine xiadd C dX9_read_90 ?_
      obtain ⟨hi91, h⟩ := ix_some h
      refine xia_14 C ((nI 12) + x1).toNatClampNeg rfl a0.2.1 hi91 dX9_read_91 ?_
      refine xaload_n C 0 rfl rfl dX9_read_92 ?_
      refine xg_9_kind C a0.1 w_651 dX9_read_93 ?_
      refine xaload_n C 0 rfl rfl dX9_read_96 ?_
      refine xg_9_thick C a0.1 w_652 dX9_read_97 ?_
      obtain ⟨G100, hc100, h⟩ := bv_some h
      refine xVv C (As := [.int x1, .int (G (q0 + 1) ((nI 12) + x1).toNatClampNeg), .int (G q0 8), .int (G q0 9)]) (rest := []) (kX9_lays a0 hc100) a0.1 rfl rfl w_639 mvX9_lays mwX9_lays rfl ⟨Nat.le_of_ble_eq_true rfl, Nat.le_of_ble_eq_true rfl⟩ ⟨Nat.le_refl _, Nat.le_refl _⟩ (Nat.le_of_ble_eq_true rfl) dX9_read_100 ?_
      refine xaload_n C 0 rfl rfl dX9_read_103 ?_
      refine xg_9_s C a0.1 w_643 dX9_read_104 ?_
      refine xbipush C (v := (nI 12)) dX9_read_107 (by decide) ?_
      refine xiload_n C 1 rfl rfl dX9_read_109 ?_
      refine xiadd C dX9_read_110 ?_
      refine xdup2 C dX9_read_111 rfl rfl ?_
      obtain ⟨hi112, h⟩ := ix_some h
      refine xia_14 C ((nI 12) + x1).toNatClampNeg rfl a0.2.1 hi112 dX9_read_112 ?_
      refine xiconst C (v := (nI 1)) dX9_read_113 (by decide) ?_
      refine xiadd C dX9_read_114 ?_
      obtain ⟨hi115, h⟩ := ix_some h
      refine xis_14 C ((nI 12) + x1).toNatClampNeg rfl a0.2.1 hi115 dX9_read_115 ?_
      generalize mset G100 (q0 + 1) ((nI 12) + x1).toNatClampNeg ((G100 (q0 + 1) ((nI 12) + x1).toNatClampNeg) + (nI 1)) = G115 at h ⊢
      replace h := lt_go h
      refine xiinc C (v := (x3 + nI 1)) (lv' := [(3, .int (x3 + nI 1)), (0, .ref (ad q0)), (1, .int x1), (2, .int x2)]) 3 rfl rfl (by decide) rfl dX9_read_116 ?_
      refine xgoto C (tgt := 73) (by decide) dX9_read_119 ?_
      refine xsub C (lv' := [(0, .ref (ad q0)), (1, .int x1), (2, .int x2), (3, .int (x3 + nI 1))]) [1, 2, 3, 0] rfl ?_
      exact hrec73 (x3 + nI 1) G115 h
theorem wX9_read_55 {r : Int32} (C : xC p s m args meth c cX9_read RX9 4 (some .int) D cy) (q0 : Nat) (x1 : Int32) (x2 : Int32) (a0 : A9 kd NP q0) : ∀ (n : Nat) (G : Mem) (h : itr n (FX9_read_55 q0 x1 x2) (G) = some (r, G')), xX p l e (xR 3 68) s m args below meth c A s.heap D cy ad kd NP 4 0 0 (xQi below D cy ad kd NP A args s r G') G 55 [(0, .ref (ad q0)), (1, .int x1), (2, .int x2)] [] := by
  intro n
  induction n with
  | zero =>
    intro G h
    have h : none = some (r, G') := h
    cases h
  | succ n ih =>
    intro G h
    have h : bX9_read_55 q0 x1 x2 (itr n (FX9_read_55 q0 x1 x2)) G = some (r, G') := h
    have hrec55 : ∀ (G : Mem), itr n (FX9_read_55 q0 x1 x2) (G) = some (r, G') → xX p l e (xR 3 68) s m args below meth c A s.heap D cy ad kd NP 4 0 0 (xQi below D cy ad kd NP A args s r G') G 55 [(0, .ref (ad q0)), (1, .int x1), (2, .int x2)] [] := fun G h => ih G h
    unfold bX9_read_55 at h
    refine xaload_n C 0 rfl rfl dX9_read_55 ?_
    refine xg_9_at C a0.1 w_650 dX9_read_56 ?_
    refine xaload_n C 0 rfl rfl dX9_read_59 ?_
    refine xg_9_typed C a0.1 w_649 dX9_read_60 ?_
    refine xicmp_ge C (tgt := 125) h (by decide) dX9_read_63 (fun h => ?_) (fun h => ?_)
    · refine xiload_n C 2 rfl rfl dX9_read_125 ?_
      refine xistore_n C (lv' := [(3, .int x2), (0, .ref (ad q0)), (1, .int x1), (2, .int x2)]) rfl (by decide) rfl dX9_read_126 ?_
      refine xsub C (lv' := [(0, .ref (ad q0)), (1, .int x1), (2, .int x2), (3, .int x2)]) [1, 2, 3, 0] rfl ?_
      exact wX9_read_127 C q0 x1 x2 a0 _ x2 G h
    · refine xaload_n C 0 rfl rfl dX9_read_66 ?_
      obtain ⟨r67, G67, hc67, h⟩ := bd_some h
      refine xVi C (As := []) (rest := []) (kX9_readsPart a0 hc67) a0.1 rfl rfl w_803 mvX9_readsPart mwX9_readsPart rfl ⟨Nat.le_of_ble_eq_true rfl, Nat.le_of_ble_eq_true rfl⟩ ⟨Nat.le_refl _, Nat.le_refl _⟩ (Nat.le_of_ble_eq_true rfl) dX9_read_67 ?_
      refine xpop C dX9_read_70 rfl ?_
      refine xiconst C (v := (nI 0)) dX9_read_71 (by decide) ?_
      refine xistore_n C (lv' := [(3, .int (nI 0)), (0, .ref (ad q0)), (1, .int x1), (2, .int x2)]) rfl (by decide) rfl dX9_read_72 ?_
      refine xsub C (lv' := [(0, .ref (ad q0)), (1, .int x1), (2, .int x2), (3, .int (nI 0))]) [1, 2, 3, 0] rfl ?_
      exact wX9_read_73 C q0 x1 x2 hrec55 a0 _ (nI 0) G67 h
theorem kX9_read {r : Int32}  {q0 : Nat} {x1 : Int32} (a0 : A9 kd NP q0) {G : Mem} (h : fX9_read q0 x1 G = some (r, G')) : xMi l D cy ad kd NP A yX9_read cX9_read 4 (some .int) 3 68 [.ref (ad q0), .int x1] G r G' := by
  refine xMi_of trivial (by decide +kernel) (Nat.le_of_ble_eq_true rfl) (fun p e s m args below meth c C => ?_)
  have C : xC p s m args meth c cX9_read RX9 4 (some .int) D cy := C
  refine xsub C (lv' := [(0, .ref (ad q0)), (1, .int x1)]) [0, 1] rfl ?_
  unfold fX9_read at h
  refine xiload_n C 1 rfl rfl dX9_read_0 ?_
  obtain ⟨r1, G1, hc1, h⟩ := bd_some h
  refine xSi C (As := [.int x1]) (rest := []) (kX9_isField hc1) w_685 w_686 mwX9_isField rfl ⟨Nat.le_of_ble_eq_true rfl, Nat.le_of_ble_eq_true rfl⟩ ⟨Nat.le_refl _, Nat.le_refl _⟩ (Nat.le_of_ble_eq_true rfl) dX9_read_1 ?_
  refine xif_ne C (tgt := 9) h (by decide) dX9_read_4 (fun h => ?_) (fun h => ?_)
  · refine xiconst C (v := (-1)) dX9_read_7 (by decide) ?_
    obtain ⟨rfl, rfl⟩ := so_2 h
    exact xiret C rfl dX9_read_8
  · refine xaload_n C 0 rfl rfl dX9_read_9 ?_
    obtain ⟨r10, G10, hc10, h⟩ := bd_some h
    refine xVi C (As := []) (rest := []) (kX9_chains a0 hc10) a0.1 rfl rfl w_799 mvX9_chains mwX9_chains rfl ⟨Nat.le_of_ble_eq_true rfl, Nat.le_of_ble_eq_true rfl⟩ ⟨Nat.le_refl _, Nat.le_refl _⟩ (Nat.le_of_ble_eq_true rfl) dX9_read_10 ?_
    refine xistore_n C (lv' := [(2, .int r10), (0, .ref (ad q0)), (1, .int x1)]) rfl (by decide) rfl dX9_read_13 ?_
    refine xiload_n C 0 rfl rfl dX9_read_14 ?_
    refine xif_ge C (tgt := 27) h (by decide) dX9_read_15 (fun h => ?_) (fun h => ?_)
    · refine xiload_n C 0 rfl rfl dX9_read_27 ?_
      refine xbipush C (v := (nI 30)) dX9_read_28 (by decide) ?_
      refine xicmp_le C (tgt := 36) h (by decide) dX9_read_30 (fun h => ?_) (fun h => ?_)
      · refine xaload_n C 1 rfl rfl dX9_read_36 ?_
        obtain ⟨G37, hc37, h⟩ := bv_some h
        refine xVv C (As := []) (rest := []) (kX9_keeps a0 hc37) a0.1 rfl rfl w_707 mvX9_keeps mwX9_keeps rfl ⟨Nat.le_of_ble_eq_true rfl, Nat.le_of_ble_eq_true rfl⟩ ⟨Nat.le_refl _, Nat.le_refl _⟩ (Nat.le_of_ble_eq_true rfl) dX9_read_37 ?_
        refine xaload_n C 1 rfl rfl dX9_read_40 ?_
        refine xg_9_s C a0.1 w_643 dX9_read_41 ?_
        refine xbipush C (v := (nI 12)) dX9_read_44 (by decide) ?_
        refine xiload_n C 2 rfl rfl dX9_read_46 ?_
        refine xiadd C dX9_read_47 ?_
        refine xiconst C (v := (nI 0)) dX9_read_48 (by decide) ?_
        obtain ⟨hi49, h⟩ := ix_some h
        refine xis_14 C ((nI 12) + x1).toNatClampNeg rfl a0.2.1 hi49 dX9_read_49 ?_
        generalize mset G37 (q0 + 1) ((nI 12) + x1).toNatClampNeg (nI 0) = G49 at h ⊢
        replace h := lt_go h
        refine xaload_n C 1 rfl rfl dX9_read_50 ?_
        refine xiconst C (v := (nI 0)) dX9_read_51 (by decide) ?_
        refine xp_9_at C a0.1 w_650 dX9_read_52 ?_
        generalize mset G49 q0 7 (nI 0) = G52 at h ⊢
        replace h := lt_go h
        refine xsub C (lv' := [(0, .ref (ad q0)), (1, .int x1), (2, .int r10)]) [1, 2, 0] rfl ?_
        exact wX9_read_55 C q0 x1 r10 a0 _ G52 h
      · refine xbipush C (v := (-3)) dX9_read_33 (by decide) ?_
        obtain ⟨rfl, rfl⟩ := so_2 h
        exact xiret C rfl dX9_read_35
    · refine xsipush C (v := (-1000)) dX9_read_18 (by decide) ?_
      refine xaload_n C 1 rfl rfl dX9_read_21 ?_
      refine xg_9_at C a0.1 w_650 dX9_read_22 ?_
      refine xisub C dX9_read_25 ?_
      obtain ⟨rfl, rfl⟩ := so_2 h
      exact xiret C rfl dX9_read_26
/-- HedgeChainsModel.contracts()I -/
theorem wX9_contracts_4 {r : Int32} (C : xC p s m args meth c cX9_contracts RX9 3 (some .int) D cy) (q0 : Nat) (a0 : A9 kd NP q0) : ∀ (n : Nat) (x1 : Int32) (x2 : Int32) (G : Mem) (h : itr n (FX9_contracts_4 q0) (x1, x2, G) = some (r, G')), xX p l e (xR 1 22) s m args below meth c A s.heap D cy ad kd NP 3 0 0 (xQi below D cy ad kd NP A args s r G') G 4 [(0, .ref (ad q0)), (1, .int x1), (2, .int x2)] [] := by
  intro n
  induction n with
  | zero =>
    intro x1 x2 G h
    have h : none = some (r, G') := h
    cases h
  | succ n ih =>
    intro x1 x2 G h
    have h : bX9_contracts_4 q0 (itr n (FX9_contracts_4 q0)) x1 x2 G = some (r, G') := h
    have hrec4 : ∀ (x1 : Int32) (x2 : Int32) (G : Mem), itr n (FX9_contracts_4 q0) (x1, x2, G) = some (r, G') → xX p l e (xR 1 22) s m args below meth c A s.heap D cy ad kd NP 3 0 0 (xQi below D cy ad kd NP A args s r G') G 4 [(0, .ref (ad q0)), (1, .int x1), (2, .int x2)] [] := fun x1 x2 G h => ih x1 x2 G h
    unfold bX9_contracts_4 at h
    refine xiload_n C 2 rfl rfl dX9_contracts_4 ?_
    refine xbipush C (v := (nI 6)) dX9_contracts_5 (by decide) ?_
    refine xicmp_ge C (tgt := 25) h (by decide) dX9_contracts_7 (fun h => ?_) (fun h => ?_)
    · refine xiload_n C 1 rfl rfl dX9_contracts_25 ?_
      obtain ⟨rfl, rfl⟩ := so_2 h
      exact xiret C rfl dX9_contracts_26
    · refine xiload_n C 1 rfl rfl dX9_contracts_10 ?_
      refine xaload_n C 0 rfl rfl dX9_contracts_11 ?_
      refine xiload_n C 2 rfl rfl dX9_contracts_12 ?_
      refine xiconst C (v := (nI 0)) dX9_contracts_13 (by decide) ?_
      obtain ⟨r14, G14, hc14, h⟩ := bd_some h
      refine xVi C (As := [.int x2, .int (nI 0)]) (rest := [.int x1]) (kX9_con a0 hc14) a0.1 rfl rfl w_711 mvX9_con mwX9_con rfl ⟨Nat.le_of_ble_eq_true rfl, Nat.le_of_ble_eq_true rfl⟩ ⟨Nat.le_refl _, Nat.le_refl _⟩ (Nat.le_of_ble_eq_true rfl) dX9_contracts_14 ?_
      refine xiadd C dX9_contracts_17 ?_
      refine xistore_n C (lv' := [(1, .int (x1 + r14)), (0, .ref (ad q0)), (2, .int x2)]) rfl (by decide) rfl dX9_contracts_18 ?_
      refine xiinc C (v := (x2 + nI 1)) (lv' := [(2, .int (x2 + nI 1)), (1, .int (x1 + r14)), (0, .ref (ad q0))]) 2 rfl rfl (by decide) rfl dX9_contracts_19 ?_
      refine xgoto C (tgt := 4) (by decide) dX9_contracts_22 ?_
      refine xsub C (lv' := [(0, .ref (ad q0)), (1, .int (x1 + r14)), (2, .int (x2 + nI 1))]) [2, 1, 0] rfl ?_
      exact hrec4 (x1 + r14) (x2 + nI 1) G14 h
theorem kX9_contracts {r : Int32}  {q0 : Nat} (a0 : A9 kd NP q0) {G : Mem} (h : fX9_contracts q0 G = some (r, G')) : xMi l D cy ad kd NP A yX9_contracts cX9_contracts 3 (some .int) 1 22 [.ref (ad q0)] G r G' := by
  refine xMi_of trivial (by decide +kernel) (Nat.le_of_ble_eq_true rfl) (fun p e s m args below meth c C => ?_)
  have C : xC p s m args meth c cX9_contracts RX9 3 (some .int) D cy := C
  refine xsub C (lv' := [(0, .ref (ad q0))]) [0] rfl ?_
  unfold fX9_contracts at h
  refine xiconst C (v := (nI 0)) dX9_contracts_0 (by decide) ?_
  refine xistore_n C (lv' := [(1, .int (nI 0)), (0, .ref (ad q0))]) rfl (by decide) rfl dX9_contracts_1 ?_
  refine xiconst C (v := (nI 0)) dX9_contracts_2 (by decide) ?_
  refine xistore_n C (lv' := [(2, .int (nI 0)), (1, .int (nI 0)), (0, .ref (ad q0))]) rfl (by decide) rfl dX9_contracts_3 ?_
  refine xsub C (lv' := [(0, .ref (ad q0)), (1, .int (nI 0)), (2, .int (nI 0))]) [2, 1, 0] rfl ?_
  exact wX9_contracts_4 C q0 a0 _ (nI 0) (nI 0) G h
/-- HedgeChainsModel.count(I)I -/
theorem kX9_count {r : Int32}  {q0 : Nat} {x1 : Int32} (a0 : A9 kd NP q0) {G : Mem} (h : fX9_count q0 x1 G = some (r, G')) : xMi l D cy ad kd NP A yX9_count cX9_count 2 (some .int) 2 44 [.ref (ad q0), .int x1] G r G' := by
  refine xMi_of trivial (by decide +kernel) (Nat.le_of_ble_eq_true rfl) (fun p e s m args below meth c C => ?_)
  have C : xC p s m args meth c cX9_count RX9 2 (some .int) D cy := C
  refine xsub C (lv' := [(0, .ref (ad q0)), (1, .int x1)]) [0, 1] rfl ?_
  unfold fX9_count at h
  refine xiload_n C 1 rfl rfl dX9_count_0 ?_
  rcases if_some h with ⟨hs1_0, h⟩ | ⟨hs1_0, h⟩
  · refine xtab C (tgt := 88) (nI 0) hs1_0 (by decide) (by decide) rfl (by decide) dX9_count_1 ?_
    refine xaload_n C 0 rfl rfl dX9_count_88 ?_
    refine xg_9_s C a0.1 w_643 dX9_count_89 ?_
    refine xiconst C (v := (nI 0)) dX9_count_92 (by decide) ?_
    refine xia_14 C 0 (by decide) a0.2.1 (xvi (by decide)) dX9_count_93 ?_
    obtain ⟨rfl, rfl⟩ := so_2 h
    exact xiret C rfl dX9_count_94
  rcases if_some h with ⟨hs1_1, h⟩ | ⟨hs1_1, h⟩
  · refine xtab C (tgt := 95) (nI 1) hs1_1 (by decide) (by decide) rfl (by decide) dX9_count_1 ?_
    refine xaload_n C 0 rfl rfl dX9_count_95 ?_
    refine xg_9_s C a0.1 w_643 dX9_count_96 ?_
    refine xiconst C (v := (nI 0)) dX9_count_99 (by decide) ?_
    refine xia_14 C 0 (by decide) a0.2.1 (xvi (by decide)) dX9_count_100 ?_
    refine xbipush C (v := (nI 52)) dX9_count_101 (by decide) ?_
    refine xirem C dX9_count_103 (by decide) ?_
    obtain ⟨rfl, rfl⟩ := so_2 h
    exact xiret C rfl dX9_count_104
  rcases if_some h with ⟨hs1_2, h⟩ | ⟨hs1_2, h⟩
  · refine xtab C (tgt := 105) (nI 2) hs1_2 (by decide) (by decide) rfl (by decide) dX9_count_1 ?_
    refine xaload_n C 0 rfl rfl dX9_count_105 ?_
    refine xaload_n C 0 rfl rfl dX9_count_106 ?_
    refine xg_9_s C a0.1 w_643 dX9_count_107 ?_
    refine xiconst C (v := (nI 0)) dX9_count_110 (by decide) ?_
    refine xia_14 C 0 (by decide) a0.2.1 (xvi (by decide)) dX9_count_111 ?_
    obtain ⟨r112, G112, hc112, h⟩ := bd_some h
    refine xVi C (As := [.int (G (q0 + 1) 0)]) (rest := []) (kX9_isClosed a0 hc112) a0.1 rfl rfl w_691 mvX9_isClosed mwX9_isClosed rfl ⟨Nat.le_of_ble_eq_true rfl, Nat.le_of_ble_eq_true rfl⟩ ⟨Nat.le_refl _, Nat.le_refl _⟩ (Nat.le_of_ble_eq_true rfl) dX9_count_112 ?_
    refine xif_eq C (tgt := 122) h (by decide) dX9_count_115 (fun h => ?_) (fun h => ?_)
    · refine xiconst C (v := (nI 0)) dX9_count_122 (by decide) ?_
      obtain ⟨rfl, rfl⟩ := so_2 h
      exact xiret C rfl dX9_count_123
    · refine xiconst C (v := (nI 1)) dX9_count_118 (by decide) ?_
      refine xgoto C (tgt := 123) (by decide) dX9_count_119 ?_
      obtain ⟨rfl, rfl⟩ := so_2 h
      exact xiret C rfl dX9_count_123
  rcases if_some h with ⟨hs1_3, h⟩ | ⟨hs1_3, h⟩
  · refine xtab C (tgt := 124) (nI 3) hs1_3 (by decide) (by decide) rfl (by decide) dX9_count_1 ?_
    refine xaload_n C 0 rfl rfl dX9_count_124 ?_
    refine xg_9_s C a0.1 w_643 dX9_count_125 ?_
    refine xiconst C (v := (nI 1)) dX9_count_128 (by decide) ?_
    refine xiload_n C 1 rfl rfl dX9_count_129 ?_
    refine xiadd C dX9_count_130 ?_
    refine xiconst C (v := (nI 3)) dX9_count_131 (by decide) ?_
    refine xisub C dX9_count_132 ?_
    obtain ⟨hi133, h⟩ := ix_some h
    refine xia_14 C (((nI 1) + x1) - (nI 3)).toNatClampNeg rfl a0.2.1 hi133 dX9_count_133 ?_
    obtain ⟨rfl, rfl⟩ := so_2 h
    exact xiret C rfl dX9_count_134
  rcases if_some h with ⟨hs1_4, h⟩ | ⟨hs1_4, h⟩
  · refine xtab C (tgt := 124) (nI 4) hs1_4 (by decide) (by decide) rfl (by decide) dX9_count_1 ?_
    refine xaload_n C 0 rfl rfl dX9_count_124 ?_
    refine xg_9_s C a0.1 w_643 dX9_count_125 ?_
    refine xiconst C (v := (nI 1)) dX9_count_128 (by decide) ?_
    refine xiload_n C 1 rfl rfl dX9_count_129 ?_
    refine xiadd C dX9_count_130 ?_
    refine xiconst C (v := (nI 3)) dX9_count_131 (by decide) ?_
    refine xisub C dX9_count_132 ?_
    obtain ⟨hi133, h⟩ := ix_some h
    refine xia_14 C (((nI 1) + x1) - (nI 3)).toNatClampNeg rfl a0.2.1 hi133 dX9_count_133 ?_
    obtain ⟨rfl, rfl⟩ := so_2 h
    exact xiret C rfl dX9_count_134
  rcases if_some h with ⟨hs1_5, h⟩ | ⟨hs1_5, h⟩
  · refine xtab C (tgt := 124) (nI 5) hs1_5 (by decide) (by decide) rfl (by decide) dX9_count_1 ?_
    refine xaload_n C 0 rfl rfl dX9_count_124 ?_
    refine xg_9_s C a0.1 w_643 dX9_count_125 ?_
    refine xiconst C (v := (nI 1)) dX9_count_128 (by decide) ?_
    refine xiload_n C 1 rfl rfl dX9_count_129 ?_
    refine xiadd C dX9_count_130 ?_
    refine xiconst C (v := (nI 3)) dX9_count_131 (by decide) ?_
    refine xisub C dX9_count_132 ?_
    obtain ⟨hi133, h⟩ := ix_some h
    refine xia_14 C (((nI 1) + x1) - (nI 3)).toNatClampNeg rfl a0.2.1 hi133 dX9_count_133 ?_
    obtain ⟨rfl, rfl⟩ := so_2 h
    exact xiret C rfl dX9_count_134
  rcases if_some h with ⟨hs1_6, h⟩ | ⟨hs1_6, h⟩
  · refine xtab C (tgt := 124) (nI 6) hs1_6 (by decide) (by decide) rfl (by decide) dX9_count_1 ?_
    refine xaload_n C 0 rfl rfl dX9_count_124 ?_
    refine xg_9_s C a0.1 w_643 dX9_count_125 ?_
    refine xiconst C (v := (nI 1)) dX9_count_128 (by decide) ?_
    refine xiload_n C 1 rfl rfl dX9_count_129 ?_
    refine xiadd C dX9_count_130 ?_
    refine xiconst C (v := (nI 3)) dX9_count_131 (by decide) ?_
    refine xisub C dX9_count_132 ?_
    obtain ⟨hi133, h⟩ := ix_some h
    refine xia_14 C (((nI 1) + x1) - (nI 3)).toNatClampNeg rfl a0.2.1 hi133 dX9_count_133 ?_
    obtain ⟨rfl, rfl⟩ := so_2 h
    exact xiret C rfl dX9_count_134
  rcases if_some h with ⟨hs1_7, h⟩ | ⟨hs1_7, h⟩
  · refine xtab C (tgt := 124) (nI 7) hs1_7 (by decide) (by decide) rfl (by decide) dX9_count_1 ?_
    refine xaload_n C 0 rfl rfl dX9_count_124 ?_
    refine xg_9_s C a0.1 w_643 dX9_count_125 ?_
    refine xiconst C (v := (nI 1)) dX9_count_128 (by decide) ?_
    refine xiload_n C 1 rfl rfl dX9_count_129 ?_
    refine xiadd C dX9_count_130 ?_
    refine xiconst C (v := (nI 3)) dX9_count_131 (by decide) ?_
    refine xisub C dX9_count_132 ?_
    obtain ⟨hi133, h⟩ := ix_some h
    refine xia_14 C (((nI 1) + x1) - (nI 3)).toNatClampNeg rfl a0.2.1 hi133 dX9_count_133 ?_
    obtain ⟨rfl, rfl⟩ := so_2 h
    exact xiret C rfl dX9_count_134
  rcases if_some h with ⟨hs1_8, h⟩ | ⟨hs1_8, h⟩
  · refine xtab C (tgt := 124) (nI 8) hs1_8 (by decide) (by decide) rfl (by decide) dX9_count_1 ?_
    refine xaload_n C 0 rfl rfl dX9_count_124 ?_
    refine xg_9_s C a0.1 w_643 dX9_count_125 ?_
    refine xiconst C (v := (nI 1)) dX9_count_128 (by decide) ?_
    refine xiload_n C 1 rfl rfl dX9_count_129 ?_
    refine xiadd C dX9_count_130 ?_
    refine xiconst C (v := (nI 3)) dX9_count_131 (by decide) ?_
    refine xisub C dX9_count_132 ?_
    obtain ⟨hi133, h⟩ := ix_some h
    refine xia_14 C (((nI 1) + x1) - (nI 3)).toNatClampNeg rfl a0.2.1 hi133 dX9_count_133 ?_
    obtain ⟨rfl, rfl⟩ := so_2 h
    exact xiret C rfl dX9_count_134
  rcases if_some h with ⟨hs1_9, h⟩ | ⟨hs1_9, h⟩
  · refine xtab C (tgt := 135) (nI 9) hs1_9 (by decide) (by decide) rfl (by decide) dX9_count_1 ?_
    refine xaload_n C 0 rfl rfl dX9_count_135 ?_
    obtain ⟨r136, G136, hc136, h⟩ := bd_some h
    refine xVi C (As := []) (rest := []) (kX9_contracts a0 hc136) a0.1 rfl rfl w_815 mvX9_contracts mwX9_contracts rfl ⟨Nat.le_of_ble_eq_true rfl, Nat.le_of_ble_eq_true rfl⟩ ⟨Nat.le_refl _, Nat.le_refl _⟩ (Nat.le_of_ble_eq_true rfl) dX9_count_136 ?_
    obtain ⟨rfl, rfl⟩ := so_2 h
    exact xiret C rfl dX9_count_139
  rcases if_some h with ⟨hs1_10, h⟩ | ⟨hs1_10, h⟩
  · refine xtab C (tgt := 140) (nI 10) hs1_10 (by decide) (by decide) rfl (by decide) dX9_count_1 ?_
    refine xaload_n C 0 rfl rfl dX9_count_140 ?_
    refine xg_9_s C a0.1 w_643 dX9_count_141 ?_
    refine xbipush C (v := (nI 7)) dX9_count_144 (by decide) ?_
    refine xiload_n C 1 rfl rfl dX9_count_146 ?_
    refine xiadd C dX9_count_147 ?_
    refine xbipush C (v := (nI 10)) dX9_count_148 (by decide) ?_
    refine xisub C dX9_count_150 ?_
    obtain ⟨hi151, h⟩ := ix_some h
    refine xia_14 C (((nI 7) + x1) - (nI 10)).toNatClampNeg rfl a0.2.1 hi151 dX9_count_151 ?_
    obtain ⟨rfl, rfl⟩ := so_2 h
    exact xiret C rfl dX9_count_152
  rcases if_some h with ⟨hs1_11, h⟩ | ⟨hs1_11, h⟩
  · refine xtab C (tgt := 140) (nI 11) hs1_11 (by decide) (by decide) rfl (by decide) dX9_count_1 ?_
    refine xaload_n C 0 rfl rfl dX9_count_140 ?_
    refine xg_9_s C a0.1 w_643 dX9_count_141 ?_
    refine xbipush C (v := (nI 7)) dX9_count_144 (by decide) ?_
    refine xiload_n C 1 rfl rfl dX9_count_146 ?_
    refine xiadd C dX9_count_147 ?_
    refine xbipush C (v := (nI 10)) dX9_count_148 (by decide) ?_
    refine xisub C dX9_count_150 ?_
    obtain ⟨hi151, h⟩ := ix_some h
    refine xia_14 C (((nI 7) + x1) - (nI 10)).toNatClampNeg rfl a0.2.1 hi151 dX9_count_151 ?_
    obtain ⟨rfl, rfl⟩ := so_2 h
    exact xiret C rfl dX9_count_152
  rcases if_some h with ⟨hs1_12, h⟩ | ⟨hs1_12, h⟩
  · refine xtab C (tgt := 140) (nI 12) hs1_12 (by decide) (by decide) rfl (by decide) dX9_count_1 ?_
    refine xaload_n C 0 rfl rfl dX9_count_140 ?_
    refine xg_9_s C a0.1 w_643 dX9_count_141 ?_
    refine xbipush C (v := (nI 7)) dX9_count_144 (by decide) ?_
    refine xiload_n C 1 rfl rfl dX9_count_146 ?_
    refine xiadd C dX9_count_147 ?_
    refine xbipush C (v := (nI 10)) dX9_count_148 (by decide) ?_
    refine xisub C dX9_count_150 ?_
    obtain ⟨hi151, h⟩ := ix_some h
    refine xia_14 C (((nI 7) + x1) - (nI 10)).toNatClampNeg rfl a0.2.1 hi151 dX9_count_151 ?_
    obtain ⟨rfl, rfl⟩ := so_2 h
    exact xiret C rfl dX9_count_152
  rcases if_some h with ⟨hs1_13, h⟩ | ⟨hs1_13, h⟩
  · refine xtab C (tgt := 140) (nI 13) hs1_13 (by decide) (by decide) rfl (by decide) dX9_count_1 ?_
    refine xaload_n C 0 rfl rfl dX9_count_140 ?_
    refine xg_9_s C a0.1 w_643 dX9_count_141 ?_
    refine xbipush C (v := (nI 7)) dX9_count_144 (by decide) ?_
    refine xiload_n C 1 rfl rfl dX9_count_146 ?_
    refine xiadd C dX9_count_147 ?_
    refine xbipush C (v := (nI 10)) dX9_count_148 (by decide) ?_
    refine xisub C dX9_count_150 ?_
    obtain ⟨hi151, h⟩ := ix_some h
    refine xia_14 C (((nI 7) + x1) - (nI 10)).toNatClampNeg rfl a0.2.1 hi151 dX9_count_151 ?_
    obtain ⟨rfl, rfl⟩ := so_2 h
    exact xiret C rfl dX9_count_152
  rcases if_some h with ⟨hs1_14, h⟩ | ⟨hs1_14, h⟩
  · refine xtab C (tgt := 140) (nI 14) hs1_14 (by decide) (by decide) rfl (by decide) dX9_count_1 ?_
    refine xaload_n C 0 rfl rfl dX9_count_140 ?_
    refine xg_9_s C a0.1 w_643 dX9_count_141 ?_
    refine xbipush C (v := (nI 7)) dX9_count_144 (by decide) ?_
    refine xiload_n C 1 rfl rfl dX9_count_146 ?_
    refine xiadd C dX9_count_147 ?_
    refine xbipush C (v := (nI 10)) dX9_count_148 (by decide) ?_
    refine xisub C dX9_count_150 ?_
    obtain ⟨hi151, h⟩ := ix_some h
    refine xia_14 C (((nI 7) + x1) - (nI 10)).toNatClampNeg rfl a0.2.1 hi151 dX9_count_151 ?_
    obtain ⟨rfl, rfl⟩ := so_2 h
    exact xiret C rfl dX9_count_152
  rcases if_some h with ⟨hs1_15, h⟩ | ⟨hs1_15, h⟩
  · refine xtab C (tgt := 153) (nI 15) hs1_15 (by decide) (by decide) rfl (by decide) dX9_count_1 ?_
    refine xaload_n C 0 rfl rfl dX9_count_153 ?_
    refine xg_9_s C a0.1 w_643 dX9_count_154 ?_
    refine xsipush C (v := (nI 222)) dX9_count_157 (by decide) ?_
    refine xia_14 C 222 (by decide) a0.2.1 (xvi (by decide)) dX9_count_160 ?_
    refine xaload_n C 0 rfl rfl dX9_count_161 ?_
    refine xg_9_s C a0.1 w_643 dX9_count_162 ?_
    refine xsipush C (v := (nI 445)) dX9_count_165 (by decide) ?_
    refine xia_14 C 445 (by decide) a0.2.1 (xvi (by decide)) dX9_count_168 ?_
    refine xiadd C dX9_count_169 ?_
    obtain ⟨rfl, rfl⟩ := so_2 h
    exact xiret C rfl dX9_count_170
  rcases if_some h with ⟨hs1_16, h⟩ | ⟨hs1_16, h⟩
  · refine xtab C (tgt := 171) (nI 16) hs1_16 (by decide) (by decide) rfl (by decide) dX9_count_1 ?_
    refine xaload_n C 0 rfl rfl dX9_count_171 ?_
    refine xg_9_states C a0.1 w_647 dX9_count_172 ?_
    obtain ⟨rfl, rfl⟩ := so_2 h
    exact xiret C rfl dX9_count_175
  rcases if_some h with ⟨hs1_17, h⟩ | ⟨hs1_17, h⟩
  · refine xtab C (tgt := 176) (nI 17) hs1_17 (by decide) (by decide) rfl (by decide) dX9_count_1 ?_
    refine xaload_n C 0 rfl rfl dX9_count_176 ?_
    refine xg_9_typed C a0.1 w_649 dX9_count_177 ?_
    obtain ⟨rfl, rfl⟩ := so_2 h
    exact xiret C rfl dX9_count_180
  refine xtabOut C (tgt := 181) (by have := xne hs1_0 0 rfl; have := xne hs1_1 1 rfl; have := xne hs1_2 2 rfl; have := xne hs1_3 3 rfl; have := xne hs1_4 4 rfl; have := xne hs1_5 5 rfl; have := xne hs1_6 6 rfl; have := xne hs1_7 7 rfl; have := xne hs1_8 8 rfl; have := xne hs1_9 9 rfl; have := xne hs1_10 10 rfl; have := xne hs1_11 11 rfl; have := xne hs1_12 12 rfl; have := xne hs1_13 13 rfl; have := xne hs1_14 14 rfl; have := xne hs1_15 15 rfl; have := xne hs1_16 16 rfl; have := xne hs1_17 17 rfl; omega) (by decide) dX9_count_1 ?_
  refine xiconst C (v := (-1)) dX9_count_181 (by decide) ?_
  obtain ⟨rfl, rfl⟩ := so_2 h
  exact xiret C rfl dX9_count_182
/-- HedgeChainsModel.longest(I)I -/
theorem wX9_longest_59 {r : Int32} (C : xC p s m args meth c cX9_longest RX9 6 (some .int) D cy) (q0 : Nat) (x1 : Int32) (x2 : Int32) (x3 : Int32) (x4 : Int32) (y0 : Int32) {rec7 : (Int32 × Int32 × Int32 × Mem) → Option (Int32 × Mem)} (hrec7 : ∀ (x2 : Int32) (x3 : Int32) (x4 : Int32) (G : Mem), rec7 (x2, x3, x4, G) = some (r, G') → xX p l e (xR 1 22) s m args below meth c A s.heap D cy ad kd NP 6 0 0 (xQi below D cy ad kd NP A args s r G') G 7 [(0, .ref (ad q0)), (1, .int x1), (2, .int x2), (3, .int x3), (4, .int x4)] []) (G : Mem) (a0 : A9 kd NP q0) (h : jX9_longest_59 rec7 q0 x1 x2 x3 x4 y0 G = some (r, G')) : xX p l e (xR 1 22) s m args below meth c A s.heap D cy ad kd NP 6 0 0 (xQi below D cy ad kd NP A args s r G') G 59 [(0, .ref (ad q0)), (1, .int x1), (2, .int x2), (3, .int x3), (4, .int x4)] [.int y0] := by
  unfold jX9_longest_59 at h
  refine xistore C (lv' := [(5, .int y0), (0, .ref (ad q0)), (1, .int x1), (2, .int x2), (3, .int x3), (4, .int x4)]) (by decide) rfl dX9_longest_59 ?_
  refine xiload C 0 rfl dX9_longest_61 ?_
  refine xiload_n C 3 rfl rfl dX9_longest_63 ?_
  refine xicmp_le C (tgt := 72) h (by decide) dX9_longest_64 (fun h => ?_) (fun h => ?_)
  · refine xiload_n C 3 rfl rfl dX9_longest_72 ?_
    refine xistore_n C (lv' := [(2, .int x2), (5, .int y0), (0, .ref (ad q0)), (1, .int x1), (3, .int x3), (4, .int x4)]) rfl (by decide) rfl dX9_longest_73 ?_
    refine xiinc C (v := (x4 + nI 1)) (lv' := [(4, .int (x4 + nI 1)), (2, .int x2), (5, .int y0), (0, .ref (ad q0)), (1, .int x1), (3, .int x3)]) 5 rfl rfl (by decide) rfl dX9_longest_74 ?_
    refine xgoto C (tgt := 7) (by decide) dX9_longest_77 ?_
    refine xsub C (lv' := [(0, .ref (ad q0)), (1, .int x1), (2, .int x2), (3, .int x3), (4, .int (x4 + nI 1))]) [3, 4, 1, 5, 0] rfl ?_
    exact hrec7 x2 x3 (x4 + nI 1) G h
  · refine xiload C 0 rfl dX9_longest_67 ?_
    refine xgoto C (tgt := 73) (by decide) dX9_longest_69 ?_
    refine xistore_n C (lv' := [(2, .int y0), (5, .int y0), (0, .ref (ad q0)), (1, .int x1), (3, .int x3), (4, .int x4)]) rfl (by decide) rfl dX9_longest_73 ?_
    refine xiinc C (v := (x4 + nI 1)) (lv' := [(4, .int (x4 + nI 1)), (2, .int y0), (5, .int y0), (0, .ref (ad q0)), (1, .int x1), (3, .int x3)]) 5 rfl rfl (by decide) rfl dX9_longest_74 ?_
    refine xgoto C (tgt := 7) (by decide) dX9_longest_77 ?_
    refine xsub C (lv' := [(0, .ref (ad q0)), (1, .int x1), (2, .int y0), (3, .int x3), (4, .int (x4 + nI 1))]) [3, 4, 1, 5, 0] rfl ?_
    exact hrec7 y0 x3 (x4 + nI 1) G h
theorem wX9_longest_39 {r : Int32} (C : xC p s m args meth c cX9_longest RX9 6 (some .int) D cy) (q0 : Nat) (x1 : Int32) (x2 : Int32) (x4 : Int32) (y0 : Int32) {rec7 : (Int32 × Int32 × Int32 × Mem) → Option (Int32 × Mem)} (hrec7 : ∀ (x2 : Int32) (x3 : Int32) (x4 : Int32) (G : Mem), rec7 (x2, x3, x4, G) = some (r, G') → xX p l e (xR 1 22) s m args below meth c A s.heap D cy ad kd NP 6 0 0 (xQi below D cy ad kd NP A args s r G') G 7 [(0, .ref (ad q0)), (1, .int x1), (2, .int x2), (3, .int x3), (4, .int x4)] []) (G : Mem) (a0 : A9 kd NP q0) (h : jX9_longest_39 rec7 q0 x1 x2 x4 y0 G = some (r, G')) : xX p l e (xR 1 22) s m args below meth c A s.heap D cy ad kd NP 6 0 0 (xQi below D cy ad kd NP A args s r G') G 39 [(0, .ref (ad q0)), (1, .int x1), (2, .int x2), (4, .int x4)] [.int y0] := by
  unfold jX9_longest_39 at h
  refine xistore_n C (lv' := [(3, .int y0), (0, .ref (ad q0)), (1, .int x1), (2, .int x2), (4, .int x4)]) rfl (by decide) rfl dX9_longest_39 ?_
  refine xiload_n C 0 rfl rfl dX9_longest_40 ?_
  refine xif_ne C (tgt := 48) h (by decide) dX9_longest_41 (fun h => ?_) (fun h => ?_)
  · refine xiconst C (v := (nI 0)) dX9_longest_44 (by decide) ?_
    refine xgoto C (tgt := 59) (by decide) dX9_longest_45 ?_
    refine xsub C (lv' := [(0, .ref (ad q0)), (1, .int x1), (2, .int x2), (3, .int y0), (4, .int x4)]) [1, 2, 3, 0, 4] rfl ?_
    exact wX9_longest_59 C q0 x1 x2 y0 x4 (nI 0) hrec7 G a0 h
  · refine xbipush C (v := (nI 100)) dX9_longest_48 (by decide) ?_
    refine xiload_n C 0 rfl rfl dX9_longest_50 ?_
    refine ximul C dX9_longest_51 ?_
    refine xiload C 4 rfl dX9_longest_52 ?_
    refine xiconst C (v := (nI 1)) dX9_longest_54 (by decide) ?_
    refine xiadd C dX9_longest_55 ?_
    refine xiload_n C 0 rfl rfl dX9_longest_56 ?_
    refine xisub C dX9_longest_57 ?_
    refine xisub C dX9_longest_58 ?_
    refine xsub C (lv' := [(0, .ref (ad q0)), (1, .int x1), (2, .int x2), (3, .int y0), (4, .int x4)]) [1, 2, 3, 0, 4] rfl ?_
    exact wX9_longest_59 C q0 x1 x2 y0 x4 (((nI 100) * y0) - ((x4 + (nI 1)) - y0)) hrec7 G a0 h
theorem wX9_longest_7 {r : Int32} (C : xC p s m args meth c cX9_longest RX9 6 (some .int) D cy) (q0 : Nat) (x1 : Int32) (a0 : A9 kd NP q0) : ∀ (n : Nat) (x2 : Int32) (x3 : Int32) (x4 : Int32) (G : Mem) (h : itr n (FX9_longest_7 q0 x1) (x2, x3, x4, G) = some (r, G')), xX p l e (xR 1 22) s m args below meth c A s.heap D cy ad kd NP 6 0 0 (xQi below D cy ad kd NP A args s r G') G 7 [(0, .ref (ad q0)), (1, .int x1), (2, .int x2), (3, .int x3), (4, .int x4)] [] := by
  intro n
  induction n with
  | zero =>
    intro x2 x3 x4 G h
    have h : none = some (r, G') := h
    cases h
  | succ n ih =>
    intro x2 x3 x4 G h
    have h : bX9_longest_7 q0 x1 (itr n (FX9_longest_7 q0 x1)) x2 x3 x4 G = some (r, G') := h
    have hrec7 : ∀ (x2 : Int32) (x3 : Int32) (x4 : Int32) (G : Mem), itr n (FX9_longest_7 q0 x1) (x2, x3, x4, G) = some (r, G') → xX p l e (xR 1 22) s m args below meth c A s.heap D cy ad kd NP 6 0 0 (xQi below D cy ad kd NP A args s r G') G 7 [(0, .ref (ad q0)), (1, .int x1), (2, .int x2), (3, .int x3), (4, .int x4)] [] := fun x2 x3 x4 G h => ih x2 x3 x4 G h
    unfold bX9_longest_7 at h
    refine xiload C 4 rfl dX9_longest_7 ?_
    refine xaload_n C 0 rfl rfl dX9_longest_9 ?_
    refine xg_9_s C a0.1 w_643 dX9_longest_10 ?_
    refine xbipush C (v := (nI 12)) dX9_longest_13 (by decide) ?_
    refine xiload_n C 1 rfl rfl dX9_longest_15 ?_
    refine xiadd C dX9_longest_16 ?_
    obtain ⟨hi17, h⟩ := ix_some h
    refine xia_14 C ((nI 12) + x1).toNatClampNeg rfl a0.2.1 hi17 dX9_longest_17 ?_
    refine xicmp_ge C (tgt := 80) h (by decide) dX9_longest_18 (fun h => ?_) (fun h => ?_)
    · refine xiload_n C 2 rfl rfl dX9_longest_80 ?_
      obtain ⟨rfl, rfl⟩ := so_2 h
      exact xiret C rfl dX9_longest_81
    · refine xaload_n C 0 rfl rfl dX9_longest_21 ?_
      refine xiload_n C 1 rfl rfl dX9_longest_22 ?_
      refine xiload C 4 rfl dX9_longest_23 ?_
      obtain ⟨r25, G25, hc25, h⟩ := bd_some h
      refine xVi C (As := [.int x1, .int x4]) (rest := []) (kX9_kindOf a0 hc25) a0.1 rfl rfl w_703 mvX9_kindOf mwX9_kindOf rfl ⟨Nat.le_of_ble_eq_true rfl, Nat.le_of_ble_eq_true rfl⟩ ⟨Nat.le_refl _, Nat.le_refl _⟩ (Nat.le_of_ble_eq_true rfl) dX9_longest_25 ?_
      refine xiconst C (v := (nI 1)) dX9_longest_28 (by decide) ?_
      refine xicmp_ne C (tgt := 38) h (by decide) dX9_longest_29 (fun h => ?_) (fun h => ?_)
      · refine xiload_n C 3 rfl rfl dX9_longest_32 ?_
        refine xiconst C (v := (nI 1)) dX9_longest_33 (by decide) ?_
        refine xiadd C dX9_longest_34 ?_
        refine xgoto C (tgt := 39) (by decide) dX9_longest_35 ?_
        refine xsub C (lv' := [(0, .ref (ad q0)), (1, .int x1), (2, .int x2), (4, .int x4)]) [0, 1, 2, 4] rfl ?_
        exact wX9_longest_39 C q0 x1 x2 x4 (x3 + (nI 1)) hrec7 G25 a0 h
      · refine xiconst C (v := (nI 0)) dX9_longest_38 (by decide) ?_
        refine xsub C (lv' := [(0, .ref (ad q0)), (1, .int x1), (2, .int x2), (4, .int x4)]) [0, 1, 2, 4] rfl ?_
        exact wX9_longest_39 C q0 x1 x2 x4 (nI 0) hrec7 G25 a0 h
theorem kX9_longest {r : Int32}  {q0 : Nat} {x1 : Int32} (a0 : A9 kd NP q0) {G : Mem} (h : fX9_longest q0 x1 G = some (r, G')) : xMi l D cy ad kd NP A yX9_longest cX9_longest 6 (some .int) 1 22 [.ref (ad q0), .int x1] G r G' := by
  refine xMi_of trivial (by decide +kernel) (Nat.le_of_ble_eq_true rfl) (fun p e s m args below meth c C => ?_)
  have C : xC p s m args meth c cX9_longest RX9 6 (some .int) D cy := C
  refine xsub C (lv' := [(0, .ref (ad q0)), (1, .int x1)]) [0, 1] rfl ?_
  unfold fX9_longest at h
  refine xiconst C (v := (nI 0)) dX9_longest_0 (by decide) ?_
  refine xistore_n C (lv' := [(2, .int (nI 0)), (0, .ref (ad q0)), (1, .int x1)]) rfl (by decide) rfl dX9_longest_1 ?_
  refine xiconst C (v := (nI 0)) dX9_longest_2 (by decide) ?_
  refine xistore_n C (lv' := [(3, .int (nI 0)), (2, .int (nI 0)), (0, .ref (ad q0)), (1, .int x1)]) rfl (by decide) rfl dX9_longest_3 ?_
  refine xiconst C (v := (nI 0)) dX9_longest_4 (by decide) ?_
  refine xistore C (lv' := [(4, .int (nI 0)), (3, .int (nI 0)), (2, .int (nI 0)), (0, .ref (ad q0)), (1, .int x1)]) (by decide) rfl dX9_longest_5 ?_
  refine xsub C (lv' := [(0, .ref (ad q0)), (1, .int x1), (2, .int (nI 0)), (3, .int (nI 0)), (4, .int (nI 0))]) [3, 4, 2, 1, 0] rfl ?_
  exact wX9_longest_7 C q0 x1 a0 _ (nI 0) (nI 0) (nI 0) G h
/-- HedgeChainsModel.field(II)I -/
theorem kX9_field {r : Int32}  {q0 : Nat} {x1 : Int32} {x2 : Int32} (a0 : A9 kd NP q0) {G : Mem} (h : fX9_field q0 x1 x2 G = some (r, G')) : xMi l D cy ad kd NP A yX9_field cX9_field 5 (some .int) 2 47 [.ref (ad q0), .int x1, .int x2] G r G' := by
  refine xMi_of trivial (by decide +kernel) (Nat.le_of_ble_eq_true rfl) (fun p e s m args below meth c C => ?_)
  have C : xC p s m args meth c cX9_field RX9 5 (some .int) D cy := C
  refine xsub C (lv' := [(0, .ref (ad q0)), (1, .int x1), (2, .int x2)]) [0, 1, 2] rfl ?_
  unfold fX9_field at h
  refine xiload_n C 1 rfl rfl dX9_field_0 ?_
  obtain ⟨r1, G1, hc1, h⟩ := bd_some h
  refine xSi C (As := [.int x1]) (rest := []) (kX9_isField hc1) w_685 w_686 mwX9_isField rfl ⟨Nat.le_of_ble_eq_true rfl, Nat.le_of_ble_eq_true rfl⟩ ⟨Nat.le_refl _, Nat.le_refl _⟩ (Nat.le_of_ble_eq_true rfl) dX9_field_1 ?_
  refine xif_eq C (tgt := 17) h (by decide) dX9_field_4 (fun h => ?_) (fun h => ?_)
  · refine xiconst C (v := (-1)) dX9_field_17 (by decide) ?_
    obtain ⟨rfl, rfl⟩ := so_2 h
    exact xiret C rfl dX9_field_18
  · refine xiload_n C 2 rfl rfl dX9_field_7 ?_
    refine xiconst C (v := (nI 0)) dX9_field_8 (by decide) ?_
    refine xbipush C (v := (nI 10)) dX9_field_9 (by decide) ?_
    obtain ⟨r11, G11, hc11, h⟩ := bd_some h
    refine xSi C (As := [.int x2, .int (nI 0), .int (nI 10)]) (rest := []) (kX9_in hc11) w_688 w_689 mwX9_in rfl ⟨Nat.le_of_ble_eq_true rfl, Nat.le_of_ble_eq_true rfl⟩ ⟨Nat.le_refl _, Nat.le_refl _⟩ (Nat.le_of_ble_eq_true rfl) dX9_field_11 ?_
    refine xif_ne C (tgt := 19) h (by decide) dX9_field_14 (fun h => ?_) (fun h => ?_)
    · refine xiconst C (v := (-1)) dX9_field_17 (by decide) ?_
      obtain ⟨rfl, rfl⟩ := so_2 h
      exact xiret C rfl dX9_field_18
    · refine xaload_n C 0 rfl rfl dX9_field_19 ?_
      refine xiload_n C 1 rfl rfl dX9_field_20 ?_
      obtain ⟨r21, G21, hc21, h⟩ := bd_some h
      refine xVi C (As := [.int x1]) (rest := []) (kX9_longest a0 hc21) a0.1 rfl rfl w_823 mvX9_longest mwX9_longest rfl ⟨Nat.le_of_ble_eq_true rfl, Nat.le_of_ble_eq_true rfl⟩ ⟨Nat.le_refl _, Nat.le_refl _⟩ (Nat.le_of_ble_eq_true rfl) dX9_field_21 ?_
      refine xistore_n C (lv' := [(3, .int r21), (0, .ref (ad q0)), (1, .int x1), (2, .int x2)]) rfl (by decide) rfl dX9_field_24 ?_
      refine xiload_n C 0 rfl rfl dX9_field_25 ?_
      refine xbipush C (v := (nI 99)) dX9_field_26 (by decide) ?_
      refine xiadd C dX9_field_28 ?_
      refine xbipush C (v := (nI 100)) dX9_field_29 (by decide) ?_
      refine xidiv C dX9_field_31 (by decide) ?_
      refine xistore C (lv' := [(4, .int ((r21 + (nI 99)) / (nI 100))), (3, .int r21), (0, .ref (ad q0)), (1, .int x1), (2, .int x2)]) (by decide) rfl dX9_field_32 ?_
      refine xiload_n C 4 rfl rfl dX9_field_34 ?_
      rcases if_some h with ⟨hs35_0, h⟩ | ⟨hs35_0, h⟩
      · refine xtab C (tgt := 80) (nI 0) hs35_0 (by decide) (by decide) rfl (by decide) dX9_field_35 ?_
        refine xaload_n C 2 rfl rfl dX9_field_80 ?_
        refine xg_9_s C a0.1 w_643 dX9_field_81 ?_
        refine xbipush C (v := (nI 12)) dX9_field_84 (by decide) ?_
        refine xiload_n C 3 rfl rfl dX9_field_86 ?_
        refine xiadd C dX9_field_87 ?_
        obtain ⟨hi88, h⟩ := ix_some h
        refine xia_14 C ((nI 12) + x1).toNatClampNeg rfl a0.2.1 hi88 dX9_field_88 ?_
        obtain ⟨rfl, rfl⟩ := so_2 h
        exact xiret C rfl dX9_field_89
      rcases if_some h with ⟨hs35_1, h⟩ | ⟨hs35_1, h⟩
      · refine xtab C (tgt := 90) (nI 1) hs35_1 (by decide) (by decide) rfl (by decide) dX9_field_35 ?_
        refine xaload_n C 2 rfl rfl dX9_field_90 ?_
        refine xiload_n C 3 rfl rfl dX9_field_91 ?_
        refine xiload_n C 4 rfl rfl dX9_field_92 ?_
        refine xiconst C (v := (nI 1)) dX9_field_93 (by decide) ?_
        refine xisub C dX9_field_94 ?_
        obtain ⟨r95, G95, hc95, h⟩ := bd_some h
        refine xVi C (As := [.int x1, .int (x2 - (nI 1))]) (rest := []) (kX9_ofKind a0 hc95) a0.1 rfl rfl w_719 mvX9_ofKind mwX9_ofKind rfl ⟨Nat.le_of_ble_eq_true rfl, Nat.le_of_ble_eq_true rfl⟩ ⟨Nat.le_refl _, Nat.le_refl _⟩ (Nat.le_of_ble_eq_true rfl) dX9_field_95 ?_
        obtain ⟨rfl, rfl⟩ := so_2 h
        exact xiret C rfl dX9_field_98
      rcases if_some h with ⟨hs35_2, h⟩ | ⟨hs35_2, h⟩
      · refine xtab C (tgt := 90) (nI 2) hs35_2 (by decide) (by decide) rfl (by decide) dX9_field_35 ?_
        refine xaload_n C 2 rfl rfl dX9_field_90 ?_
        refine xiload_n C 3 rfl rfl dX9_field_91 ?_
        refine xiload_n C 4 rfl rfl dX9_field_92 ?_
        refine xiconst C (v := (nI 1)) dX9_field_93 (by decide) ?_
        refine xisub C dX9_field_94 ?_
        obtain ⟨r95, G95, hc95, h⟩ := bd_some h
        refine xVi C (As := [.int x1, .int (x2 - (nI 1))]) (rest := []) (kX9_ofKind a0 hc95) a0.1 rfl rfl w_719 mvX9_ofKind mwX9_ofKind rfl ⟨Nat.le_of_ble_eq_true rfl, Nat.le_of_ble_eq_true rfl⟩ ⟨Nat.le_refl _, Nat.le_refl _⟩ (Nat.le_of_ble_eq_true rfl) dX9_field_95 ?_
        obtain ⟨rfl, rfl⟩ := so_2 h
        exact xiret C rfl dX9_field_98
      rcases if_some h with ⟨hs35_3, h⟩ | ⟨hs35_3, h⟩
      · refine xtab C (tgt := 90) (nI 3) hs35_3 (by decide) (by decide) rfl (by decide) dX9_field_35 ?_
        refine xaload_n C 2 rfl rfl dX9_field_90 ?_
        refine xiload_n C 3 rfl rfl dX9_field_91 ?_
        refine xiload_n C 4 rfl rfl dX9_field_92 ?_
        refine xiconst C (v := (nI 1)) dX9_field_93 (by decide) ?_
        refine xisub C dX9_field_94 ?_
        obtain ⟨r95, G95, hc95, h⟩ := bd_some h
        refine xVi C (As := [.int x1, .int (x2 - (nI 1))]) (rest := []) (kX9_ofKind a0 hc95) a0.1 rfl rfl w_719 mvX9_ofKind mwX9_ofKind rfl ⟨Nat.le_of_ble_eq_true rfl, Nat.le_of_ble_eq_true rfl⟩ ⟨Nat.le_refl _, Nat.le_refl _⟩ (Nat.le_of_ble_eq_true rfl) dX9_field_95 ?_
        obtain ⟨rfl, rfl⟩ := so_2 h
        exact xiret C rfl dX9_field_98
      rcases if_some h with ⟨hs35_4, h⟩ | ⟨hs35_4, h⟩
      · refine xtab C (tgt := 90) (nI 4) hs35_4 (by decide) (by decide) rfl (by decide) dX9_field_35 ?_
        refine xaload_n C 2 rfl rfl dX9_field_90 ?_
        refine xiload_n C 3 rfl rfl dX9_field_91 ?_
        refine xiload_n C 4 rfl rfl dX9_field_92 ?_
        refine xiconst C (v := (nI 1)) dX9_field_93 (by decide) ?_
        refine xisub C dX9_field_94 ?_
        obtain ⟨r95, G95, hc95, h⟩ := bd_some h
        refine xVi C (As := [.int x1, .int (x2 - (nI 1))]) (rest := []) (kX9_ofKind a0 hc95) a0.1 rfl rfl w_719 mvX9_ofKind mwX9_ofKind rfl ⟨Nat.le_of_ble_eq_true rfl, Nat.le_of_ble_eq_true rfl⟩ ⟨Nat.le_refl _, Nat.le_refl _⟩ (Nat.le_of_ble_eq_true rfl) dX9_field_95 ?_
        obtain ⟨rfl, rfl⟩ := so_2 h
        exact xiret C rfl dX9_field_98
      rcases if_some h with ⟨hs35_5, h⟩ | ⟨hs35_5, h⟩
      · refine xtab C (tgt := 99) (nI 5) hs35_5 (by decide) (by decide) rfl (by decide) dX9_field_35 ?_
        refine xiload C 0 rfl dX9_field_99 ?_
        obtain ⟨rfl, rfl⟩ := so_2 h
        exact xiret C rfl dX9_field_101
      rcases if_some h with ⟨hs35_6, h⟩ | ⟨hs35_6, h⟩
      · refine xtab C (tgt := 102) (nI 6) hs35_6 (by decide) (by decide) rfl (by decide) dX9_field_35 ?_
        refine xiload C 0 rfl dX9_field_102 ?_
        refine xif_ne C (tgt := 112) h (by decide) dX9_field_104 (fun h => ?_) (fun h => ?_)
        · refine xbipush C (v := (-9)) dX9_field_107 (by decide) ?_
          refine xgoto C (tgt := 119) (by decide) dX9_field_109 ?_
          obtain ⟨rfl, rfl⟩ := so_2 h
          exact xiret C rfl dX9_field_119
        · refine xbipush C (v := (nI 100)) dX9_field_112 (by decide) ?_
          refine xiload C 0 rfl dX9_field_114 ?_
          refine ximul C dX9_field_116 ?_
          refine xiload_n C 1 rfl rfl dX9_field_117 ?_
          refine xisub C dX9_field_118 ?_
          obtain ⟨rfl, rfl⟩ := so_2 h
          exact xiret C rfl dX9_field_119
      rcases if_some h with ⟨hs35_7, h⟩ | ⟨hs35_7, h⟩
      · refine xtab C (tgt := 120) (nI 7) hs35_7 (by decide) (by decide) rfl (by decide) dX9_field_35 ?_
        refine xaload_n C 2 rfl rfl dX9_field_120 ?_
        refine xiload_n C 3 rfl rfl dX9_field_121 ?_
        refine xiconst C (v := (nI 0)) dX9_field_122 (by decide) ?_
        obtain ⟨r123, G123, hc123, h⟩ := bd_some h
        refine xVi C (As := [.int x1, .int (nI 0)]) (rest := []) (kX9_con a0 hc123) a0.1 rfl rfl w_711 mvX9_con mwX9_con rfl ⟨Nat.le_of_ble_eq_true rfl, Nat.le_of_ble_eq_true rfl⟩ ⟨Nat.le_refl _, Nat.le_refl _⟩ (Nat.le_of_ble_eq_true rfl) dX9_field_123 ?_
        obtain ⟨rfl, rfl⟩ := so_2 h
        exact xiret C rfl dX9_field_126
      refine xtabOut C (tgt := 127) (by have := xne hs35_0 0 rfl; have := xne hs35_1 1 rfl; have := xne hs35_2 2 rfl; have := xne hs35_3 3 rfl; have := xne hs35_4 4 rfl; have := xne hs35_5 5 rfl; have := xne hs35_6 6 rfl; have := xne hs35_7 7 rfl; omega) (by decide) dX9_field_35 ?_
      refine xaload_n C 2 rfl rfl dX9_field_127 ?_
      refine xiload_n C 3 rfl rfl dX9_field_128 ?_
      refine xiconst C (v := (nI 0)) dX9_field_129 (by decide) ?_
      obtain ⟨r130, G130, hc130, h⟩ := bd_some h
      refine xVi C (As := [.int x1, .int (nI 0)]) (rest := []) (kX9_con a0 hc130) a0.1 rfl rfl w_711 mvX9_con mwX9_con rfl ⟨Nat.le_of_ble_eq_true rfl, Nat.le_of_ble_eq_true rfl⟩ ⟨Nat.le_refl _, Nat.le_refl _⟩ (Nat.le_of_ble_eq_true rfl) dX9_field_130 ?_
      refine xiconst C (v := (nI 1)) dX9_field_133 (by decide) ?_
      refine xicmp_ne C (tgt := 149) h (by decide) dX9_field_134 (fun h => ?_) (fun h => ?_)
      · refine xaload_n C 2 rfl rfl dX9_field_137 ?_
        refine xiload_n C 3 rfl rfl dX9_field_138 ?_
        refine xiload_n C 4 rfl rfl dX9_field_139 ?_
        refine xbipush C (v := (nI 7)) dX9_field_140 (by decide) ?_
        refine xisub C dX9_field_142 ?_
        obtain ⟨r143, G143, hc143, h⟩ := bd_some h
        refine xVi C (As := [.int x1, .int (x2 - (nI 7))]) (rest := []) (kX9_con a0 hc143) a0.1 rfl rfl w_711 mvX9_con mwX9_con rfl ⟨Nat.le_of_ble_eq_true rfl, Nat.le_of_ble_eq_true rfl⟩ ⟨Nat.le_refl _, Nat.le_refl _⟩ (Nat.le_of_ble_eq_true rfl) dX9_field_143 ?_
        refine xgoto C (tgt := 151) (by decide) dX9_field_146 ?_
        obtain ⟨rfl, rfl⟩ := so_2 h
        exact xiret C rfl dX9_field_151
      · refine xbipush C (v := (-9)) dX9_field_149 (by decide) ?_
        obtain ⟨rfl, rfl⟩ := so_2 h
        exact xiret C rfl dX9_field_151
/-- HedgeChainsModel.chain(III)I -/
theorem kX9_chain {r : Int32}  {q0 : Nat} {x1 : Int32} {x2 : Int32} {x3 : Int32} (a0 : A9 kd NP q0) {G : Mem} (h : fX9_chain q0 x1 x2 x3 G = some (r, G')) : xMi l D cy ad kd NP A yX9_chain cX9_chain 4 (some .int) 3 64 [.ref (ad q0), .int x1, .int x2, .int x3] G r G' := by
  refine xMi_of trivial (by decide +kernel) (Nat.le_of_ble_eq_true rfl) (fun p e s m args below meth c C => ?_)
  have C : xC p s m args meth c cX9_chain RX9 4 (some .int) D cy := C
  refine xsub C (lv' := [(0, .ref (ad q0)), (1, .int x1), (2, .int x2), (3, .int x3)]) [0, 1, 2, 3] rfl ?_
  unfold fX9_chain at h
  refine xaload_n C 0 rfl rfl dX9_chain_0 ?_
  refine xiload_n C 1 rfl rfl dX9_chain_1 ?_
  refine xiload_n C 2 rfl rfl dX9_chain_2 ?_
  obtain ⟨r3, G3, hc3, h⟩ := bd_some h
  refine xVi C (As := [.int x1, .int x2]) (rest := []) (kX9_isChain a0 hc3) a0.1 rfl rfl w_681 mvX9_isChain mwX9_isChain rfl ⟨Nat.le_of_ble_eq_true rfl, Nat.le_of_ble_eq_true rfl⟩ ⟨Nat.le_refl _, Nat.le_refl _⟩ (Nat.le_of_ble_eq_true rfl) dX9_chain_3 ?_
  refine xif_eq C (tgt := 18) h (by decide) dX9_chain_6 (fun h => ?_) (fun h => ?_)
  · refine xiconst C (v := (-1)) dX9_chain_18 (by decide) ?_
    obtain ⟨rfl, rfl⟩ := so_2 h
    exact xiret C rfl dX9_chain_19
  · refine xiload_n C 3 rfl rfl dX9_chain_9 ?_
    refine xiconst C (v := (nI 0)) dX9_chain_10 (by decide) ?_
    refine xiconst C (v := (nI 2)) dX9_chain_11 (by decide) ?_
    obtain ⟨r12, G12, hc12, h⟩ := bd_some h
    refine xSi C (As := [.int x3, .int (nI 0), .int (nI 2)]) (rest := []) (kX9_in hc12) w_688 w_689 mwX9_in rfl ⟨Nat.le_of_ble_eq_true rfl, Nat.le_of_ble_eq_true rfl⟩ ⟨Nat.le_refl _, Nat.le_refl _⟩ (Nat.le_of_ble_eq_true rfl) dX9_chain_12 ?_
    refine xif_ne C (tgt := 20) h (by decide) dX9_chain_15 (fun h => ?_) (fun h => ?_)
    · refine xiconst C (v := (-1)) dX9_chain_18 (by decide) ?_
      obtain ⟨rfl, rfl⟩ := so_2 h
      exact xiret C rfl dX9_chain_19
    · refine xiload_n C 3 rfl rfl dX9_chain_20 ?_
      refine xif_ne C (tgt := 33) h (by decide) dX9_chain_21 (fun h => ?_) (fun h => ?_)
      · refine xaload_n C 0 rfl rfl dX9_chain_24 ?_
        refine xiload_n C 1 rfl rfl dX9_chain_25 ?_
        refine xiload_n C 2 rfl rfl dX9_chain_26 ?_
        obtain ⟨r27, G27, hc27, h⟩ := bd_some h
        refine xVi C (As := [.int x1, .int x2]) (rest := []) (kX9_kindOf a0 hc27) a0.1 rfl rfl w_703 mvX9_kindOf mwX9_kindOf rfl ⟨Nat.le_of_ble_eq_true rfl, Nat.le_of_ble_eq_true rfl⟩ ⟨Nat.le_refl _, Nat.le_refl _⟩ (Nat.le_of_ble_eq_true rfl) dX9_chain_27 ?_
        refine xgoto C (tgt := 53) (by decide) dX9_chain_30 ?_
        obtain ⟨rfl, rfl⟩ := so_2 h
        exact xiret C rfl dX9_chain_53
      · refine xiload_n C 3 rfl rfl dX9_chain_33 ?_
        refine xiconst C (v := (nI 1)) dX9_chain_34 (by decide) ?_
        refine xicmp_ne C (tgt := 47) h (by decide) dX9_chain_35 (fun h => ?_) (fun h => ?_)
        · refine xaload_n C 0 rfl rfl dX9_chain_38 ?_
          refine xiload_n C 1 rfl rfl dX9_chain_39 ?_
          refine xiload_n C 2 rfl rfl dX9_chain_40 ?_
          obtain ⟨r41, G41, hc41, h⟩ := bd_some h
          refine xVi C (As := [.int x1, .int x2]) (rest := []) (kX9_thickness a0 hc41) a0.1 rfl rfl w_699 mvX9_thickness mwX9_thickness rfl ⟨Nat.le_of_ble_eq_true rfl, Nat.le_of_ble_eq_true rfl⟩ ⟨Nat.le_refl _, Nat.le_refl _⟩ (Nat.le_of_ble_eq_true rfl) dX9_chain_41 ?_
          refine xgoto C (tgt := 53) (by decide) dX9_chain_44 ?_
          obtain ⟨rfl, rfl⟩ := so_2 h
          exact xiret C rfl dX9_chain_53
        · refine xaload_n C 0 rfl rfl dX9_chain_47 ?_
          refine xiload_n C 1 rfl rfl dX9_chain_48 ?_
          refine xiload_n C 2 rfl rfl dX9_chain_49 ?_
          obtain ⟨r50, G50, hc50, h⟩ := bd_some h
          refine xVi C (As := [.int x1, .int x2]) (rest := []) (kX9_age a0 hc50) a0.1 rfl rfl w_751 mvX9_age mwX9_age rfl ⟨Nat.le_of_ble_eq_true rfl, Nat.le_of_ble_eq_true rfl⟩ ⟨Nat.le_refl _, Nat.le_refl _⟩ (Nat.le_of_ble_eq_true rfl) dX9_chain_50 ?_
          obtain ⟨rfl, rfl⟩ := so_2 h
          exact xiret C rfl dX9_chain_53
/-- HedgeChainsModel.takes(II)I -/
theorem kX9_takes {r : Int32}  {q0 : Nat} {x1 : Int32} {x2 : Int32} (a0 : A9 kd NP q0) {G : Mem} (h : fX9_takes q0 x1 x2 G = some (r, G')) : xMi l D cy ad kd NP A yX9_takes cX9_takes 4 (some .int) 1 22 [.ref (ad q0), .int x1, .int x2] G r G' := by
  refine xMi_of trivial (by decide +kernel) (Nat.le_of_ble_eq_true rfl) (fun p e s m args below meth c C => ?_)
  have C : xC p s m args meth c cX9_takes RX9 4 (some .int) D cy := C
  refine xsub C (lv' := [(0, .ref (ad q0)), (1, .int x1), (2, .int x2)]) [0, 1, 2] rfl ?_
  unfold fX9_takes at h
  refine xaload_n C 0 rfl rfl dX9_takes_0 ?_
  refine xiload_n C 1 rfl rfl dX9_takes_1 ?_
  refine xiload_n C 2 rfl rfl dX9_takes_2 ?_
  obtain ⟨r3, G3, hc3, h⟩ := bd_some h
  refine xVi C (As := [.int x1, .int x2]) (rest := []) (kX9_thickness a0 hc3) a0.1 rfl rfl w_699 mvX9_thickness mwX9_thickness rfl ⟨Nat.le_of_ble_eq_true rfl, Nat.le_of_ble_eq_true rfl⟩ ⟨Nat.le_refl _, Nat.le_refl _⟩ (Nat.le_of_ble_eq_true rfl) dX9_takes_3 ?_
  refine xistore_n C (lv' := [(3, .int r3), (0, .ref (ad q0)), (1, .int x1), (2, .int x2)]) rfl (by decide) rfl dX9_takes_6 ?_
  refine xaload_n C 1 rfl rfl dX9_takes_7 ?_
  refine xiload_n C 2 rfl rfl dX9_takes_8 ?_
  refine xiload_n C 3 rfl rfl dX9_takes_9 ?_
  obtain ⟨r10, G10, hc10, h⟩ := bd_some h
  refine xVi C (As := [.int x1, .int x2]) (rest := []) (kX9_kindOf a0 hc10) a0.1 rfl rfl w_703 mvX9_kindOf mwX9_kindOf rfl ⟨Nat.le_of_ble_eq_true rfl, Nat.le_of_ble_eq_true rfl⟩ ⟨Nat.le_refl _, Nat.le_refl _⟩ (Nat.le_of_ble_eq_true rfl) dX9_takes_10 ?_
  refine xif_ne C (tgt := 25) h (by decide) dX9_takes_13 (fun h => ?_) (fun h => ?_)
  · refine xiload_n C 0 rfl rfl dX9_takes_16 ?_
    refine xiconst C (v := (nI 2)) dX9_takes_17 (by decide) ?_
    refine xicmp_lt C (tgt := 25) h (by decide) dX9_takes_18 (fun h => ?_) (fun h => ?_)
    · refine xiconst C (v := (nI 0)) dX9_takes_25 (by decide) ?_
      obtain ⟨rfl, rfl⟩ := so_2 h
      exact xiret C rfl dX9_takes_26
    · refine xiload_n C 0 rfl rfl dX9_takes_21 ?_
      refine xgoto C (tgt := 26) (by decide) dX9_takes_22 ?_
      obtain ⟨rfl, rfl⟩ := so_2 h
      exact xiret C rfl dX9_takes_26
  · refine xiconst C (v := (nI 0)) dX9_takes_25 (by decide) ?_
    obtain ⟨rfl, rfl⟩ := so_2 h
    exact xiret C rfl dX9_takes_26
/-- HedgeChainsModel.workOf(I)I -/
theorem wX9_workOf_4 {r : Int32} (C : xC p s m args meth c cX9_workOf RX9 4 (some .int) D cy) (q0 : Nat) (x1 : Int32) (a0 : A9 kd NP q0) : ∀ (n : Nat) (x2 : Int32) (x3 : Int32) (G : Mem) (h : itr n (FX9_workOf_4 q0 x1) (x2, x3, G) = some (r, G')), xX p l e (xR 2 45) s m args below meth c A s.heap D cy ad kd NP 4 0 0 (xQi below D cy ad kd NP A args s r G') G 4 [(0, .ref (ad q0)), (1, .int x1), (2, .int x2), (3, .int x3)] [] := by
  intro n
  induction n with
  | zero =>
    intro x2 x3 G h
    have h : none = some (r, G') := h
    cases h
  | succ n ih =>
    intro x2 x3 G h
    have h : bX9_workOf_4 q0 x1 (itr n (FX9_workOf_4 q0 x1)) x2 x3 G = some (r, G') := h
    have hrec4 : ∀ (x2 : Int32) (x3 : Int32) (G : Mem), itr n (FX9_workOf_4 q0 x1) (x2, x3, G) = some (r, G') → xX p l e (xR 2 45) s m args below meth c A s.heap D cy ad kd NP 4 0 0 (xQi below D cy ad kd NP A args s r G') G 4 [(0, .ref (ad q0)), (1, .int x1), (2, .int x2), (3, .int x3)] [] := fun x2 x3 G h => ih x2 x3 G h
    unfold bX9_workOf_4 at h
    refine xiload_n C 3 rfl rfl dX9_workOf_4 ?_
    refine xaload_n C 0 rfl rfl dX9_workOf_5 ?_
    refine xg_9_s C a0.1 w_643 dX9_workOf_6 ?_
    refine xbipush C (v := (nI 12)) dX9_workOf_9 (by decide) ?_
    refine xiload_n C 1 rfl rfl dX9_workOf_11 ?_
    refine xiadd C dX9_workOf_12 ?_
    obtain ⟨hi13, h⟩ := ix_some h
    refine xia_14 C ((nI 12) + x1).toNatClampNeg rfl a0.2.1 hi13 dX9_workOf_13 ?_
    refine xicmp_ge C (tgt := 32) h (by decide) dX9_workOf_14 (fun h => ?_) (fun h => ?_)
    · refine xiload_n C 2 rfl rfl dX9_workOf_32 ?_
      obtain ⟨rfl, rfl⟩ := so_2 h
      exact xiret C rfl dX9_workOf_33
    · refine xiload_n C 2 rfl rfl dX9_workOf_17 ?_
      refine xaload_n C 0 rfl rfl dX9_workOf_18 ?_
      refine xiload_n C 1 rfl rfl dX9_workOf_19 ?_
      refine xiload_n C 3 rfl rfl dX9_workOf_20 ?_
      obtain ⟨r21, G21, hc21, h⟩ := bd_some h
      refine xVi C (As := [.int x1, .int x3]) (rest := [.int x2]) (kX9_takes a0 hc21) a0.1 rfl rfl w_835 mvX9_takes mwX9_takes rfl ⟨Nat.le_of_ble_eq_true rfl, Nat.le_of_ble_eq_true rfl⟩ ⟨Nat.le_refl _, Nat.le_refl _⟩ (Nat.le_of_ble_eq_true rfl) dX9_workOf_21 ?_
      refine xiadd C dX9_workOf_24 ?_
      refine xistore_n C (lv' := [(2, .int (x2 + r21)), (0, .ref (ad q0)), (1, .int x1), (3, .int x3)]) rfl (by decide) rfl dX9_workOf_25 ?_
      refine xiinc C (v := (x3 + nI 1)) (lv' := [(3, .int (x3 + nI 1)), (2, .int (x2 + r21)), (0, .ref (ad q0)), (1, .int x1)]) 3 rfl rfl (by decide) rfl dX9_workOf_26 ?_
      refine xgoto C (tgt := 4) (by decide) dX9_workOf_29 ?_
      refine xsub C (lv' := [(0, .ref (ad q0)), (1, .int x1), (2, .int (x2 + r21)), (3, .int (x3 + nI 1))]) [2, 3, 1, 0] rfl ?_
      exact hrec4 (x2 + r21) (x3 + nI 1) G21 h
theorem kX9_workOf {r : Int32}  {q0 : Nat} {x1 : Int32} (a0 : A9 kd NP q0) {G : Mem} (h : fX9_workOf q0 x1 G = some (r, G')) : xMi l D cy ad kd NP A yX9_workOf cX9_workOf 4 (some .int) 2 45 [.ref (ad q0), .int x1] G r G' := by
  refine xMi_of trivial (by decide +kernel) (Nat.le_of_ble_eq_true rfl) (fun p e s m args below meth c C => ?_)
  have C : xC p s m args meth c cX9_workOf RX9 4 (some .int) D cy := C
  refine xsub C (lv' := [(0, .ref (ad q0)), (1, .int x1)]) [0, 1] rfl ?_
  unfold fX9_workOf at h
  refine xiconst C (v := (nI 0)) dX9_workOf_0 (by decide) ?_
  refine xistore_n C (lv' := [(2, .int (nI 0)), (0, .ref (ad q0)), (1, .int x1)]) rfl (by decide) rfl dX9_workOf_1 ?_
  refine xiconst C (v := (nI 0)) dX9_workOf_2 (by decide) ?_
  refine xistore_n C (lv' := [(3, .int (nI 0)), (2, .int (nI 0)), (0, .ref (ad q0)), (1, .int x1)]) rfl (by decide) rfl dX9_workOf_3 ?_
  refine xsub C (lv' := [(0, .ref (ad q0)), (1, .int x1), (2, .int (nI 0)), (3, .int (nI 0))]) [2, 3, 1, 0] rfl ?_
  exact wX9_workOf_4 C q0 x1 a0 _ (nI 0) (nI 0) G h
/-- HedgeChainsModel.toLay(II)I -/
theorem wX9_toLay_53 {r : Int32} (C : xC p s m args meth c cX9_toLay RX9 5 (some .int) D cy) (q0 : Nat) (x1 : Int32) (x2 : Int32) (x4 : Int32) (y0 : Int32) (y1 : Int32) {rec23 : (Int32 × Int32 × Mem) → Option (Int32 × Mem)} (hrec23 : ∀ (x3 : Int32) (x4 : Int32) (G : Mem), rec23 (x3, x4, G) = some (r, G') → xX p l e (xR 3 68) s m args below meth c A s.heap D cy ad kd NP 5 0 0 (xQi below D cy ad kd NP A args s r G') G 23 [(0, .ref (ad q0)), (1, .int x1), (2, .int x2), (3, .int x3), (4, .int x4)] []) (G : Mem) (a0 : A9 kd NP q0) (h : jX9_toLay_53 rec23 q0 x1 x2 x4 y0 y1 G = some (r, G')) : xX p l e (xR 3 68) s m args below meth c A s.heap D cy ad kd NP 5 0 0 (xQi below D cy ad kd NP A args s r G') G 53 [(0, .ref (ad q0)), (1, .int x1), (2, .int x2), (4, .int x4)] [.int y0, .int y1] := by
  unfold jX9_toLay_53 at h
  refine xiadd C dX9_toLay_53 ?_
  refine xistore_n C (lv' := [(3, .int (y1 + y0)), (0, .ref (ad q0)), (1, .int x1), (2, .int x2), (4, .int x4)]) rfl (by decide) rfl dX9_toLay_54 ?_
  refine xiinc C (v := (x4 + nI 1)) (lv' := [(4, .int (x4 + nI 1)), (3, .int (y1 + y0)), (0, .ref (ad q0)), (1, .int x1), (2, .int x2)]) 4 rfl rfl (by decide) rfl dX9_toLay_55 ?_
  refine xgoto C (tgt := 23) (by decide) dX9_toLay_58 ?_
  refine xsub C (lv' := [(0, .ref (ad q0)), (1, .int x1), (2, .int x2), (3, .int (y1 + y0)), (4, .int (x4 + nI 1))]) [2, 3, 4, 1, 0] rfl ?_
  exact hrec23 (y1 + y0) (x4 + nI 1) G h
theorem wX9_toLay_23 {r : Int32} (C : xC p s m args meth c cX9_toLay RX9 5 (some .int) D cy) (q0 : Nat) (x1 : Int32) (x2 : Int32) (a0 : A9 kd NP q0) : ∀ (n : Nat) (x3 : Int32) (x4 : Int32) (G : Mem) (h : itr n (FX9_toLay_23 q0 x1 x2) (x3, x4, G) = some (r, G')), xX p l e (xR 3 68) s m args below meth c A s.heap D cy ad kd NP 5 0 0 (xQi below D cy ad kd NP A args s r G') G 23 [(0, .ref (ad q0)), (1, .int x1), (2, .int x2), (3, .int x3), (4, .int x4)] [] := by
  intro n
  induction n with
  | zero =>
    intro x3 x4 G h
    have h : none = some (r, G') := h
    cases h
  | succ n ih =>
    intro x3 x4 G h
    have h : bX9_toLay_23 q0 x1 x2 (itr n (FX9_toLay_23 q0 x1 x2)) x3 x4 G = some (r, G') := h
    have hrec23 : ∀ (x3 : Int32) (x4 : Int32) (G : Mem), itr n (FX9_toLay_23 q0 x1 x2) (x3, x4, G) = some (r, G') → xX p l e (xR 3 68) s m args below meth c A s.heap D cy ad kd NP 5 0 0 (xQi below D cy ad kd NP A args s r G') G 23 [(0, .ref (ad q0)), (1, .int x1), (2, .int x2), (3, .int x3), (4, .int x4)] [] := fun x3 x4 G h => ih x3 x4 G h
    unfold bX9_toLay_23 at h
    refine xiload C 4 rfl dX9_toLay_23 ?_
    refine xaload_n C 0 rfl rfl dX9_toLay_25 ?_
    refine xg_9_s C a0.1 w_643 dX9_toLay_26 ?_
    refine xbipush C (v := (nI 12)) dX9_toLay_29 (by decide) ?_
    refine xiload_n C 1 rfl rfl dX9_toLay_31 ?_
    refine xiadd C dX9_toLay_32 ?_
    obtain ⟨hi33, h⟩ := ix_some h
    refine xia_14 C ((nI 12) + x1).toNatClampNeg rfl a0.2.1 hi33 dX9_toLay_33 ?_
    refine xicmp_ge C (tgt := 61) h (by decide) dX9_toLay_34 (fun h => ?_) (fun h => ?_)
    · refine xiload_n C 2 rfl rfl dX9_toLay_61 ?_
      refine xif_ne C (tgt := 73) h (by decide) dX9_toLay_62 (fun h => ?_) (fun h => ?_)
      · refine xaload_n C 0 rfl rfl dX9_toLay_65 ?_
        refine xiload_n C 1 rfl rfl dX9_toLay_66 ?_
        obtain ⟨r67, G67, hc67, h⟩ := bd_some h
        refine xVi C (As := [.int x1]) (rest := []) (kX9_workOf a0 hc67) a0.1 rfl rfl w_839 mvX9_workOf mwX9_workOf rfl ⟨Nat.le_of_ble_eq_true rfl, Nat.le_of_ble_eq_true rfl⟩ ⟨Nat.le_refl _, Nat.le_refl _⟩ (Nat.le_of_ble_eq_true rfl) dX9_toLay_67 ?_
        refine xgoto C (tgt := 76) (by decide) dX9_toLay_70 ?_
        obtain ⟨rfl, rfl⟩ := so_2 h
        exact xiret C rfl dX9_toLay_76
      · refine xiconst C (v := (nI 2)) dX9_toLay_73 (by decide) ?_
        refine xiload_n C 3 rfl rfl dX9_toLay_74 ?_
        refine ximul C dX9_toLay_75 ?_
        obtain ⟨rfl, rfl⟩ := so_2 h
        exact xiret C rfl dX9_toLay_76
    · refine xiload_n C 3 rfl rfl dX9_toLay_37 ?_
      refine xaload_n C 0 rfl rfl dX9_toLay_38 ?_
      refine xiload_n C 1 rfl rfl dX9_toLay_39 ?_
      refine xiload C 4 rfl dX9_toLay_40 ?_
      obtain ⟨r42, G42, hc42, h⟩ := bd_some h
      refine xVi C (As := [.int x1, .int x4]) (rest := [.int x3]) (kX9_takes a0 hc42) a0.1 rfl rfl w_835 mvX9_takes mwX9_takes rfl ⟨Nat.le_of_ble_eq_true rfl, Nat.le_of_ble_eq_true rfl⟩ ⟨Nat.le_refl _, Nat.le_refl _⟩ (Nat.le_of_ble_eq_true rfl) dX9_toLay_42 ?_
      refine xif_le C (tgt := 52) h (by decide) dX9_toLay_45 (fun h => ?_) (fun h => ?_)
      · refine xiconst C (v := (nI 0)) dX9_toLay_52 (by decide) ?_
        refine xsub C (lv' := [(0, .ref (ad q0)), (1, .int x1), (2, .int x2), (4, .int x4)]) [0, 1, 2, 4] rfl ?_
        exact wX9_toLay_53 C q0 x1 x2 x4 (nI 0) x3 hrec23 G42 a0 h
      · refine xiconst C (v := (nI 1)) dX9_toLay_48 (by decide) ?_
        refine xgoto C (tgt := 53) (by decide) dX9_toLay_49 ?_
        refine xsub C (lv' := [(0, .ref (ad q0)), (1, .int x1), (2, .int x2), (4, .int x4)]) [0, 1, 2, 4] rfl ?_
        exact wX9_toLay_53 C q0 x1 x2 x4 (nI 1) x3 hrec23 G42 a0 h
theorem kX9_toLay {r : Int32}  {q0 : Nat} {x1 : Int32} {x2 : Int32} (a0 : A9 kd NP q0) {G : Mem} (h : fX9_toLay q0 x1 x2 G = some (r, G')) : xMi l D cy ad kd NP A yX9_toLay cX9_toLay 5 (some .int) 3 68 [.ref (ad q0), .int x1, .int x2] G r G' := by
  refine xMi_of trivial (by decide +kernel) (Nat.le_of_ble_eq_true rfl) (fun p e s m args below meth c C => ?_)
  have C : xC p s m args meth c cX9_toLay RX9 5 (some .int) D cy := C
  refine xsub C (lv' := [(0, .ref (ad q0)), (1, .int x1), (2, .int x2)]) [0, 1, 2] rfl ?_
  unfold fX9_toLay at h
  refine xiload_n C 1 rfl rfl dX9_toLay_0 ?_
  obtain ⟨r1, G1, hc1, h⟩ := bd_some h
  refine xSi C (As := [.int x1]) (rest := []) (kX9_isField hc1) w_685 w_686 mwX9_isField rfl ⟨Nat.le_of_ble_eq_true rfl, Nat.le_of_ble_eq_true rfl⟩ ⟨Nat.le_refl _, Nat.le_refl _⟩ (Nat.le_of_ble_eq_true rfl) dX9_toLay_1 ?_
  refine xif_eq C (tgt := 16) h (by decide) dX9_toLay_4 (fun h => ?_) (fun h => ?_)
  · refine xiconst C (v := (-1)) dX9_toLay_16 (by decide) ?_
    obtain ⟨rfl, rfl⟩ := so_2 h
    exact xiret C rfl dX9_toLay_17
  · refine xiload_n C 2 rfl rfl dX9_toLay_7 ?_
    refine xiconst C (v := (nI 0)) dX9_toLay_8 (by decide) ?_
    refine xiconst C (v := (nI 1)) dX9_toLay_9 (by decide) ?_
    obtain ⟨r10, G10, hc10, h⟩ := bd_some h
    refine xSi C (As := [.int x2, .int (nI 0), .int (nI 1)]) (rest := []) (kX9_in hc10) w_688 w_689 mwX9_in rfl ⟨Nat.le_of_ble_eq_true rfl, Nat.le_of_ble_eq_true rfl⟩ ⟨Nat.le_refl _, Nat.le_refl _⟩ (Nat.le_of_ble_eq_true rfl) dX9_toLay_10 ?_
    refine xif_ne C (tgt := 18) h (by decide) dX9_toLay_13 (fun h => ?_) (fun h => ?_)
    · refine xiconst C (v := (-1)) dX9_toLay_16 (by decide) ?_
      obtain ⟨rfl, rfl⟩ := so_2 h
      exact xiret C rfl dX9_toLay_17
    · refine xiconst C (v := (nI 0)) dX9_toLay_18 (by decide) ?_
      refine xistore_n C (lv' := [(3, .int (nI 0)), (0, .ref (ad q0)), (1, .int x1), (2, .int x2)]) rfl (by decide) rfl dX9_toLay_19 ?_
      refine xiconst C (v := (nI 0)) dX9_toLay_20 (by decide) ?_
      refine xistore C (lv' := [(4, .int (nI 0)), (3, .int (nI 0)), (0, .ref (ad q0)), (1, .int x1), (2, .int x2)]) (by decide) rfl dX9_toLay_21 ?_
      refine xsub C (lv' := [(0, .ref (ad q0)), (1, .int x1), (2, .int x2), (3, .int (nI 0)), (4, .int (nI 0))]) [2, 3, 4, 1, 0] rfl ?_
      exact wX9_toLay_23 C q0 x1 x2 a0 _ (nI 0) (nI 0) G10 h
/-- HedgeChainsModel.stakesIn(I)I -/
theorem wX9_stakesIn_34 {r : Int32} (C : xC p s m args meth c cX9_stakesIn RX9 5 (some .int) D cy) (q0 : Nat) (x1 : Int32) (x3 : Int32) {rec13 : (Int32 × Int32 × Mem) → Option (Int32 × Mem)} (hrec13 : ∀ (x2 : Int32) (x3 : Int32) (G : Mem), rec13 (x2, x3, G) = some (r, G') → xX p l e (xR 2 42) s m args below meth c A s.heap D cy ad kd NP 5 0 0 (xQi below D cy ad kd NP A args s r G') G 13 [(0, .ref (ad q0)), (1, .int x1), (2, .int x2), (3, .int x3)] []) (a0 : A9 kd NP q0) : ∀ (n : Nat) (x2 : Int32) (x4 : Int32) (G : Mem) (h : itr n (FX9_stakesIn_34 rec13 q0 x1 x3) (x2, x4, G) = some (r, G')), xX p l e (xR 2 42) s m args below meth c A s.heap D cy ad kd NP 5 0 0 (xQi below D cy ad kd NP A args s r G') G 34 [(0, .ref (ad q0)), (1, .int x1), (2, .int x2), (3, .int x3), (4, .int x4)] [] := by
  intro n
  induction n with
  | zero =>
    intro x2 x4 G h
    have h : none = some (r, G') := h
    cases h
  | succ n ih =>
    intro x2 x4 G h
    have h : bX9_stakesIn_34 rec13 q0 x1 x3 (itr n (FX9_stakesIn_34 rec13 q0 x1 x3)) x2 x4 G = some (r, G') := h
    have hrec34 : ∀ (x2 : Int32) (x4 : Int32) (G : Mem), itr n (FX9_stakesIn_34 rec13 q0 x1 x3) (x2, x4, G) = some (r, G') → xX p l e (xR 2 42) s m args below meth c A s.heap D cy ad kd NP 5 0 0 (xQi below D cy ad kd NP A args s r G') G 34 [(0, .ref (ad q0)), (1, .int x1), (2, .int x2), (3, .int x3), (4, .int x4)] [] := fun x2 x4 G h => ih x2 x4 G h
    unfold bX9_stakesIn_34 at h
    refine xaload_n C 0 rfl rfl dX9_stakesIn_34 ?_
    refine xiload_n C 1 rfl rfl dX9_stakesIn_35 ?_
    refine xiload_n C 3 rfl rfl dX9_stakesIn_36 ?_
    obtain ⟨r37, G37, hc37, h⟩ := bd_some h
    refine xVi C (As := [.int x1, .int x3]) (rest := []) (kX9_kindOf a0 hc37) a0.1 rfl rfl w_703 mvX9_kindOf mwX9_kindOf rfl ⟨Nat.le_of_ble_eq_true rfl, Nat.le_of_ble_eq_true rfl⟩ ⟨Nat.le_refl _, Nat.le_refl _⟩ (Nat.le_of_ble_eq_true rfl) dX9_stakesIn_37 ?_
    refine xif_ne C (tgt := 60) h (by decide) dX9_stakesIn_40 (fun h => ?_) (fun h => ?_)
    · refine xiload C 4 rfl dX9_stakesIn_43 ?_
      refine xiconst C (v := (nI 3)) dX9_stakesIn_45 (by decide) ?_
      refine xicmp_lt C (tgt := 60) h (by decide) dX9_stakesIn_46 (fun h => ?_) (fun h => ?_)
      · refine xiinc C (v := (x3 + nI 1)) (lv' := [(3, .int (x3 + nI 1)), (0, .ref (ad q0)), (1, .int x1), (2, .int x2), (4, .int x4)]) 3 rfl rfl (by decide) rfl dX9_stakesIn_60 ?_
        refine xgoto C (tgt := 13) (by decide) dX9_stakesIn_63 ?_
        refine xsub C (lv' := [(0, .ref (ad q0)), (1, .int x1), (2, .int x2), (3, .int (x3 + nI 1))]) [1, 2, 3, 0] rfl ?_
        exact hrec13 x2 (x3 + nI 1) G37 h
      · refine xiload_n C 2 rfl rfl dX9_stakesIn_49 ?_
        refine xiload C 4 rfl dX9_stakesIn_50 ?_
        refine xiadd C dX9_stakesIn_52 ?_
        refine xistore_n C (lv' := [(2, .int (x2 + x4)), (0, .ref (ad q0)), (1, .int x1), (3, .int x3), (4, .int x4)]) rfl (by decide) rfl dX9_stakesIn_53 ?_
        refine xiinc C (v := (x4 + Int32.ofInt (-2))) (lv' := [(4, .int (x4 + Int32.ofInt (-2))), (2, .int (x2 + x4)), (0, .ref (ad q0)), (1, .int x1), (3, .int x3)]) 4 rfl rfl (by decide) rfl dX9_stakesIn_54 ?_
        refine xgoto C (tgt := 34) (by decide) dX9_stakesIn_57 ?_
        refine xsub C (lv' := [(0, .ref (ad q0)), (1, .int x1), (2, .int (x2 + x4)), (3, .int x3), (4, .int (x4 + Int32.ofInt (-2)))]) [2, 3, 1, 4, 0] rfl ?_
        exact hrec34 (x2 + x4) (x4 + Int32.ofInt (-2)) G37 h
    · refine xiinc C (v := (x3 + nI 1)) (lv' := [(3, .int (x3 + nI 1)), (0, .ref (ad q0)), (1, .int x1), (2, .int x2), (4, .int x4)]) 3 rfl rfl (by decide) rfl dX9_stakesIn_60 ?_
      refine xgoto C (tgt := 13) (by decide) dX9_stakesIn_63 ?_
      refine xsub C (lv' := [(0, .ref (ad q0)), (1, .int x1), (2, .int x2), (3, .int (x3 + nI 1))]) [1, 2, 3, 0] rfl ?_
      exact hrec13 x2 (x3 + nI 1) G37 h
theorem wX9_stakesIn_13 {r : Int32} (C : xC p s m args meth c cX9_stakesIn RX9 5 (some .int) D cy) (q0 : Nat) (x1 : Int32) (a0 : A9 kd NP q0) : ∀ (n : Nat) (x2 : Int32) (x3 : Int32) (G : Mem) (h : itr n (FX9_stakesIn_13 q0 x1) (x2, x3, G) = some (r, G')), xX p l e (xR 2 42) s m args below meth c A s.heap D cy ad kd NP 5 0 0 (xQi below D cy ad kd NP A args s r G') G 13 [(0, .ref (ad q0)), (1, .int x1), (2, .int x2), (3, .int x3)] [] := by
  intro n
  induction n with
  | zero =>
    intro x2 x3 G h
    have h : none = some (r, G') := h
    cases h
  | succ n ih =>
    intro x2 x3 G h
    have h : bX9_stakesIn_13 q0 x1 (itr n (FX9_stakesIn_13 q0 x1)) x2 x3 G = some (r, G') := h
    have hrec13 : ∀ (x2 : Int32) (x3 : Int32) (G : Mem), itr n (FX9_stakesIn_13 q0 x1) (x2, x3, G) = some (r, G') → xX p l e (xR 2 42) s m args below meth c A s.heap D cy ad kd NP 5 0 0 (xQi below D cy ad kd NP A args s r G') G 13 [(0, .ref (ad q0)), (1, .int x1), (2, .int x2), (3, .int x3)] [] := fun x2 x3 G h => ih x2 x3 G h
    unfold bX9_stakesIn_13 at h
    refine xiload_n C 3 rfl rfl dX9_stakesIn_13 ?_
    refine xaload_n C 0 rfl rfl dX9_stakesIn_14 ?_
    refine xg_9_s C a0.1 w_643 dX9_stakesIn_15 ?_
    refine xbipush C (v := (nI 12)) dX9_stakesIn_18 (by decide) ?_
    refine xiload_n C 1 rfl rfl dX9_stakesIn_20 ?_
    refine xiadd C dX9_stakesIn_21 ?_
    obtain ⟨hi22, h⟩ := ix_some h
    refine xia_14 C ((nI 12) + x1).toNatClampNeg rfl a0.2.1 hi22 dX9_stakesIn_22 ?_
    refine xicmp_ge C (tgt := 66) h (by decide) dX9_stakesIn_23 (fun h => ?_) (fun h => ?_)
    · refine xiload_n C 2 rfl rfl dX9_stakesIn_66 ?_
      obtain ⟨rfl, rfl⟩ := so_2 h
      exact xiret C rfl dX9_stakesIn_67
    · refine xaload_n C 0 rfl rfl dX9_stakesIn_26 ?_
      refine xiload_n C 1 rfl rfl dX9_stakesIn_27 ?_
      refine xiload_n C 3 rfl rfl dX9_stakesIn_28 ?_
      obtain ⟨r29, G29, hc29, h⟩ := bd_some h
      refine xVi C (As := [.int x1, .int x3]) (rest := []) (kX9_thickness a0 hc29) a0.1 rfl rfl w_699 mvX9_thickness mwX9_thickness rfl ⟨Nat.le_of_ble_eq_true rfl, Nat.le_of_ble_eq_true rfl⟩ ⟨Nat.le_refl _, Nat.le_refl _⟩ (Nat.le_of_ble_eq_true rfl) dX9_stakesIn_29 ?_
      refine xistore C (lv' := [(4, .int r29), (0, .ref (ad q0)), (1, .int x1), (2, .int x2), (3, .int x3)]) (by decide) rfl dX9_stakesIn_32 ?_
      refine xsub C (lv' := [(0, .ref (ad q0)), (1, .int x1), (2, .int x2), (3, .int x3), (4, .int r29)]) [1, 2, 3, 4, 0] rfl ?_
      exact wX9_stakesIn_34 C q0 x1 x3 hrec13 a0 _ x2 r29 G29 h
theorem kX9_stakesIn {r : Int32}  {q0 : Nat} {x1 : Int32} (a0 : A9 kd NP q0) {G : Mem} (h : fX9_stakesIn q0 x1 G = some (r, G')) : xMi l D cy ad kd NP A yX9_stakesIn cX9_stakesIn 5 (some .int) 2 42 [.ref (ad q0), .int x1] G r G' := by
  refine xMi_of trivial (by decide +kernel) (Nat.le_of_ble_eq_true rfl) (fun p e s m args below meth c C => ?_)
  have C : xC p s m args meth c cX9_stakesIn RX9 5 (some .int) D cy := C
  refine xsub C (lv' := [(0, .ref (ad q0)), (1, .int x1)]) [0, 1] rfl ?_
  unfold fX9_stakesIn at h
  refine xiload_n C 1 rfl rfl dX9_stakesIn_0 ?_
  obtain ⟨r1, G1, hc1, h⟩ := bd_some h
  refine xSi C (As := [.int x1]) (rest := []) (kX9_isField hc1) w_685 w_686 mwX9_isField rfl ⟨Nat.le_of_ble_eq_true rfl, Nat.le_of_ble_eq_true rfl⟩ ⟨Nat.le_refl _, Nat.le_refl _⟩ (Nat.le_of_ble_eq_true rfl) dX9_stakesIn_1 ?_
  refine xif_ne C (tgt := 9) h (by decide) dX9_stakesIn_4 (fun h => ?_) (fun h => ?_)
  · refine xiconst C (v := (-1)) dX9_stakesIn_7 (by decide) ?_
    obtain ⟨rfl, rfl⟩ := so_2 h
    exact xiret C rfl dX9_stakesIn_8
  · refine xiconst C (v := (nI 0)) dX9_stakesIn_9 (by decide) ?_
    refine xistore_n C (lv' := [(2, .int (nI 0)), (0, .ref (ad q0)), (1, .int x1)]) rfl (by decide) rfl dX9_stakesIn_10 ?_
    refine xiconst C (v := (nI 0)) dX9_stakesIn_11 (by decide) ?_
    refine xistore_n C (lv' := [(3, .int (nI 0)), (2, .int (nI 0)), (0, .ref (ad q0)), (1, .int x1)]) rfl (by decide) rfl dX9_stakesIn_12 ?_
    refine xsub C (lv' := [(0, .ref (ad q0)), (1, .int x1), (2, .int (nI 0)), (3, .int (nI 0))]) [2, 3, 1, 0] rfl ?_
    exact wX9_stakesIn_13 C q0 x1 a0 _ (nI 0) (nI 0) G1 h
/-- HedgeChainsModel.doneIn(I)I -/
theorem wX9_doneIn_122 {r : Int32} (C : xC p s m args meth c cX9_doneIn RX9 6 (some .int) D cy) (q0 : Nat) (x1 : Int32) (x2 : Int32) (x3 : Int32) (x4 : Int32) (x5 : Int32) {rec38 : (Int32 × Int32 × Int32 × Mem) → Option (Int32 × Mem)} (hrec38 : ∀ (x2 : Int32) (x3 : Int32) (x4 : Int32) (G : Mem), rec38 (x2, x3, x4, G) = some (r, G') → xX p l e (xR 2 45) s m args below meth c A s.heap D cy ad kd NP 6 0 0 (xQi below D cy ad kd NP A args s r G') G 38 [(0, .ref (ad q0)), (1, .int x1), (2, .int x2), (3, .int x3), (4, .int x4)] []) (G : Mem) (a0 : A9 kd NP q0) (h : jX9_doneIn_122 rec38 q0 x1 x2 x3 x4 x5 G = some (r, G')) : xX p l e (xR 2 45) s m args below meth c A s.heap D cy ad kd NP 6 0 0 (xQi below D cy ad kd NP A args s r G') G 122 [(0, .ref (ad q0)), (1, .int x1), (2, .int x2), (3, .int x3), (4, .int x4), (5, .int x5)] [] := by
  unfold jX9_doneIn_122 at h
  refine xiload_n C 3 rfl rfl dX9_doneIn_122 ?_
  refine xiload C 5 rfl dX9_doneIn_123 ?_
  refine xisub C dX9_doneIn_125 ?_
  refine xistore_n C (lv' := [(3, .int (x3 - x5)), (0, .ref (ad q0)), (1, .int x1), (2, .int x2), (4, .int x4), (5, .int x5)]) rfl (by decide) rfl dX9_doneIn_126 ?_
  refine xiinc C (v := (x4 + nI 1)) (lv' := [(4, .int (x4 + nI 1)), (3, .int (x3 - x5)), (0, .ref (ad q0)), (1, .int x1), (2, .int x2), (5, .int x5)]) 4 rfl rfl (by decide) rfl dX9_doneIn_127 ?_
  refine xgoto C (tgt := 38) (by decide) dX9_doneIn_130 ?_
  refine xsub C (lv' := [(0, .ref (ad q0)), (1, .int x1), (2, .int x2), (3, .int (x3 - x5)), (4, .int (x4 + nI 1))]) [2, 3, 4, 1, 0] rfl ?_
  exact hrec38 x2 (x3 - x5) (x4 + nI 1) G h
theorem wX9_doneIn_76 {r : Int32} (C : xC p s m args meth c cX9_doneIn RX9 6 (some .int) D cy) (q0 : Nat) (x1 : Int32) (x4 : Int32) (x5 : Int32) {rec38 : (Int32 × Int32 × Int32 × Mem) → Option (Int32 × Mem)} (hrec38 : ∀ (x2 : Int32) (x3 : Int32) (x4 : Int32) (G : Mem), rec38 (x2, x3, x4, G) = some (r, G') → xX p l e (xR 2 45) s m args below meth c A s.heap D cy ad kd NP 6 0 0 (xQi below D cy ad kd NP A args s r G') G 38 [(0, .ref (ad q0)), (1, .int x1), (2, .int x2), (3, .int x3), (4, .int x4)] []) (a0 : A9 kd NP q0) : ∀ (n : Nat) (x2 : Int32) (x3 : Int32) (G : Mem) (h : itr n (FX9_doneIn_76 rec38 q0 x1 x4 x5) (x2, x3, G) = some (r, G')), xX p l e (xR 2 45) s m args below meth c A s.heap D cy ad kd NP 6 0 0 (xQi below D cy ad kd NP A args s r G') G 76 [(0, .ref (ad q0)), (1, .int x1), (2, .int x2), (3, .int x3), (4, .int x4), (5, .int x5)] [] := by
  intro n
  induction n with
  | zero =>
    intro x2 x3 G h
    have h : none = some (r, G') := h
    cases h
  | succ n ih =>
    intro x2 x3 G h
    have h : bX9_doneIn_76 rec38 q0 x1 x4 x5 (itr n (FX9_doneIn_76 rec38 q0 x1 x4 x5)) x2 x3 G = some (r, G') := h
    have hrec76 : ∀ (x2 : Int32) (x3 : Int32) (G : Mem), itr n (FX9_doneIn_76 rec38 q0 x1 x4 x5) (x2, x3, G) = some (r, G') → xX p l e (xR 2 45) s m args below meth c A s.heap D cy ad kd NP 6 0 0 (xQi below D cy ad kd NP A args s r G') G 76 [(0, .ref (ad q0)), (1, .int x1), (2, .int x2), (3, .int x3), (4, .int x4), (5, .int x5)] [] := fun x2 x3 G h => ih x2 x3 G h
    unfold bX9_doneIn_76 at h
    refine xiload C 5 rfl dX9_doneIn_76 ?_
    refine xiload_n C 3 rfl rfl dX9_doneIn_78 ?_
    refine xicmp_le C (tgt := 122) h (by decide) dX9_doneIn_79 (fun h => ?_) (fun h => ?_)
    · exact wX9_doneIn_122 C q0 x1 x2 x3 x4 x5 hrec38 G a0 h
    · refine xiload_n C 2 rfl rfl dX9_doneIn_82 ?_
      refine xsipush C (v := (nI 200)) dX9_doneIn_83 (by decide) ?_
      refine xicmp_gt C (tgt := 122) h (by decide) dX9_doneIn_86 (fun h => ?_) (fun h => ?_)
      · exact wX9_doneIn_122 C q0 x1 x2 x3 x4 x5 hrec38 G a0 h
      · refine xiinc C (v := (x2 + nI 1)) (lv' := [(2, .int (x2 + nI 1)), (0, .ref (ad q0)), (1, .int x1), (3, .int x3), (4, .int x4), (5, .int x5)]) 2 rfl rfl (by decide) rfl dX9_doneIn_89 ?_
        refine xaload_n C 1 rfl rfl dX9_doneIn_92 ?_
        refine xaload_n C 1 rfl rfl dX9_doneIn_93 ?_
        refine xg_9_s C a0.1 w_643 dX9_doneIn_94 ?_
        refine xiconst C (v := (nI 0)) dX9_doneIn_97 (by decide) ?_
        refine xia_14 C 0 (by decide) a0.2.1 (xvi (by decide)) dX9_doneIn_98 ?_
        refine xiload_n C 0 rfl rfl dX9_doneIn_99 ?_
        refine xiadd C dX9_doneIn_100 ?_
        obtain ⟨r101, G101, hc101, h⟩ := bd_some h
        refine xVi C (As := [.int ((G (q0 + 1) 0) + (x2 + nI 1))]) (rest := []) (kX9_isClosed a0 hc101) a0.1 rfl rfl w_691 mvX9_isClosed mwX9_isClosed rfl ⟨Nat.le_of_ble_eq_true rfl, Nat.le_of_ble_eq_true rfl⟩ ⟨Nat.le_refl _, Nat.le_refl _⟩ (Nat.le_of_ble_eq_true rfl) dX9_doneIn_101 ?_
        refine xif_eq C (tgt := 111) h (by decide) dX9_doneIn_104 (fun h => ?_) (fun h => ?_)
        · refine xaload_n C 1 rfl rfl dX9_doneIn_111 ?_
          refine xg_9_s C a0.1 w_643 dX9_doneIn_112 ?_
          refine xbipush C (v := (nI 11)) dX9_doneIn_115 (by decide) ?_
          refine xia_14 C 11 (by decide) a0.2.1 (xvi (by decide)) dX9_doneIn_117 ?_
          refine xistore_n C (lv' := [(3, .int (G101 (q0 + 1) 11)), (2, .int (x2 + nI 1)), (0, .ref (ad q0)), (1, .int x1), (4, .int x4), (5, .int x5)]) rfl (by decide) rfl dX9_doneIn_118 ?_
          refine xgoto C (tgt := 76) (by decide) dX9_doneIn_119 ?_
          refine xsub C (lv' := [(0, .ref (ad q0)), (1, .int x1), (2, .int (x2 + nI 1)), (3, .int (G101 (q0 + 1) 11)), (4, .int x4), (5, .int x5)]) [2, 3, 1, 0, 4, 5] rfl ?_
          exact hrec76 (x2 + nI 1) (G101 (q0 + 1) 11) G101 h
        · refine xiconst C (v := (nI 0)) dX9_doneIn_107 (by decide) ?_
          refine xgoto C (tgt := 118) (by decide) dX9_doneIn_108 ?_
          refine xistore_n C (lv' := [(3, .int (nI 0)), (2, .int (x2 + nI 1)), (0, .ref (ad q0)), (1, .int x1), (4, .int x4), (5, .int x5)]) rfl (by decide) rfl dX9_doneIn_118 ?_
          refine xgoto C (tgt := 76) (by decide) dX9_doneIn_119 ?_
          refine xsub C (lv' := [(0, .ref (ad q0)), (1, .int x1), (2, .int (x2 + nI 1)), (3, .int (nI 0)), (4, .int x4), (5, .int x5)]) [2, 3, 1, 0, 4, 5] rfl ?_
          exact hrec76 (x2 + nI 1) (nI 0) G101 h
theorem wX9_doneIn_38 {r : Int32} (C : xC p s m args meth c cX9_doneIn RX9 6 (some .int) D cy) (q0 : Nat) (x1 : Int32) (a0 : A9 kd NP q0) : ∀ (n : Nat) (x2 : Int32) (x3 : Int32) (x4 : Int32) (G : Mem) (h : itr n (FX9_doneIn_38 q0 x1) (x2, x3, x4, G) = some (r, G')), xX p l e (xR 2 45) s m args below meth c A s.heap D cy ad kd NP 6 0 0 (xQi below D cy ad kd NP A args s r G') G 38 [(0, .ref (ad q0)), (1, .int x1), (2, .int x2), (3, .int x3), (4, .int x4)] [] := by
  intro n
  induction n with
  | zero =>
    intro x2 x3 x4 G h
    have h : none = some (r, G') := h
    cases h
  | succ n ih =>
    intro x2 x3 x4 G h
    have h : bX9_doneIn_38 q0 x1 (itr n (FX9_doneIn_38 q0 x1)) x2 x3 x4 G = some (r, G') := h
    have hrec38 : ∀ (x2 : Int32) (x3 : Int32) (x4 : Int32) (G : Mem), itr n (FX9_doneIn_38 q0 x1) (x2, x3, x4, G) = some (r, G') → xX p l e (xR 2 45) s m args below meth c A s.heap D cy ad kd NP 6 0 0 (xQi below D cy ad kd NP A args s r G') G 38 [(0, .ref (ad q0)), (1, .int x1), (2, .int x2), (3, .int x3), (4, .int x4)] [] := fun x2 x3 x4 G h => ih x2 x3 x4 G h
    unfold bX9_doneIn_38 at h
    refine xiload C 4 rfl dX9_doneIn_38 ?_
    refine xaload_n C 0 rfl rfl dX9_doneIn_40 ?_
    refine xg_9_s C a0.1 w_643 dX9_doneIn_41 ?_
    refine xbipush C (v := (nI 12)) dX9_doneIn_44 (by decide) ?_
    refine xiload_n C 1 rfl rfl dX9_doneIn_46 ?_
    refine xiadd C dX9_doneIn_47 ?_
    obtain ⟨hi48, h⟩ := ix_some h
    refine xia_14 C ((nI 12) + x1).toNatClampNeg rfl a0.2.1 hi48 dX9_doneIn_48 ?_
    refine xicmp_ge C (tgt := 133) h (by decide) dX9_doneIn_49 (fun h => ?_) (fun h => ?_)
    · refine xiload_n C 2 rfl rfl dX9_doneIn_133 ?_
      refine xsipush C (v := (nI 200)) dX9_doneIn_134 (by decide) ?_
      refine xicmp_le C (tgt := 145) h (by decide) dX9_doneIn_137 (fun h => ?_) (fun h => ?_)
      · refine xiload_n C 2 rfl rfl dX9_doneIn_145 ?_
        obtain ⟨rfl, rfl⟩ := so_2 h
        exact xiret C rfl dX9_doneIn_146
      · refine xbipush C (v := (-9)) dX9_doneIn_140 (by decide) ?_
        refine xgoto C (tgt := 146) (by decide) dX9_doneIn_142 ?_
        obtain ⟨rfl, rfl⟩ := so_2 h
        exact xiret C rfl dX9_doneIn_146
    · refine xaload_n C 0 rfl rfl dX9_doneIn_52 ?_
      refine xiload_n C 1 rfl rfl dX9_doneIn_53 ?_
      refine xiload C 4 rfl dX9_doneIn_54 ?_
      obtain ⟨r56, G56, hc56, h⟩ := bd_some h
      refine xVi C (As := [.int x1, .int x4]) (rest := []) (kX9_takes a0 hc56) a0.1 rfl rfl w_835 mvX9_takes mwX9_takes rfl ⟨Nat.le_of_ble_eq_true rfl, Nat.le_of_ble_eq_true rfl⟩ ⟨Nat.le_refl _, Nat.le_refl _⟩ (Nat.le_of_ble_eq_true rfl) dX9_doneIn_56 ?_
      refine xistore C (lv' := [(5, .int r56), (0, .ref (ad q0)), (1, .int x1), (2, .int x2), (3, .int x3), (4, .int x4)]) (by decide) rfl dX9_doneIn_59 ?_
      refine xiload C 0 rfl dX9_doneIn_61 ?_
      refine xaload_n C 1 rfl rfl dX9_doneIn_63 ?_
      refine xg_9_s C a0.1 w_643 dX9_doneIn_64 ?_
      refine xbipush C (v := (nI 11)) dX9_doneIn_67 (by decide) ?_
      refine xia_14 C 11 (by decide) a0.2.1 (xvi (by decide)) dX9_doneIn_69 ?_
      refine xicmp_le C (tgt := 76) h (by decide) dX9_doneIn_70 (fun h => ?_) (fun h => ?_)
      · refine xsub C (lv' := [(0, .ref (ad q0)), (1, .int x1), (2, .int x2), (3, .int x3), (4, .int x4), (5, .int r56)]) [1, 2, 3, 4, 5, 0] rfl ?_
        exact wX9_doneIn_76 C q0 x1 x4 r56 hrec38 a0 _ x2 x3 G56 h
      · refine xbipush C (v := (-9)) dX9_doneIn_73 (by decide) ?_
        obtain ⟨rfl, rfl⟩ := so_2 h
        exact xiret C rfl dX9_doneIn_75
theorem kX9_doneIn {r : Int32}  {q0 : Nat} {x1 : Int32} (a0 : A9 kd NP q0) {G : Mem} (h : fX9_doneIn q0 x1 G = some (r, G')) : xMi l D cy ad kd NP A yX9_doneIn cX9_doneIn 6 (some .int) 2 45 [.ref (ad q0), .int x1] G r G' := by
  refine xMi_of trivial (by decide +kernel) (Nat.le_of_ble_eq_true rfl) (fun p e s m args below meth c C => ?_)
  have C : xC p s m args meth c cX9_doneIn RX9 6 (some .int) D cy := C
  refine xsub C (lv' := [(0, .ref (ad q0)), (1, .int x1)]) [0, 1] rfl ?_
  unfold fX9_doneIn at h
  refine xiload_n C 1 rfl rfl dX9_doneIn_0 ?_
  obtain ⟨r1, G1, hc1, h⟩ := bd_some h
  refine xSi C (As := [.int x1]) (rest := []) (kX9_isField hc1) w_685 w_686 mwX9_isField rfl ⟨Nat.le_of_ble_eq_true rfl, Nat.le_of_ble_eq_true rfl⟩ ⟨Nat.le_refl _, Nat.le_refl _⟩ (Nat.le_of_ble_eq_true rfl) dX9_doneIn_1 ?_
  refine xif_ne C (tgt := 9) h (by decide) dX9_doneIn_4 (fun h => ?_) (fun h => ?_)
  · refine xiconst C (v := (-1)) dX9_doneIn_7 (by decide) ?_
    obtain ⟨rfl, rfl⟩ := so_2 h
    exact xiret C rfl dX9_doneIn_8
  · refine xiconst C (v := (nI 0)) dX9_doneIn_9 (by decide) ?_
    refine xistore_n C (lv' := [(2, .int (nI 0)), (0, .ref (ad q0)), (1, .int x1)]) rfl (by decide) rfl dX9_doneIn_10 ?_
    refine xaload_n C 1 rfl rfl dX9_doneIn_11 ?_
    refine xaload_n C 1 rfl rfl dX9_doneIn_12 ?_
    refine xg_9_s C a0.1 w_643 dX9_doneIn_13 ?_
    refine xiconst C (v := (nI 0)) dX9_doneIn_16 (by decide) ?_
    refine xia_14 C 0 (by decide) a0.2.1 (xvi (by decide)) dX9_doneIn_17 ?_
    obtain ⟨r18, G18, hc18, h⟩ := bd_some h
    refine xVi C (As := [.int (G1 (q0 + 1) 0)]) (rest := []) (kX9_isClosed a0 hc18) a0.1 rfl rfl w_691 mvX9_isClosed mwX9_isClosed rfl ⟨Nat.le_of_ble_eq_true rfl, Nat.le_of_ble_eq_true rfl⟩ ⟨Nat.le_refl _, Nat.le_refl _⟩ (Nat.le_of_ble_eq_true rfl) dX9_doneIn_18 ?_
    refine xif_eq C (tgt := 28) h (by decide) dX9_doneIn_21 (fun h => ?_) (fun h => ?_)
    · refine xaload_n C 1 rfl rfl dX9_doneIn_28 ?_
      refine xg_9_s C a0.1 w_643 dX9_doneIn_29 ?_
      refine xiconst C (v := (nI 1)) dX9_doneIn_32 (by decide) ?_
      refine xia_14 C 1 (by decide) a0.2.1 (xvi (by decide)) dX9_doneIn_33 ?_
      refine xistore_n C (lv' := [(3, .int (G18 (q0 + 1) 1)), (2, .int (nI 0)), (0, .ref (ad q0)), (1, .int x1)]) rfl (by decide) rfl dX9_doneIn_34 ?_
      refine xiconst C (v := (nI 0)) dX9_doneIn_35 (by decide) ?_
      refine xistore C (lv' := [(4, .int (nI 0)), (3, .int (G18 (q0 + 1) 1)), (2, .int (nI 0)), (0, .ref (ad q0)), (1, .int x1)]) (by decide) rfl dX9_doneIn_36 ?_
      refine xsub C (lv' := [(0, .ref (ad q0)), (1, .int x1), (2, .int (nI 0)), (3, .int (G18 (q0 + 1) 1)), (4, .int (nI 0))]) [3, 4, 2, 1, 0] rfl ?_
      exact wX9_doneIn_38 C q0 x1 a0 _ (nI 0) (G18 (q0 + 1) 1) (nI 0) G18 h
    · refine xiconst C (v := (nI 0)) dX9_doneIn_24 (by decide) ?_
      refine xgoto C (tgt := 34) (by decide) dX9_doneIn_25 ?_
      refine xistore_n C (lv' := [(3, .int (nI 0)), (2, .int (nI 0)), (0, .ref (ad q0)), (1, .int x1)]) rfl (by decide) rfl dX9_doneIn_34 ?_
      refine xiconst C (v := (nI 0)) dX9_doneIn_35 (by decide) ?_
      refine xistore C (lv' := [(4, .int (nI 0)), (3, .int (nI 0)), (2, .int (nI 0)), (0, .ref (ad q0)), (1, .int x1)]) (by decide) rfl dX9_doneIn_36 ?_
      refine xsub C (lv' := [(0, .ref (ad q0)), (1, .int x1), (2, .int (nI 0)), (3, .int (nI 0)), (4, .int (nI 0))]) [3, 4, 2, 1, 0] rfl ?_
      exact wX9_doneIn_38 C q0 x1 a0 _ (nI 0) (nI 0) (nI 0) G18 h
/-- HedgeChainsModel.weeksOf(I)I -/
theorem kX9_weeksOf {r : Int32}  {q0 : Nat} {x1 : Int32} (a0 : A9 kd NP q0) {G : Mem} (h : fX9_weeksOf q0 x1 G = some (r, G')) : xMi l D cy ad kd NP A yX9_weeksOf cX9_weeksOf 2 (some .int) 3 68 [.ref (ad q0), .int x1] G r G' := by
  refine xMi_of trivial (by decide +kernel) (Nat.le_of_ble_eq_true rfl) (fun p e s m args below meth c C => ?_)
  have C : xC p s m args meth c cX9_weeksOf RX9 2 (some .int) D cy := C
  refine xsub C (lv' := [(0, .ref (ad q0)), (1, .int x1)]) [0, 1] rfl ?_
  unfold fX9_weeksOf at h
  refine xaload_n C 0 rfl rfl dX9_weeksOf_0 ?_
  refine xiload_n C 1 rfl rfl dX9_weeksOf_1 ?_
  obtain ⟨r2, G2, hc2, h⟩ := bd_some h
  refine xVi C (As := [.int x1]) (rest := []) (kX9_workOf a0 hc2) a0.1 rfl rfl w_839 mvX9_workOf mwX9_workOf rfl ⟨Nat.le_of_ble_eq_true rfl, Nat.le_of_ble_eq_true rfl⟩ ⟨Nat.le_refl _, Nat.le_refl _⟩ (Nat.le_of_ble_eq_true rfl) dX9_weeksOf_2 ?_
  refine xaload_n C 0 rfl rfl dX9_weeksOf_5 ?_
  refine xg_9_s C a0.1 w_643 dX9_weeksOf_6 ?_
  refine xbipush C (v := (nI 11)) dX9_weeksOf_9 (by decide) ?_
  refine xia_14 C 11 (by decide) a0.2.1 (xvi (by decide)) dX9_weeksOf_11 ?_
  refine xiadd C dX9_weeksOf_12 ?_
  refine xiconst C (v := (nI 1)) dX9_weeksOf_13 (by decide) ?_
  refine xisub C dX9_weeksOf_14 ?_
  refine xaload_n C 0 rfl rfl dX9_weeksOf_15 ?_
  refine xg_9_s C a0.1 w_643 dX9_weeksOf_16 ?_
  refine xbipush C (v := (nI 11)) dX9_weeksOf_19 (by decide) ?_
  refine xia_14 C 11 (by decide) a0.2.1 (xvi (by decide)) dX9_weeksOf_21 ?_
  obtain ⟨hn22, h⟩ := nz_some h
  refine xidiv C dX9_weeksOf_22 hn22 ?_
  obtain ⟨rfl, rfl⟩ := so_2 h
  exact xiret C rfl dX9_weeksOf_23
/-- HedgeChainsModel.costs(II)I -/
theorem wX9_costs_38 {r : Int32} (C : xC p s m args meth c cX9_costs RX9 5 (some .int) D cy) (q0 : Nat) (x1 : Int32) (x2 : Int32) (x4 : Int32) (y0 : Int32) (y1 : Int32) {rec10 : (Int32 × Int32 × Mem) → Option (Int32 × Mem)} (hrec10 : ∀ (x3 : Int32) (x4 : Int32) (G : Mem), rec10 (x3, x4, G) = some (r, G') → xX p l e (xR 4 89) s m args below meth c A s.heap D cy ad kd NP 5 0 0 (xQi below D cy ad kd NP A args s r G') G 10 [(0, .ref (ad q0)), (1, .int x1), (2, .int x2), (3, .int x3), (4, .int x4)] []) (G : Mem) (a0 : A9 kd NP q0) (h : jX9_costs_38 rec10 q0 x1 x2 x4 y0 y1 G = some (r, G')) : xX p l e (xR 4 89) s m args below meth c A s.heap D cy ad kd NP 5 0 0 (xQi below D cy ad kd NP A args s r G') G 38 [(0, .ref (ad q0)), (1, .int x1), (2, .int x2), (4, .int x4)] [.int y0, .int y1] := by
  unfold jX9_costs_38 at h
  refine xiadd C dX9_costs_38 ?_
  refine xistore_n C (lv' := [(3, .int (y1 + y0)), (0, .ref (ad q0)), (1, .int x1), (2, .int x2), (4, .int x4)]) rfl (by decide) rfl dX9_costs_39 ?_
  refine xiinc C (v := (x4 + nI 1)) (lv' := [(4, .int (x4 + nI 1)), (3, .int (y1 + y0)), (0, .ref (ad q0)), (1, .int x1), (2, .int x2)]) 4 rfl rfl (by decide) rfl dX9_costs_40 ?_
  refine xgoto C (tgt := 10) (by decide) dX9_costs_43 ?_
  refine xsub C (lv' := [(0, .ref (ad q0)), (1, .int x1), (2, .int x2), (3, .int (y1 + y0)), (4, .int (x4 + nI 1))]) [2, 3, 4, 1, 0] rfl ?_
  exact hrec10 (y1 + y0) (x4 + nI 1) G h
theorem wX9_costs_10 {r : Int32} (C : xC p s m args meth c cX9_costs RX9 5 (some .int) D cy) (q0 : Nat) (x1 : Int32) (x2 : Int32) (a0 : A9 kd NP q0) : ∀ (n : Nat) (x3 : Int32) (x4 : Int32) (G : Mem) (h : itr n (FX9_costs_10 q0 x1 x2) (x3, x4, G) = some (r, G')), xX p l e (xR 4 89) s m args below meth c A s.heap D cy ad kd NP 5 0 0 (xQi below D cy ad kd NP A args s r G') G 10 [(0, .ref (ad q0)), (1, .int x1), (2, .int x2), (3, .int x3), (4, .int x4)] [] := by
  intro n
  induction n with
  | zero =>
    intro x3 x4 G h
    have h : none = some (r, G') := h
    cases h
  | succ n ih =>
    intro x3 x4 G h
    have h : bX9_costs_10 q0 x1 x2 (itr n (FX9_costs_10 q0 x1 x2)) x3 x4 G = some (r, G') := h
    have hrec10 : ∀ (x3 : Int32) (x4 : Int32) (G : Mem), itr n (FX9_costs_10 q0 x1 x2) (x3, x4, G) = some (r, G') → xX p l e (xR 4 89) s m args below meth c A s.heap D cy ad kd NP 5 0 0 (xQi below D cy ad kd NP A args s r G') G 10 [(0, .ref (ad q0)), (1, .int x1), (2, .int x2), (3, .int x3), (4, .int x4)] [] := fun x3 x4 G h => ih x3 x4 G h
    unfold bX9_costs_10 at h
    refine xiload C 4 rfl dX9_costs_10 ?_
    refine xbipush C (v := (nI 6)) dX9_costs_12 (by decide) ?_
    refine xicmp_ge C (tgt := 46) h (by decide) dX9_costs_14 (fun h => ?_) (fun h => ?_)
    · refine xiload_n C 3 rfl rfl dX9_costs_46 ?_
      refine xaload_n C 0 rfl rfl dX9_costs_47 ?_
      refine xiload_n C 1 rfl rfl dX9_costs_48 ?_
      refine xiconst C (v := (nI 2)) dX9_costs_49 (by decide) ?_
      obtain ⟨r50, G50, hc50, h⟩ := bd_some h
      refine xVi C (As := [.int x1, .int (nI 2)]) (rest := [.int x3]) (kX9_con a0 hc50) a0.1 rfl rfl w_711 mvX9_con mwX9_con rfl ⟨Nat.le_of_ble_eq_true rfl, Nat.le_of_ble_eq_true rfl⟩ ⟨Nat.le_refl _, Nat.le_refl _⟩ (Nat.le_of_ble_eq_true rfl) dX9_costs_50 ?_
      refine xisub C dX9_costs_53 ?_
      refine xistore C (lv' := [(4, .int (x3 - r50)), (0, .ref (ad q0)), (1, .int x1), (2, .int x2), (3, .int x3)]) (by decide) rfl dX9_costs_54 ?_
      refine xiload C 0 rfl dX9_costs_56 ?_
      refine xif_le C (tgt := 80) h (by decide) dX9_costs_58 (fun h => ?_) (fun h => ?_)
      · refine xiconst C (v := (nI 0)) dX9_costs_80 (by decide) ?_
        obtain ⟨rfl, rfl⟩ := so_2 h
        exact xiret C rfl dX9_costs_81
      · refine xiload C 0 rfl dX9_costs_61 ?_
        refine xaload_n C 1 rfl rfl dX9_costs_63 ?_
        refine xiload_n C 2 rfl rfl dX9_costs_64 ?_
        refine xiconst C (v := (nI 3)) dX9_costs_65 (by decide) ?_
        obtain ⟨r66, G66, hc66, h⟩ := bd_some h
        refine xVi C (As := [.int x1, .int (nI 3)]) (rest := [.int (x3 - r50)]) (kX9_con a0 hc66) a0.1 rfl rfl w_711 mvX9_con mwX9_con rfl ⟨Nat.le_of_ble_eq_true rfl, Nat.le_of_ble_eq_true rfl⟩ ⟨Nat.le_refl _, Nat.le_refl _⟩ (Nat.le_of_ble_eq_true rfl) dX9_costs_66 ?_
        refine ximul C dX9_costs_69 ?_
        refine xaload_n C 1 rfl rfl dX9_costs_70 ?_
        refine xiload_n C 2 rfl rfl dX9_costs_71 ?_
        refine xiconst C (v := (nI 0)) dX9_costs_72 (by decide) ?_
        obtain ⟨r73, G73, hc73, h⟩ := bd_some h
        refine xVi C (As := [.int x1, .int (nI 0)]) (rest := [.int ((x3 - r50) * r66)]) (kX9_ofKind a0 hc73) a0.1 rfl rfl w_719 mvX9_ofKind mwX9_ofKind rfl ⟨Nat.le_of_ble_eq_true rfl, Nat.le_of_ble_eq_true rfl⟩ ⟨Nat.le_refl _, Nat.le_refl _⟩ (Nat.le_of_ble_eq_true rfl) dX9_costs_73 ?_
        refine ximul C dX9_costs_76 ?_
        refine xgoto C (tgt := 81) (by decide) dX9_costs_77 ?_
        obtain ⟨rfl, rfl⟩ := so_2 h
        exact xiret C rfl dX9_costs_81
    · refine xiload_n C 3 rfl rfl dX9_costs_17 ?_
      refine xiload_n C 2 rfl rfl dX9_costs_18 ?_
      refine xiload C 4 rfl dX9_costs_19 ?_
      refine xishr C dX9_costs_21 ?_
      refine xiconst C (v := (nI 1)) dX9_costs_22 (by decide) ?_
      refine xiand C dX9_costs_23 ?_
      refine xiconst C (v := (nI 1)) dX9_costs_24 (by decide) ?_
      refine xicmp_ne C (tgt := 37) h (by decide) dX9_costs_25 (fun h => ?_) (fun h => ?_)
      · refine xaload_n C 0 rfl rfl dX9_costs_28 ?_
        refine xiload C 4 rfl dX9_costs_29 ?_
        obtain ⟨r31, G31, hc31, h⟩ := bd_some h
        refine xVi C (As := [.int x4]) (rest := [.int x3]) (kX9_weeksOf a0 hc31) a0.1 rfl rfl w_859 mvX9_weeksOf mwX9_weeksOf rfl ⟨Nat.le_of_ble_eq_true rfl, Nat.le_of_ble_eq_true rfl⟩ ⟨Nat.le_refl _, Nat.le_refl _⟩ (Nat.le_of_ble_eq_true rfl) dX9_costs_31 ?_
        refine xgoto C (tgt := 38) (by decide) dX9_costs_34 ?_
        refine xsub C (lv' := [(0, .ref (ad q0)), (1, .int x1), (2, .int x2), (4, .int x4)]) [0, 1, 2, 4] rfl ?_
        exact wX9_costs_38 C q0 x1 x2 x4 r31 x3 hrec10 G31 a0 h
      · refine xiconst C (v := (nI 0)) dX9_costs_37 (by decide) ?_
        refine xsub C (lv' := [(0, .ref (ad q0)), (1, .int x1), (2, .int x2), (4, .int x4)]) [0, 1, 2, 4] rfl ?_
        exact wX9_costs_38 C q0 x1 x2 x4 (nI 0) x3 hrec10 G a0 h
theorem kX9_costs {r : Int32}  {q0 : Nat} {x1 : Int32} {x2 : Int32} (a0 : A9 kd NP q0) {G : Mem} (h : fX9_costs q0 x1 x2 G = some (r, G')) : xMi l D cy ad kd NP A yX9_costs cX9_costs 5 (some .int) 4 89 [.ref (ad q0), .int x1, .int x2] G r G' := by
  refine xMi_of trivial (by decide +kernel) (Nat.le_of_ble_eq_true rfl) (fun p e s m args below meth c C => ?_)
  have C : xC p s m args meth c cX9_costs RX9 5 (some .int) D cy := C
  refine xsub C (lv' := [(0, .ref (ad q0)), (1, .int x1), (2, .int x2)]) [0, 1, 2] rfl ?_
  unfold fX9_costs at h
  refine xaload_n C 0 rfl rfl dX9_costs_0 ?_
  refine xg_9_s C a0.1 w_643 dX9_costs_1 ?_
  refine xiconst C (v := (nI 0)) dX9_costs_4 (by decide) ?_
  refine xia_14 C 0 (by decide) a0.2.1 (xvi (by decide)) dX9_costs_5 ?_
  refine xistore_n C (lv' := [(3, .int (G (q0 + 1) 0)), (0, .ref (ad q0)), (1, .int x1), (2, .int x2)]) rfl (by decide) rfl dX9_costs_6 ?_
  refine xiconst C (v := (nI 0)) dX9_costs_7 (by decide) ?_
  refine xistore C (lv' := [(4, .int (nI 0)), (3, .int (G (q0 + 1) 0)), (0, .ref (ad q0)), (1, .int x1), (2, .int x2)]) (by decide) rfl dX9_costs_8 ?_
  refine xsub C (lv' := [(0, .ref (ad q0)), (1, .int x1), (2, .int x2), (3, .int (G (q0 + 1) 0)), (4, .int (nI 0))]) [2, 3, 4, 1, 0] rfl ?_
  exact wX9_costs_10 C q0 x1 x2 a0 _ (G (q0 + 1) 0) (nI 0) G h
/-- HedgeChainsModel.bestOrder(I)I -/
theorem wX9_bestOrder_143 {r : Int32} (C : xC p s m args meth c cX9_bestOrder RX9 7 (some .int) D cy) (q0 : Nat) (x1 : Int32) (x2 : Int32) (x3 : Int32) (x4 : Int32) (x6 : Int32) (y0 : Int32) (z1 : Nat) {rec27 : (Int32 × Int32 × Mem) → Option (Int32 × Mem)} {rec41 : (Int32 × Int32 × Mem) → Option (Int32 × Mem)} (hrec27 : ∀ (x2 : Int32) (x3 : Int32) (G : Mem), rec27 (x2, x3, G) = some (r, G') → xX p l e (xR 5 113) s m args below meth c A s.heap D cy ad kd NP 7 0 0 (xQi below D cy ad kd NP A args s r G') G 27 [(0, .ref (ad q0)), (1, .int x1), (2, .int x2), (3, .int x3)] []) (hrec41 : ∀ (x2 : Int32) (x4 : Int32) (G : Mem), rec41 (x2, x4, G) = some (r, G') → xX p l e (xR 5 113) s m args below meth c A s.heap D cy ad kd NP 7 0 0 (xQi below D cy ad kd NP A args s r G') G 41 [(0, .ref (ad q0)), (1, .int x1), (2, .int x2), (3, .int x3), (4, .int x4)] []) (G : Mem) (a0 : A9 kd NP q0) (b1 : xO kd NP 12 z1) (h : jX9_bestOrder_143 rec27 rec41 q0 x1 x2 x3 x4 x6 y0 z1 G = some (r, G')) : xX p l e (xR 5 113) s m args below meth c A s.heap D cy ad kd NP 7 0 0 (xQi below D cy ad kd NP A args s r G') G 143 [(0, .ref (ad q0)), (1, .int x1), (2, .int x2), (3, .int x3), (4, .int x4), (6, .int x6)] [.int y0, .ref (ad z1)] := by
  unfold jX9_bestOrder_143 at h
  refine xiload C 5 rfl dX9_bestOrder_143 ?_
  refine xgoto C (tgt := 154) (by decide) dX9_bestOrder_145 ?_
  obtain ⟨hi154, h⟩ := ix_some h
  refine xis_12 C y0.toNatClampNeg rfl b1 hi154 dX9_bestOrder_154 ?_
  generalize mset G z1 y0.toNatClampNeg x6 = G154 at h ⊢
  replace h := lt_go h
  refine xiinc C (v := (x4 + nI 1)) (lv' := [(4, .int (x4 + nI 1)), (0, .ref (ad q0)), (1, .int x1), (2, .int x2), (3, .int x3), (6, .int x6)]) 4 rfl rfl (by decide) rfl dX9_bestOrder_155 ?_
  refine xgoto C (tgt := 41) (by decide) dX9_bestOrder_158 ?_
  refine xsub C (lv' := [(0, .ref (ad q0)), (1, .int x1), (2, .int x2), (3, .int x3), (4, .int (x4 + nI 1))]) [1, 2, 3, 4, 0] rfl ?_
  exact hrec41 x2 (x4 + nI 1) G154 h
theorem wX9_bestOrder_117 {r : Int32} (C : xC p s m args meth c cX9_bestOrder RX9 7 (some .int) D cy) (q0 : Nat) (x1 : Int32) (x3 : Int32) (x4 : Int32) (x6 : Int32) (y0 : Int32) {rec27 : (Int32 × Int32 × Mem) → Option (Int32 × Mem)} {rec41 : (Int32 × Int32 × Mem) → Option (Int32 × Mem)} (hrec27 : ∀ (x2 : Int32) (x3 : Int32) (G : Mem), rec27 (x2, x3, G) = some (r, G') → xX p l e (xR 5 113) s m args below meth c A s.heap D cy ad kd NP 7 0 0 (xQi below D cy ad kd NP A args s r G') G 27 [(0, .ref (ad q0)), (1, .int x1), (2, .int x2), (3, .int x3)] []) (hrec41 : ∀ (x2 : Int32) (x4 : Int32) (G : Mem), rec41 (x2, x4, G) = some (r, G') → xX p l e (xR 5 113) s m args below meth c A s.heap D cy ad kd NP 7 0 0 (xQi below D cy ad kd NP A args s r G') G 41 [(0, .ref (ad q0)), (1, .int x1), (2, .int x2), (3, .int x3), (4, .int x4)] []) (G : Mem) (a0 : A9 kd NP q0) (h : jX9_bestOrder_117 rec27 rec41 q0 x1 x3 x4 x6 y0 G = some (r, G')) : xX p l e (xR 5 113) s m args below meth c A s.heap D cy ad kd NP 7 0 0 (xQi below D cy ad kd NP A args s r G') G 117 [(0, .ref (ad q0)), (1, .int x1), (3, .int x3), (4, .int x4), (6, .int x6)] [.int y0] := by
  unfold jX9_bestOrder_117 at h
  refine xistore_n C (lv' := [(2, .int y0), (0, .ref (ad q0)), (1, .int x1), (3, .int x3), (4, .int x4), (6, .int x6)]) rfl (by decide) rfl dX9_bestOrder_117 ?_
  refine xaload_n C 1 rfl rfl dX9_bestOrder_118 ?_
  refine xg_9_least C a0.1 w_646 dX9_bestOrder_119 ?_
  refine xiload_n C 3 rfl rfl dX9_bestOrder_122 ?_
  refine xaload_n C 1 rfl rfl dX9_bestOrder_123 ?_
  refine xg_9_least C a0.1 w_646 dX9_bestOrder_124 ?_
  refine xiload_n C 3 rfl rfl dX9_bestOrder_127 ?_
  obtain ⟨hi128, h⟩ := ix_some h
  refine xia_12 C x3.toNatClampNeg rfl a0.2.2.2.2.1 hi128 dX9_bestOrder_128 ?_
  refine xif_lt C (tgt := 143) h (by decide) dX9_bestOrder_129 (fun h => ?_) (fun h => ?_)
  · refine xsub C (lv' := [(0, .ref (ad q0)), (1, .int x1), (2, .int y0), (3, .int x3), (4, .int x4), (6, .int x6)]) [1, 2, 0, 3, 4, 5] rfl ?_
    exact wX9_bestOrder_143 C q0 x1 y0 x3 x4 x6 x3 (q0 + 4) hrec27 hrec41 G a0 a0.2.2.2.2.1 h
  · refine xiload C 5 rfl dX9_bestOrder_132 ?_
    refine xaload_n C 1 rfl rfl dX9_bestOrder_134 ?_
    refine xg_9_least C a0.1 w_646 dX9_bestOrder_135 ?_
    refine xiload_n C 3 rfl rfl dX9_bestOrder_138 ?_
    obtain ⟨hi139, h⟩ := ix_some h
    refine xia_12 C x3.toNatClampNeg rfl a0.2.2.2.2.1 hi139 dX9_bestOrder_139 ?_
    refine xicmp_ge C (tgt := 148) h (by decide) dX9_bestOrder_140 (fun h => ?_) (fun h => ?_)
    · refine xaload_n C 1 rfl rfl dX9_bestOrder_148 ?_
      refine xg_9_least C a0.1 w_646 dX9_bestOrder_149 ?_
      refine xiload_n C 3 rfl rfl dX9_bestOrder_152 ?_
      obtain ⟨hi153, h⟩ := ix_some h
      refine xia_12 C x3.toNatClampNeg rfl a0.2.2.2.2.1 hi153 dX9_bestOrder_153 ?_
      obtain ⟨hi154, h⟩ := ix_some h
      refine xis_12 C x3.toNatClampNeg rfl a0.2.2.2.2.1 hi154 dX9_bestOrder_154 ?_
      generalize mset G (q0 + 4) x3.toNatClampNeg (G (q0 + 4) x3.toNatClampNeg) = G154 at h ⊢
      replace h := lt_go h
      refine xiinc C (v := (x4 + nI 1)) (lv' := [(4, .int (x4 + nI 1)), (2, .int y0), (0, .ref (ad q0)), (1, .int x1), (3, .int x3), (6, .int x6)]) 4 rfl rfl (by decide) rfl dX9_bestOrder_155 ?_
      refine xgoto C (tgt := 41) (by decide) dX9_bestOrder_158 ?_
      refine xsub C (lv' := [(0, .ref (ad q0)), (1, .int x1), (2, .int y0), (3, .int x3), (4, .int (x4 + nI 1))]) [2, 3, 1, 4, 0] rfl ?_
      exact hrec41 y0 (x4 + nI 1) G154 h
    · refine xsub C (lv' := [(0, .ref (ad q0)), (1, .int x1), (2, .int y0), (3, .int x3), (4, .int x4), (6, .int x6)]) [1, 2, 0, 3, 4, 5] rfl ?_
      exact wX9_bestOrder_143 C q0 x1 y0 x3 x4 x6 x3 (q0 + 4) hrec27 hrec41 G a0 a0.2.2.2.2.1 h
theorem wX9_bestOrder_111 {r : Int32} (C : xC p s m args meth c cX9_bestOrder RX9 7 (some .int) D cy) (q0 : Nat) (x1 : Int32) (x3 : Int32) (x4 : Int32) (x6 : Int32) {rec27 : (Int32 × Int32 × Mem) → Option (Int32 × Mem)} {rec41 : (Int32 × Int32 × Mem) → Option (Int32 × Mem)} (hrec27 : ∀ (x2 : Int32) (x3 : Int32) (G : Mem), rec27 (x2, x3, G) = some (r, G') → xX p l e (xR 5 113) s m args below meth c A s.heap D cy ad kd NP 7 0 0 (xQi below D cy ad kd NP A args s r G') G 27 [(0, .ref (ad q0)), (1, .int x1), (2, .int x2), (3, .int x3)] []) (hrec41 : ∀ (x2 : Int32) (x4 : Int32) (G : Mem), rec41 (x2, x4, G) = some (r, G') → xX p l e (xR 5 113) s m args below meth c A s.heap D cy ad kd NP 7 0 0 (xQi below D cy ad kd NP A args s r G') G 41 [(0, .ref (ad q0)), (1, .int x1), (2, .int x2), (3, .int x3), (4, .int x4)] []) (G : Mem) (a0 : A9 kd NP q0) (h : jX9_bestOrder_111 rec27 rec41 q0 x1 x3 x4 x6 G = some (r, G')) : xX p l e (xR 5 113) s m args below meth c A s.heap D cy ad kd NP 7 0 0 (xQi below D cy ad kd NP A args s r G') G 111 [(0, .ref (ad q0)), (1, .int x1), (3, .int x3), (4, .int x4), (6, .int x6)] [] := by
  unfold jX9_bestOrder_111 at h
  refine xiload C 3 rfl dX9_bestOrder_111 ?_
  refine xgoto C (tgt := 117) (by decide) dX9_bestOrder_113 ?_
  exact wX9_bestOrder_117 C q0 x1 x3 x4 x6 x4 hrec27 hrec41 G a0 h
theorem wX9_bestOrder_41 {r : Int32} (C : xC p s m args meth c cX9_bestOrder RX9 7 (some .int) D cy) (q0 : Nat) (x1 : Int32) (x3 : Int32) {rec27 : (Int32 × Int32 × Mem) → Option (Int32 × Mem)} (hrec27 : ∀ (x2 : Int32) (x3 : Int32) (G : Mem), rec27 (x2, x3, G) = some (r, G') → xX p l e (xR 5 113) s m args below meth c A s.heap D cy ad kd NP 7 0 0 (xQi below D cy ad kd NP A args s r G') G 27 [(0, .ref (ad q0)), (1, .int x1), (2, .int x2), (3, .int x3)] []) (a0 : A9 kd NP q0) : ∀ (n : Nat) (x2 : Int32) (x4 : Int32) (G : Mem) (h : itr n (FX9_bestOrder_41 rec27 q0 x1 x3) (x2, x4, G) = some (r, G')), xX p l e (xR 5 113) s m args below meth c A s.heap D cy ad kd NP 7 0 0 (xQi below D cy ad kd NP A args s r G') G 41 [(0, .ref (ad q0)), (1, .int x1), (2, .int x2), (3, .int x3), (4, .int x4)] [] := by
  intro n
  induction n with
  | zero =>
    intro x2 x4 G h
    have h : none = some (r, G') := h
    cases h
  | succ n ih =>
    intro x2 x4 G h
    have h : bX9_bestOrder_41 rec27 q0 x1 x3 (itr n (FX9_bestOrder_41 rec27 q0 x1 x3)) x2 x4 G = some (r, G') := h
    have hrec41 : ∀ (x2 : Int32) (x4 : Int32) (G : Mem), itr n (FX9_bestOrder_41 rec27 q0 x1 x3) (x2, x4, G) = some (r, G') → xX p l e (xR 5 113) s m args below meth c A s.heap D cy ad kd NP 7 0 0 (xQi below D cy ad kd NP A args s r G') G 41 [(0, .ref (ad q0)), (1, .int x1), (2, .int x2), (3, .int x3), (4, .int x4)] [] := fun x2 x4 G h => ih x2 x4 G h
    unfold bX9_bestOrder_41 at h
    refine xiload C 4 rfl dX9_bestOrder_41 ?_
    refine xbipush C (v := (nI 6)) dX9_bestOrder_43 (by decide) ?_
    refine xicmp_ge C (tgt := 161) h (by decide) dX9_bestOrder_45 (fun h => ?_) (fun h => ?_)
    · refine xaload_n C 0 rfl rfl dX9_bestOrder_161 ?_
      refine xg_9_least C a0.1 w_646 dX9_bestOrder_162 ?_
      refine xiload_n C 3 rfl rfl dX9_bestOrder_165 ?_
      refine xaload_n C 0 rfl rfl dX9_bestOrder_166 ?_
      refine xg_9_least C a0.1 w_646 dX9_bestOrder_167 ?_
      refine xiload_n C 3 rfl rfl dX9_bestOrder_170 ?_
      obtain ⟨hi171, h⟩ := ix_some h
      refine xia_12 C x3.toNatClampNeg rfl a0.2.2.2.2.1 hi171 dX9_bestOrder_171 ?_
      refine xif_ge C (tgt := 179) h (by decide) dX9_bestOrder_172 (fun h => ?_) (fun h => ?_)
      · refine xaload_n C 0 rfl rfl dX9_bestOrder_179 ?_
        refine xg_9_least C a0.1 w_646 dX9_bestOrder_180 ?_
        refine xiload_n C 3 rfl rfl dX9_bestOrder_183 ?_
        obtain ⟨hi184, h⟩ := ix_some h
        refine xia_12 C x3.toNatClampNeg rfl a0.2.2.2.2.1 hi184 dX9_bestOrder_184 ?_
        obtain ⟨hi185, h⟩ := ix_some h
        refine xis_12 C x3.toNatClampNeg rfl a0.2.2.2.2.1 hi185 dX9_bestOrder_185 ?_
        generalize mset G (q0 + 4) x3.toNatClampNeg (G (q0 + 4) x3.toNatClampNeg) = G185 at h ⊢
        replace h := lt_go h
        refine xiinc C (v := (x3 + Int32.ofInt (-1))) (lv' := [(3, .int (x3 + Int32.ofInt (-1))), (0, .ref (ad q0)), (1, .int x1), (2, .int x2), (4, .int x4)]) 3 rfl rfl (by decide) rfl dX9_bestOrder_186 ?_
        refine xgoto C (tgt := 27) (by decide) dX9_bestOrder_189 ?_
        refine xsub C (lv' := [(0, .ref (ad q0)), (1, .int x1), (2, .int x2), (3, .int (x3 + Int32.ofInt (-1)))]) [1, 2, 3, 0] rfl ?_
        exact hrec27 x2 (x3 + Int32.ofInt (-1)) G185 h
      · refine xiconst C (v := (nI 0)) dX9_bestOrder_175 (by decide) ?_
        refine xgoto C (tgt := 185) (by decide) dX9_bestOrder_176 ?_
        obtain ⟨hi185, h⟩ := ix_some h
        refine xis_12 C x3.toNatClampNeg rfl a0.2.2.2.2.1 hi185 dX9_bestOrder_185 ?_
        generalize mset G (q0 + 4) x3.toNatClampNeg (nI 0) = G185 at h ⊢
        replace h := lt_go h
        refine xiinc C (v := (x3 + Int32.ofInt (-1))) (lv' := [(3, .int (x3 + Int32.ofInt (-1))), (0, .ref (ad q0)), (1, .int x1), (2, .int x2), (4, .int x4)]) 3 rfl rfl (by decide) rfl dX9_bestOrder_186 ?_
        refine xgoto C (tgt := 27) (by decide) dX9_bestOrder_189 ?_
        refine xsub C (lv' := [(0, .ref (ad q0)), (1, .int x1), (2, .int x2), (3, .int (x3 + Int32.ofInt (-1)))]) [1, 2, 3, 0] rfl ?_
        exact hrec27 x2 (x3 + Int32.ofInt (-1)) G185 h
    · refine xiload_n C 3 rfl rfl dX9_bestOrder_48 ?_
      refine xiconst C (v := (nI 1)) dX9_bestOrder_49 (by decide) ?_
      refine xiload C 4 rfl dX9_bestOrder_50 ?_
      refine xishl C dX9_bestOrder_52 ?_
      refine xior C dX9_bestOrder_53 ?_
      refine xistore C (lv' := [(5, .int (x3 ||| ((nI 1) <<< (x4 &&& 31)))), (0, .ref (ad q0)), (1, .int x1), (2, .int x2), (3, .int x3), (4, .int x4)]) (by decide) rfl dX9_bestOrder_54 ?_
      refine xiload C 0 rfl dX9_bestOrder_56 ?_
      refine xiload_n C 4 rfl rfl dX9_bestOrder_58 ?_
      refine xicmp_eq C (tgt := 155) h (by decide) dX9_bestOrder_59 (fun h => ?_) (fun h => ?_)
      · refine xiinc C (v := (x4 + nI 1)) (lv' := [(4, .int (x4 + nI 1)), (5, .int (x3 ||| ((nI 1) <<< (x4 &&& 31)))), (0, .ref (ad q0)), (1, .int x1), (2, .int x2), (3, .int x3)]) 5 rfl rfl (by decide) rfl dX9_bestOrder_155 ?_
        refine xgoto C (tgt := 41) (by decide) dX9_bestOrder_158 ?_
        refine xsub C (lv' := [(0, .ref (ad q0)), (1, .int x1), (2, .int x2), (3, .int x3), (4, .int (x4 + nI 1))]) [2, 3, 4, 5, 0] rfl ?_
        exact hrec41 x2 (x4 + nI 1) G h
      · refine xaload_n C 1 rfl rfl dX9_bestOrder_62 ?_
        refine xiload C 5 rfl dX9_bestOrder_63 ?_
        refine xiconst C (v := (nI 0)) dX9_bestOrder_65 (by decide) ?_
        obtain ⟨r66, G66, hc66, h⟩ := bd_some h
        refine xVi C (As := [.int x4, .int (nI 0)]) (rest := []) (kX9_con a0 hc66) a0.1 rfl rfl w_711 mvX9_con mwX9_con rfl ⟨Nat.le_of_ble_eq_true rfl, Nat.le_of_ble_eq_true rfl⟩ ⟨Nat.le_refl _, Nat.le_refl _⟩ (Nat.le_of_ble_eq_true rfl) dX9_bestOrder_66 ?_
        refine xiconst C (v := (nI 1)) dX9_bestOrder_69 (by decide) ?_
        refine xicmp_ne C (tgt := 155) h (by decide) dX9_bestOrder_70 (fun h => ?_) (fun h => ?_)
        · refine xaload_n C 1 rfl rfl dX9_bestOrder_73 ?_
          refine xiload C 5 rfl dX9_bestOrder_74 ?_
          refine xiload C 0 rfl dX9_bestOrder_76 ?_
          obtain ⟨r78, G78, hc78, h⟩ := bd_some h
          refine xVi C (As := [.int x4, .int (x3 ||| ((nI 1) <<< (x4 &&& 31)))]) (rest := []) (kX9_costs a0 hc78) a0.1 rfl rfl w_855 mvX9_costs mwX9_costs rfl ⟨Nat.le_of_ble_eq_true rfl, Nat.le_of_ble_eq_true rfl⟩ ⟨Nat.le_refl _, Nat.le_refl _⟩ (Nat.le_of_ble_eq_true rfl) dX9_bestOrder_78 ?_
          refine xaload_n C 1 rfl rfl dX9_bestOrder_81 ?_
          refine xg_9_least C a0.1 w_646 dX9_bestOrder_82 ?_
          refine xiload C 0 rfl dX9_bestOrder_85 ?_
          obtain ⟨hi87, h⟩ := ix_some h
          refine xia_12 C (x3 ||| ((nI 1) <<< (x4 &&& 31))).toNatClampNeg rfl a0.2.2.2.2.1 hi87 dX9_bestOrder_87 ?_
          refine xiadd C dX9_bestOrder_88 ?_
          refine xistore C (lv' := [(6, .int (r78 + (G78 (q0 + 4) (x3 ||| ((nI 1) <<< (x4 &&& 31))).toNatClampNeg))), (5, .int (x3 ||| ((nI 1) <<< (x4 &&& 31)))), (0, .ref (ad q0)), (1, .int x1), (2, .int x2), (3, .int x3), (4, .int x4)]) (by decide) rfl dX9_bestOrder_89 ?_
          refine xaload_n C 2 rfl rfl dX9_bestOrder_91 ?_
          refine xg_9_least C a0.1 w_646 dX9_bestOrder_92 ?_
          refine xiload_n C 5 rfl rfl dX9_bestOrder_95 ?_
          obtain ⟨hi96, h⟩ := ix_some h
          refine xia_12 C x3.toNatClampNeg rfl a0.2.2.2.2.1 hi96 dX9_bestOrder_96 ?_
          refine xif_lt C (tgt := 111) h (by decide) dX9_bestOrder_97 (fun h => ?_) (fun h => ?_)
          · refine xsub C (lv' := [(0, .ref (ad q0)), (1, .int x1), (3, .int x3), (4, .int x4), (6, .int (r78 + (G78 (q0 + 4) (x3 ||| ((nI 1) <<< (x4 &&& 31))).toNatClampNeg)))]) [2, 3, 5, 6, 0] rfl ?_
            exact wX9_bestOrder_111 C q0 x1 x3 x4 (r78 + (G78 (q0 + 4) (x3 ||| ((nI 1) <<< (x4 &&& 31))).toNatClampNeg)) hrec27 hrec41 G78 a0 h
          · refine xiload C 0 rfl dX9_bestOrder_100 ?_
            refine xaload_n C 2 rfl rfl dX9_bestOrder_102 ?_
            refine xg_9_least C a0.1 w_646 dX9_bestOrder_103 ?_
            refine xiload_n C 5 rfl rfl dX9_bestOrder_106 ?_
            obtain ⟨hi107, h⟩ := ix_some h
            refine xia_12 C x3.toNatClampNeg rfl a0.2.2.2.2.1 hi107 dX9_bestOrder_107 ?_
            refine xicmp_ge C (tgt := 116) h (by decide) dX9_bestOrder_108 (fun h => ?_) (fun h => ?_)
            · refine xiload_n C 4 rfl rfl dX9_bestOrder_116 ?_
              refine xsub C (lv' := [(0, .ref (ad q0)), (1, .int x1), (3, .int x3), (4, .int x4), (6, .int (r78 + (G78 (q0 + 4) (x3 ||| ((nI 1) <<< (x4 &&& 31))).toNatClampNeg)))]) [2, 3, 5, 6, 0] rfl ?_
              exact wX9_bestOrder_117 C q0 x1 x3 x4 (r78 + (G78 (q0 + 4) (x3 ||| ((nI 1) <<< (x4 &&& 31))).toNatClampNeg)) x2 hrec27 hrec41 G78 a0 h
            · refine xsub C (lv' := [(0, .ref (ad q0)), (1, .int x1), (3, .int x3), (4, .int x4), (6, .int (r78 + (G78 (q0 + 4) (x3 ||| ((nI 1) <<< (x4 &&& 31))).toNatClampNeg)))]) [2, 3, 5, 6, 0] rfl ?_
              exact wX9_bestOrder_111 C q0 x1 x3 x4 (r78 + (G78 (q0 + 4) (x3 ||| ((nI 1) <<< (x4 &&& 31))).toNatClampNeg)) hrec27 hrec41 G78 a0 h
        · refine xiinc C (v := (x4 + nI 1)) (lv' := [(4, .int (x4 + nI 1)), (5, .int (x3 ||| ((nI 1) <<< (x4 &&& 31)))), (0, .ref (ad q0)), (1, .int x1), (2, .int x2), (3, .int x3)]) 5 rfl rfl (by decide) rfl dX9_bestOrder_155 ?_
          refine xgoto C (tgt := 41) (by decide) dX9_bestOrder_158 ?_
          refine xsub C (lv' := [(0, .ref (ad q0)), (1, .int x1), (2, .int x2), (3, .int x3), (4, .int (x4 + nI 1))]) [2, 3, 4, 5, 0] rfl ?_
          exact hrec41 x2 (x4 + nI 1) G66 h
theorem wX9_bestOrder_27 {r : Int32} (C : xC p s m args meth c cX9_bestOrder RX9 7 (some .int) D cy) (q0 : Nat) (x1 : Int32) (a0 : A9 kd NP q0) : ∀ (n : Nat) (x2 : Int32) (x3 : Int32) (G : Mem) (h : itr n (FX9_bestOrder_27 q0 x1) (x2, x3, G) = some (r, G')), xX p l e (xR 5 113) s m args below meth c A s.heap D cy ad kd NP 7 0 0 (xQi below D cy ad kd NP A args s r G') G 27 [(0, .ref (ad q0)), (1, .int x1), (2, .int x2), (3, .int x3)] [] := by
  intro n
  induction n with
  | zero =>
    intro x2 x3 G h
    have h : none = some (r, G') := h
    cases h
  | succ n ih =>
    intro x2 x3 G h
    have h : bX9_bestOrder_27 q0 x1 (itr n (FX9_bestOrder_27 q0 x1)) x2 x3 G = some (r, G') := h
    have hrec27 : ∀ (x2 : Int32) (x3 : Int32) (G : Mem), itr n (FX9_bestOrder_27 q0 x1) (x2, x3, G) = some (r, G') → xX p l e (xR 5 113) s m args below meth c A s.heap D cy ad kd NP 7 0 0 (xQi below D cy ad kd NP A args s r G') G 27 [(0, .ref (ad q0)), (1, .int x1), (2, .int x2), (3, .int x3)] [] := fun x2 x3 G h => ih x2 x3 G h
    unfold bX9_bestOrder_27 at h
    refine xiload_n C 3 rfl rfl dX9_bestOrder_27 ?_
    refine xif_lt C (tgt := 192) h (by decide) dX9_bestOrder_28 (fun h => ?_) (fun h => ?_)
    · refine xiload_n C 1 rfl rfl dX9_bestOrder_192 ?_
      refine xif_ne C (tgt := 205) h (by decide) dX9_bestOrder_193 (fun h => ?_) (fun h => ?_)
      · refine xaload_n C 0 rfl rfl dX9_bestOrder_196 ?_
        refine xg_9_least C a0.1 w_646 dX9_bestOrder_197 ?_
        refine xiconst C (v := (nI 0)) dX9_bestOrder_200 (by decide) ?_
        refine xia_12 C 0 (by decide) a0.2.2.2.2.1 (xvi (by decide)) dX9_bestOrder_201 ?_
        refine xgoto C (tgt := 206) (by decide) dX9_bestOrder_202 ?_
        obtain ⟨rfl, rfl⟩ := so_2 h
        exact xiret C rfl dX9_bestOrder_206
      · refine xiload_n C 2 rfl rfl dX9_bestOrder_205 ?_
        obtain ⟨rfl, rfl⟩ := so_2 h
        exact xiret C rfl dX9_bestOrder_206
    · refine xaload_n C 0 rfl rfl dX9_bestOrder_31 ?_
      refine xg_9_least C a0.1 w_646 dX9_bestOrder_32 ?_
      refine xiload_n C 3 rfl rfl dX9_bestOrder_35 ?_
      refine xiconst C (v := (-1)) dX9_bestOrder_36 (by decide) ?_
      obtain ⟨hi37, h⟩ := ix_some h
      refine xis_12 C x3.toNatClampNeg rfl a0.2.2.2.2.1 hi37 dX9_bestOrder_37 ?_
      generalize mset G (q0 + 4) x3.toNatClampNeg (-1) = G37 at h ⊢
      replace h := lt_go h
      refine xiconst C (v := (nI 0)) dX9_bestOrder_38 (by decide) ?_
      refine xistore C (lv' := [(4, .int (nI 0)), (0, .ref (ad q0)), (1, .int x1), (2, .int x2), (3, .int x3)]) (by decide) rfl dX9_bestOrder_39 ?_
      refine xsub C (lv' := [(0, .ref (ad q0)), (1, .int x1), (2, .int x2), (3, .int x3), (4, .int (nI 0))]) [1, 2, 3, 4, 0] rfl ?_
      exact wX9_bestOrder_41 C q0 x1 x3 hrec27 a0 _ x2 (nI 0) G37 h
theorem kX9_bestOrder {r : Int32}  {q0 : Nat} {x1 : Int32} (a0 : A9 kd NP q0) {G : Mem} (h : fX9_bestOrder q0 x1 G = some (r, G')) : xMi l D cy ad kd NP A yX9_bestOrder cX9_bestOrder 7 (some .int) 5 113 [.ref (ad q0), .int x1] G r G' := by
  refine xMi_of trivial (by decide +kernel) (Nat.le_of_ble_eq_true rfl) (fun p e s m args below meth c C => ?_)
  have C : xC p s m args meth c cX9_bestOrder RX9 7 (some .int) D cy := C
  refine xsub C (lv' := [(0, .ref (ad q0)), (1, .int x1)]) [0, 1] rfl ?_
  unfold fX9_bestOrder at h
  refine xiload_n C 1 rfl rfl dX9_bestOrder_0 ?_
  refine xiconst C (v := (nI 0)) dX9_bestOrder_1 (by decide) ?_
  refine xiconst C (v := (nI 1)) dX9_bestOrder_2 (by decide) ?_
  obtain ⟨r3, G3, hc3, h⟩ := bd_some h
  refine xSi C (As := [.int x1, .int (nI 0), .int (nI 1)]) (rest := []) (kX9_in hc3) w_688 w_689 mwX9_in rfl ⟨Nat.le_of_ble_eq_true rfl, Nat.le_of_ble_eq_true rfl⟩ ⟨Nat.le_refl _, Nat.le_refl _⟩ (Nat.le_of_ble_eq_true rfl) dX9_bestOrder_3 ?_
  refine xif_ne C (tgt := 11) h (by decide) dX9_bestOrder_6 (fun h => ?_) (fun h => ?_)
  · refine xiconst C (v := (-1)) dX9_bestOrder_9 (by decide) ?_
    obtain ⟨rfl, rfl⟩ := so_2 h
    exact xiret C rfl dX9_bestOrder_10
  · refine xaload_n C 0 rfl rfl dX9_bestOrder_11 ?_
    obtain ⟨r12, G12, hc12, h⟩ := bd_some h
    refine xVi C (As := []) (rest := []) (kX9_contracts a0 hc12) a0.1 rfl rfl w_815 mvX9_contracts mwX9_contracts rfl ⟨Nat.le_of_ble_eq_true rfl, Nat.le_of_ble_eq_true rfl⟩ ⟨Nat.le_refl _, Nat.le_refl _⟩ (Nat.le_of_ble_eq_true rfl) dX9_bestOrder_12 ?_
    refine xif_ne C (tgt := 21) h (by decide) dX9_bestOrder_15 (fun h => ?_) (fun h => ?_)
    · refine xbipush C (v := (-9)) dX9_bestOrder_18 (by decide) ?_
      obtain ⟨rfl, rfl⟩ := so_2 h
      exact xiret C rfl dX9_bestOrder_20
    · refine xbipush C (v := (-9)) dX9_bestOrder_21 (by decide) ?_
      refine xistore_n C (lv' := [(2, .int (-9)), (0, .ref (ad q0)), (1, .int x1)]) rfl (by decide) rfl dX9_bestOrder_23 ?_
      refine xbipush C (v := (nI 63)) dX9_bestOrder_24 (by decide) ?_
      refine xistore_n C (lv' := [(3, .int (nI 63)), (2, .int (-9)), (0, .ref (ad q0)), (1, .int x1)]) rfl (by decide) rfl dX9_bestOrder_26 ?_
      refine xsub C (lv' := [(0, .ref (ad q0)), (1, .int x1), (2, .int (-9)), (3, .int (nI 63))]) [2, 3, 1, 0] rfl ?_
      exact wX9_bestOrder_27 C q0 x1 a0 _ (-9) (nI 63) G12 h
end
