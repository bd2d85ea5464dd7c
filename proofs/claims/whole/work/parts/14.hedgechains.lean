section
variable {p : Program} {l : Launch} {e : Env} {s : State} {m : MethodId} {args : Array Value} {below : List Frame} {meth : Method} {c : Code} {A : Nat → Prop} {D : va_G} {cy : xCy} {ad kd : Nat → Nat} {NP : Nat} {G' : Mem}
/-- HedgeChains.isWithin(III)Z -/
theorem kX8_isWithin {r : Int32}  {x0 : Int32} {x1 : Int32} {x2 : Int32} {G : Mem} (h : fX8_isWithin x0 x1 x2 G = some (r, G')) : xMi l D cy ad kd NP A yX8_isWithin cX8_isWithin 3 (some .boolean) 0 0 [.int x0, .int x1, .int x2] G r G' := by
  refine xMi_of trivial (by decide +kernel) (Nat.le_of_ble_eq_true rfl) (fun p e s m args below meth c C => ?_)
  have C : xC p s m args meth c cX8_isWithin RX8 3 (some .boolean) D cy := C
  refine xsub C (lv' := [(0, .int x0), (1, .int x1), (2, .int x2)]) [0, 1, 2] rfl ?_
  unfold fX8_isWithin at h
  refine xiload_n C 0 rfl rfl dX8_isWithin_0 ?_
  refine xiload_n C 1 rfl rfl dX8_isWithin_1 ?_
  refine xicmp_lt C (tgt := 14) h (by decide) dX8_isWithin_2 (fun h => ?_) (fun h => ?_)
  · refine xiconst C (v := (nI 0)) dX8_isWithin_14 (by decide) ?_
    obtain ⟨rfl, rfl⟩ := so_2 h
    exact xzret C (Or.inl rfl) rfl dX8_isWithin_15
  · refine xiload_n C 0 rfl rfl dX8_isWithin_5 ?_
    refine xiload_n C 2 rfl rfl dX8_isWithin_6 ?_
    refine xicmp_gt C (tgt := 14) h (by decide) dX8_isWithin_7 (fun h => ?_) (fun h => ?_)
    · refine xiconst C (v := (nI 0)) dX8_isWithin_14 (by decide) ?_
      obtain ⟨rfl, rfl⟩ := so_2 h
      exact xzret C (Or.inl rfl) rfl dX8_isWithin_15
    · refine xiconst C (v := (nI 1)) dX8_isWithin_10 (by decide) ?_
      refine xgoto C (tgt := 15) (by decide) dX8_isWithin_11 ?_
      obtain ⟨rfl, rfl⟩ := so_2 h
      exact xzret C (Or.inr rfl) rfl dX8_isWithin_15
/-- HedgeChains.isField(I)Z -/
theorem kX8_isField {r : Int32}  {x0 : Int32} {G : Mem} (h : fX8_isField x0 G = some (r, G')) : xMi l D cy ad kd NP A yX8_isField cX8_isField 1 (some .boolean) 1 22 [.int x0] G r G' := by
  refine xMi_of trivial (by decide +kernel) (Nat.le_of_ble_eq_true rfl) (fun p e s m args below meth c C => ?_)
  have C : xC p s m args meth c cX8_isField RX8 1 (some .boolean) D cy := C
  refine xsub C (lv' := [(0, .int x0)]) [0] rfl ?_
  unfold fX8_isField at h
  refine xiload_n C 0 rfl rfl dX8_isField_0 ?_
  refine xiconst C (v := (nI 0)) dX8_isField_1 (by decide) ?_
  refine xiconst C (v := (nI 5)) dX8_isField_2 (by decide) ?_
  obtain ⟨r3, G3, hc3, h⟩ := bd_some h
  refine xSi C (As := [.int x0, .int (nI 0), .int (nI 5)]) (rest := []) (kX8_isWithin hc3) w_281 w_282 mwX8_isWithin rfl ⟨Nat.le_of_ble_eq_true rfl, Nat.le_of_ble_eq_true rfl⟩ ⟨Nat.le_refl _, Nat.le_refl _⟩ (Nat.le_of_ble_eq_true rfl) dX8_isField_3 ?_
  obtain ⟨hz, h⟩ := zk_some h
  obtain ⟨rfl, rfl⟩ := so_2 h
  exact xzret C hz rfl dX8_isField_6
/-- HedgeChains.isChain(II)Z -/
theorem kX8_isChain {r : Int32}  {q0 : Nat} {x1 : Int32} {x2 : Int32} (a0 : A8 kd NP q0) {G : Mem} (h : fX8_isChain q0 x1 x2 G = some (r, G')) : xMi l D cy ad kd NP A yX8_isChain cX8_isChain 3 (some .boolean) 2 42 [.ref (ad q0), .int x1, .int x2] G r G' := by
  refine xMi_of trivial (by decide +kernel) (Nat.le_of_ble_eq_true rfl) (fun p e s m args below meth c C => ?_)
  have C : xC p s m args meth c cX8_isChain RX8 3 (some .boolean) D cy := C
  refine xsub C (lv' := [(0, .ref (ad q0)), (1, .int x1), (2, .int x2)]) [0, 1, 2] rfl ?_
  unfold fX8_isChain at h
  refine xiload_n C 1 rfl rfl dX8_isChain_0 ?_
  obtain ⟨r1, G1, hc1, h⟩ := bd_some h
  refine xSi C (As := [.int x1]) (rest := []) (kX8_isField hc1) w_278 w_279 mwX8_isField rfl ⟨Nat.le_of_ble_eq_true rfl, Nat.le_of_ble_eq_true rfl⟩ ⟨Nat.le_refl _, Nat.le_refl _⟩ (Nat.le_of_ble_eq_true rfl) dX8_isChain_1 ?_
  refine xif_eq C (tgt := 27) h (by decide) dX8_isChain_4 (fun h => ?_) (fun h => ?_)
  · refine xiconst C (v := (nI 0)) dX8_isChain_27 (by decide) ?_
    obtain ⟨rfl, rfl⟩ := so_2 h
    exact xzret C (Or.inl rfl) rfl dX8_isChain_28
  · refine xaload_n C 0 rfl rfl dX8_isChain_7 ?_
    refine xg_8_land C a0.1 w_252 dX8_isChain_8 ?_
    refine xgN_4_hedges C a0.2.1.2.1.1 nf_13 dX8_isChain_11 ?_
    refine xiload_n C 1 rfl rfl dX8_isChain_14 ?_
    obtain ⟨hi15, h⟩ := ix_some h
    refine xaa_18 C x1.toNatClampNeg rfl ((q0 + 2) + 3 + 5 * x1.toNatClampNeg) (by omega) a0.2.1.2.1.2.1 hi15 dX8_isChain_15 ?_
    refine xiload_n C 2 rfl rfl dX8_isChain_16 ?_
    obtain ⟨r17, G17, hc17, h⟩ := bd_some h
    refine xNi C (As := [.int x2]) (rest := []) (kX1_has (a0.2.1.2.1.2.2.2.1 x1.toNatClampNeg (vp_lt hi15)) hc17) ((a0.2.1.2.1.2.2.2.1 x1.toNatClampNeg (vp_lt hi15)).1) rfl rfl nm_11 mvX1_has mwX1_has rfl ⟨Nat.le_of_ble_eq_true rfl, Nat.le_of_ble_eq_true rfl⟩ ⟨Nat.le_refl _, Nat.le_refl _⟩ (Nat.le_of_ble_eq_true rfl) dX8_isChain_17 ?_
    refine xif_eq C (tgt := 27) h (by decide) dX8_isChain_20 (fun h => ?_) (fun h => ?_)
    · refine xiconst C (v := (nI 0)) dX8_isChain_27 (by decide) ?_
      obtain ⟨rfl, rfl⟩ := so_2 h
      exact xzret C (Or.inl rfl) rfl dX8_isChain_28
    · refine xiconst C (v := (nI 1)) dX8_isChain_23 (by decide) ?_
      refine xgoto C (tgt := 28) (by decide) dX8_isChain_24 ?_
      obtain ⟨rfl, rfl⟩ := so_2 h
      exact xzret C (Or.inr rfl) rfl dX8_isChain_28
/-- HedgeChains.lay(III)I -/
theorem wX8_lay_67 {r : Int32} (C : xC p s m args meth c cX8_lay RX8 5 (some .int) D cy) (q0 : Nat) (x1 : Int32) (x2 : Int32) (x3 : Int32) (a0 : A8 kd NP q0) : ∀ (n : Nat) (x4 : Int32) (G : Mem) (h : itr n (FX8_lay_67 q0 x1 x2 x3) (x4, G) = some (r, G')), xX p l e (xR 5 112) s m args below meth c A s.heap D cy ad kd NP 5 0 0 (xQi below D cy ad kd NP A args s r G') G 67 [(0, .ref (ad q0)), (1, .int x1), (2, .int x2), (3, .int x3), (4, .int x4)] [] := by
  intro n
  induction n with
  | zero =>
    intro x4 G h
    have h : none = some (r, G') := h
    cases h
  | succ n ih =>
    intro x4 G h
    have h : bX8_lay_67 q0 x1 x2 x3 (itr n (FX8_lay_67 q0 x1 x2 x3)) x4 G = some (r, G') := h
    have hrec67 : ∀ (x4 : Int32) (G : Mem), itr n (FX8_lay_67 q0 x1 x2 x3) (x4, G) = some (r, G') → xX p l e (xR 5 112) s m args below meth c A s.heap D cy ad kd NP 5 0 0 (xQi below D cy ad kd NP A args s r G') G 67 [(0, .ref (ad q0)), (1, .int x1), (2, .int x2), (3, .int x3), (4, .int x4)] [] := fun x4 G h => ih x4 G h
    unfold bX8_lay_67 at h
    refine xiload C 4 rfl dX8_lay_67 ?_
    refine xiload_n C 3 rfl rfl dX8_lay_69 ?_
    refine xicmp_ge C (tgt := 106) h (by decide) dX8_lay_70 (fun h => ?_) (fun h => ?_)
    · refine xiload C 4 rfl dX8_lay_106 ?_
      obtain ⟨rfl, rfl⟩ := so_2 h
      exact xiret C rfl dX8_lay_108
    · refine xaload_n C 0 rfl rfl dX8_lay_73 ?_
      refine xg_8_land C a0.1 w_252 dX8_lay_74 ?_
      refine xiload_n C 1 rfl rfl dX8_lay_77 ?_
      refine xiload_n C 2 rfl rfl dX8_lay_78 ?_
      refine xiload C 4 rfl dX8_lay_79 ?_
      refine xiadd C dX8_lay_81 ?_
      obtain ⟨r82, G82, hc82, h⟩ := bd_some h
      refine xNi C (As := [.int x1, .int (x2 + x4)]) (rest := []) (kX4_canLay a0.2.1.2.1 hc82) a0.2.1.2.1.1 rfl rfl nm_13 mvX4_canLay mwX4_canLay rfl ⟨Nat.le_of_ble_eq_true rfl, Nat.le_of_ble_eq_true rfl⟩ ⟨Nat.le_refl _, Nat.le_refl _⟩ (Nat.le_of_ble_eq_true rfl) dX8_lay_82 ?_
      refine xif_eq C (tgt := 106) h (by decide) dX8_lay_85 (fun h => ?_) (fun h => ?_)
      · refine xiload C 4 rfl dX8_lay_106 ?_
        obtain ⟨rfl, rfl⟩ := so_2 h
        exact xiret C rfl dX8_lay_108
      · refine xaload_n C 0 rfl rfl dX8_lay_88 ?_
        refine xg_8_land C a0.1 w_252 dX8_lay_89 ?_
        refine xiload_n C 1 rfl rfl dX8_lay_92 ?_
        refine xiload_n C 2 rfl rfl dX8_lay_93 ?_
        refine xiload C 4 rfl dX8_lay_94 ?_
        refine xiadd C dX8_lay_96 ?_
        obtain ⟨G97, hc97, h⟩ := bv_some h
        refine xNv C (As := [.int x1, .int (x2 + x4)]) (rest := []) (kX4_layChain a0.2.1.2.1 hc97) a0.2.1.2.1.1 rfl rfl nm_21 mvX4_layChain mwX4_layChain rfl ⟨Nat.le_of_ble_eq_true rfl, Nat.le_of_ble_eq_true rfl⟩ ⟨Nat.le_refl _, Nat.le_refl _⟩ (Nat.le_of_ble_eq_true rfl) dX8_lay_97 ?_
        refine xiinc C (v := (x4 + nI 1)) (lv' := [(4, .int (x4 + nI 1)), (0, .ref (ad q0)), (1, .int x1), (2, .int x2), (3, .int x3)]) 4 rfl rfl (by decide) rfl dX8_lay_100 ?_
        refine xgoto C (tgt := 67) (by decide) dX8_lay_103 ?_
        refine xsub C (lv' := [(0, .ref (ad q0)), (1, .int x1), (2, .int x2), (3, .int x3), (4, .int (x4 + nI 1))]) [1, 2, 3, 4, 0] rfl ?_
        exact hrec67 (x4 + nI 1) G97 h
theorem kX8_lay {r : Int32}  {q0 : Nat} {x1 : Int32} {x2 : Int32} {x3 : Int32} (a0 : A8 kd NP q0) {G : Mem} (h : fX8_lay q0 x1 x2 x3 G = some (r, G')) : xMi l D cy ad kd NP A yX8_lay cX8_lay 5 (some .int) 5 112 [.ref (ad q0), .int x1, .int x2, .int x3] G r G' := by
  refine xMi_of trivial (by decide +kernel) (Nat.le_of_ble_eq_true rfl) (fun p e s m args below meth c C => ?_)
  have C : xC p s m args meth c cX8_lay RX8 5 (some .int) D cy := C
  refine xsub C (lv' := [(0, .ref (ad q0)), (1, .int x1), (2, .int x2), (3, .int x3)]) [0, 1, 2, 3] rfl ?_
  unfold fX8_lay at h
  refine xaload_n C 0 rfl rfl dX8_lay_0 ?_
  refine xiload_n C 1 rfl rfl dX8_lay_1 ?_
  refine xiload_n C 2 rfl rfl dX8_lay_2 ?_
  obtain ⟨r3, G3, hc3, h⟩ := bd_some h
  refine xVi C (As := [.int x1, .int x2]) (rest := []) (kX8_isChain a0 hc3) a0.1 rfl rfl w_274 mvX8_isChain mwX8_isChain rfl ⟨Nat.le_of_ble_eq_true rfl, Nat.le_of_ble_eq_true rfl⟩ ⟨Nat.le_refl _, Nat.le_refl _⟩ (Nat.le_of_ble_eq_true rfl) dX8_lay_3 ?_
  refine xif_eq C (tgt := 19) h (by decide) dX8_lay_6 (fun h => ?_) (fun h => ?_)
  · refine xiconst C (v := (-1)) dX8_lay_19 (by decide) ?_
    obtain ⟨rfl, rfl⟩ := so_2 h
    exact xiret C rfl dX8_lay_20
  · refine xiload_n C 3 rfl rfl dX8_lay_9 ?_
    refine xiconst C (v := (nI 1)) dX8_lay_10 (by decide) ?_
    refine xbipush C (v := (nI 30)) dX8_lay_11 (by decide) ?_
    obtain ⟨r13, G13, hc13, h⟩ := bd_some h
    refine xSi C (As := [.int x3, .int (nI 1), .int (nI 30)]) (rest := []) (kX8_isWithin hc13) w_281 w_282 mwX8_isWithin rfl ⟨Nat.le_of_ble_eq_true rfl, Nat.le_of_ble_eq_true rfl⟩ ⟨Nat.le_refl _, Nat.le_refl _⟩ (Nat.le_of_ble_eq_true rfl) dX8_lay_13 ?_
    refine xif_ne C (tgt := 21) h (by decide) dX8_lay_16 (fun h => ?_) (fun h => ?_)
    · refine xiconst C (v := (-1)) dX8_lay_19 (by decide) ?_
      obtain ⟨rfl, rfl⟩ := so_2 h
      exact xiret C rfl dX8_lay_20
    · refine xaload_n C 0 rfl rfl dX8_lay_21 ?_
      refine xg_8_land C a0.1 w_252 dX8_lay_22 ?_
      refine xaload_n C 0 rfl rfl dX8_lay_25 ?_
      refine xg_8_land C a0.1 w_252 dX8_lay_26 ?_
      refine xgN_4_week C a0.2.1.2.1.1 nf_16 dX8_lay_29 ?_
      obtain ⟨r32, G32, hc32, h⟩ := bd_some h
      refine xNi C (As := [.int (G13 (q0 + 2) 2)]) (rest := []) (kX4_isClosed a0.2.1.2.1 hc32) a0.2.1.2.1.1 rfl rfl nm_12 mvX4_isClosed mwX4_isClosed rfl ⟨Nat.le_of_ble_eq_true rfl, Nat.le_of_ble_eq_true rfl⟩ ⟨Nat.le_refl _, Nat.le_refl _⟩ (Nat.le_of_ble_eq_true rfl) dX8_lay_32 ?_
      refine xif_ne C (tgt := 50) h (by decide) dX8_lay_35 (fun h => ?_) (fun h => ?_)
      · refine xaload_n C 0 rfl rfl dX8_lay_38 ?_
        refine xg_8_land C a0.1 w_252 dX8_lay_39 ?_
        refine xiload_n C 1 rfl rfl dX8_lay_42 ?_
        refine xiload_n C 2 rfl rfl dX8_lay_43 ?_
        obtain ⟨r44, G44, hc44, h⟩ := bd_some h
        refine xNi C (As := [.int x1, .int x2]) (rest := []) (kX4_canLay a0.2.1.2.1 hc44) a0.2.1.2.1.1 rfl rfl nm_13 mvX4_canLay mwX4_canLay rfl ⟨Nat.le_of_ble_eq_true rfl, Nat.le_of_ble_eq_true rfl⟩ ⟨Nat.le_refl _, Nat.le_refl _⟩ (Nat.le_of_ble_eq_true rfl) dX8_lay_44 ?_
        refine xif_ne C (tgt := 53) h (by decide) dX8_lay_47 (fun h => ?_) (fun h => ?_)
        · refine xbipush C (v := (-2)) dX8_lay_50 (by decide) ?_
          obtain ⟨rfl, rfl⟩ := so_2 h
          exact xiret C rfl dX8_lay_52
        · refine xaload_n C 0 rfl rfl dX8_lay_53 ?_
          refine xg_8_history C a0.1 w_253 dX8_lay_54 ?_
          refine xaload_n C 0 rfl rfl dX8_lay_57 ?_
          refine xg_8_state C a0.1 w_251 dX8_lay_58 ?_
          obtain ⟨G61, hc61, h⟩ := bv_some h
          refine xNv C (As := [.ref (ad (q0 + 1))]) (rest := []) (kX3_keep a0.2.2.1 a0.2.1 hc61) a0.2.2.1.1 rfl rfl nm_16 mvX3_keep mwX3_keep rfl ⟨Nat.le_of_ble_eq_true rfl, Nat.le_of_ble_eq_true rfl⟩ ⟨Nat.le_refl _, Nat.le_refl _⟩ (Nat.le_of_ble_eq_true rfl) dX8_lay_61 ?_
          refine xiconst C (v := (nI 0)) dX8_lay_64 (by decide) ?_
          refine xistore C (lv' := [(4, .int (nI 0)), (0, .ref (ad q0)), (1, .int x1), (2, .int x2), (3, .int x3)]) (by decide) rfl dX8_lay_65 ?_
          refine xsub C (lv' := [(0, .ref (ad q0)), (1, .int x1), (2, .int x2), (3, .int x3), (4, .int (nI 0))]) [1, 2, 3, 4, 0] rfl ?_
          exact wX8_lay_67 C q0 x1 x2 x3 a0 _ (nI 0) G61 h
      · refine xbipush C (v := (-2)) dX8_lay_50 (by decide) ?_
        obtain ⟨rfl, rfl⟩ := so_2 h
        exact xiret C rfl dX8_lay_52
/-- HedgeChains.cut(II)I -/
theorem kX8_cut {r : Int32}  {q0 : Nat} {x1 : Int32} {x2 : Int32} (a0 : A8 kd NP q0) {G : Mem} (h : fX8_cut q0 x1 x2 G = some (r, G')) : xMi l D cy ad kd NP A yX8_cut cX8_cut 3 (some .int) 5 112 [.ref (ad q0), .int x1, .int x2] G r G' := by
  refine xMi_of trivial (by decide +kernel) (Nat.le_of_ble_eq_true rfl) (fun p e s m args below meth c C => ?_)
  have C : xC p s m args meth c cX8_cut RX8 3 (some .int) D cy := C
  refine xsub C (lv' := [(0, .ref (ad q0)), (1, .int x1), (2, .int x2)]) [0, 1, 2] rfl ?_
  unfold fX8_cut at h
  refine xaload_n C 0 rfl rfl dX8_cut_0 ?_
  refine xiload_n C 1 rfl rfl dX8_cut_1 ?_
  refine xiload_n C 2 rfl rfl dX8_cut_2 ?_
  obtain ⟨r3, G3, hc3, h⟩ := bd_some h
  refine xVi C (As := [.int x1, .int x2]) (rest := []) (kX8_isChain a0 hc3) a0.1 rfl rfl w_274 mvX8_isChain mwX8_isChain rfl ⟨Nat.le_of_ble_eq_true rfl, Nat.le_of_ble_eq_true rfl⟩ ⟨Nat.le_refl _, Nat.le_refl _⟩ (Nat.le_of_ble_eq_true rfl) dX8_cut_3 ?_
  refine xif_ne C (tgt := 11) h (by decide) dX8_cut_6 (fun h => ?_) (fun h => ?_)
  · refine xiconst C (v := (-1)) dX8_cut_9 (by decide) ?_
    obtain ⟨rfl, rfl⟩ := so_2 h
    exact xiret C rfl dX8_cut_10
  · refine xaload_n C 0 rfl rfl dX8_cut_11 ?_
    refine xg_8_land C a0.1 w_252 dX8_cut_12 ?_
    refine xaload_n C 0 rfl rfl dX8_cut_15 ?_
    refine xg_8_land C a0.1 w_252 dX8_cut_16 ?_
    refine xgN_4_week C a0.2.1.2.1.1 nf_16 dX8_cut_19 ?_
    obtain ⟨r22, G22, hc22, h⟩ := bd_some h
    refine xNi C (As := [.int (G3 (q0 + 2) 2)]) (rest := []) (kX4_isClosed a0.2.1.2.1 hc22) a0.2.1.2.1.1 rfl rfl nm_12 mvX4_isClosed mwX4_isClosed rfl ⟨Nat.le_of_ble_eq_true rfl, Nat.le_of_ble_eq_true rfl⟩ ⟨Nat.le_refl _, Nat.le_refl _⟩ (Nat.le_of_ble_eq_true rfl) dX8_cut_22 ?_
    refine xif_ne C (tgt := 40) h (by decide) dX8_cut_25 (fun h => ?_) (fun h => ?_)
    · refine xaload_n C 0 rfl rfl dX8_cut_28 ?_
      refine xg_8_land C a0.1 w_252 dX8_cut_29 ?_
      refine xiload_n C 1 rfl rfl dX8_cut_32 ?_
      refine xiload_n C 2 rfl rfl dX8_cut_33 ?_
      obtain ⟨r34, G34, hc34, h⟩ := bd_some h
      refine xNi C (As := [.int x1, .int x2]) (rest := []) (kX4_canCut a0.2.1.2.1 hc34) a0.2.1.2.1.1 rfl rfl nm_24 mvX4_canCut mwX4_canCut rfl ⟨Nat.le_of_ble_eq_true rfl, Nat.le_of_ble_eq_true rfl⟩ ⟨Nat.le_refl _, Nat.le_refl _⟩ (Nat.le_of_ble_eq_true rfl) dX8_cut_34 ?_
      refine xif_ne C (tgt := 43) h (by decide) dX8_cut_37 (fun h => ?_) (fun h => ?_)
      · refine xbipush C (v := (-2)) dX8_cut_40 (by decide) ?_
        obtain ⟨rfl, rfl⟩ := so_2 h
        exact xiret C rfl dX8_cut_42
      · refine xaload_n C 0 rfl rfl dX8_cut_43 ?_
        refine xg_8_history C a0.1 w_253 dX8_cut_44 ?_
        refine xaload_n C 0 rfl rfl dX8_cut_47 ?_
        refine xg_8_state C a0.1 w_251 dX8_cut_48 ?_
        obtain ⟨G51, hc51, h⟩ := bv_some h
        refine xNv C (As := [.ref (ad (q0 + 1))]) (rest := []) (kX3_keep a0.2.2.1 a0.2.1 hc51) a0.2.2.1.1 rfl rfl nm_16 mvX3_keep mwX3_keep rfl ⟨Nat.le_of_ble_eq_true rfl, Nat.le_of_ble_eq_true rfl⟩ ⟨Nat.le_refl _, Nat.le_refl _⟩ (Nat.le_of_ble_eq_true rfl) dX8_cut_51 ?_
        refine xaload_n C 0 rfl rfl dX8_cut_54 ?_
        refine xg_8_land C a0.1 w_252 dX8_cut_55 ?_
        refine xiload_n C 1 rfl rfl dX8_cut_58 ?_
        refine xiload_n C 2 rfl rfl dX8_cut_59 ?_
        obtain ⟨G60, hc60, h⟩ := bv_some h
        refine xNv C (As := [.int x1, .int x2]) (rest := []) (kX4_cutChain a0.2.1.2.1 hc60) a0.2.1.2.1.1 rfl rfl nm_26 mvX4_cutChain mwX4_cutChain rfl ⟨Nat.le_of_ble_eq_true rfl, Nat.le_of_ble_eq_true rfl⟩ ⟨Nat.le_refl _, Nat.le_refl _⟩ (Nat.le_of_ble_eq_true rfl) dX8_cut_60 ?_
        refine xaload_n C 0 rfl rfl dX8_cut_63 ?_
        refine xg_8_land C a0.1 w_252 dX8_cut_64 ?_
        refine xgN_4_stakes C a0.2.1.2.1.1 nf_19 dX8_cut_67 ?_
        obtain ⟨rfl, rfl⟩ := so_2 h
        exact xiret C rfl dX8_cut_70
    · refine xbipush C (v := (-2)) dX8_cut_40 (by decide) ?_
      obtain ⟨rfl, rfl⟩ := so_2 h
      exact xiret C rfl dX8_cut_42
/-- HedgeChains.plant(II)I -/
theorem kX8_plant {r : Int32}  {q0 : Nat} {x1 : Int32} {x2 : Int32} (a0 : A8 kd NP q0) {G : Mem} (h : fX8_plant q0 x1 x2 G = some (r, G')) : xMi l D cy ad kd NP A yX8_plant cX8_plant 3 (some .int) 5 112 [.ref (ad q0), .int x1, .int x2] G r G' := by
  refine xMi_of trivial (by decide +kernel) (Nat.le_of_ble_eq_true rfl) (fun p e s m args below meth c C => ?_)
  have C : xC p s m args meth c cX8_plant RX8 3 (some .int) D cy := C
  refine xsub C (lv' := [(0, .ref (ad q0)), (1, .int x1), (2, .int x2)]) [0, 1, 2] rfl ?_
  unfold fX8_plant at h
  refine xaload_n C 0 rfl rfl dX8_plant_0 ?_
  refine xiload_n C 1 rfl rfl dX8_plant_1 ?_
  refine xiload_n C 2 rfl rfl dX8_plant_2 ?_
  obtain ⟨r3, G3, hc3, h⟩ := bd_some h
  refine xVi C (As := [.int x1, .int x2]) (rest := []) (kX8_isChain a0 hc3) a0.1 rfl rfl w_274 mvX8_isChain mwX8_isChain rfl ⟨Nat.le_of_ble_eq_true rfl, Nat.le_of_ble_eq_true rfl⟩ ⟨Nat.le_refl _, Nat.le_refl _⟩ (Nat.le_of_ble_eq_true rfl) dX8_plant_3 ?_
  refine xif_ne C (tgt := 11) h (by decide) dX8_plant_6 (fun h => ?_) (fun h => ?_)
  · refine xiconst C (v := (-1)) dX8_plant_9 (by decide) ?_
    obtain ⟨rfl, rfl⟩ := so_2 h
    exact xiret C rfl dX8_plant_10
  · refine xaload_n C 0 rfl rfl dX8_plant_11 ?_
    refine xg_8_land C a0.1 w_252 dX8_plant_12 ?_
    refine xiload_n C 1 rfl rfl dX8_plant_15 ?_
    refine xiload_n C 2 rfl rfl dX8_plant_16 ?_
    obtain ⟨r17, G17, hc17, h⟩ := bd_some h
    refine xNi C (As := [.int x1, .int x2]) (rest := []) (kX4_canPlant a0.2.1.2.1 hc17) a0.2.1.2.1.1 rfl rfl nm_27 mvX4_canPlant mwX4_canPlant rfl ⟨Nat.le_of_ble_eq_true rfl, Nat.le_of_ble_eq_true rfl⟩ ⟨Nat.le_refl _, Nat.le_refl _⟩ (Nat.le_of_ble_eq_true rfl) dX8_plant_17 ?_
    refine xif_ne C (tgt := 26) h (by decide) dX8_plant_20 (fun h => ?_) (fun h => ?_)
    · refine xbipush C (v := (-2)) dX8_plant_23 (by decide) ?_
      obtain ⟨rfl, rfl⟩ := so_2 h
      exact xiret C rfl dX8_plant_25
    · refine xaload_n C 0 rfl rfl dX8_plant_26 ?_
      refine xg_8_history C a0.1 w_253 dX8_plant_27 ?_
      refine xaload_n C 0 rfl rfl dX8_plant_30 ?_
      refine xg_8_state C a0.1 w_251 dX8_plant_31 ?_
      obtain ⟨G34, hc34, h⟩ := bv_some h
      refine xNv C (As := [.ref (ad (q0 + 1))]) (rest := []) (kX3_keep a0.2.2.1 a0.2.1 hc34) a0.2.2.1.1 rfl rfl nm_16 mvX3_keep mwX3_keep rfl ⟨Nat.le_of_ble_eq_true rfl, Nat.le_of_ble_eq_true rfl⟩ ⟨Nat.le_refl _, Nat.le_refl _⟩ (Nat.le_of_ble_eq_true rfl) dX8_plant_34 ?_
      refine xaload_n C 0 rfl rfl dX8_plant_37 ?_
      refine xg_8_land C a0.1 w_252 dX8_plant_38 ?_
      refine xiload_n C 1 rfl rfl dX8_plant_41 ?_
      refine xiload_n C 2 rfl rfl dX8_plant_42 ?_
      obtain ⟨G43, hc43, h⟩ := bv_some h
      refine xNv C (As := [.int x1, .int x2]) (rest := []) (kX4_plantChain a0.2.1.2.1 hc43) a0.2.1.2.1.1 rfl rfl nm_29 mvX4_plantChain mwX4_plantChain rfl ⟨Nat.le_of_ble_eq_true rfl, Nat.le_of_ble_eq_true rfl⟩ ⟨Nat.le_refl _, Nat.le_refl _⟩ (Nat.le_of_ble_eq_true rfl) dX8_plant_43 ?_
      refine xaload_n C 0 rfl rfl dX8_plant_46 ?_
      refine xg_8_land C a0.1 w_252 dX8_plant_47 ?_
      refine xgN_4_work C a0.2.1.2.1.1 nf_18 dX8_plant_50 ?_
      obtain ⟨rfl, rfl⟩ := so_2 h
      exact xiret C rfl dX8_plant_53
/-- HedgeChains.grub(II)I -/
theorem kX8_grub {r : Int32}  {q0 : Nat} {x1 : Int32} {x2 : Int32} (a0 : A8 kd NP q0) {G : Mem} (h : fX8_grub q0 x1 x2 G = some (r, G')) : xMi l D cy ad kd NP A yX8_grub cX8_grub 4 (some .int) 5 112 [.ref (ad q0), .int x1, .int x2] G r G' := by
  refine xMi_of trivial (by decide +kernel) (Nat.le_of_ble_eq_true rfl) (fun p e s m args below meth c C => ?_)
  have C : xC p s m args meth c cX8_grub RX8 4 (some .int) D cy := C
  refine xsub C (lv' := [(0, .ref (ad q0)), (1, .int x1), (2, .int x2)]) [0, 1, 2] rfl ?_
  unfold fX8_grub at h
  refine xaload_n C 0 rfl rfl dX8_grub_0 ?_
  refine xiload_n C 1 rfl rfl dX8_grub_1 ?_
  refine xiload_n C 2 rfl rfl dX8_grub_2 ?_
  obtain ⟨r3, G3, hc3, h⟩ := bd_some h
  refine xVi C (As := [.int x1, .int x2]) (rest := []) (kX8_isChain a0 hc3) a0.1 rfl rfl w_274 mvX8_isChain mwX8_isChain rfl ⟨Nat.le_of_ble_eq_true rfl, Nat.le_of_ble_eq_true rfl⟩ ⟨Nat.le_refl _, Nat.le_refl _⟩ (Nat.le_of_ble_eq_true rfl) dX8_grub_3 ?_
  refine xif_ne C (tgt := 11) h (by decide) dX8_grub_6 (fun h => ?_) (fun h => ?_)
  · refine xiconst C (v := (-1)) dX8_grub_9 (by decide) ?_
    obtain ⟨rfl, rfl⟩ := so_2 h
    exact xiret C rfl dX8_grub_10
  · refine xaload_n C 0 rfl rfl dX8_grub_11 ?_
    refine xg_8_land C a0.1 w_252 dX8_grub_12 ?_
    refine xgN_4_hedges C a0.2.1.2.1.1 nf_13 dX8_grub_15 ?_
    refine xiload_n C 1 rfl rfl dX8_grub_18 ?_
    obtain ⟨hi19, h⟩ := ix_some h
    refine xaa_18 C x1.toNatClampNeg rfl ((q0 + 2) + 3 + 5 * x1.toNatClampNeg) (by omega) a0.2.1.2.1.2.1 hi19 dX8_grub_19 ?_
    refine xiload_n C 2 rfl rfl dX8_grub_20 ?_
    obtain ⟨r21, G21, hc21, h⟩ := bd_some h
    refine xNi C (As := [.int x2]) (rest := []) (kX1_kindOf (a0.2.1.2.1.2.2.2.1 x1.toNatClampNeg (vp_lt hi19)) hc21) ((a0.2.1.2.1.2.2.2.1 x1.toNatClampNeg (vp_lt hi19)).1) rfl rfl nm_30 mvX1_kindOf mwX1_kindOf rfl ⟨Nat.le_of_ble_eq_true rfl, Nat.le_of_ble_eq_true rfl⟩ ⟨Nat.le_refl _, Nat.le_refl _⟩ (Nat.le_of_ble_eq_true rfl) dX8_grub_21 ?_
    refine xistore_n C (lv' := [(3, .int r21), (0, .ref (ad q0)), (1, .int x1), (2, .int x2)]) rfl (by decide) rfl dX8_grub_24 ?_
    refine xiload_n C 0 rfl rfl dX8_grub_25 ?_
    refine xiconst C (v := (nI 2)) dX8_grub_26 (by decide) ?_
    refine xicmp_ne C (tgt := 33) h (by decide) dX8_grub_27 (fun h => ?_) (fun h => ?_)
    · refine xbipush C (v := (-2)) dX8_grub_30 (by decide) ?_
      obtain ⟨rfl, rfl⟩ := so_2 h
      exact xiret C rfl dX8_grub_32
    · refine xaload_n C 1 rfl rfl dX8_grub_33 ?_
      refine xg_8_history C a0.1 w_253 dX8_grub_34 ?_
      refine xaload_n C 1 rfl rfl dX8_grub_37 ?_
      refine xg_8_state C a0.1 w_251 dX8_grub_38 ?_
      obtain ⟨G41, hc41, h⟩ := bv_some h
      refine xNv C (As := [.ref (ad (q0 + 1))]) (rest := []) (kX3_keep a0.2.2.1 a0.2.1 hc41) a0.2.2.1.1 rfl rfl nm_16 mvX3_keep mwX3_keep rfl ⟨Nat.le_of_ble_eq_true rfl, Nat.le_of_ble_eq_true rfl⟩ ⟨Nat.le_refl _, Nat.le_refl _⟩ (Nat.le_of_ble_eq_true rfl) dX8_grub_41 ?_
      refine xaload_n C 1 rfl rfl dX8_grub_44 ?_
      refine xg_8_land C a0.1 w_252 dX8_grub_45 ?_
      refine xiload_n C 2 rfl rfl dX8_grub_48 ?_
      refine xiload_n C 3 rfl rfl dX8_grub_49 ?_
      obtain ⟨G50, hc50, h⟩ := bv_some h
      refine xNv C (As := [.int x1, .int x2]) (rest := []) (kX4_grubChain a0.2.1.2.1 hc50) a0.2.1.2.1.1 rfl rfl nm_31 mvX4_grubChain mwX4_grubChain rfl ⟨Nat.le_of_ble_eq_true rfl, Nat.le_of_ble_eq_true rfl⟩ ⟨Nat.le_refl _, Nat.le_refl _⟩ (Nat.le_of_ble_eq_true rfl) dX8_grub_50 ?_
      refine xiload_n C 0 rfl rfl dX8_grub_53 ?_
      obtain ⟨rfl, rfl⟩ := so_2 h
      exact xiret C rfl dX8_grub_54
/-- HedgeChains.pass(I)I -/
theorem wX8_pass_45 {r : Int32} (C : xC p s m args meth c cX8_pass RX8 4 (some .int) D cy) (q0 : Nat) (x1 : Int32) (a0 : A8 kd NP q0) : ∀ (n : Nat) (x2 : Int32) (x3 : Int32) (G : Mem) (h : itr n (FX8_pass_45 q0 x1) (x2, x3, G) = some (r, G')), xX p l e (xR 6 129) s m args below meth c A s.heap D cy ad kd NP 4 0 0 (xQi below D cy ad kd NP A args s r G') G 45 [(0, .ref (ad q0)), (1, .int x1), (2, .int x2), (3, .int x3)] [] := by
  intro n
  induction n with
  | zero =>
    intro x2 x3 G h
    have h : none = some (r, G') := h
    cases h
  | succ n ih =>
    intro x2 x3 G h
    have h : bX8_pass_45 q0 x1 (itr n (FX8_pass_45 q0 x1)) x2 x3 G = some (r, G') := h
    have hrec45 : ∀ (x2 : Int32) (x3 : Int32) (G : Mem), itr n (FX8_pass_45 q0 x1) (x2, x3, G) = some (r, G') → xX p l e (xR 6 129) s m args below meth c A s.heap D cy ad kd NP 4 0 0 (xQi below D cy ad kd NP A args s r G') G 45 [(0, .ref (ad q0)), (1, .int x1), (2, .int x2), (3, .int x3)] [] := fun x2 x3 G h => ih x2 x3 G h
    unfold bX8_pass_45 at h
    refine xiload_n C 3 rfl rfl dX8_pass_45 ?_
    refine xiload_n C 1 rfl rfl dX8_pass_46 ?_
    refine xicmp_ge C (tgt := 66) h (by decide) dX8_pass_47 (fun h => ?_) (fun h => ?_)
    · refine xiload_n C 2 rfl rfl dX8_pass_66 ?_
      obtain ⟨rfl, rfl⟩ := so_2 h
      exact xiret C rfl dX8_pass_67
    · refine xiload_n C 2 rfl rfl dX8_pass_50 ?_
      refine xaload_n C 0 rfl rfl dX8_pass_51 ?_
      refine xg_8_land C a0.1 w_252 dX8_pass_52 ?_
      obtain ⟨r55, G55, hc55, h⟩ := bd_some h
      refine xNi C (As := []) (rest := [.int x2]) (kX4_passWeek a0.2.1.2.1 hc55) a0.2.1.2.1.1 rfl rfl nm_32 mvX4_passWeek mwX4_passWeek rfl ⟨Nat.le_of_ble_eq_true rfl, Nat.le_of_ble_eq_true rfl⟩ ⟨Nat.le_refl _, Nat.le_refl _⟩ (Nat.le_of_ble_eq_true rfl) dX8_pass_55 ?_
      refine xiadd C dX8_pass_58 ?_
      refine xistore_n C (lv' := [(2, .int (x2 + r55)), (0, .ref (ad q0)), (1, .int x1), (3, .int x3)]) rfl (by decide) rfl dX8_pass_59 ?_
      refine xiinc C (v := (x3 + nI 1)) (lv' := [(3, .int (x3 + nI 1)), (2, .int (x2 + r55)), (0, .ref (ad q0)), (1, .int x1)]) 3 rfl rfl (by decide) rfl dX8_pass_60 ?_
      refine xgoto C (tgt := 45) (by decide) dX8_pass_63 ?_
      refine xsub C (lv' := [(0, .ref (ad q0)), (1, .int x1), (2, .int (x2 + r55)), (3, .int (x3 + nI 1))]) [2, 3, 1, 0] rfl ?_
      exact hrec45 (x2 + r55) (x3 + nI 1) G55 h
theorem kX8_pass {r : Int32}  {q0 : Nat} {x1 : Int32} (a0 : A8 kd NP q0) {G : Mem} (h : fX8_pass q0 x1 G = some (r, G')) : xMi l D cy ad kd NP A yX8_pass cX8_pass 4 (some .int) 6 129 [.ref (ad q0), .int x1] G r G' := by
  refine xMi_of trivial (by decide +kernel) (Nat.le_of_ble_eq_true rfl) (fun p e s m args below meth c C => ?_)
  have C : xC p s m args meth c cX8_pass RX8 4 (some .int) D cy := C
  refine xsub C (lv' := [(0, .ref (ad q0)), (1, .int x1)]) [0, 1] rfl ?_
  unfold fX8_pass at h
  refine xiload_n C 1 rfl rfl dX8_pass_0 ?_
  refine xiconst C (v := (nI 1)) dX8_pass_1 (by decide) ?_
  refine xbipush C (v := (nI 60)) dX8_pass_2 (by decide) ?_
  obtain ⟨r4, G4, hc4, h⟩ := bd_some h
  refine xSi C (As := [.int x1, .int (nI 1), .int (nI 60)]) (rest := []) (kX8_isWithin hc4) w_281 w_282 mwX8_isWithin rfl ⟨Nat.le_of_ble_eq_true rfl, Nat.le_of_ble_eq_true rfl⟩ ⟨Nat.le_refl _, Nat.le_refl _⟩ (Nat.le_of_ble_eq_true rfl) dX8_pass_4 ?_
  refine xif_ne C (tgt := 12) h (by decide) dX8_pass_7 (fun h => ?_) (fun h => ?_)
  · refine xiconst C (v := (-1)) dX8_pass_10 (by decide) ?_
    obtain ⟨rfl, rfl⟩ := so_2 h
    exact xiret C rfl dX8_pass_11
  · refine xaload_n C 0 rfl rfl dX8_pass_12 ?_
    refine xg_8_land C a0.1 w_252 dX8_pass_13 ?_
    refine xgN_4_week C a0.2.1.2.1.1 nf_16 dX8_pass_16 ?_
    refine xiload_n C 1 rfl rfl dX8_pass_19 ?_
    refine xiadd C dX8_pass_20 ?_
    refine xsipush C (v := (nI 1000)) dX8_pass_21 (by decide) ?_
    refine xicmp_le C (tgt := 30) h (by decide) dX8_pass_24 (fun h => ?_) (fun h => ?_)
    · refine xaload_n C 0 rfl rfl dX8_pass_30 ?_
      refine xg_8_history C a0.1 w_253 dX8_pass_31 ?_
      refine xaload_n C 0 rfl rfl dX8_pass_34 ?_
      refine xg_8_state C a0.1 w_251 dX8_pass_35 ?_
      obtain ⟨G38, hc38, h⟩ := bv_some h
      refine xNv C (As := [.ref (ad (q0 + 1))]) (rest := []) (kX3_keep a0.2.2.1 a0.2.1 hc38) a0.2.2.1.1 rfl rfl nm_16 mvX3_keep mwX3_keep rfl ⟨Nat.le_of_ble_eq_true rfl, Nat.le_of_ble_eq_true rfl⟩ ⟨Nat.le_refl _, Nat.le_refl _⟩ (Nat.le_of_ble_eq_true rfl) dX8_pass_38 ?_
      refine xiconst C (v := (nI 0)) dX8_pass_41 (by decide) ?_
      refine xistore_n C (lv' := [(2, .int (nI 0)), (0, .ref (ad q0)), (1, .int x1)]) rfl (by decide) rfl dX8_pass_42 ?_
      refine xiconst C (v := (nI 0)) dX8_pass_43 (by decide) ?_
      refine xistore_n C (lv' := [(3, .int (nI 0)), (2, .int (nI 0)), (0, .ref (ad q0)), (1, .int x1)]) rfl (by decide) rfl dX8_pass_44 ?_
      refine xsub C (lv' := [(0, .ref (ad q0)), (1, .int x1), (2, .int (nI 0)), (3, .int (nI 0))]) [2, 3, 1, 0] rfl ?_
      exact wX8_pass_45 C q0 x1 a0 _ (nI 0) (nI 0) G38 h
    · refine xbipush C (v := (-3)) dX8_pass_27 (by decide) ?_
      obtain ⟨rfl, rfl⟩ := so_2 h
      exact xiret C rfl dX8_pass_29
/-- HedgeChains.canBeSet(II)Z -/
theorem kX8_canBeSet {r : Int32}  {x0 : Int32} {x1 : Int32} {G : Mem} (h : fX8_canBeSet x0 x1 G = some (r, G')) : xMi l D cy ad kd NP A yX8_canBeSet cX8_canBeSet 2 (some .boolean) 1 22 [.int x0, .int x1] G r G' := by
  refine xMi_of trivial (by decide +kernel) (Nat.le_of_ble_eq_true rfl) (fun p e s m args below meth c C => ?_)
  have C : xC p s m args meth c cX8_canBeSet RX8 2 (some .boolean) D cy := C
  refine xsub C (lv' := [(0, .int x0), (1, .int x1)]) [0, 1] rfl ?_
  unfold fX8_canBeSet at h
  refine xiload_n C 0 rfl rfl dX8_canBeSet_0 ?_
  rcases if_some h with ⟨hs1_0, h⟩ | ⟨hs1_0, h⟩
  · refine xtab C (tgt := 28) (nI 0) hs1_0 (by decide) (by decide) rfl (by decide) dX8_canBeSet_1 ?_
    refine xiload_n C 1 rfl rfl dX8_canBeSet_28 ?_
    refine xiconst C (v := (nI 0)) dX8_canBeSet_29 (by decide) ?_
    refine xbipush C (v := (nI 51)) dX8_canBeSet_30 (by decide) ?_
    obtain ⟨r32, G32, hc32, h⟩ := bd_some h
    refine xSi C (As := [.int x1, .int (nI 0), .int (nI 51)]) (rest := []) (kX8_isWithin hc32) w_281 w_282 mwX8_isWithin rfl ⟨Nat.le_of_ble_eq_true rfl, Nat.le_of_ble_eq_true rfl⟩ ⟨Nat.le_refl _, Nat.le_refl _⟩ (Nat.le_of_ble_eq_true rfl) dX8_canBeSet_32 ?_
    obtain ⟨hz, h⟩ := zk_some h
    obtain ⟨rfl, rfl⟩ := so_2 h
    exact xzret C hz rfl dX8_canBeSet_35
  rcases if_some h with ⟨hs1_1, h⟩ | ⟨hs1_1, h⟩
  · refine xtab C (tgt := 36) (nI 1) hs1_1 (by decide) (by decide) rfl (by decide) dX8_canBeSet_1 ?_
    refine xiload_n C 1 rfl rfl dX8_canBeSet_36 ?_
    refine xiconst C (v := (nI 0)) dX8_canBeSet_37 (by decide) ?_
    refine xbipush C (v := (nI 51)) dX8_canBeSet_38 (by decide) ?_
    obtain ⟨r40, G40, hc40, h⟩ := bd_some h
    refine xSi C (As := [.int x1, .int (nI 0), .int (nI 51)]) (rest := []) (kX8_isWithin hc40) w_281 w_282 mwX8_isWithin rfl ⟨Nat.le_of_ble_eq_true rfl, Nat.le_of_ble_eq_true rfl⟩ ⟨Nat.le_refl _, Nat.le_refl _⟩ (Nat.le_of_ble_eq_true rfl) dX8_canBeSet_40 ?_
    obtain ⟨hz, h⟩ := zk_some h
    obtain ⟨rfl, rfl⟩ := so_2 h
    exact xzret C hz rfl dX8_canBeSet_43
  rcases if_some h with ⟨hs1_2, h⟩ | ⟨hs1_2, h⟩
  · refine xtab C (tgt := 44) (nI 2) hs1_2 (by decide) (by decide) rfl (by decide) dX8_canBeSet_1 ?_
    refine xiload_n C 1 rfl rfl dX8_canBeSet_44 ?_
    refine xiconst C (v := (nI 1)) dX8_canBeSet_45 (by decide) ?_
    refine xbipush C (v := (nI 100)) dX8_canBeSet_46 (by decide) ?_
    obtain ⟨r48, G48, hc48, h⟩ := bd_some h
    refine xSi C (As := [.int x1, .int (nI 1), .int (nI 100)]) (rest := []) (kX8_isWithin hc48) w_281 w_282 mwX8_isWithin rfl ⟨Nat.le_of_ble_eq_true rfl, Nat.le_of_ble_eq_true rfl⟩ ⟨Nat.le_refl _, Nat.le_refl _⟩ (Nat.le_of_ble_eq_true rfl) dX8_canBeSet_48 ?_
    obtain ⟨hz, h⟩ := zk_some h
    obtain ⟨rfl, rfl⟩ := so_2 h
    exact xzret C hz rfl dX8_canBeSet_51
  refine xtabOut C (tgt := 52) (by have := xne hs1_0 0 rfl; have := xne hs1_1 1 rfl; have := xne hs1_2 2 rfl; omega) (by decide) dX8_canBeSet_1 ?_
  refine xiconst C (v := (nI 0)) dX8_canBeSet_52 (by decide) ?_
  obtain ⟨rfl, rfl⟩ := so_2 h
  exact xzret C (Or.inl rfl) rfl dX8_canBeSet_53
/-- HedgeChains.set(II)I -/
theorem kX8_set {r : Int32}  {q0 : Nat} {x1 : Int32} {x2 : Int32} (a0 : A8 kd NP q0) {G : Mem} (h : fX8_set q0 x1 x2 G = some (r, G')) : xMi l D cy ad kd NP A yX8_set cX8_set 4 (some .int) 5 112 [.ref (ad q0), .int x1, .int x2] G r G' := by
  refine xMi_of trivial (by decide +kernel) (Nat.le_of_ble_eq_true rfl) (fun p e s m args below meth c C => ?_)
  have C : xC p s m args meth c cX8_set RX8 4 (some .int) D cy := C
  refine xsub C (lv' := [(0, .ref (ad q0)), (1, .int x1), (2, .int x2)]) [0, 1, 2] rfl ?_
  unfold fX8_set at h
  refine xiload_n C 1 rfl rfl dX8_set_0 ?_
  refine xiload_n C 2 rfl rfl dX8_set_1 ?_
  obtain ⟨r2, G2, hc2, h⟩ := bd_some h
  refine xSi C (As := [.int x1, .int x2]) (rest := []) (kX8_canBeSet hc2) w_425 w_426 mwX8_canBeSet rfl ⟨Nat.le_of_ble_eq_true rfl, Nat.le_of_ble_eq_true rfl⟩ ⟨Nat.le_refl _, Nat.le_refl _⟩ (Nat.le_of_ble_eq_true rfl) dX8_set_2 ?_
  refine xif_ne C (tgt := 10) h (by decide) dX8_set_5 (fun h => ?_) (fun h => ?_)
  · refine xiconst C (v := (-1)) dX8_set_8 (by decide) ?_
    obtain ⟨rfl, rfl⟩ := so_2 h
    exact xiret C rfl dX8_set_9
  · refine xaload_n C 0 rfl rfl dX8_set_10 ?_
    refine xg_8_history C a0.1 w_253 dX8_set_11 ?_
    refine xaload_n C 0 rfl rfl dX8_set_14 ?_
    refine xg_8_state C a0.1 w_251 dX8_set_15 ?_
    obtain ⟨G18, hc18, h⟩ := bv_some h
    refine xNv C (As := [.ref (ad (q0 + 1))]) (rest := []) (kX3_keep a0.2.2.1 a0.2.1 hc18) a0.2.2.1.1 rfl rfl nm_16 mvX3_keep mwX3_keep rfl ⟨Nat.le_of_ble_eq_true rfl, Nat.le_of_ble_eq_true rfl⟩ ⟨Nat.le_refl _, Nat.le_refl _⟩ (Nat.le_of_ble_eq_true rfl) dX8_set_18 ?_
    refine xaload_n C 0 rfl rfl dX8_set_21 ?_
    refine xg_8_land C a0.1 w_252 dX8_set_22 ?_
    refine xiload_n C 1 rfl rfl dX8_set_25 ?_
    obtain ⟨r26, G26, hc26, h⟩ := bd_some h
    refine xNi C (As := [.int x1]) (rest := []) (kX4_settingOf a0.2.1.2.1 hc26) a0.2.1.2.1.1 rfl rfl nm_34 mvX4_settingOf mwX4_settingOf rfl ⟨Nat.le_of_ble_eq_true rfl, Nat.le_of_ble_eq_true rfl⟩ ⟨Nat.le_refl _, Nat.le_refl _⟩ (Nat.le_of_ble_eq_true rfl) dX8_set_26 ?_
    refine xistore_n C (lv' := [(3, .int r26), (0, .ref (ad q0)), (1, .int x1), (2, .int x2)]) rfl (by decide) rfl dX8_set_29 ?_
    refine xaload_n C 1 rfl rfl dX8_set_30 ?_
    refine xg_8_land C a0.1 w_252 dX8_set_31 ?_
    refine xiload_n C 2 rfl rfl dX8_set_34 ?_
    refine xiload_n C 3 rfl rfl dX8_set_35 ?_
    obtain ⟨G36, hc36, h⟩ := bv_some h
    refine xNv C (As := [.int x1, .int x2]) (rest := []) (kX4_changeSetting a0.2.1.2.1 hc36) a0.2.1.2.1.1 rfl rfl nm_35 mvX4_changeSetting mwX4_changeSetting rfl ⟨Nat.le_of_ble_eq_true rfl, Nat.le_of_ble_eq_true rfl⟩ ⟨Nat.le_refl _, Nat.le_refl _⟩ (Nat.le_of_ble_eq_true rfl) dX8_set_36 ?_
    refine xiload_n C 0 rfl rfl dX8_set_39 ?_
    obtain ⟨rfl, rfl⟩ := so_2 h
    exact xiret C rfl dX8_set_40
/-- HedgeChains.contract(IIII)I -/
theorem kX8_contract {r : Int32}  {q0 : Nat} {x1 : Int32} {x2 : Int32} {x3 : Int32} {x4 : Int32} (a0 : A8 kd NP q0) {G : Mem} (h : fX8_contract q0 x1 x2 x3 x4 G = some (r, G')) : xMi l D cy ad kd NP A yX8_contract cX8_contract 6 (some .int) 5 112 [.ref (ad q0), .int x1, .int x2, .int x3, .int x4] G r G' := by
  refine xMi_of trivial (by decide +kernel) (Nat.le_of_ble_eq_true rfl) (fun p e s m args below meth c C => ?_)
  have C : xC p s m args meth c cX8_contract RX8 6 (some .int) D cy := C
  refine xsub C (lv' := [(0, .ref (ad q0)), (1, .int x1), (2, .int x2), (3, .int x3), (4, .int x4)]) [0, 1, 2, 3, 4] rfl ?_
  unfold fX8_contract at h
  refine xiload_n C 1 rfl rfl dX8_contract_0 ?_
  obtain ⟨r1, G1, hc1, h⟩ := bd_some h
  refine xSi C (As := [.int x1]) (rest := []) (kX8_isField hc1) w_278 w_279 mwX8_isField rfl ⟨Nat.le_of_ble_eq_true rfl, Nat.le_of_ble_eq_true rfl⟩ ⟨Nat.le_refl _, Nat.le_refl _⟩ (Nat.le_of_ble_eq_true rfl) dX8_contract_1 ?_
  refine xif_eq C (tgt := 38) h (by decide) dX8_contract_4 (fun h => ?_) (fun h => ?_)
  · refine xiconst C (v := (-1)) dX8_contract_38 (by decide) ?_
    obtain ⟨rfl, rfl⟩ := so_2 h
    exact xiret C rfl dX8_contract_39
  · refine xiload_n C 2 rfl rfl dX8_contract_7 ?_
    refine xiconst C (v := (nI 0)) dX8_contract_8 (by decide) ?_
    refine xbipush C (v := (nI 20)) dX8_contract_9 (by decide) ?_
    obtain ⟨r11, G11, hc11, h⟩ := bd_some h
    refine xSi C (As := [.int x2, .int (nI 0), .int (nI 20)]) (rest := []) (kX8_isWithin hc11) w_281 w_282 mwX8_isWithin rfl ⟨Nat.le_of_ble_eq_true rfl, Nat.le_of_ble_eq_true rfl⟩ ⟨Nat.le_refl _, Nat.le_refl _⟩ (Nat.le_of_ble_eq_true rfl) dX8_contract_11 ?_
    refine xif_eq C (tgt := 38) h (by decide) dX8_contract_14 (fun h => ?_) (fun h => ?_)
    · refine xiconst C (v := (-1)) dX8_contract_38 (by decide) ?_
      obtain ⟨rfl, rfl⟩ := so_2 h
      exact xiret C rfl dX8_contract_39
    · refine xiload_n C 3 rfl rfl dX8_contract_17 ?_
      refine xiconst C (v := (nI 0)) dX8_contract_18 (by decide) ?_
      refine xbipush C (v := (nI 100)) dX8_contract_19 (by decide) ?_
      obtain ⟨r21, G21, hc21, h⟩ := bd_some h
      refine xSi C (As := [.int x3, .int (nI 0), .int (nI 100)]) (rest := []) (kX8_isWithin hc21) w_281 w_282 mwX8_isWithin rfl ⟨Nat.le_of_ble_eq_true rfl, Nat.le_of_ble_eq_true rfl⟩ ⟨Nat.le_refl _, Nat.le_refl _⟩ (Nat.le_of_ble_eq_true rfl) dX8_contract_21 ?_
      refine xif_eq C (tgt := 38) h (by decide) dX8_contract_24 (fun h => ?_) (fun h => ?_)
      · refine xiconst C (v := (-1)) dX8_contract_38 (by decide) ?_
        obtain ⟨rfl, rfl⟩ := so_2 h
        exact xiret C rfl dX8_contract_39
      · refine xiload C 4 rfl dX8_contract_27 ?_
        refine xiconst C (v := (nI 0)) dX8_contract_29 (by decide) ?_
        refine xbipush C (v := (nI 9)) dX8_contract_30 (by decide) ?_
        obtain ⟨r32, G32, hc32, h⟩ := bd_some h
        refine xSi C (As := [.int x4, .int (nI 0), .int (nI 9)]) (rest := []) (kX8_isWithin hc32) w_281 w_282 mwX8_isWithin rfl ⟨Nat.le_of_ble_eq_true rfl, Nat.le_of_ble_eq_true rfl⟩ ⟨Nat.le_refl _, Nat.le_refl _⟩ (Nat.le_of_ble_eq_true rfl) dX8_contract_32 ?_
        refine xif_ne C (tgt := 40) h (by decide) dX8_contract_35 (fun h => ?_) (fun h => ?_)
        · refine xiconst C (v := (-1)) dX8_contract_38 (by decide) ?_
          obtain ⟨rfl, rfl⟩ := so_2 h
          exact xiret C rfl dX8_contract_39
        · refine xaload_n C 0 rfl rfl dX8_contract_40 ?_
          refine xg_8_land C a0.1 w_252 dX8_contract_41 ?_
          refine xgN_4_hedges C a0.2.1.2.1.1 nf_13 dX8_contract_44 ?_
          refine xiload_n C 1 rfl rfl dX8_contract_47 ?_
          obtain ⟨hi48, h⟩ := ix_some h
          refine xaa_18 C x1.toNatClampNeg rfl ((q0 + 2) + 3 + 5 * x1.toNatClampNeg) (by omega) a0.2.1.2.1.2.1 hi48 dX8_contract_48 ?_
          refine xiconst C (v := (nI 0)) dX8_contract_49 (by decide) ?_
          obtain ⟨r50, G50, hc50, h⟩ := bd_some h
          refine xNi C (As := [.int (nI 0)]) (rest := []) (kX1_numberOf (a0.2.1.2.1.2.2.2.1 x1.toNatClampNeg (vp_lt hi48)) hc50) ((a0.2.1.2.1.2.2.2.1 x1.toNatClampNeg (vp_lt hi48)).1) rfl rfl nm_36 mvX1_numberOf mwX1_numberOf rfl ⟨Nat.le_of_ble_eq_true rfl, Nat.le_of_ble_eq_true rfl⟩ ⟨Nat.le_refl _, Nat.le_refl _⟩ (Nat.le_of_ble_eq_true rfl) dX8_contract_50 ?_
          refine xistore C (lv' := [(5, .int r50), (0, .ref (ad q0)), (1, .int x1), (2, .int x2), (3, .int x3), (4, .int x4)]) (by decide) rfl dX8_contract_53 ?_
          refine xaload_n C 1 rfl rfl dX8_contract_55 ?_
          refine xg_8_land C a0.1 w_252 dX8_contract_56 ?_
          refine xgN_4_contracts C a0.2.1.2.1.1 nf_15 dX8_contract_59 ?_
          refine xiload_n C 2 rfl rfl dX8_contract_62 ?_
          obtain ⟨hi63, h⟩ := ix_some h
          refine xaa_19 C x1.toNatClampNeg rfl ((q0 + 2) + 7 + 5 * x1.toNatClampNeg) (by omega) a0.2.1.2.1.2.2.1 hi63 dX8_contract_63 ?_
          refine xgN_0_made C (a0.2.1.2.1.2.2.2.2 x1.toNatClampNeg (vp_lt hi63)) nf_5 dX8_contract_64 ?_
          refine xif_ne C (tgt := 75) h (by decide) dX8_contract_67 (fun h => ?_) (fun h => ?_)
          · refine xiload C 0 rfl dX8_contract_70 ?_
            refine xif_ne C (tgt := 78) h (by decide) dX8_contract_72 (fun h => ?_) (fun h => ?_)
            · refine xbipush C (v := (-2)) dX8_contract_75 (by decide) ?_
              obtain ⟨rfl, rfl⟩ := so_2 h
              exact xiret C rfl dX8_contract_77
            · refine xaload_n C 1 rfl rfl dX8_contract_78 ?_
              refine xg_8_history C a0.1 w_253 dX8_contract_79 ?_
              refine xaload_n C 1 rfl rfl dX8_contract_82 ?_
              refine xg_8_state C a0.1 w_251 dX8_contract_83 ?_
              obtain ⟨G86, hc86, h⟩ := bv_some h
              refine xNv C (As := [.ref (ad (q0 + 1))]) (rest := []) (kX3_keep a0.2.2.1 a0.2.1 hc86) a0.2.2.1.1 rfl rfl nm_16 mvX3_keep mwX3_keep rfl ⟨Nat.le_of_ble_eq_true rfl, Nat.le_of_ble_eq_true rfl⟩ ⟨Nat.le_refl _, Nat.le_refl _⟩ (Nat.le_of_ble_eq_true rfl) dX8_contract_86 ?_
              refine xaload_n C 1 rfl rfl dX8_contract_89 ?_
              refine xg_8_land C a0.1 w_252 dX8_contract_90 ?_
              refine xgN_4_contracts C a0.2.1.2.1.1 nf_15 dX8_contract_93 ?_
              refine xiload_n C 2 rfl rfl dX8_contract_96 ?_
              obtain ⟨hi97, h⟩ := ix_some h
              refine xaa_19 C x1.toNatClampNeg rfl ((q0 + 2) + 7 + 5 * x1.toNatClampNeg) (by omega) a0.2.1.2.1.2.2.1 hi97 dX8_contract_97 ?_
              refine xiload_n C 3 rfl rfl dX8_contract_98 ?_
              refine xaload_n C 1 rfl rfl dX8_contract_99 ?_
              refine xg_8_land C a0.1 w_252 dX8_contract_100 ?_
              refine xgN_4_week C a0.2.1.2.1.1 nf_16 dX8_contract_103 ?_
              refine xiload_n C 4 rfl rfl dX8_contract_106 ?_
              refine xiadd C dX8_contract_107 ?_
              refine xiload C 5 rfl dX8_contract_108 ?_
              obtain ⟨G110, hc110, h⟩ := bv_some h
              refine xNv C (As := [.int x2, .int ((G86 (q0 + 2) 2) + x3), .int x4]) (rest := []) (kX0_make (a0.2.1.2.1.2.2.2.2 x1.toNatClampNeg (vp_lt hi97)) hc110) (a0.2.1.2.1.2.2.2.2 x1.toNatClampNeg (vp_lt hi97)) rfl rfl nm_37 mvX0_make mwX0_make rfl ⟨Nat.le_of_ble_eq_true rfl, Nat.le_of_ble_eq_true rfl⟩ ⟨Nat.le_refl _, Nat.le_refl _⟩ (Nat.le_of_ble_eq_true rfl) dX8_contract_110 ?_
              refine xiload C 0 rfl dX8_contract_113 ?_
              obtain ⟨rfl, rfl⟩ := so_2 h
              exact xiret C rfl dX8_contract_115
          · refine xbipush C (v := (-2)) dX8_contract_75 (by decide) ?_
            obtain ⟨rfl, rfl⟩ := so_2 h
            exact xiret C rfl dX8_contract_77
/-- HedgeChains.giveBack(I)I -/
theorem kX8_giveBack {r : Int32}  {q0 : Nat} {x1 : Int32} (a0 : A8 kd NP q0) {G : Mem} (h : fX8_giveBack q0 x1 G = some (r, G')) : xMi l D cy ad kd NP A yX8_giveBack cX8_giveBack 4 (some .int) 5 112 [.ref (ad q0), .int x1] G r G' := by
  refine xMi_of trivial (by decide +kernel) (Nat.le_of_ble_eq_true rfl) (fun p e s m args below meth c C => ?_)
  have C : xC p s m args meth c cX8_giveBack RX8 4 (some .int) D cy := C
  refine xsub C (lv' := [(0, .ref (ad q0)), (1, .int x1)]) [0, 1] rfl ?_
  unfold fX8_giveBack at h
  refine xiload_n C 1 rfl rfl dX8_giveBack_0 ?_
  obtain ⟨r1, G1, hc1, h⟩ := bd_some h
  refine xSi C (As := [.int x1]) (rest := []) (kX8_isField hc1) w_278 w_279 mwX8_isField rfl ⟨Nat.le_of_ble_eq_true rfl, Nat.le_of_ble_eq_true rfl⟩ ⟨Nat.le_refl _, Nat.le_refl _⟩ (Nat.le_of_ble_eq_true rfl) dX8_giveBack_1 ?_
  refine xif_ne C (tgt := 9) h (by decide) dX8_giveBack_4 (fun h => ?_) (fun h => ?_)
  · refine xiconst C (v := (-1)) dX8_giveBack_7 (by decide) ?_
    obtain ⟨rfl, rfl⟩ := so_2 h
    exact xiret C rfl dX8_giveBack_8
  · refine xaload_n C 0 rfl rfl dX8_giveBack_9 ?_
    refine xg_8_land C a0.1 w_252 dX8_giveBack_10 ?_
    refine xgN_4_contracts C a0.2.1.2.1.1 nf_15 dX8_giveBack_13 ?_
    refine xiload_n C 1 rfl rfl dX8_giveBack_16 ?_
    obtain ⟨hi17, h⟩ := ix_some h
    refine xaa_19 C x1.toNatClampNeg rfl ((q0 + 2) + 7 + 5 * x1.toNatClampNeg) (by omega) a0.2.1.2.1.2.2.1 hi17 dX8_giveBack_17 ?_
    refine xastore_n C (lv' := [(2, .ref (ad ((q0 + 2) + 7 + 5 * x1.toNatClampNeg))), (0, .ref (ad q0)), (1, .int x1)]) rfl (by decide) rfl dX8_giveBack_18 ?_
    refine xaload_n C 0 rfl rfl dX8_giveBack_19 ?_
    refine xgN_0_made C (a0.2.1.2.1.2.2.2.2 x1.toNatClampNeg (vp_lt hi17)) nf_5 dX8_giveBack_20 ?_
    refine xif_ne C (tgt := 29) h (by decide) dX8_giveBack_23 (fun h => ?_) (fun h => ?_)
    · refine xbipush C (v := (-2)) dX8_giveBack_26 (by decide) ?_
      obtain ⟨rfl, rfl⟩ := so_2 h
      exact xiret C rfl dX8_giveBack_28
    · refine xaload_n C 1 rfl rfl dX8_giveBack_29 ?_
      refine xg_8_history C a0.1 w_253 dX8_giveBack_30 ?_
      refine xaload_n C 1 rfl rfl dX8_giveBack_33 ?_
      refine xg_8_state C a0.1 w_251 dX8_giveBack_34 ?_
      obtain ⟨G37, hc37, h⟩ := bv_some h
      refine xNv C (As := [.ref (ad (q0 + 1))]) (rest := []) (kX3_keep a0.2.2.1 a0.2.1 hc37) a0.2.2.1.1 rfl rfl nm_16 mvX3_keep mwX3_keep rfl ⟨Nat.le_of_ble_eq_true rfl, Nat.le_of_ble_eq_true rfl⟩ ⟨Nat.le_refl _, Nat.le_refl _⟩ (Nat.le_of_ble_eq_true rfl) dX8_giveBack_37 ?_
      refine xiconst C (v := (nI 5)) dX8_giveBack_40 (by decide) ?_
      refine xaload_n C 0 rfl rfl dX8_giveBack_41 ?_
      refine xgN_0_fine C (a0.2.1.2.1.2.2.2.2 x1.toNatClampNeg (vp_lt hi17)) nf_11 dX8_giveBack_42 ?_
      refine ximul C dX8_giveBack_45 ?_
      refine xistore_n C (lv' := [(3, .int ((nI 5) * (G37 ((q0 + 2) + 7 + 5 * x1.toNatClampNeg) 3))), (2, .ref (ad ((q0 + 2) + 7 + 5 * x1.toNatClampNeg))), (0, .ref (ad q0)), (1, .int x1)]) rfl (by decide) rfl dX8_giveBack_46 ?_
      refine xaload_n C 2 rfl rfl dX8_giveBack_47 ?_
      refine xg_8_land C a0.1 w_252 dX8_giveBack_48 ?_
      refine xiload_n C 0 rfl rfl dX8_giveBack_51 ?_
      obtain ⟨G52, hc52, h⟩ := bv_some h
      refine xNv C (As := [.int ((nI 5) * (G37 ((q0 + 2) + 7 + 5 * x1.toNatClampNeg) 3))]) (rest := []) (kX4_spend a0.2.1.2.1 hc52) a0.2.1.2.1.1 rfl rfl nm_38 mvX4_spend mwX4_spend rfl ⟨Nat.le_of_ble_eq_true rfl, Nat.le_of_ble_eq_true rfl⟩ ⟨Nat.le_refl _, Nat.le_refl _⟩ (Nat.le_of_ble_eq_true rfl) dX8_giveBack_52 ?_
      refine xaload_n C 1 rfl rfl dX8_giveBack_55 ?_
      refine xiconst C (v := (nI 0)) dX8_giveBack_56 (by decide) ?_
      refine xpN_0_made C (a0.2.1.2.1.2.2.2.2 x1.toNatClampNeg (vp_lt hi17)) (Or.inl rfl) nf_5 dX8_giveBack_57 ?_
      generalize mset G52 ((q0 + 2) + 7 + 5 * x1.toNatClampNeg) 0 (nI 0) = G57 at h ⊢
      replace h := lt_go h
      refine xiload_n C 0 rfl rfl dX8_giveBack_60 ?_
      obtain ⟨rfl, rfl⟩ := so_2 h
      exact xiret C rfl dX8_giveBack_61
/-- HedgeChains.payDebt()I -/
theorem kX8_payDebt {r : Int32}  {q0 : Nat} (a0 : A8 kd NP q0) {G : Mem} (h : fX8_payDebt q0 G = some (r, G')) : xMi l D cy ad kd NP A yX8_payDebt cX8_payDebt 2 (some .int) 5 112 [.ref (ad q0)] G r G' := by
  refine xMi_of trivial (by decide +kernel) (Nat.le_of_ble_eq_true rfl) (fun p e s m args below meth c C => ?_)
  have C : xC p s m args meth c cX8_payDebt RX8 2 (some .int) D cy := C
  refine xsub C (lv' := [(0, .ref (ad q0))]) [0] rfl ?_
  unfold fX8_payDebt at h
  refine xaload_n C 0 rfl rfl dX8_payDebt_0 ?_
  refine xg_8_land C a0.1 w_252 dX8_payDebt_1 ?_
  refine xgN_4_purse C a0.2.1.2.1.1 nf_20 dX8_payDebt_4 ?_
  refine xaload_n C 0 rfl rfl dX8_payDebt_7 ?_
  refine xg_8_land C a0.1 w_252 dX8_payDebt_8 ?_
  refine xgN_4_debt C a0.2.1.2.1.1 nf_21 dX8_payDebt_11 ?_
  refine xmmin C w_457 w_325 w_12 w_326 ⟨Nat.le_of_ble_eq_true rfl, Nat.le_of_ble_eq_true rfl⟩ ⟨Nat.le_refl _, Nat.le_refl _⟩ dX8_payDebt_14 ?_
  refine xistore_n C (lv' := [(1, .int (if (G (q0 + 2) 9) < (G (q0 + 2) 8) then (G (q0 + 2) 9) else (G (q0 + 2) 8))), (0, .ref (ad q0))]) rfl (by decide) rfl dX8_payDebt_17 ?_
  refine xiload_n C 0 rfl rfl dX8_payDebt_18 ?_
  refine xif_ne C (tgt := 25) h (by decide) dX8_payDebt_19 (fun h => ?_) (fun h => ?_)
  · refine xbipush C (v := (-2)) dX8_payDebt_22 (by decide) ?_
    obtain ⟨rfl, rfl⟩ := so_2 h
    exact xiret C rfl dX8_payDebt_24
  · refine xaload_n C 1 rfl rfl dX8_payDebt_25 ?_
    refine xg_8_history C a0.1 w_253 dX8_payDebt_26 ?_
    refine xaload_n C 1 rfl rfl dX8_payDebt_29 ?_
    refine xg_8_state C a0.1 w_251 dX8_payDebt_30 ?_
    obtain ⟨G33, hc33, h⟩ := bv_some h
    refine xNv C (As := [.ref (ad (q0 + 1))]) (rest := []) (kX3_keep a0.2.2.1 a0.2.1 hc33) a0.2.2.1.1 rfl rfl nm_16 mvX3_keep mwX3_keep rfl ⟨Nat.le_of_ble_eq_true rfl, Nat.le_of_ble_eq_true rfl⟩ ⟨Nat.le_refl _, Nat.le_refl _⟩ (Nat.le_of_ble_eq_true rfl) dX8_payDebt_33 ?_
    refine xaload_n C 1 rfl rfl dX8_payDebt_36 ?_
    refine xg_8_land C a0.1 w_252 dX8_payDebt_37 ?_
    refine xdup C dX8_payDebt_40 rfl ?_
    refine xgN_4_purse C a0.2.1.2.1.1 nf_20 dX8_payDebt_41 ?_
    refine xiload_n C 0 rfl rfl dX8_payDebt_44 ?_
    refine xisub C dX8_payDebt_45 ?_
    refine xpN_4_purse C a0.2.1.2.1.1 nf_20 dX8_payDebt_46 ?_
    generalize mset G33 (q0 + 2) 8 ((G33 (q0 + 2) 8) - (if (G (q0 + 2) 9) < (G (q0 + 2) 8) then (G (q0 + 2) 9) else (G (q0 + 2) 8))) = G46 at h ⊢
    replace h := lt_go h
    refine xaload_n C 1 rfl rfl dX8_payDebt_49 ?_
    refine xg_8_land C a0.1 w_252 dX8_payDebt_50 ?_
    refine xdup C dX8_payDebt_53 rfl ?_
    refine xgN_4_debt C a0.2.1.2.1.1 nf_21 dX8_payDebt_54 ?_
    refine xiload_n C 0 rfl rfl dX8_payDebt_57 ?_
    refine xisub C dX8_payDebt_58 ?_
    refine xpN_4_debt C a0.2.1.2.1.1 nf_21 dX8_payDebt_59 ?_
    generalize mset G46 (q0 + 2) 9 ((G46 (q0 + 2) 9) - (if (G (q0 + 2) 9) < (G (q0 + 2) 8) then (G (q0 + 2) 9) else (G (q0 + 2) 8))) = G59 at h ⊢
    replace h := lt_go h
    refine xiload_n C 0 rfl rfl dX8_payDebt_62 ?_
    obtain ⟨rfl, rfl⟩ := so_2 h
    exact xiret C rfl dX8_payDebt_63
/-- HedgeChains.isSlot(I)Z -/
theorem kX8_isSlot {r : Int32}  {x0 : Int32} {G : Mem} (h : fX8_isSlot x0 G = some (r, G')) : xMi l D cy ad kd NP A yX8_isSlot cX8_isSlot 1 (some .boolean) 1 22 [.int x0] G r G' := by
  refine xMi_of trivial (by decide +kernel) (Nat.le_of_ble_eq_true rfl) (fun p e s m args below meth c C => ?_)
  have C : xC p s m args meth c cX8_isSlot RX8 1 (some .boolean) D cy := C
  refine xsub C (lv' := [(0, .int x0)]) [0] rfl ?_
  unfold fX8_isSlot at h
  refine xiload_n C 0 rfl rfl dX8_isSlot_0 ?_
  refine xiconst C (v := (nI 0)) dX8_isSlot_1 (by decide) ?_
  refine xiconst C (v := (nI 1)) dX8_isSlot_2 (by decide) ?_
  obtain ⟨r3, G3, hc3, h⟩ := bd_some h
  refine xSi C (As := [.int x0, .int (nI 0), .int (nI 1)]) (rest := []) (kX8_isWithin hc3) w_281 w_282 mwX8_isWithin rfl ⟨Nat.le_of_ble_eq_true rfl, Nat.le_of_ble_eq_true rfl⟩ ⟨Nat.le_refl _, Nat.le_refl _⟩ (Nat.le_of_ble_eq_true rfl) dX8_isSlot_3 ?_
  obtain ⟨hz, h⟩ := zk_some h
  obtain ⟨rfl, rfl⟩ := so_2 h
  exact xzret C hz rfl dX8_isSlot_6
/-- HedgeChains.take(I)I -/
theorem kX8_take {r : Int32}  {q0 : Nat} {x1 : Int32} (a0 : A8 kd NP q0) {G : Mem} (h : fX8_take q0 x1 G = some (r, G')) : xMi l D cy ad kd NP A yX8_take cX8_take 2 (some .int) 5 112 [.ref (ad q0), .int x1] G r G' := by
  refine xMi_of trivial (by decide +kernel) (Nat.le_of_ble_eq_true rfl) (fun p e s m args below meth c C => ?_)
  have C : xC p s m args meth c cX8_take RX8 2 (some .int) D cy := C
  refine xsub C (lv' := [(0, .ref (ad q0)), (1, .int x1)]) [0, 1] rfl ?_
  unfold fX8_take at h
  refine xiload_n C 1 rfl rfl dX8_take_0 ?_
  obtain ⟨r1, G1, hc1, h⟩ := bd_some h
  refine xSi C (As := [.int x1]) (rest := []) (kX8_isSlot hc1) w_462 w_463 mwX8_isSlot rfl ⟨Nat.le_of_ble_eq_true rfl, Nat.le_of_ble_eq_true rfl⟩ ⟨Nat.le_refl _, Nat.le_refl _⟩ (Nat.le_of_ble_eq_true rfl) dX8_take_1 ?_
  refine xif_ne C (tgt := 9) h (by decide) dX8_take_4 (fun h => ?_) (fun h => ?_)
  · refine xiconst C (v := (-1)) dX8_take_7 (by decide) ?_
    obtain ⟨rfl, rfl⟩ := so_2 h
    exact xiret C rfl dX8_take_8
  · refine xaload_n C 0 rfl rfl dX8_take_9 ?_
    refine xg_8_history C a0.1 w_253 dX8_take_10 ?_
    refine xaload_n C 0 rfl rfl dX8_take_13 ?_
    refine xg_8_state C a0.1 w_251 dX8_take_14 ?_
    obtain ⟨G17, hc17, h⟩ := bv_some h
    refine xNv C (As := [.ref (ad (q0 + 1))]) (rest := []) (kX3_keep a0.2.2.1 a0.2.1 hc17) a0.2.2.1.1 rfl rfl nm_16 mvX3_keep mwX3_keep rfl ⟨Nat.le_of_ble_eq_true rfl, Nat.le_of_ble_eq_true rfl⟩ ⟨Nat.le_refl _, Nat.le_refl _⟩ (Nat.le_of_ble_eq_true rfl) dX8_take_17 ?_
    refine xaload_n C 0 rfl rfl dX8_take_20 ?_
    refine xg_8_state C a0.1 w_251 dX8_take_21 ?_
    refine xiload_n C 1 rfl rfl dX8_take_24 ?_
    obtain ⟨G25, hc25, h⟩ := bv_some h
    refine xNv C (As := [.int x1]) (rest := []) (kX6_fillSlot a0.2.1 hc25) a0.2.1.1 rfl rfl nm_39 mvX6_fillSlot mwX6_fillSlot rfl ⟨Nat.le_of_ble_eq_true rfl, Nat.le_of_ble_eq_true rfl⟩ ⟨Nat.le_refl _, Nat.le_refl _⟩ (Nat.le_of_ble_eq_true rfl) dX8_take_25 ?_
    refine xaload_n C 0 rfl rfl dX8_take_28 ?_
    refine xg_8_land C a0.1 w_252 dX8_take_29 ?_
    refine xgN_4_week C a0.2.1.2.1.1 nf_16 dX8_take_32 ?_
    obtain ⟨rfl, rfl⟩ := so_2 h
    exact xiret C rfl dX8_take_35
/-- HedgeChains.restore(I)I -/
theorem kX8_restore {r : Int32}  {q0 : Nat} {x1 : Int32} (a0 : A8 kd NP q0) {G : Mem} (h : fX8_restore q0 x1 G = some (r, G')) : xMi l D cy ad kd NP A yX8_restore cX8_restore 2 (some .int) 5 112 [.ref (ad q0), .int x1] G r G' := by
  refine xMi_of trivial (by decide +kernel) (Nat.le_of_ble_eq_true rfl) (fun p e s m args below meth c C => ?_)
  have C : xC p s m args meth c cX8_restore RX8 2 (some .int) D cy := C
  refine xsub C (lv' := [(0, .ref (ad q0)), (1, .int x1)]) [0, 1] rfl ?_
  unfold fX8_restore at h
  refine xiload_n C 1 rfl rfl dX8_restore_0 ?_
  obtain ⟨r1, G1, hc1, h⟩ := bd_some h
  refine xSi C (As := [.int x1]) (rest := []) (kX8_isSlot hc1) w_462 w_463 mwX8_isSlot rfl ⟨Nat.le_of_ble_eq_true rfl, Nat.le_of_ble_eq_true rfl⟩ ⟨Nat.le_refl _, Nat.le_refl _⟩ (Nat.le_of_ble_eq_true rfl) dX8_restore_1 ?_
  refine xif_ne C (tgt := 9) h (by decide) dX8_restore_4 (fun h => ?_) (fun h => ?_)
  · refine xiconst C (v := (-1)) dX8_restore_7 (by decide) ?_
    obtain ⟨rfl, rfl⟩ := so_2 h
    exact xiret C rfl dX8_restore_8
  · refine xaload_n C 0 rfl rfl dX8_restore_9 ?_
    refine xg_8_state C a0.1 w_251 dX8_restore_10 ?_
    refine xgN_6_filled C a0.2.1.1 nf_28 dX8_restore_13 ?_
    refine xiload_n C 1 rfl rfl dX8_restore_16 ?_
    obtain ⟨hi17, h⟩ := ix_some h
    refine xza C a0.2.1.2.2.2.1 hi17 dX8_restore_17 ?_
    refine xif_ne C (tgt := 24) h (by decide) dX8_restore_18 (fun h => ?_) (fun h => ?_)
    · refine xbipush C (v := (-2)) dX8_restore_21 (by decide) ?_
      obtain ⟨rfl, rfl⟩ := so_2 h
      exact xiret C rfl dX8_restore_23
    · refine xaload_n C 0 rfl rfl dX8_restore_24 ?_
      refine xg_8_history C a0.1 w_253 dX8_restore_25 ?_
      refine xaload_n C 0 rfl rfl dX8_restore_28 ?_
      refine xg_8_state C a0.1 w_251 dX8_restore_29 ?_
      obtain ⟨G32, hc32, h⟩ := bv_some h
      refine xNv C (As := [.ref (ad (q0 + 1))]) (rest := []) (kX3_keep a0.2.2.1 a0.2.1 hc32) a0.2.2.1.1 rfl rfl nm_16 mvX3_keep mwX3_keep rfl ⟨Nat.le_of_ble_eq_true rfl, Nat.le_of_ble_eq_true rfl⟩ ⟨Nat.le_refl _, Nat.le_refl _⟩ (Nat.le_of_ble_eq_true rfl) dX8_restore_32 ?_
      refine xaload_n C 0 rfl rfl dX8_restore_35 ?_
      refine xg_8_land C a0.1 w_252 dX8_restore_36 ?_
      refine xaload_n C 0 rfl rfl dX8_restore_39 ?_
      refine xg_8_state C a0.1 w_251 dX8_restore_40 ?_
      refine xgN_6_slots C a0.2.1.1 nf_27 dX8_restore_43 ?_
      refine xiload_n C 1 rfl rfl dX8_restore_46 ?_
      obtain ⟨hi47, h⟩ := ix_some h
      refine xaa_20 C x1.toNatClampNeg rfl ((q0 + 1) + 36 + 33 * x1.toNatClampNeg) (by omega) a0.2.1.2.2.1 hi47 dX8_restore_47 ?_
      obtain ⟨G48, hc48, h⟩ := bv_some h
      refine xNv C (As := [.ref (ad ((q0 + 1) + 36 + 33 * x1.toNatClampNeg))]) (rest := []) (kX4_copyFrom a0.2.1.2.1 (a0.2.1.2.2.2.2 x1.toNatClampNeg (vp_lt hi47)) hc48) a0.2.1.2.1.1 rfl rfl nm_40 mvX4_copyFrom mwX4_copyFrom rfl ⟨Nat.le_of_ble_eq_true rfl, Nat.le_of_ble_eq_true rfl⟩ ⟨Nat.le_refl _, Nat.le_refl _⟩ (Nat.le_of_ble_eq_true rfl) dX8_restore_48 ?_
      refine xaload_n C 0 rfl rfl dX8_restore_51 ?_
      refine xg_8_land C a0.1 w_252 dX8_restore_52 ?_
      refine xgN_4_week C a0.2.1.2.1.1 nf_16 dX8_restore_55 ?_
      obtain ⟨rfl, rfl⟩ := so_2 h
      exact xiret C rfl dX8_restore_58
/-- HedgeChains.undo()I -/
theorem kX8_undo {r : Int32}  {q0 : Nat} (a0 : A8 kd NP q0) {G : Mem} (h : fX8_undo q0 G = some (r, G')) : xMi l D cy ad kd NP A yX8_undo cX8_undo 1 (some .int) 5 112 [.ref (ad q0)] G r G' := by
  refine xMi_of trivial (by decide +kernel) (Nat.le_of_ble_eq_true rfl) (fun p e s m args below meth c C => ?_)
  have C : xC p s m args meth c cX8_undo RX8 1 (some .int) D cy := C
  refine xsub C (lv' := [(0, .ref (ad q0))]) [0] rfl ?_
  unfold fX8_undo at h
  refine xaload_n C 0 rfl rfl dX8_undo_0 ?_
  refine xg_8_history C a0.1 w_253 dX8_undo_1 ?_
  refine xgN_3_kept C a0.2.2.1.1 nf_29 dX8_undo_4 ?_
  refine xif_ne C (tgt := 13) h (by decide) dX8_undo_7 (fun h => ?_) (fun h => ?_)
  · refine xbipush C (v := (-2)) dX8_undo_10 (by decide) ?_
    obtain ⟨rfl, rfl⟩ := so_2 h
    exact xiret C rfl dX8_undo_12
  · refine xaload_n C 0 rfl rfl dX8_undo_13 ?_
    refine xg_8_history C a0.1 w_253 dX8_undo_14 ?_
    refine xaload_n C 0 rfl rfl dX8_undo_17 ?_
    refine xg_8_state C a0.1 w_251 dX8_undo_18 ?_
    obtain ⟨G21, hc21, h⟩ := bv_some h
    refine xNv C (As := [.ref (ad (q0 + 1))]) (rest := []) (kX3_bringBack a0.2.2.1 a0.2.1 hc21) a0.2.2.1.1 rfl rfl nm_41 mvX3_bringBack mwX3_bringBack rfl ⟨Nat.le_of_ble_eq_true rfl, Nat.le_of_ble_eq_true rfl⟩ ⟨Nat.le_refl _, Nat.le_refl _⟩ (Nat.le_of_ble_eq_true rfl) dX8_undo_21 ?_
    refine xaload_n C 0 rfl rfl dX8_undo_24 ?_
    refine xg_8_history C a0.1 w_253 dX8_undo_25 ?_
    refine xgN_3_kept C a0.2.2.1.1 nf_29 dX8_undo_28 ?_
    obtain ⟨rfl, rfl⟩ := so_2 h
    exact xiret C rfl dX8_undo_31
/-- HedgeChains.append(I)I -/
theorem kX8_append {r : Int32}  {q0 : Nat} {x1 : Int32} (a0 : A8 kd NP q0) {G : Mem} (h : fX8_append q0 x1 G = some (r, G')) : xMi l D cy ad kd NP A yX8_append cX8_append 2 (some .int) 1 22 [.ref (ad q0), .int x1] G r G' := by
  refine xMi_of trivial (by decide +kernel) (Nat.le_of_ble_eq_true rfl) (fun p e s m args below meth c C => ?_)
  have C : xC p s m args meth c cX8_append RX8 2 (some .int) D cy := C
  refine xsub C (lv' := [(0, .ref (ad q0)), (1, .int x1)]) [0, 1] rfl ?_
  unfold fX8_append at h
  refine xiload_n C 1 rfl rfl dX8_append_0 ?_
  refine xiconst C (v := (nI 1)) dX8_append_1 (by decide) ?_
  refine xsipush C (v := (nI 255)) dX8_append_2 (by decide) ?_
  obtain ⟨r5, G5, hc5, h⟩ := bd_some h
  refine xSi C (As := [.int x1, .int (nI 1), .int (nI 255)]) (rest := []) (kX8_isWithin hc5) w_281 w_282 mwX8_isWithin rfl ⟨Nat.le_of_ble_eq_true rfl, Nat.le_of_ble_eq_true rfl⟩ ⟨Nat.le_refl _, Nat.le_refl _⟩ (Nat.le_of_ble_eq_true rfl) dX8_append_5 ?_
  refine xif_ne C (tgt := 13) h (by decide) dX8_append_8 (fun h => ?_) (fun h => ?_)
  · refine xiconst C (v := (-1)) dX8_append_11 (by decide) ?_
    obtain ⟨rfl, rfl⟩ := so_2 h
    exact xiret C rfl dX8_append_12
  · refine xaload_n C 0 rfl rfl dX8_append_13 ?_
    refine xg_8_text C a0.1 w_254 dX8_append_14 ?_
    refine xgN_7_length C a0.2.2.2.1.1 nf_31 dX8_append_17 ?_
    refine xbipush C (v := (nI 80)) dX8_append_20 (by decide) ?_
    refine xicmp_lt C (tgt := 28) h (by decide) dX8_append_22 (fun h => ?_) (fun h => ?_)
    · refine xaload_n C 0 rfl rfl dX8_append_28 ?_
      refine xg_8_text C a0.1 w_254 dX8_append_29 ?_
      refine xiload_n C 1 rfl rfl dX8_append_32 ?_
      refine xi2c C dX8_append_33 ?_
      obtain ⟨G34, hc34, h⟩ := bv_some h
      refine xNv C (As := [.int (((x1).toUInt32 % 65536).toInt32)]) (rest := []) (kX7_addSign a0.2.2.2.1 hc34) a0.2.2.2.1.1 rfl rfl nm_42 mvX7_addSign mwX7_addSign rfl ⟨Nat.le_of_ble_eq_true rfl, Nat.le_of_ble_eq_true rfl⟩ ⟨Nat.le_refl _, Nat.le_refl _⟩ (Nat.le_of_ble_eq_true rfl) dX8_append_34 ?_
      refine xaload_n C 0 rfl rfl dX8_append_37 ?_
      refine xg_8_text C a0.1 w_254 dX8_append_38 ?_
      refine xgN_7_length C a0.2.2.2.1.1 nf_31 dX8_append_41 ?_
      obtain ⟨rfl, rfl⟩ := so_2 h
      exact xiret C rfl dX8_append_44
    · refine xbipush C (v := (-3)) dX8_append_25 (by decide) ?_
      obtain ⟨rfl, rfl⟩ := so_2 h
      exact xiret C rfl dX8_append_27
/-- HedgeChains.clearText()I -/
theorem kX8_clearText {r : Int32}  {q0 : Nat} (a0 : A8 kd NP q0) {G : Mem} (h : fX8_clearText q0 G = some (r, G')) : xMi l D cy ad kd NP A yX8_clearText cX8_clearText 2 (some .int) 0 0 [.ref (ad q0)] G r G' := by
  refine xMi_of trivial (by decide +kernel) (Nat.le_of_ble_eq_true rfl) (fun p e s m args below meth c C => ?_)
  have C : xC p s m args meth c cX8_clearText RX8 2 (some .int) D cy := C
  refine xsub C (lv' := [(0, .ref (ad q0))]) [0] rfl ?_
  unfold fX8_clearText at h
  refine xaload_n C 0 rfl rfl dX8_clearText_0 ?_
  refine xg_8_text C a0.1 w_254 dX8_clearText_1 ?_
  refine xgN_7_length C a0.2.2.2.1.1 nf_31 dX8_clearText_4 ?_
  refine xistore_n C (lv' := [(1, .int (G (q0 + 615) 1)), (0, .ref (ad q0))]) rfl (by decide) rfl dX8_clearText_7 ?_
  refine xaload_n C 1 rfl rfl dX8_clearText_8 ?_
  refine xg_8_text C a0.1 w_254 dX8_clearText_9 ?_
  refine xiconst C (v := (nI 0)) dX8_clearText_12 (by decide) ?_
  refine xpN_7_length C a0.2.2.2.1.1 nf_31 dX8_clearText_13 ?_
  generalize mset G (q0 + 615) 1 (nI 0) = G13 at h ⊢
  replace h := lt_go h
  refine xiload_n C 0 rfl rfl dX8_clearText_16 ?_
  obtain ⟨rfl, rfl⟩ := so_2 h
  exact xiret C rfl dX8_clearText_17
/-- HedgeChains.read(I)I -/
theorem kX8_read {r : Int32}  {q0 : Nat} {x1 : Int32} (a0 : A8 kd NP q0) {G : Mem} (h : fX8_read q0 x1 G = some (r, G')) : xMi l D cy ad kd NP A yX8_read cX8_read 3 (some .int) 5 114 [.ref (ad q0), .int x1] G r G' := by
  refine xMi_of trivial (by decide +kernel) (Nat.le_of_ble_eq_true rfl) (fun p e s m args below meth c C => ?_)
  have C : xC p s m args meth c cX8_read RX8 3 (some .int) D cy := C
  refine xsub C (lv' := [(0, .ref (ad q0)), (1, .int x1)]) [0, 1] rfl ?_
  unfold fX8_read at h
  refine xiload_n C 1 rfl rfl dX8_read_0 ?_
  obtain ⟨r1, G1, hc1, h⟩ := bd_some h
  refine xSi C (As := [.int x1]) (rest := []) (kX8_isField hc1) w_278 w_279 mwX8_isField rfl ⟨Nat.le_of_ble_eq_true rfl, Nat.le_of_ble_eq_true rfl⟩ ⟨Nat.le_refl _, Nat.le_refl _⟩ (Nat.le_of_ble_eq_true rfl) dX8_read_1 ?_
  refine xif_ne C (tgt := 9) h (by decide) dX8_read_4 (fun h => ?_) (fun h => ?_)
  · refine xiconst C (v := (-1)) dX8_read_7 (by decide) ?_
    obtain ⟨rfl, rfl⟩ := so_2 h
    exact xiret C rfl dX8_read_8
  · refine xaload_n C 0 rfl rfl dX8_read_9 ?_
    refine xg_8_reader C a0.1 w_255 dX8_read_10 ?_
    refine xaload_n C 0 rfl rfl dX8_read_13 ?_
    refine xg_8_text C a0.1 w_254 dX8_read_14 ?_
    obtain ⟨r17, G17, hc17, h⟩ := bd_some h
    refine xNi C (As := [.ref (ad (q0 + 615))]) (rest := []) (kX2_faultOf a0.2.2.2.2.1 a0.2.2.2.1 hc17) a0.2.2.2.2.1.1 rfl rfl nm_43 mvX2_faultOf mwX2_faultOf rfl ⟨Nat.le_of_ble_eq_true rfl, Nat.le_of_ble_eq_true rfl⟩ ⟨Nat.le_refl _, Nat.le_refl _⟩ (Nat.le_of_ble_eq_true rfl) dX8_read_17 ?_
    refine xistore_n C (lv' := [(2, .int r17), (0, .ref (ad q0)), (1, .int x1)]) rfl (by decide) rfl dX8_read_20 ?_
    refine xiload_n C 0 rfl rfl dX8_read_21 ?_
    refine xiconst C (v := (-1)) dX8_read_22 (by decide) ?_
    refine xicmp_eq C (tgt := 32) h (by decide) dX8_read_23 (fun h => ?_) (fun h => ?_)
    · refine xaload_n C 1 rfl rfl dX8_read_32 ?_
      refine xg_8_reader C a0.1 w_255 dX8_read_33 ?_
      refine xgN_2_told C a0.2.2.2.2.1.1 nf_33 dX8_read_36 ?_
      refine xbipush C (v := (nI 30)) dX8_read_39 (by decide) ?_
      refine xicmp_le C (tgt := 47) h (by decide) dX8_read_41 (fun h => ?_) (fun h => ?_)
      · refine xaload_n C 1 rfl rfl dX8_read_47 ?_
        refine xg_8_history C a0.1 w_253 dX8_read_48 ?_
        refine xaload_n C 1 rfl rfl dX8_read_51 ?_
        refine xg_8_state C a0.1 w_251 dX8_read_52 ?_
        obtain ⟨G55, hc55, h⟩ := bv_some h
        refine xNv C (As := [.ref (ad (q0 + 1))]) (rest := []) (kX3_keep a0.2.2.1 a0.2.1 hc55) a0.2.2.1.1 rfl rfl nm_16 mvX3_keep mwX3_keep rfl ⟨Nat.le_of_ble_eq_true rfl, Nat.le_of_ble_eq_true rfl⟩ ⟨Nat.le_refl _, Nat.le_refl _⟩ (Nat.le_of_ble_eq_true rfl) dX8_read_55 ?_
        refine xaload_n C 1 rfl rfl dX8_read_58 ?_
        refine xg_8_land C a0.1 w_252 dX8_read_59 ?_
        refine xiload_n C 2 rfl rfl dX8_read_62 ?_
        refine xaload_n C 1 rfl rfl dX8_read_63 ?_
        refine xg_8_reader C a0.1 w_255 dX8_read_64 ?_
        refine xgN_2_hedge C a0.2.2.2.2.1.1 nf_32 dX8_read_67 ?_
        obtain ⟨G70, hc70, h⟩ := bv_some h
        refine xNv C (As := [.int x1, .ref (ad ((q0 + 617) + 1))]) (rest := []) (kX4_replaceHedge a0.2.1.2.1 a0.2.2.2.2.1.2 hc70) a0.2.1.2.1.1 rfl rfl nm_46 mvX4_replaceHedge mwX4_replaceHedge rfl ⟨Nat.le_of_ble_eq_true rfl, Nat.le_of_ble_eq_true rfl⟩ ⟨Nat.le_refl _, Nat.le_refl _⟩ (Nat.le_of_ble_eq_true rfl) dX8_read_70 ?_
        refine xaload_n C 1 rfl rfl dX8_read_73 ?_
        refine xg_8_text C a0.1 w_254 dX8_read_74 ?_
        refine xiconst C (v := (nI 0)) dX8_read_77 (by decide) ?_
        refine xpN_7_length C a0.2.2.2.1.1 nf_31 dX8_read_78 ?_
        generalize mset G70 (q0 + 615) 1 (nI 0) = G78 at h ⊢
        replace h := lt_go h
        refine xaload_n C 1 rfl rfl dX8_read_81 ?_
        refine xg_8_land C a0.1 w_252 dX8_read_82 ?_
        refine xgN_4_hedges C a0.2.1.2.1.1 nf_13 dX8_read_85 ?_
        refine xiload_n C 2 rfl rfl dX8_read_88 ?_
        obtain ⟨hi89, h⟩ := ix_some h
        refine xaa_18 C x1.toNatClampNeg rfl ((q0 + 2) + 3 + 5 * x1.toNatClampNeg) (by omega) a0.2.1.2.1.2.1 hi89 dX8_read_89 ?_
        refine xgN_1_length C ((a0.2.1.2.1.2.2.2.1 x1.toNatClampNeg (vp_lt hi89)).1) nf_1 dX8_read_90 ?_
        obtain ⟨rfl, rfl⟩ := so_2 h
        exact xiret C rfl dX8_read_93
      · refine xbipush C (v := (-3)) dX8_read_44 (by decide) ?_
        obtain ⟨rfl, rfl⟩ := so_2 h
        exact xiret C rfl dX8_read_46
    · refine xsipush C (v := (-1000)) dX8_read_26 (by decide) ?_
      refine xiload_n C 0 rfl rfl dX8_read_29 ?_
      refine xisub C dX8_read_30 ?_
      obtain ⟨rfl, rfl⟩ := so_2 h
      exact xiret C rfl dX8_read_31
/-- HedgeChains.count(I)I -/
theorem kX8_count {r : Int32}  {q0 : Nat} {x1 : Int32} (a0 : A8 kd NP q0) {G : Mem} (h : fX8_count q0 x1 G = some (r, G')) : xMi l D cy ad kd NP A yX8_count cX8_count 2 (some .int) 1 22 [.ref (ad q0), .int x1] G r G' := by
  refine xMi_of trivial (by decide +kernel) (Nat.le_of_ble_eq_true rfl) (fun p e s m args below meth c C => ?_)
  have C : xC p s m args meth c cX8_count RX8 2 (some .int) D cy := C
  refine xsub C (lv' := [(0, .ref (ad q0)), (1, .int x1)]) [0, 1] rfl ?_
  unfold fX8_count at h
  refine xiload_n C 1 rfl rfl dX8_count_0 ?_
  rcases if_some h with ⟨hs1_0, h⟩ | ⟨hs1_0, h⟩
  · refine xtab C (tgt := 88) (nI 0) hs1_0 (by decide) (by decide) rfl (by decide) dX8_count_1 ?_
    refine xaload_n C 0 rfl rfl dX8_count_88 ?_
    refine xg_8_land C a0.1 w_252 dX8_count_89 ?_
    refine xgN_4_week C a0.2.1.2.1.1 nf_16 dX8_count_92 ?_
    obtain ⟨rfl, rfl⟩ := so_2 h
    exact xiret C rfl dX8_count_95
  rcases if_some h with ⟨hs1_1, h⟩ | ⟨hs1_1, h⟩
  · refine xtab C (tgt := 96) (nI 1) hs1_1 (by decide) (by decide) rfl (by decide) dX8_count_1 ?_
    refine xaload_n C 0 rfl rfl dX8_count_96 ?_
    refine xg_8_land C a0.1 w_252 dX8_count_97 ?_
    refine xgN_4_week C a0.2.1.2.1.1 nf_16 dX8_count_100 ?_
    refine xbipush C (v := (nI 52)) dX8_count_103 (by decide) ?_
    refine xirem C dX8_count_105 (by decide) ?_
    obtain ⟨rfl, rfl⟩ := so_2 h
    exact xiret C rfl dX8_count_106
  rcases if_some h with ⟨hs1_2, h⟩ | ⟨hs1_2, h⟩
  · refine xtab C (tgt := 107) (nI 2) hs1_2 (by decide) (by decide) rfl (by decide) dX8_count_1 ?_
    refine xaload_n C 0 rfl rfl dX8_count_107 ?_
    refine xg_8_land C a0.1 w_252 dX8_count_108 ?_
    refine xaload_n C 0 rfl rfl dX8_count_111 ?_
    refine xg_8_land C a0.1 w_252 dX8_count_112 ?_
    refine xgN_4_week C a0.2.1.2.1.1 nf_16 dX8_count_115 ?_
    obtain ⟨r118, G118, hc118, h⟩ := bd_some h
    refine xNi C (As := [.int (G (q0 + 2) 2)]) (rest := []) (kX4_isClosed a0.2.1.2.1 hc118) a0.2.1.2.1.1 rfl rfl nm_12 mvX4_isClosed mwX4_isClosed rfl ⟨Nat.le_of_ble_eq_true rfl, Nat.le_of_ble_eq_true rfl⟩ ⟨Nat.le_refl _, Nat.le_refl _⟩ (Nat.le_of_ble_eq_true rfl) dX8_count_118 ?_
    refine xif_eq C (tgt := 128) h (by decide) dX8_count_121 (fun h => ?_) (fun h => ?_)
    · refine xiconst C (v := (nI 0)) dX8_count_128 (by decide) ?_
      obtain ⟨rfl, rfl⟩ := so_2 h
      exact xiret C rfl dX8_count_129
    · refine xiconst C (v := (nI 1)) dX8_count_124 (by decide) ?_
      refine xgoto C (tgt := 129) (by decide) dX8_count_125 ?_
      obtain ⟨rfl, rfl⟩ := so_2 h
      exact xiret C rfl dX8_count_129
  rcases if_some h with ⟨hs1_3, h⟩ | ⟨hs1_3, h⟩
  · refine xtab C (tgt := 130) (nI 3) hs1_3 (by decide) (by decide) rfl (by decide) dX8_count_1 ?_
    refine xaload_n C 0 rfl rfl dX8_count_130 ?_
    refine xg_8_land C a0.1 w_252 dX8_count_131 ?_
    refine xgN_4_work C a0.2.1.2.1.1 nf_18 dX8_count_134 ?_
    obtain ⟨rfl, rfl⟩ := so_2 h
    exact xiret C rfl dX8_count_137
  rcases if_some h with ⟨hs1_4, h⟩ | ⟨hs1_4, h⟩
  · refine xtab C (tgt := 138) (nI 4) hs1_4 (by decide) (by decide) rfl (by decide) dX8_count_1 ?_
    refine xaload_n C 0 rfl rfl dX8_count_138 ?_
    refine xg_8_land C a0.1 w_252 dX8_count_139 ?_
    refine xgN_4_stakes C a0.2.1.2.1.1 nf_19 dX8_count_142 ?_
    obtain ⟨rfl, rfl⟩ := so_2 h
    exact xiret C rfl dX8_count_145
  rcases if_some h with ⟨hs1_5, h⟩ | ⟨hs1_5, h⟩
  · refine xtab C (tgt := 146) (nI 5) hs1_5 (by decide) (by decide) rfl (by decide) dX8_count_1 ?_
    refine xaload_n C 0 rfl rfl dX8_count_146 ?_
    refine xg_8_land C a0.1 w_252 dX8_count_147 ?_
    refine xgN_4_purse C a0.2.1.2.1.1 nf_20 dX8_count_150 ?_
    obtain ⟨rfl, rfl⟩ := so_2 h
    exact xiret C rfl dX8_count_153
  rcases if_some h with ⟨hs1_6, h⟩ | ⟨hs1_6, h⟩
  · refine xtab C (tgt := 154) (nI 6) hs1_6 (by decide) (by decide) rfl (by decide) dX8_count_1 ?_
    refine xaload_n C 0 rfl rfl dX8_count_154 ?_
    refine xg_8_land C a0.1 w_252 dX8_count_155 ?_
    refine xgN_4_debt C a0.2.1.2.1.1 nf_21 dX8_count_158 ?_
    obtain ⟨rfl, rfl⟩ := so_2 h
    exact xiret C rfl dX8_count_161
  rcases if_some h with ⟨hs1_7, h⟩ | ⟨hs1_7, h⟩
  · refine xtab C (tgt := 162) (nI 7) hs1_7 (by decide) (by decide) rfl (by decide) dX8_count_1 ?_
    refine xaload_n C 0 rfl rfl dX8_count_162 ?_
    refine xg_8_land C a0.1 w_252 dX8_count_163 ?_
    refine xgN_4_earned C a0.2.1.2.1.1 nf_22 dX8_count_166 ?_
    obtain ⟨rfl, rfl⟩ := so_2 h
    exact xiret C rfl dX8_count_169
  rcases if_some h with ⟨hs1_8, h⟩ | ⟨hs1_8, h⟩
  · refine xtab C (tgt := 170) (nI 8) hs1_8 (by decide) (by decide) rfl (by decide) dX8_count_1 ?_
    refine xaload_n C 0 rfl rfl dX8_count_170 ?_
    refine xg_8_land C a0.1 w_252 dX8_count_171 ?_
    refine xgN_4_fined C a0.2.1.2.1.1 nf_23 dX8_count_174 ?_
    obtain ⟨rfl, rfl⟩ := so_2 h
    exact xiret C rfl dX8_count_177
  rcases if_some h with ⟨hs1_9, h⟩ | ⟨hs1_9, h⟩
  · refine xtab C (tgt := 178) (nI 9) hs1_9 (by decide) (by decide) rfl (by decide) dX8_count_1 ?_
    refine xaload_n C 0 rfl rfl dX8_count_178 ?_
    refine xg_8_land C a0.1 w_252 dX8_count_179 ?_
    obtain ⟨r182, G182, hc182, h⟩ := bd_some h
    refine xNi C (As := []) (rest := []) (kX4_numberOfContracts a0.2.1.2.1 hc182) a0.2.1.2.1.1 rfl rfl nm_47 mvX4_numberOfContracts mwX4_numberOfContracts rfl ⟨Nat.le_of_ble_eq_true rfl, Nat.le_of_ble_eq_true rfl⟩ ⟨Nat.le_refl _, Nat.le_refl _⟩ (Nat.le_of_ble_eq_true rfl) dX8_count_182 ?_
    obtain ⟨rfl, rfl⟩ := so_2 h
    exact xiret C rfl dX8_count_185
  rcases if_some h with ⟨hs1_10, h⟩ | ⟨hs1_10, h⟩
  · refine xtab C (tgt := 186) (nI 10) hs1_10 (by decide) (by decide) rfl (by decide) dX8_count_1 ?_
    refine xaload_n C 0 rfl rfl dX8_count_186 ?_
    refine xg_8_land C a0.1 w_252 dX8_count_187 ?_
    refine xgN_4_laid C a0.2.1.2.1.1 nf_24 dX8_count_190 ?_
    obtain ⟨rfl, rfl⟩ := so_2 h
    exact xiret C rfl dX8_count_193
  rcases if_some h with ⟨hs1_11, h⟩ | ⟨hs1_11, h⟩
  · refine xtab C (tgt := 194) (nI 11) hs1_11 (by decide) (by decide) rfl (by decide) dX8_count_1 ?_
    refine xaload_n C 0 rfl rfl dX8_count_194 ?_
    refine xg_8_land C a0.1 w_252 dX8_count_195 ?_
    refine xgN_4_planted C a0.2.1.2.1.1 nf_25 dX8_count_198 ?_
    obtain ⟨rfl, rfl⟩ := so_2 h
    exact xiret C rfl dX8_count_201
  rcases if_some h with ⟨hs1_12, h⟩ | ⟨hs1_12, h⟩
  · refine xtab C (tgt := 202) (nI 12) hs1_12 (by decide) (by decide) rfl (by decide) dX8_count_1 ?_
    refine xaload_n C 0 rfl rfl dX8_count_202 ?_
    refine xg_8_land C a0.1 w_252 dX8_count_203 ?_
    refine xiconst C (v := (nI 0)) dX8_count_206 (by decide) ?_
    obtain ⟨r207, G207, hc207, h⟩ := bd_some h
    refine xNi C (As := [.int (nI 0)]) (rest := []) (kX4_settingOf a0.2.1.2.1 hc207) a0.2.1.2.1.1 rfl rfl nm_34 mvX4_settingOf mwX4_settingOf rfl ⟨Nat.le_of_ble_eq_true rfl, Nat.le_of_ble_eq_true rfl⟩ ⟨Nat.le_refl _, Nat.le_refl _⟩ (Nat.le_of_ble_eq_true rfl) dX8_count_207 ?_
    obtain ⟨rfl, rfl⟩ := so_2 h
    exact xiret C rfl dX8_count_210
  rcases if_some h with ⟨hs1_13, h⟩ | ⟨hs1_13, h⟩
  · refine xtab C (tgt := 211) (nI 13) hs1_13 (by decide) (by decide) rfl (by decide) dX8_count_1 ?_
    refine xaload_n C 0 rfl rfl dX8_count_211 ?_
    refine xg_8_land C a0.1 w_252 dX8_count_212 ?_
    refine xiconst C (v := (nI 1)) dX8_count_215 (by decide) ?_
    obtain ⟨r216, G216, hc216, h⟩ := bd_some h
    refine xNi C (As := [.int (nI 1)]) (rest := []) (kX4_settingOf a0.2.1.2.1 hc216) a0.2.1.2.1.1 rfl rfl nm_34 mvX4_settingOf mwX4_settingOf rfl ⟨Nat.le_of_ble_eq_true rfl, Nat.le_of_ble_eq_true rfl⟩ ⟨Nat.le_refl _, Nat.le_refl _⟩ (Nat.le_of_ble_eq_true rfl) dX8_count_216 ?_
    obtain ⟨rfl, rfl⟩ := so_2 h
    exact xiret C rfl dX8_count_219
  rcases if_some h with ⟨hs1_14, h⟩ | ⟨hs1_14, h⟩
  · refine xtab C (tgt := 220) (nI 14) hs1_14 (by decide) (by decide) rfl (by decide) dX8_count_1 ?_
    refine xaload_n C 0 rfl rfl dX8_count_220 ?_
    refine xg_8_land C a0.1 w_252 dX8_count_221 ?_
    refine xiconst C (v := (nI 2)) dX8_count_224 (by decide) ?_
    obtain ⟨r225, G225, hc225, h⟩ := bd_some h
    refine xNi C (As := [.int (nI 2)]) (rest := []) (kX4_settingOf a0.2.1.2.1 hc225) a0.2.1.2.1.1 rfl rfl nm_34 mvX4_settingOf mwX4_settingOf rfl ⟨Nat.le_of_ble_eq_true rfl, Nat.le_of_ble_eq_true rfl⟩ ⟨Nat.le_refl _, Nat.le_refl _⟩ (Nat.le_of_ble_eq_true rfl) dX8_count_225 ?_
    obtain ⟨rfl, rfl⟩ := so_2 h
    exact xiret C rfl dX8_count_228
  rcases if_some h with ⟨hs1_15, h⟩ | ⟨hs1_15, h⟩
  · refine xtab C (tgt := 229) (nI 15) hs1_15 (by decide) (by decide) rfl (by decide) dX8_count_1 ?_
    refine xaload_n C 0 rfl rfl dX8_count_229 ?_
    refine xg_8_state C a0.1 w_251 dX8_count_230 ?_
    obtain ⟨r233, G233, hc233, h⟩ := bd_some h
    refine xNi C (As := []) (rest := []) (kX6_numberOfSnapshots a0.2.1 hc233) a0.2.1.1 rfl rfl nm_48 mvX6_numberOfSnapshots mwX6_numberOfSnapshots rfl ⟨Nat.le_of_ble_eq_true rfl, Nat.le_of_ble_eq_true rfl⟩ ⟨Nat.le_refl _, Nat.le_refl _⟩ (Nat.le_of_ble_eq_true rfl) dX8_count_233 ?_
    obtain ⟨rfl, rfl⟩ := so_2 h
    exact xiret C rfl dX8_count_236
  rcases if_some h with ⟨hs1_16, h⟩ | ⟨hs1_16, h⟩
  · refine xtab C (tgt := 237) (nI 16) hs1_16 (by decide) (by decide) rfl (by decide) dX8_count_1 ?_
    refine xaload_n C 0 rfl rfl dX8_count_237 ?_
    refine xg_8_history C a0.1 w_253 dX8_count_238 ?_
    refine xgN_3_kept C a0.2.2.1.1 nf_29 dX8_count_241 ?_
    obtain ⟨rfl, rfl⟩ := so_2 h
    exact xiret C rfl dX8_count_244
  rcases if_some h with ⟨hs1_17, h⟩ | ⟨hs1_17, h⟩
  · refine xtab C (tgt := 245) (nI 17) hs1_17 (by decide) (by decide) rfl (by decide) dX8_count_1 ?_
    refine xaload_n C 0 rfl rfl dX8_count_245 ?_
    refine xg_8_text C a0.1 w_254 dX8_count_246 ?_
    refine xgN_7_length C a0.2.2.2.1.1 nf_31 dX8_count_249 ?_
    obtain ⟨rfl, rfl⟩ := so_2 h
    exact xiret C rfl dX8_count_252
  refine xtabOut C (tgt := 253) (by have := xne hs1_0 0 rfl; have := xne hs1_1 1 rfl; have := xne hs1_2 2 rfl; have := xne hs1_3 3 rfl; have := xne hs1_4 4 rfl; have := xne hs1_5 5 rfl; have := xne hs1_6 6 rfl; have := xne hs1_7 7 rfl; have := xne hs1_8 8 rfl; have := xne hs1_9 9 rfl; have := xne hs1_10 10 rfl; have := xne hs1_11 11 rfl; have := xne hs1_12 12 rfl; have := xne hs1_13 13 rfl; have := xne hs1_14 14 rfl; have := xne hs1_15 15 rfl; have := xne hs1_16 16 rfl; have := xne hs1_17 17 rfl; omega) (by decide) dX8_count_1 ?_
  refine xiconst C (v := (-1)) dX8_count_253 (by decide) ?_
  obtain ⟨rfl, rfl⟩ := so_2 h
  exact xiret C rfl dX8_count_254
/-- HedgeChains.field(II)I -/
theorem kX8_field {r : Int32}  {q0 : Nat} {x1 : Int32} {x2 : Int32} (a0 : A8 kd NP q0) {G : Mem} (h : fX8_field q0 x1 x2 G = some (r, G')) : xMi l D cy ad kd NP A yX8_field cX8_field 5 (some .int) 4 88 [.ref (ad q0), .int x1, .int x2] G r G' := by
  refine xMi_of trivial (by decide +kernel) (Nat.le_of_ble_eq_true rfl) (fun p e s m args below meth c C => ?_)
  have C : xC p s m args meth c cX8_field RX8 5 (some .int) D cy := C
  refine xsub C (lv' := [(0, .ref (ad q0)), (1, .int x1), (2, .int x2)]) [0, 1, 2] rfl ?_
  unfold fX8_field at h
  refine xiload_n C 1 rfl rfl dX8_field_0 ?_
  obtain ⟨r1, G1, hc1, h⟩ := bd_some h
  refine xSi C (As := [.int x1]) (rest := []) (kX8_isField hc1) w_278 w_279 mwX8_isField rfl ⟨Nat.le_of_ble_eq_true rfl, Nat.le_of_ble_eq_true rfl⟩ ⟨Nat.le_refl _, Nat.le_refl _⟩ (Nat.le_of_ble_eq_true rfl) dX8_field_1 ?_
  refine xif_ne C (tgt := 9) h (by decide) dX8_field_4 (fun h => ?_) (fun h => ?_)
  · refine xiconst C (v := (-1)) dX8_field_7 (by decide) ?_
    obtain ⟨rfl, rfl⟩ := so_2 h
    exact xiret C rfl dX8_field_8
  · refine xaload_n C 0 rfl rfl dX8_field_9 ?_
    refine xg_8_land C a0.1 w_252 dX8_field_10 ?_
    refine xgN_4_hedges C a0.2.1.2.1.1 nf_13 dX8_field_13 ?_
    refine xiload_n C 1 rfl rfl dX8_field_16 ?_
    obtain ⟨hi17, h⟩ := ix_some h
    refine xaa_18 C x1.toNatClampNeg rfl ((q0 + 2) + 3 + 5 * x1.toNatClampNeg) (by omega) a0.2.1.2.1.2.1 hi17 dX8_field_17 ?_
    refine xastore_n C (lv' := [(3, .ref (ad ((q0 + 2) + 3 + 5 * x1.toNatClampNeg))), (0, .ref (ad q0)), (1, .int x1), (2, .int x2)]) rfl (by decide) rfl dX8_field_18 ?_
    refine xaload_n C 1 rfl rfl dX8_field_19 ?_
    refine xg_8_land C a0.1 w_252 dX8_field_20 ?_
    refine xgN_4_contracts C a0.2.1.2.1.1 nf_15 dX8_field_23 ?_
    refine xiload_n C 2 rfl rfl dX8_field_26 ?_
    obtain ⟨hi27, h⟩ := ix_some h
    refine xaa_19 C x1.toNatClampNeg rfl ((q0 + 2) + 7 + 5 * x1.toNatClampNeg) (by omega) a0.2.1.2.1.2.2.1 hi27 dX8_field_27 ?_
    refine xastore C (lv' := [(4, .ref (ad ((q0 + 2) + 7 + 5 * x1.toNatClampNeg))), (3, .ref (ad ((q0 + 2) + 3 + 5 * x1.toNatClampNeg))), (0, .ref (ad q0)), (1, .int x1), (2, .int x2)]) (by decide) rfl dX8_field_28 ?_
    refine xiload_n C 4 rfl rfl dX8_field_30 ?_
    rcases if_some h with ⟨hs31_0, h⟩ | ⟨hs31_0, h⟩
    · refine xtab C (tgt := 88) (nI 0) hs31_0 (by decide) (by decide) rfl (by decide) dX8_field_31 ?_
      refine xaload_n C 1 rfl rfl dX8_field_88 ?_
      refine xgN_1_length C ((a0.2.1.2.1.2.2.2.1 x1.toNatClampNeg (vp_lt hi17)).1) nf_1 dX8_field_89 ?_
      obtain ⟨rfl, rfl⟩ := so_2 h
      exact xiret C rfl dX8_field_92
    rcases if_some h with ⟨hs31_1, h⟩ | ⟨hs31_1, h⟩
    · refine xtab C (tgt := 93) (nI 1) hs31_1 (by decide) (by decide) rfl (by decide) dX8_field_31 ?_
      refine xaload_n C 1 rfl rfl dX8_field_93 ?_
      refine xiconst C (v := (nI 0)) dX8_field_94 (by decide) ?_
      obtain ⟨r95, G95, hc95, h⟩ := bd_some h
      refine xNi C (As := [.int (nI 0)]) (rest := []) (kX1_numberOf (a0.2.1.2.1.2.2.2.1 x1.toNatClampNeg (vp_lt hi17)) hc95) ((a0.2.1.2.1.2.2.2.1 x1.toNatClampNeg (vp_lt hi17)).1) rfl rfl nm_36 mvX1_numberOf mwX1_numberOf rfl ⟨Nat.le_of_ble_eq_true rfl, Nat.le_of_ble_eq_true rfl⟩ ⟨Nat.le_refl _, Nat.le_refl _⟩ (Nat.le_of_ble_eq_true rfl) dX8_field_95 ?_
      obtain ⟨rfl, rfl⟩ := so_2 h
      exact xiret C rfl dX8_field_98
    rcases if_some h with ⟨hs31_2, h⟩ | ⟨hs31_2, h⟩
    · refine xtab C (tgt := 99) (nI 2) hs31_2 (by decide) (by decide) rfl (by decide) dX8_field_31 ?_
      refine xaload_n C 1 rfl rfl dX8_field_99 ?_
      refine xiconst C (v := (nI 1)) dX8_field_100 (by decide) ?_
      obtain ⟨r101, G101, hc101, h⟩ := bd_some h
      refine xNi C (As := [.int (nI 1)]) (rest := []) (kX1_numberOf (a0.2.1.2.1.2.2.2.1 x1.toNatClampNeg (vp_lt hi17)) hc101) ((a0.2.1.2.1.2.2.2.1 x1.toNatClampNeg (vp_lt hi17)).1) rfl rfl nm_36 mvX1_numberOf mwX1_numberOf rfl ⟨Nat.le_of_ble_eq_true rfl, Nat.le_of_ble_eq_true rfl⟩ ⟨Nat.le_refl _, Nat.le_refl _⟩ (Nat.le_of_ble_eq_true rfl) dX8_field_101 ?_
      obtain ⟨rfl, rfl⟩ := so_2 h
      exact xiret C rfl dX8_field_104
    rcases if_some h with ⟨hs31_3, h⟩ | ⟨hs31_3, h⟩
    · refine xtab C (tgt := 105) (nI 3) hs31_3 (by decide) (by decide) rfl (by decide) dX8_field_31 ?_
      refine xaload_n C 1 rfl rfl dX8_field_105 ?_
      refine xiconst C (v := (nI 2)) dX8_field_106 (by decide) ?_
      obtain ⟨r107, G107, hc107, h⟩ := bd_some h
      refine xNi C (As := [.int (nI 2)]) (rest := []) (kX1_numberOf (a0.2.1.2.1.2.2.2.1 x1.toNatClampNeg (vp_lt hi17)) hc107) ((a0.2.1.2.1.2.2.2.1 x1.toNatClampNeg (vp_lt hi17)).1) rfl rfl nm_36 mvX1_numberOf mwX1_numberOf rfl ⟨Nat.le_of_ble_eq_true rfl, Nat.le_of_ble_eq_true rfl⟩ ⟨Nat.le_refl _, Nat.le_refl _⟩ (Nat.le_of_ble_eq_true rfl) dX8_field_107 ?_
      obtain ⟨rfl, rfl⟩ := so_2 h
      exact xiret C rfl dX8_field_110
    rcases if_some h with ⟨hs31_4, h⟩ | ⟨hs31_4, h⟩
    · refine xtab C (tgt := 111) (nI 4) hs31_4 (by decide) (by decide) rfl (by decide) dX8_field_31 ?_
      refine xaload_n C 1 rfl rfl dX8_field_111 ?_
      refine xiconst C (v := (nI 3)) dX8_field_112 (by decide) ?_
      obtain ⟨r113, G113, hc113, h⟩ := bd_some h
      refine xNi C (As := [.int (nI 3)]) (rest := []) (kX1_numberOf (a0.2.1.2.1.2.2.2.1 x1.toNatClampNeg (vp_lt hi17)) hc113) ((a0.2.1.2.1.2.2.2.1 x1.toNatClampNeg (vp_lt hi17)).1) rfl rfl nm_36 mvX1_numberOf mwX1_numberOf rfl ⟨Nat.le_of_ble_eq_true rfl, Nat.le_of_ble_eq_true rfl⟩ ⟨Nat.le_refl _, Nat.le_refl _⟩ (Nat.le_of_ble_eq_true rfl) dX8_field_113 ?_
      obtain ⟨rfl, rfl⟩ := so_2 h
      exact xiret C rfl dX8_field_116
    rcases if_some h with ⟨hs31_5, h⟩ | ⟨hs31_5, h⟩
    · refine xtab C (tgt := 117) (nI 5) hs31_5 (by decide) (by decide) rfl (by decide) dX8_field_31 ?_
      refine xaload_n C 1 rfl rfl dX8_field_117 ?_
      refine xaload_n C 1 rfl rfl dX8_field_118 ?_
      obtain ⟨r119, G119, hc119, h⟩ := bd_some h
      refine xNi C (As := []) (rest := [.ref (ad ((q0 + 2) + 3 + 5 * x1.toNatClampNeg))]) (kX1_longestRunBegin (a0.2.1.2.1.2.2.2.1 x1.toNatClampNeg (vp_lt hi17)) hc119) ((a0.2.1.2.1.2.2.2.1 x1.toNatClampNeg (vp_lt hi17)).1) rfl rfl nm_49 mvX1_longestRunBegin mwX1_longestRunBegin rfl ⟨Nat.le_of_ble_eq_true rfl, Nat.le_of_ble_eq_true rfl⟩ ⟨Nat.le_refl _, Nat.le_refl _⟩ (Nat.le_of_ble_eq_true rfl) dX8_field_119 ?_
      obtain ⟨r122, G122, hc122, h⟩ := bd_some h
      refine xNi C (As := [.int r119]) (rest := []) (kX1_runFrom (a0.2.1.2.1.2.2.2.1 x1.toNatClampNeg (vp_lt hi17)) hc122) ((a0.2.1.2.1.2.2.2.1 x1.toNatClampNeg (vp_lt hi17)).1) rfl rfl nm_50 mvX1_runFrom mwX1_runFrom rfl ⟨Nat.le_of_ble_eq_true rfl, Nat.le_of_ble_eq_true rfl⟩ ⟨Nat.le_refl _, Nat.le_refl _⟩ (Nat.le_of_ble_eq_true rfl) dX8_field_122 ?_
      obtain ⟨rfl, rfl⟩ := so_2 h
      exact xiret C rfl dX8_field_125
    rcases if_some h with ⟨hs31_6, h⟩ | ⟨hs31_6, h⟩
    · refine xtab C (tgt := 126) (nI 6) hs31_6 (by decide) (by decide) rfl (by decide) dX8_field_31 ?_
      refine xaload_n C 1 rfl rfl dX8_field_126 ?_
      obtain ⟨r127, G127, hc127, h⟩ := bd_some h
      refine xNi C (As := []) (rest := []) (kX1_longestRunBegin (a0.2.1.2.1.2.2.2.1 x1.toNatClampNeg (vp_lt hi17)) hc127) ((a0.2.1.2.1.2.2.2.1 x1.toNatClampNeg (vp_lt hi17)).1) rfl rfl nm_49 mvX1_longestRunBegin mwX1_longestRunBegin rfl ⟨Nat.le_of_ble_eq_true rfl, Nat.le_of_ble_eq_true rfl⟩ ⟨Nat.le_refl _, Nat.le_refl _⟩ (Nat.le_of_ble_eq_true rfl) dX8_field_127 ?_
      obtain ⟨rfl, rfl⟩ := so_2 h
      exact xiret C rfl dX8_field_130
    rcases if_some h with ⟨hs31_7, h⟩ | ⟨hs31_7, h⟩
    · refine xtab C (tgt := 131) (nI 7) hs31_7 (by decide) (by decide) rfl (by decide) dX8_field_31 ?_
      refine xaload C 0 rfl dX8_field_131 ?_
      refine xgN_0_made C (a0.2.1.2.1.2.2.2.2 x1.toNatClampNeg (vp_lt hi27)) nf_5 dX8_field_133 ?_
      refine xif_eq C (tgt := 143) h (by decide) dX8_field_136 (fun h => ?_) (fun h => ?_)
      · refine xiconst C (v := (nI 0)) dX8_field_143 (by decide) ?_
        obtain ⟨rfl, rfl⟩ := so_2 h
        exact xiret C rfl dX8_field_144
      · refine xiconst C (v := (nI 1)) dX8_field_139 (by decide) ?_
        refine xgoto C (tgt := 144) (by decide) dX8_field_140 ?_
        obtain ⟨rfl, rfl⟩ := so_2 h
        exact xiret C rfl dX8_field_144
    rcases if_some h with ⟨hs31_8, h⟩ | ⟨hs31_8, h⟩
    · refine xtab C (tgt := 145) (nI 8) hs31_8 (by decide) (by decide) rfl (by decide) dX8_field_31 ?_
      refine xaload C 0 rfl dX8_field_145 ?_
      refine xgN_0_made C (a0.2.1.2.1.2.2.2.2 x1.toNatClampNeg (vp_lt hi27)) nf_5 dX8_field_147 ?_
      refine xif_eq C (tgt := 161) h (by decide) dX8_field_150 (fun h => ?_) (fun h => ?_)
      · refine xbipush C (v := (-9)) dX8_field_161 (by decide) ?_
        obtain ⟨rfl, rfl⟩ := so_2 h
        exact xiret C rfl dX8_field_163
      · refine xaload C 0 rfl dX8_field_153 ?_
        refine xgN_0_price C (a0.2.1.2.1.2.2.2.2 x1.toNatClampNeg (vp_lt hi27)) nf_7 dX8_field_155 ?_
        refine xgoto C (tgt := 163) (by decide) dX8_field_158 ?_
        obtain ⟨rfl, rfl⟩ := so_2 h
        exact xiret C rfl dX8_field_163
    rcases if_some h with ⟨hs31_9, h⟩ | ⟨hs31_9, h⟩
    · refine xtab C (tgt := 164) (nI 9) hs31_9 (by decide) (by decide) rfl (by decide) dX8_field_31 ?_
      refine xaload C 0 rfl dX8_field_164 ?_
      refine xgN_0_made C (a0.2.1.2.1.2.2.2.2 x1.toNatClampNeg (vp_lt hi27)) nf_5 dX8_field_166 ?_
      refine xif_eq C (tgt := 180) h (by decide) dX8_field_169 (fun h => ?_) (fun h => ?_)
      · refine xbipush C (v := (-9)) dX8_field_180 (by decide) ?_
        obtain ⟨rfl, rfl⟩ := so_2 h
        exact xiret C rfl dX8_field_182
      · refine xaload C 0 rfl dX8_field_172 ?_
        refine xgN_0_lastWeek C (a0.2.1.2.1.2.2.2.2 x1.toNatClampNeg (vp_lt hi27)) nf_10 dX8_field_174 ?_
        refine xgoto C (tgt := 182) (by decide) dX8_field_177 ?_
        obtain ⟨rfl, rfl⟩ := so_2 h
        exact xiret C rfl dX8_field_182
    rcases if_some h with ⟨hs31_10, h⟩ | ⟨hs31_10, h⟩
    · refine xtab C (tgt := 183) (nI 10) hs31_10 (by decide) (by decide) rfl (by decide) dX8_field_31 ?_
      refine xaload C 0 rfl dX8_field_183 ?_
      refine xgN_0_made C (a0.2.1.2.1.2.2.2.2 x1.toNatClampNeg (vp_lt hi27)) nf_5 dX8_field_185 ?_
      refine xif_eq C (tgt := 199) h (by decide) dX8_field_188 (fun h => ?_) (fun h => ?_)
      · refine xbipush C (v := (-9)) dX8_field_199 (by decide) ?_
        obtain ⟨rfl, rfl⟩ := so_2 h
        exact xiret C rfl dX8_field_201
      · refine xaload C 0 rfl dX8_field_191 ?_
        refine xgN_0_fine C (a0.2.1.2.1.2.2.2.2 x1.toNatClampNeg (vp_lt hi27)) nf_11 dX8_field_193 ?_
        refine xgoto C (tgt := 201) (by decide) dX8_field_196 ?_
        obtain ⟨rfl, rfl⟩ := so_2 h
        exact xiret C rfl dX8_field_201
    refine xtabOut C (tgt := 202) (by have := xne hs31_0 0 rfl; have := xne hs31_1 1 rfl; have := xne hs31_2 2 rfl; have := xne hs31_3 3 rfl; have := xne hs31_4 4 rfl; have := xne hs31_5 5 rfl; have := xne hs31_6 6 rfl; have := xne hs31_7 7 rfl; have := xne hs31_8 8 rfl; have := xne hs31_9 9 rfl; have := xne hs31_10 10 rfl; omega) (by decide) dX8_field_31 ?_
    refine xiconst C (v := (-1)) dX8_field_202 (by decide) ?_
    obtain ⟨rfl, rfl⟩ := so_2 h
    exact xiret C rfl dX8_field_203
/-- HedgeChains.chain(III)I -/
theorem kX8_chain {r : Int32}  {q0 : Nat} {x1 : Int32} {x2 : Int32} {x3 : Int32} (a0 : A8 kd NP q0) {G : Mem} (h : fX8_chain q0 x1 x2 x3 G = some (r, G')) : xMi l D cy ad kd NP A yX8_chain cX8_chain 5 (some .int) 3 64 [.ref (ad q0), .int x1, .int x2, .int x3] G r G' := by
  refine xMi_of trivial (by decide +kernel) (Nat.le_of_ble_eq_true rfl) (fun p e s m args below meth c C => ?_)
  have C : xC p s m args meth c cX8_chain RX8 5 (some .int) D cy := C
  refine xsub C (lv' := [(0, .ref (ad q0)), (1, .int x1), (2, .int x2), (3, .int x3)]) [0, 1, 2, 3] rfl ?_
  unfold fX8_chain at h
  refine xaload_n C 0 rfl rfl dX8_chain_0 ?_
  refine xiload_n C 1 rfl rfl dX8_chain_1 ?_
  refine xiload_n C 2 rfl rfl dX8_chain_2 ?_
  obtain ⟨r3, G3, hc3, h⟩ := bd_some h
  refine xVi C (As := [.int x1, .int x2]) (rest := []) (kX8_isChain a0 hc3) a0.1 rfl rfl w_274 mvX8_isChain mwX8_isChain rfl ⟨Nat.le_of_ble_eq_true rfl, Nat.le_of_ble_eq_true rfl⟩ ⟨Nat.le_refl _, Nat.le_refl _⟩ (Nat.le_of_ble_eq_true rfl) dX8_chain_3 ?_
  refine xif_ne C (tgt := 11) h (by decide) dX8_chain_6 (fun h => ?_) (fun h => ?_)
  · refine xiconst C (v := (-1)) dX8_chain_9 (by decide) ?_
    obtain ⟨rfl, rfl⟩ := so_2 h
    exact xiret C rfl dX8_chain_10
  · refine xaload_n C 0 rfl rfl dX8_chain_11 ?_
    refine xg_8_land C a0.1 w_252 dX8_chain_12 ?_
    refine xgN_4_hedges C a0.2.1.2.1.1 nf_13 dX8_chain_15 ?_
    refine xiload_n C 1 rfl rfl dX8_chain_18 ?_
    obtain ⟨hi19, h⟩ := ix_some h
    refine xaa_18 C x1.toNatClampNeg rfl ((q0 + 2) + 3 + 5 * x1.toNatClampNeg) (by omega) a0.2.1.2.1.2.1 hi19 dX8_chain_19 ?_
    refine xastore C (lv' := [(4, .ref (ad ((q0 + 2) + 3 + 5 * x1.toNatClampNeg))), (0, .ref (ad q0)), (1, .int x1), (2, .int x2), (3, .int x3)]) (by decide) rfl dX8_chain_20 ?_
    refine xiload_n C 4 rfl rfl dX8_chain_22 ?_
    rcases if_some h with ⟨hs23_0, h⟩ | ⟨hs23_0, h⟩
    · refine xtab C (tgt := 48) (nI 0) hs23_0 (by decide) (by decide) rfl (by decide) dX8_chain_23 ?_
      refine xaload C 0 rfl dX8_chain_48 ?_
      refine xiload_n C 3 rfl rfl dX8_chain_50 ?_
      obtain ⟨r51, G51, hc51, h⟩ := bd_some h
      refine xNi C (As := [.int x2]) (rest := []) (kX1_kindOf (a0.2.1.2.1.2.2.2.1 x1.toNatClampNeg (vp_lt hi19)) hc51) ((a0.2.1.2.1.2.2.2.1 x1.toNatClampNeg (vp_lt hi19)).1) rfl rfl nm_30 mvX1_kindOf mwX1_kindOf rfl ⟨Nat.le_of_ble_eq_true rfl, Nat.le_of_ble_eq_true rfl⟩ ⟨Nat.le_refl _, Nat.le_refl _⟩ (Nat.le_of_ble_eq_true rfl) dX8_chain_51 ?_
      obtain ⟨rfl, rfl⟩ := so_2 h
      exact xiret C rfl dX8_chain_54
    rcases if_some h with ⟨hs23_1, h⟩ | ⟨hs23_1, h⟩
    · refine xtab C (tgt := 55) (nI 1) hs23_1 (by decide) (by decide) rfl (by decide) dX8_chain_23 ?_
      refine xaload C 0 rfl dX8_chain_55 ?_
      refine xiload_n C 3 rfl rfl dX8_chain_57 ?_
      obtain ⟨r58, G58, hc58, h⟩ := bd_some h
      refine xNi C (As := [.int x2]) (rest := []) (kX1_thicknessOf (a0.2.1.2.1.2.2.2.1 x1.toNatClampNeg (vp_lt hi19)) hc58) ((a0.2.1.2.1.2.2.2.1 x1.toNatClampNeg (vp_lt hi19)).1) rfl rfl nm_51 mvX1_thicknessOf mwX1_thicknessOf rfl ⟨Nat.le_of_ble_eq_true rfl, Nat.le_of_ble_eq_true rfl⟩ ⟨Nat.le_refl _, Nat.le_refl _⟩ (Nat.le_of_ble_eq_true rfl) dX8_chain_58 ?_
      obtain ⟨rfl, rfl⟩ := so_2 h
      exact xiret C rfl dX8_chain_61
    rcases if_some h with ⟨hs23_2, h⟩ | ⟨hs23_2, h⟩
    · refine xtab C (tgt := 62) (nI 2) hs23_2 (by decide) (by decide) rfl (by decide) dX8_chain_23 ?_
      refine xaload C 0 rfl dX8_chain_62 ?_
      refine xiload_n C 3 rfl rfl dX8_chain_64 ?_
      obtain ⟨r65, G65, hc65, h⟩ := bd_some h
      refine xNi C (As := [.int x2]) (rest := []) (kX1_ageOf (a0.2.1.2.1.2.2.2.1 x1.toNatClampNeg (vp_lt hi19)) hc65) ((a0.2.1.2.1.2.2.2.1 x1.toNatClampNeg (vp_lt hi19)).1) rfl rfl nm_52 mvX1_ageOf mwX1_ageOf rfl ⟨Nat.le_of_ble_eq_true rfl, Nat.le_of_ble_eq_true rfl⟩ ⟨Nat.le_refl _, Nat.le_refl _⟩ (Nat.le_of_ble_eq_true rfl) dX8_chain_65 ?_
      obtain ⟨rfl, rfl⟩ := so_2 h
      exact xiret C rfl dX8_chain_68
    refine xtabOut C (tgt := 69) (by have := xne hs23_0 0 rfl; have := xne hs23_1 1 rfl; have := xne hs23_2 2 rfl; omega) (by decide) dX8_chain_23 ?_
    refine xiconst C (v := (-1)) dX8_chain_69 (by decide) ?_
    obtain ⟨rfl, rfl⟩ := so_2 h
    exact xiret C rfl dX8_chain_70
/-- HedgeChains.toLay(II)I -/
theorem kX8_toLay {r : Int32}  {q0 : Nat} {x1 : Int32} {x2 : Int32} (a0 : A8 kd NP q0) {G : Mem} (h : fX8_toLay q0 x1 x2 G = some (r, G')) : xMi l D cy ad kd NP A yX8_toLay cX8_toLay 4 (some .int) 3 64 [.ref (ad q0), .int x1, .int x2] G r G' := by
  refine xMi_of trivial (by decide +kernel) (Nat.le_of_ble_eq_true rfl) (fun p e s m args below meth c C => ?_)
  have C : xC p s m args meth c cX8_toLay RX8 4 (some .int) D cy := C
  refine xsub C (lv' := [(0, .ref (ad q0)), (1, .int x1), (2, .int x2)]) [0, 1, 2] rfl ?_
  unfold fX8_toLay at h
  refine xiload_n C 1 rfl rfl dX8_toLay_0 ?_
  obtain ⟨r1, G1, hc1, h⟩ := bd_some h
  refine xSi C (As := [.int x1]) (rest := []) (kX8_isField hc1) w_278 w_279 mwX8_isField rfl ⟨Nat.le_of_ble_eq_true rfl, Nat.le_of_ble_eq_true rfl⟩ ⟨Nat.le_refl _, Nat.le_refl _⟩ (Nat.le_of_ble_eq_true rfl) dX8_toLay_1 ?_
  refine xif_eq C (tgt := 16) h (by decide) dX8_toLay_4 (fun h => ?_) (fun h => ?_)
  · refine xiconst C (v := (-1)) dX8_toLay_16 (by decide) ?_
    obtain ⟨rfl, rfl⟩ := so_2 h
    exact xiret C rfl dX8_toLay_17
  · refine xiload_n C 2 rfl rfl dX8_toLay_7 ?_
    refine xiconst C (v := (nI 0)) dX8_toLay_8 (by decide) ?_
    refine xiconst C (v := (nI 1)) dX8_toLay_9 (by decide) ?_
    obtain ⟨r10, G10, hc10, h⟩ := bd_some h
    refine xSi C (As := [.int x2, .int (nI 0), .int (nI 1)]) (rest := []) (kX8_isWithin hc10) w_281 w_282 mwX8_isWithin rfl ⟨Nat.le_of_ble_eq_true rfl, Nat.le_of_ble_eq_true rfl⟩ ⟨Nat.le_refl _, Nat.le_refl _⟩ (Nat.le_of_ble_eq_true rfl) dX8_toLay_10 ?_
    refine xif_ne C (tgt := 18) h (by decide) dX8_toLay_13 (fun h => ?_) (fun h => ?_)
    · refine xiconst C (v := (-1)) dX8_toLay_16 (by decide) ?_
      obtain ⟨rfl, rfl⟩ := so_2 h
      exact xiret C rfl dX8_toLay_17
    · refine xaload_n C 0 rfl rfl dX8_toLay_18 ?_
      refine xg_8_land C a0.1 w_252 dX8_toLay_19 ?_
      refine xgN_4_hedges C a0.2.1.2.1.1 nf_13 dX8_toLay_22 ?_
      refine xiload_n C 1 rfl rfl dX8_toLay_25 ?_
      obtain ⟨hi26, h⟩ := ix_some h
      refine xaa_18 C x1.toNatClampNeg rfl ((q0 + 2) + 3 + 5 * x1.toNatClampNeg) (by omega) a0.2.1.2.1.2.1 hi26 dX8_toLay_26 ?_
      refine xastore_n C (lv' := [(3, .ref (ad ((q0 + 2) + 3 + 5 * x1.toNatClampNeg))), (0, .ref (ad q0)), (1, .int x1), (2, .int x2)]) rfl (by decide) rfl dX8_toLay_27 ?_
      refine xiload_n C 3 rfl rfl dX8_toLay_28 ?_
      refine xif_ne C (tgt := 39) h (by decide) dX8_toLay_29 (fun h => ?_) (fun h => ?_)
      · refine xaload_n C 0 rfl rfl dX8_toLay_32 ?_
        obtain ⟨r33, G33, hc33, h⟩ := bd_some h
        refine xNi C (As := []) (rest := []) (kX1_workToLay (a0.2.1.2.1.2.2.2.1 x1.toNatClampNeg (vp_lt hi26)) hc33) ((a0.2.1.2.1.2.2.2.1 x1.toNatClampNeg (vp_lt hi26)).1) rfl rfl nm_53 mvX1_workToLay mwX1_workToLay rfl ⟨Nat.le_of_ble_eq_true rfl, Nat.le_of_ble_eq_true rfl⟩ ⟨Nat.le_refl _, Nat.le_refl _⟩ (Nat.le_of_ble_eq_true rfl) dX8_toLay_33 ?_
        refine xgoto C (tgt := 43) (by decide) dX8_toLay_36 ?_
        obtain ⟨rfl, rfl⟩ := so_2 h
        exact xiret C rfl dX8_toLay_43
      · refine xaload_n C 0 rfl rfl dX8_toLay_39 ?_
        obtain ⟨r40, G40, hc40, h⟩ := bd_some h
        refine xNi C (As := []) (rest := []) (kX1_stakesToLay (a0.2.1.2.1.2.2.2.1 x1.toNatClampNeg (vp_lt hi26)) hc40) ((a0.2.1.2.1.2.2.2.1 x1.toNatClampNeg (vp_lt hi26)).1) rfl rfl nm_54 mvX1_stakesToLay mwX1_stakesToLay rfl ⟨Nat.le_of_ble_eq_true rfl, Nat.le_of_ble_eq_true rfl⟩ ⟨Nat.le_refl _, Nat.le_refl _⟩ (Nat.le_of_ble_eq_true rfl) dX8_toLay_40 ?_
        obtain ⟨rfl, rfl⟩ := so_2 h
        exact xiret C rfl dX8_toLay_43
/-- HedgeChains.stakesIn(I)I -/
theorem kX8_stakesIn {r : Int32}  {q0 : Nat} {x1 : Int32} (a0 : A8 kd NP q0) {G : Mem} (h : fX8_stakesIn q0 x1 G = some (r, G')) : xMi l D cy ad kd NP A yX8_stakesIn cX8_stakesIn 2 (some .int) 3 64 [.ref (ad q0), .int x1] G r G' := by
  refine xMi_of trivial (by decide +kernel) (Nat.le_of_ble_eq_true rfl) (fun p e s m args below meth c C => ?_)
  have C : xC p s m args meth c cX8_stakesIn RX8 2 (some .int) D cy := C
  refine xsub C (lv' := [(0, .ref (ad q0)), (1, .int x1)]) [0, 1] rfl ?_
  unfold fX8_stakesIn at h
  refine xiload_n C 1 rfl rfl dX8_stakesIn_0 ?_
  obtain ⟨r1, G1, hc1, h⟩ := bd_some h
  refine xSi C (As := [.int x1]) (rest := []) (kX8_isField hc1) w_278 w_279 mwX8_isField rfl ⟨Nat.le_of_ble_eq_true rfl, Nat.le_of_ble_eq_true rfl⟩ ⟨Nat.le_refl _, Nat.le_refl _⟩ (Nat.le_of_ble_eq_true rfl) dX8_stakesIn_1 ?_
  refine xif_eq C (tgt := 22) h (by decide) dX8_stakesIn_4 (fun h => ?_) (fun h => ?_)
  · refine xiconst C (v := (-1)) dX8_stakesIn_22 (by decide) ?_
    obtain ⟨rfl, rfl⟩ := so_2 h
    exact xiret C rfl dX8_stakesIn_23
  · refine xaload_n C 0 rfl rfl dX8_stakesIn_7 ?_
    refine xg_8_land C a0.1 w_252 dX8_stakesIn_8 ?_
    refine xgN_4_hedges C a0.2.1.2.1.1 nf_13 dX8_stakesIn_11 ?_
    refine xiload_n C 1 rfl rfl dX8_stakesIn_14 ?_
    obtain ⟨hi15, h⟩ := ix_some h
    refine xaa_18 C x1.toNatClampNeg rfl ((q0 + 2) + 3 + 5 * x1.toNatClampNeg) (by omega) a0.2.1.2.1.2.1 hi15 dX8_stakesIn_15 ?_
    obtain ⟨r16, G16, hc16, h⟩ := bd_some h
    refine xNi C (As := []) (rest := []) (kX1_stakesToCut (a0.2.1.2.1.2.2.2.1 x1.toNatClampNeg (vp_lt hi15)) hc16) ((a0.2.1.2.1.2.2.2.1 x1.toNatClampNeg (vp_lt hi15)).1) rfl rfl nm_55 mvX1_stakesToCut mwX1_stakesToCut rfl ⟨Nat.le_of_ble_eq_true rfl, Nat.le_of_ble_eq_true rfl⟩ ⟨Nat.le_refl _, Nat.le_refl _⟩ (Nat.le_of_ble_eq_true rfl) dX8_stakesIn_16 ?_
    refine xgoto C (tgt := 23) (by decide) dX8_stakesIn_19 ?_
    obtain ⟨rfl, rfl⟩ := so_2 h
    exact xiret C rfl dX8_stakesIn_23
/-- HedgeChains.doneIn(I)I -/
theorem kX8_doneIn {r : Int32}  {q0 : Nat} {x1 : Int32} (a0 : A8 kd NP q0) {G : Mem} (h : fX8_doneIn q0 x1 G = some (r, G')) : xMi l D cy ad kd NP A yX8_doneIn cX8_doneIn 2 (some .int) 3 69 [.ref (ad q0), .int x1] G r G' := by
  refine xMi_of trivial (by decide +kernel) (Nat.le_of_ble_eq_true rfl) (fun p e s m args below meth c C => ?_)
  have C : xC p s m args meth c cX8_doneIn RX8 2 (some .int) D cy := C
  refine xsub C (lv' := [(0, .ref (ad q0)), (1, .int x1)]) [0, 1] rfl ?_
  unfold fX8_doneIn at h
  refine xiload_n C 1 rfl rfl dX8_doneIn_0 ?_
  obtain ⟨r1, G1, hc1, h⟩ := bd_some h
  refine xSi C (As := [.int x1]) (rest := []) (kX8_isField hc1) w_278 w_279 mwX8_isField rfl ⟨Nat.le_of_ble_eq_true rfl, Nat.le_of_ble_eq_true rfl⟩ ⟨Nat.le_refl _, Nat.le_refl _⟩ (Nat.le_of_ble_eq_true rfl) dX8_doneIn_1 ?_
  refine xif_eq C (tgt := 18) h (by decide) dX8_doneIn_4 (fun h => ?_) (fun h => ?_)
  · refine xiconst C (v := (-1)) dX8_doneIn_18 (by decide) ?_
    obtain ⟨rfl, rfl⟩ := so_2 h
    exact xiret C rfl dX8_doneIn_19
  · refine xaload_n C 0 rfl rfl dX8_doneIn_7 ?_
    refine xg_8_land C a0.1 w_252 dX8_doneIn_8 ?_
    refine xiload_n C 1 rfl rfl dX8_doneIn_11 ?_
    obtain ⟨r12, G12, hc12, h⟩ := bd_some h
    refine xNi C (As := [.int x1]) (rest := []) (kX4_weeksUntilLaid a0.2.1.2.1 hc12) a0.2.1.2.1.1 rfl rfl nm_56 mvX4_weeksUntilLaid mwX4_weeksUntilLaid rfl ⟨Nat.le_of_ble_eq_true rfl, Nat.le_of_ble_eq_true rfl⟩ ⟨Nat.le_refl _, Nat.le_refl _⟩ (Nat.le_of_ble_eq_true rfl) dX8_doneIn_12 ?_
    refine xgoto C (tgt := 19) (by decide) dX8_doneIn_15 ?_
    obtain ⟨rfl, rfl⟩ := so_2 h
    exact xiret C rfl dX8_doneIn_19
/-- HedgeChains.bestOrder(I)I -/
theorem kX8_bestOrder {r : Int32}  {q0 : Nat} {x1 : Int32} (a0 : A8 kd NP q0) {G : Mem} (h : fX8_bestOrder q0 x1 G = some (r, G')) : xMi l D cy ad kd NP A yX8_bestOrder cX8_bestOrder 2 (some .int) 6 130 [.ref (ad q0), .int x1] G r G' := by
  refine xMi_of trivial (by decide +kernel) (Nat.le_of_ble_eq_true rfl) (fun p e s m args below meth c C => ?_)
  have C : xC p s m args meth c cX8_bestOrder RX8 2 (some .int) D cy := C
  refine xsub C (lv' := [(0, .ref (ad q0)), (1, .int x1)]) [0, 1] rfl ?_
  unfold fX8_bestOrder at h
  refine xiload_n C 1 rfl rfl dX8_bestOrder_0 ?_
  refine xiconst C (v := (nI 0)) dX8_bestOrder_1 (by decide) ?_
  refine xiconst C (v := (nI 1)) dX8_bestOrder_2 (by decide) ?_
  obtain ⟨r3, G3, hc3, h⟩ := bd_some h
  refine xSi C (As := [.int x1, .int (nI 0), .int (nI 1)]) (rest := []) (kX8_isWithin hc3) w_281 w_282 mwX8_isWithin rfl ⟨Nat.le_of_ble_eq_true rfl, Nat.le_of_ble_eq_true rfl⟩ ⟨Nat.le_refl _, Nat.le_refl _⟩ (Nat.le_of_ble_eq_true rfl) dX8_bestOrder_3 ?_
  refine xif_ne C (tgt := 11) h (by decide) dX8_bestOrder_6 (fun h => ?_) (fun h => ?_)
  · refine xiconst C (v := (-1)) dX8_bestOrder_9 (by decide) ?_
    obtain ⟨rfl, rfl⟩ := so_2 h
    exact xiret C rfl dX8_bestOrder_10
  · refine xaload_n C 0 rfl rfl dX8_bestOrder_11 ?_
    refine xg_8_land C a0.1 w_252 dX8_bestOrder_12 ?_
    obtain ⟨r15, G15, hc15, h⟩ := bd_some h
    refine xNi C (As := []) (rest := []) (kX4_numberOfContracts a0.2.1.2.1 hc15) a0.2.1.2.1.1 rfl rfl nm_47 mvX4_numberOfContracts mwX4_numberOfContracts rfl ⟨Nat.le_of_ble_eq_true rfl, Nat.le_of_ble_eq_true rfl⟩ ⟨Nat.le_refl _, Nat.le_refl _⟩ (Nat.le_of_ble_eq_true rfl) dX8_bestOrder_15 ?_
    refine xif_ne C (tgt := 24) h (by decide) dX8_bestOrder_18 (fun h => ?_) (fun h => ?_)
    · refine xbipush C (v := (-9)) dX8_bestOrder_21 (by decide) ?_
      obtain ⟨rfl, rfl⟩ := so_2 h
      exact xiret C rfl dX8_bestOrder_23
    · refine xaload_n C 0 rfl rfl dX8_bestOrder_24 ?_
      refine xg_8_orders C a0.1 w_256 dX8_bestOrder_25 ?_
      refine xaload_n C 0 rfl rfl dX8_bestOrder_28 ?_
      refine xg_8_land C a0.1 w_252 dX8_bestOrder_29 ?_
      obtain ⟨G32, hc32, h⟩ := bv_some h
      refine xNv C (As := [.ref (ad (q0 + 2))]) (rest := []) (kX5_reckon a0.2.2.2.2.2 a0.2.1.2.1 hc32) a0.2.2.2.2.2.1 rfl rfl nm_57 mvX5_reckon mwX5_reckon rfl ⟨Nat.le_of_ble_eq_true rfl, Nat.le_of_ble_eq_true rfl⟩ ⟨Nat.le_refl _, Nat.le_refl _⟩ (Nat.le_of_ble_eq_true rfl) dX8_bestOrder_32 ?_
      refine xiload_n C 1 rfl rfl dX8_bestOrder_35 ?_
      refine xif_ne C (tgt := 49) h (by decide) dX8_bestOrder_36 (fun h => ?_) (fun h => ?_)
      · refine xaload_n C 0 rfl rfl dX8_bestOrder_39 ?_
        refine xg_8_orders C a0.1 w_256 dX8_bestOrder_40 ?_
        obtain ⟨r43, G43, hc43, h⟩ := bd_some h
        refine xNi C (As := []) (rest := []) (kX5_leastFines a0.2.2.2.2.2 hc43) a0.2.2.2.2.2.1 rfl rfl nm_61 mvX5_leastFines mwX5_leastFines rfl ⟨Nat.le_of_ble_eq_true rfl, Nat.le_of_ble_eq_true rfl⟩ ⟨Nat.le_refl _, Nat.le_refl _⟩ (Nat.le_of_ble_eq_true rfl) dX8_bestOrder_43 ?_
        refine xgoto C (tgt := 56) (by decide) dX8_bestOrder_46 ?_
        obtain ⟨rfl, rfl⟩ := so_2 h
        exact xiret C rfl dX8_bestOrder_56
      · refine xaload_n C 0 rfl rfl dX8_bestOrder_49 ?_
        refine xg_8_orders C a0.1 w_256 dX8_bestOrder_50 ?_
        obtain ⟨r53, G53, hc53, h⟩ := bd_some h
        refine xNi C (As := []) (rest := []) (kX5_firstField a0.2.2.2.2.2 hc53) a0.2.2.2.2.2.1 rfl rfl nm_62 mvX5_firstField mwX5_firstField rfl ⟨Nat.le_of_ble_eq_true rfl, Nat.le_of_ble_eq_true rfl⟩ ⟨Nat.le_refl _, Nat.le_refl _⟩ (Nat.le_of_ble_eq_true rfl) dX8_bestOrder_53 ?_
        obtain ⟨rfl, rfl⟩ := so_2 h
        exact xiret C rfl dX8_bestOrder_56
end
