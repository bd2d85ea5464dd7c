section
variable {p : Program} {l : Launch} {e : Env} {s : State} {m : MethodId} {args : Array Value} {below : List Frame} {meth : Method} {c : Code} {A : Nat → Prop} {D : va_G} {cy : xCy} {ad kd : Nat → Nat} {NP : Nat} {G' : Mem}
/-- HedgeChains$Land.isClosed(I)Z -/
theorem kX4_isClosed {r : Int32}  {q0 : Nat} {x1 : Int32} (a0 : A4 kd NP q0) {G : Mem} (h : fX4_isClosed q0 x1 G = some (r, G')) : xMi l D cy ad kd NP A yX4_isClosed cX4_isClosed 3 (some .boolean) 0 0 [.ref (ad q0), .int x1] G r G' := by
  refine xMi_of trivial (by decide +kernel) (Nat.le_of_ble_eq_true rfl) (fun p e s m args below meth c C => ?_)
  have C : xC p s m args meth c cX4_isClosed RX4 3 (some .boolean) D cy := C
  refine xsub C (lv' := [(0, .ref (ad q0)), (1, .int x1)]) [0, 1] rfl ?_
  unfold fX4_isClosed at h
  refine xiload_n C 1 rfl rfl dX4_isClosed_0 ?_
  refine xbipush C (v := (nI 52)) dX4_isClosed_1 (by decide) ?_
  refine xirem C dX4_isClosed_3 (by decide) ?_
  refine xistore_n C (lv' := [(2, .int (x1 - x1 / (nI 52) * (nI 52))), (0, .ref (ad q0)), (1, .int x1)]) rfl (by decide) rfl dX4_isClosed_4 ?_
  refine xaload_n C 1 rfl rfl dX4_isClosed_5 ?_
  refine xg_4_firstClosed C a0.1 w_107 dX4_isClosed_6 ?_
  refine xaload_n C 1 rfl rfl dX4_isClosed_9 ?_
  refine xg_4_lastClosed C a0.1 w_108 dX4_isClosed_10 ?_
  refine xicmp_le C (tgt := 38) h (by decide) dX4_isClosed_13 (fun h => ?_) (fun h => ?_)
  · refine xiload_n C 0 rfl rfl dX4_isClosed_38 ?_
    refine xaload_n C 1 rfl rfl dX4_isClosed_39 ?_
    refine xg_4_firstClosed C a0.1 w_107 dX4_isClosed_40 ?_
    refine xicmp_lt C (tgt := 58) h (by decide) dX4_isClosed_43 (fun h => ?_) (fun h => ?_)
    · refine xiconst C (v := (nI 0)) dX4_isClosed_58 (by decide) ?_
      obtain ⟨rfl, rfl⟩ := so_2 h
      exact xzret C (Or.inl rfl) rfl dX4_isClosed_59
    · refine xiload_n C 0 rfl rfl dX4_isClosed_46 ?_
      refine xaload_n C 1 rfl rfl dX4_isClosed_47 ?_
      refine xg_4_lastClosed C a0.1 w_108 dX4_isClosed_48 ?_
      refine xicmp_gt C (tgt := 58) h (by decide) dX4_isClosed_51 (fun h => ?_) (fun h => ?_)
      · refine xiconst C (v := (nI 0)) dX4_isClosed_58 (by decide) ?_
        obtain ⟨rfl, rfl⟩ := so_2 h
        exact xzret C (Or.inl rfl) rfl dX4_isClosed_59
      · refine xiconst C (v := (nI 1)) dX4_isClosed_54 (by decide) ?_
        refine xgoto C (tgt := 59) (by decide) dX4_isClosed_55 ?_
        obtain ⟨rfl, rfl⟩ := so_2 h
        exact xzret C (Or.inr rfl) rfl dX4_isClosed_59
  · refine xiload_n C 0 rfl rfl dX4_isClosed_16 ?_
    refine xaload_n C 1 rfl rfl dX4_isClosed_17 ?_
    refine xg_4_firstClosed C a0.1 w_107 dX4_isClosed_18 ?_
    refine xicmp_ge C (tgt := 32) h (by decide) dX4_isClosed_21 (fun h => ?_) (fun h => ?_)
    · refine xiconst C (v := (nI 1)) dX4_isClosed_32 (by decide) ?_
      refine xgoto C (tgt := 37) (by decide) dX4_isClosed_33 ?_
      obtain ⟨rfl, rfl⟩ := so_2 h
      exact xzret C (Or.inr rfl) rfl dX4_isClosed_37
    · refine xiload_n C 0 rfl rfl dX4_isClosed_24 ?_
      refine xaload_n C 1 rfl rfl dX4_isClosed_25 ?_
      refine xg_4_lastClosed C a0.1 w_108 dX4_isClosed_26 ?_
      refine xicmp_gt C (tgt := 36) h (by decide) dX4_isClosed_29 (fun h => ?_) (fun h => ?_)
      · refine xiconst C (v := (nI 0)) dX4_isClosed_36 (by decide) ?_
        obtain ⟨rfl, rfl⟩ := so_2 h
        exact xzret C (Or.inl rfl) rfl dX4_isClosed_37
      · refine xiconst C (v := (nI 1)) dX4_isClosed_32 (by decide) ?_
        refine xgoto C (tgt := 37) (by decide) dX4_isClosed_33 ?_
        obtain ⟨rfl, rfl⟩ := so_2 h
        exact xzret C (Or.inr rfl) rfl dX4_isClosed_37
/-- HedgeChains$Land.canLay(II)Z -/
theorem kX4_canLay {r : Int32}  {q0 : Nat} {x1 : Int32} {x2 : Int32} (a0 : A4 kd NP q0) {G : Mem} (h : fX4_canLay q0 x1 x2 G = some (r, G')) : xMi l D cy ad kd NP A yX4_canLay cX4_canLay 4 (some .boolean) 2 42 [.ref (ad q0), .int x1, .int x2] G r G' := by
  refine xMi_of trivial (by decide +kernel) (Nat.le_of_ble_eq_true rfl) (fun p e s m args below meth c C => ?_)
  have C : xC p s m args meth c cX4_canLay RX4 4 (some .boolean) D cy := C
  refine xsub C (lv' := [(0, .ref (ad q0)), (1, .int x1), (2, .int x2)]) [0, 1, 2] rfl ?_
  unfold fX4_canLay at h
  refine xaload_n C 0 rfl rfl dX4_canLay_0 ?_
  refine xg_4_hedges C a0.1 w_99 dX4_canLay_1 ?_
  refine xiload_n C 1 rfl rfl dX4_canLay_4 ?_
  obtain ⟨hi5, h⟩ := ix_some h
  refine xaa_18 C x1.toNatClampNeg rfl (q0 + 3 + 5 * x1.toNatClampNeg) (by omega) a0.2.1 hi5 dX4_canLay_5 ?_
  refine xastore_n C (lv' := [(3, .ref (ad (q0 + 3 + 5 * x1.toNatClampNeg))), (0, .ref (ad q0)), (1, .int x1), (2, .int x2)]) rfl (by decide) rfl dX4_canLay_6 ?_
  refine xaload_n C 0 rfl rfl dX4_canLay_7 ?_
  refine xiload_n C 3 rfl rfl dX4_canLay_8 ?_
  obtain ⟨r9, G9, hc9, h⟩ := bd_some h
  refine xNi C (As := [.int x2]) (rest := []) (kX1_isToLay (a0.2.2.2.1 x1.toNatClampNeg (vp_lt hi5)) hc9) ((a0.2.2.2.1 x1.toNatClampNeg (vp_lt hi5)).1) rfl rfl nm_14 mvX1_isToLay mwX1_isToLay rfl ⟨Nat.le_of_ble_eq_true rfl, Nat.le_of_ble_eq_true rfl⟩ ⟨Nat.le_refl _, Nat.le_refl _⟩ (Nat.le_of_ble_eq_true rfl) dX4_canLay_9 ?_
  refine xif_eq C (tgt := 39) h (by decide) dX4_canLay_12 (fun h => ?_) (fun h => ?_)
  · refine xiconst C (v := (nI 0)) dX4_canLay_39 (by decide) ?_
    obtain ⟨rfl, rfl⟩ := so_2 h
    exact xzret C (Or.inl rfl) rfl dX4_canLay_40
  · refine xaload_n C 1 rfl rfl dX4_canLay_15 ?_
    refine xg_4_work C a0.1 w_110 dX4_canLay_16 ?_
    refine xaload_n C 0 rfl rfl dX4_canLay_19 ?_
    refine xiload_n C 3 rfl rfl dX4_canLay_20 ?_
    obtain ⟨r21, G21, hc21, h⟩ := bd_some h
    refine xNi C (As := [.int x2]) (rest := [.int (G9 q0 6)]) (kX1_thicknessOf (a0.2.2.2.1 x1.toNatClampNeg (vp_lt hi5)) hc21) ((a0.2.2.2.1 x1.toNatClampNeg (vp_lt hi5)).1) rfl rfl nm_15 mvX1_thicknessOf mwX1_thicknessOf rfl ⟨Nat.le_of_ble_eq_true rfl, Nat.le_of_ble_eq_true rfl⟩ ⟨Nat.le_refl _, Nat.le_refl _⟩ (Nat.le_of_ble_eq_true rfl) dX4_canLay_21 ?_
    refine xicmp_lt C (tgt := 39) h (by decide) dX4_canLay_24 (fun h => ?_) (fun h => ?_)
    · refine xiconst C (v := (nI 0)) dX4_canLay_39 (by decide) ?_
      obtain ⟨rfl, rfl⟩ := so_2 h
      exact xzret C (Or.inl rfl) rfl dX4_canLay_40
    · refine xaload_n C 1 rfl rfl dX4_canLay_27 ?_
      refine xg_4_stakes C a0.1 w_112 dX4_canLay_28 ?_
      refine xiconst C (v := (nI 2)) dX4_canLay_31 (by decide) ?_
      refine xicmp_lt C (tgt := 39) h (by decide) dX4_canLay_32 (fun h => ?_) (fun h => ?_)
      · refine xiconst C (v := (nI 0)) dX4_canLay_39 (by decide) ?_
        obtain ⟨rfl, rfl⟩ := so_2 h
        exact xzret C (Or.inl rfl) rfl dX4_canLay_40
      · refine xiconst C (v := (nI 1)) dX4_canLay_35 (by decide) ?_
        refine xgoto C (tgt := 40) (by decide) dX4_canLay_36 ?_
        obtain ⟨rfl, rfl⟩ := so_2 h
        exact xzret C (Or.inr rfl) rfl dX4_canLay_40
/-- HedgeChains$Land.copyFrom(LHedgeChains$Land;)V -/
theorem wX4_copyFrom_2 (C : xC p s m args meth c cX4_copyFrom RX4 3 none D cy) (q0 : Nat) (q1 : Nat) (a0 : A4 kd NP q0) (a1 : A4 kd NP q1) : ∀ (n : Nat) (x2 : Int32) (G : Mem) (h : itr n (FX4_copyFrom_2 q0 q1) (x2, G) = some G'), xX p l e (xR 2 47) s m args below meth c A s.heap D cy ad kd NP 3 0 0 (xQv below D cy ad kd NP A args s G') G 2 [(0, .ref (ad q0)), (1, .ref (ad q1)), (2, .int x2)] [] := by
  intro n
  induction n with
  | zero =>
    intro x2 G h
    have h : none = some G' := h
    cases h
  | succ n ih =>
    intro x2 G h
    have h : bX4_copyFrom_2 q0 q1 (itr n (FX4_copyFrom_2 q0 q1)) x2 G = some G' := h
    have hrec2 : ∀ (x2 : Int32) (G : Mem), itr n (FX4_copyFrom_2 q0 q1) (x2, G) = some G' → xX p l e (xR 2 47) s m args below meth c A s.heap D cy ad kd NP 3 0 0 (xQv below D cy ad kd NP A args s G') G 2 [(0, .ref (ad q0)), (1, .ref (ad q1)), (2, .int x2)] [] := fun x2 G h => ih x2 G h
    unfold bX4_copyFrom_2 at h
    refine xiload_n C 2 rfl rfl dX4_copyFrom_2 ?_
    refine xbipush C (v := (nI 6)) dX4_copyFrom_3 (by decide) ?_
    refine xicmp_ge C (tgt := 44) h (by decide) dX4_copyFrom_5 (fun h => ?_) (fun h => ?_)
    · refine xaload_n C 0 rfl rfl dX4_copyFrom_44 ?_
      refine xaload_n C 1 rfl rfl dX4_copyFrom_45 ?_
      refine xg_4_week C a1.1 w_105 dX4_copyFrom_46 ?_
      refine xp_4_week C a0.1 w_105 dX4_copyFrom_49 ?_
      generalize mset G q0 2 (G q1 2) = G49 at h ⊢
      replace h := lt_go h
      refine xaload_n C 0 rfl rfl dX4_copyFrom_52 ?_
      refine xaload_n C 1 rfl rfl dX4_copyFrom_53 ?_
      refine xg_4_firstClosed C a1.1 w_107 dX4_copyFrom_54 ?_
      refine xp_4_firstClosed C a0.1 w_107 dX4_copyFrom_57 ?_
      generalize mset G49 q0 3 (G49 q1 3) = G57 at h ⊢
      replace h := lt_go h
      refine xaload_n C 0 rfl rfl dX4_copyFrom_60 ?_
      refine xaload_n C 1 rfl rfl dX4_copyFrom_61 ?_
      refine xg_4_lastClosed C a1.1 w_108 dX4_copyFrom_62 ?_
      refine xp_4_lastClosed C a0.1 w_108 dX4_copyFrom_65 ?_
      generalize mset G57 q0 4 (G57 q1 4) = G65 at h ⊢
      replace h := lt_go h
      refine xaload_n C 0 rfl rfl dX4_copyFrom_68 ?_
      refine xaload_n C 1 rfl rfl dX4_copyFrom_69 ?_
      refine xg_4_strength C a1.1 w_109 dX4_copyFrom_70 ?_
      refine xp_4_strength C a0.1 w_109 dX4_copyFrom_73 ?_
      generalize mset G65 q0 5 (G65 q1 5) = G73 at h ⊢
      replace h := lt_go h
      refine xaload_n C 0 rfl rfl dX4_copyFrom_76 ?_
      refine xaload_n C 1 rfl rfl dX4_copyFrom_77 ?_
      refine xg_4_work C a1.1 w_110 dX4_copyFrom_78 ?_
      refine xp_4_work C a0.1 w_110 dX4_copyFrom_81 ?_
      generalize mset G73 q0 6 (G73 q1 6) = G81 at h ⊢
      replace h := lt_go h
      refine xaload_n C 0 rfl rfl dX4_copyFrom_84 ?_
      refine xaload_n C 1 rfl rfl dX4_copyFrom_85 ?_
      refine xg_4_stakes C a1.1 w_112 dX4_copyFrom_86 ?_
      refine xp_4_stakes C a0.1 w_112 dX4_copyFrom_89 ?_
      generalize mset G81 q0 7 (G81 q1 7) = G89 at h ⊢
      replace h := lt_go h
      refine xaload_n C 0 rfl rfl dX4_copyFrom_92 ?_
      refine xaload_n C 1 rfl rfl dX4_copyFrom_93 ?_
      refine xg_4_purse C a1.1 w_114 dX4_copyFrom_94 ?_
      refine xp_4_purse C a0.1 w_114 dX4_copyFrom_97 ?_
      generalize mset G89 q0 8 (G89 q1 8) = G97 at h ⊢
      replace h := lt_go h
      refine xaload_n C 0 rfl rfl dX4_copyFrom_100 ?_
      refine xaload_n C 1 rfl rfl dX4_copyFrom_101 ?_
      refine xg_4_debt C a1.1 w_116 dX4_copyFrom_102 ?_
      refine xp_4_debt C a0.1 w_116 dX4_copyFrom_105 ?_
      generalize mset G97 q0 9 (G97 q1 9) = G105 at h ⊢
      replace h := lt_go h
      refine xaload_n C 0 rfl rfl dX4_copyFrom_108 ?_
      refine xaload_n C 1 rfl rfl dX4_copyFrom_109 ?_
      refine xg_4_earned C a1.1 w_118 dX4_copyFrom_110 ?_
      refine xp_4_earned C a0.1 w_118 dX4_copyFrom_113 ?_
      generalize mset G105 q0 10 (G105 q1 10) = G113 at h ⊢
      replace h := lt_go h
      refine xaload_n C 0 rfl rfl dX4_copyFrom_116 ?_
      refine xaload_n C 1 rfl rfl dX4_copyFrom_117 ?_
      refine xg_4_fined C a1.1 w_120 dX4_copyFrom_118 ?_
      refine xp_4_fined C a0.1 w_120 dX4_copyFrom_121 ?_
      generalize mset G113 q0 11 (G113 q1 11) = G121 at h ⊢
      replace h := lt_go h
      refine xaload_n C 0 rfl rfl dX4_copyFrom_124 ?_
      refine xaload_n C 1 rfl rfl dX4_copyFrom_125 ?_
      refine xg_4_laid C a1.1 w_122 dX4_copyFrom_126 ?_
      refine xp_4_laid C a0.1 w_122 dX4_copyFrom_129 ?_
      generalize mset G121 q0 12 (G121 q1 12) = G129 at h ⊢
      replace h := lt_go h
      refine xaload_n C 0 rfl rfl dX4_copyFrom_132 ?_
      refine xaload_n C 1 rfl rfl dX4_copyFrom_133 ?_
      refine xg_4_planted C a1.1 w_124 dX4_copyFrom_134 ?_
      refine xp_4_planted C a0.1 w_124 dX4_copyFrom_137 ?_
      generalize mset G129 q0 13 (G129 q1 13) = G137 at h ⊢
      replace h := lt_go h
      obtain rfl := so_1 h
      exact xvret C rfl dX4_copyFrom_140
    · refine xaload_n C 0 rfl rfl dX4_copyFrom_8 ?_
      refine xg_4_hedges C a0.1 w_99 dX4_copyFrom_9 ?_
      refine xiload_n C 2 rfl rfl dX4_copyFrom_12 ?_
      obtain ⟨hi13, h⟩ := ix_some h
      refine xaa_18 C x2.toNatClampNeg rfl (q0 + 3 + 5 * x2.toNatClampNeg) (by omega) a0.2.1 hi13 dX4_copyFrom_13 ?_
      refine xaload_n C 1 rfl rfl dX4_copyFrom_14 ?_
      refine xg_4_hedges C a1.1 w_99 dX4_copyFrom_15 ?_
      refine xiload_n C 2 rfl rfl dX4_copyFrom_18 ?_
      obtain ⟨hi19, h⟩ := ix_some h
      refine xaa_18 C x2.toNatClampNeg rfl (q1 + 3 + 5 * x2.toNatClampNeg) (by omega) a1.2.1 hi19 dX4_copyFrom_19 ?_
      obtain ⟨G20, hc20, h⟩ := bv_some h
      refine xNv C (As := [.ref (ad (q1 + 3 + 5 * x2.toNatClampNeg))]) (rest := []) (kX1_copyFrom (a0.2.2.2.1 x2.toNatClampNeg (vp_lt hi13)) (a1.2.2.2.1 x2.toNatClampNeg (vp_lt hi19)) hc20) ((a0.2.2.2.1 x2.toNatClampNeg (vp_lt hi13)).1) rfl rfl nm_19 mvX1_copyFrom mwX1_copyFrom rfl ⟨Nat.le_of_ble_eq_true rfl, Nat.le_of_ble_eq_true rfl⟩ ⟨Nat.le_refl _, Nat.le_refl _⟩ (Nat.le_of_ble_eq_true rfl) dX4_copyFrom_20 ?_
      refine xaload_n C 0 rfl rfl dX4_copyFrom_23 ?_
      refine xg_4_contracts C a0.1 w_101 dX4_copyFrom_24 ?_
      refine xiload_n C 2 rfl rfl dX4_copyFrom_27 ?_
      obtain ⟨hi28, h⟩ := ix_some h
      refine xaa_19 C x2.toNatClampNeg rfl (q0 + 7 + 5 * x2.toNatClampNeg) (by omega) a0.2.2.1 hi28 dX4_copyFrom_28 ?_
      refine xaload_n C 1 rfl rfl dX4_copyFrom_29 ?_
      refine xg_4_contracts C a1.1 w_101 dX4_copyFrom_30 ?_
      refine xiload_n C 2 rfl rfl dX4_copyFrom_33 ?_
      obtain ⟨hi34, h⟩ := ix_some h
      refine xaa_19 C x2.toNatClampNeg rfl (q1 + 7 + 5 * x2.toNatClampNeg) (by omega) a1.2.2.1 hi34 dX4_copyFrom_34 ?_
      obtain ⟨G35, hc35, h⟩ := bv_some h
      refine xNv C (As := [.ref (ad (q1 + 7 + 5 * x2.toNatClampNeg))]) (rest := []) (kX0_copyFrom (a0.2.2.2.2 x2.toNatClampNeg (vp_lt hi28)) (a1.2.2.2.2 x2.toNatClampNeg (vp_lt hi34)) hc35) (a0.2.2.2.2 x2.toNatClampNeg (vp_lt hi28)) rfl rfl nm_20 mvX0_copyFrom mwX0_copyFrom rfl ⟨Nat.le_of_ble_eq_true rfl, Nat.le_of_ble_eq_true rfl⟩ ⟨Nat.le_refl _, Nat.le_refl _⟩ (Nat.le_of_ble_eq_true rfl) dX4_copyFrom_35 ?_
      refine xiinc C (v := (x2 + nI 1)) (lv' := [(2, .int (x2 + nI 1)), (0, .ref (ad q0)), (1, .ref (ad q1))]) 2 rfl rfl (by decide) rfl dX4_copyFrom_38 ?_
      refine xgoto C (tgt := 2) (by decide) dX4_copyFrom_41 ?_
      refine xsub C (lv' := [(0, .ref (ad q0)), (1, .ref (ad q1)), (2, .int (x2 + nI 1))]) [1, 2, 0] rfl ?_
      exact hrec2 (x2 + nI 1) G35 h
theorem kX4_copyFrom  {q0 : Nat} {q1 : Nat} (a0 : A4 kd NP q0) (a1 : A4 kd NP q1) {G : Mem} (h : fX4_copyFrom q0 q1 G = some G') : xMv l D cy ad kd NP A yX4_copyFrom cX4_copyFrom 3 none 2 47 [.ref (ad q0), .ref (ad q1)] G G' := by
  refine xMv_of trivial (by decide +kernel) (Nat.le_of_ble_eq_true rfl) (fun p e s m args below meth c C => ?_)
  have C : xC p s m args meth c cX4_copyFrom RX4 3 none D cy := C
  refine xsub C (lv' := [(0, .ref (ad q0)), (1, .ref (ad q1))]) [0, 1] rfl ?_
  unfold fX4_copyFrom at h
  refine xiconst C (v := (nI 0)) dX4_copyFrom_0 (by decide) ?_
  refine xistore_n C (lv' := [(2, .int (nI 0)), (0, .ref (ad q0)), (1, .ref (ad q1))]) rfl (by decide) rfl dX4_copyFrom_1 ?_
  refine xsub C (lv' := [(0, .ref (ad q0)), (1, .ref (ad q1)), (2, .int (nI 0))]) [1, 2, 0] rfl ?_
  exact wX4_copyFrom_2 C q0 q1 a0 a1 _ (nI 0) G h
/-- HedgeChains$Land.endContractIfNoneStands(I)V -/
theorem kX4_endContractIfNoneStands  {q0 : Nat} {x1 : Int32} (a0 : A4 kd NP q0) {G : Mem} (h : fX4_endContractIfNoneStands q0 x1 G = some G') : xMv l D cy ad kd NP A yX4_endContractIfNoneStands cX4_endContractIfNoneStands 2 none 3 65 [.ref (ad q0), .int x1] G G' := by
  refine xMv_of trivial (by decide +kernel) (Nat.le_of_ble_eq_true rfl) (fun p e s m args below meth c C => ?_)
  have C : xC p s m args meth c cX4_endContractIfNoneStands RX4 2 none D cy := C
  refine xsub C (lv' := [(0, .ref (ad q0)), (1, .int x1)]) [0, 1] rfl ?_
  unfold fX4_endContractIfNoneStands at h
  refine xaload_n C 0 rfl rfl dX4_endContractIfNoneStands_0 ?_
  refine xg_4_hedges C a0.1 w_99 dX4_endContractIfNoneStands_1 ?_
  refine xiload_n C 1 rfl rfl dX4_endContractIfNoneStands_4 ?_
  obtain ⟨hi5, h⟩ := ix_some h
  refine xaa_18 C x1.toNatClampNeg rfl (q0 + 3 + 5 * x1.toNatClampNeg) (by omega) a0.2.1 hi5 dX4_endContractIfNoneStands_5 ?_
  refine xiconst C (v := (nI 0)) dX4_endContractIfNoneStands_6 (by decide) ?_
  obtain ⟨r7, G7, hc7, h⟩ := bd_some h
  refine xNi C (As := [.int (nI 0)]) (rest := []) (kX1_numberOf (a0.2.2.2.1 x1.toNatClampNeg (vp_lt hi5)) hc7) ((a0.2.2.2.1 x1.toNatClampNeg (vp_lt hi5)).1) rfl rfl nm_23 mvX1_numberOf mwX1_numberOf rfl ⟨Nat.le_of_ble_eq_true rfl, Nat.le_of_ble_eq_true rfl⟩ ⟨Nat.le_refl _, Nat.le_refl _⟩ (Nat.le_of_ble_eq_true rfl) dX4_endContractIfNoneStands_7 ?_
  refine xif_ne C (tgt := 23) h (by decide) dX4_endContractIfNoneStands_10 (fun h => ?_) (fun h => ?_)
  · refine xaload_n C 0 rfl rfl dX4_endContractIfNoneStands_13 ?_
    refine xg_4_contracts C a0.1 w_101 dX4_endContractIfNoneStands_14 ?_
    refine xiload_n C 1 rfl rfl dX4_endContractIfNoneStands_17 ?_
    obtain ⟨hi18, h⟩ := ix_some h
    refine xaa_19 C x1.toNatClampNeg rfl (q0 + 7 + 5 * x1.toNatClampNeg) (by omega) a0.2.2.1 hi18 dX4_endContractIfNoneStands_18 ?_
    refine xiconst C (v := (nI 0)) dX4_endContractIfNoneStands_19 (by decide) ?_
    refine xpN_0_made C (a0.2.2.2.2 x1.toNatClampNeg (vp_lt hi18)) (Or.inl rfl) nf_4 dX4_endContractIfNoneStands_20 ?_
    generalize mset G7 (q0 + 7 + 5 * x1.toNatClampNeg) 0 (nI 0) = G20 at h ⊢
    replace h := lt_go h
    obtain rfl := so_1 h
    exact xvret C rfl dX4_endContractIfNoneStands_23
  · obtain rfl := so_1 h
    exact xvret C rfl dX4_endContractIfNoneStands_23
/-- HedgeChains$Land.layChain(II)V -/
theorem kX4_layChain  {q0 : Nat} {x1 : Int32} {x2 : Int32} (a0 : A4 kd NP q0) {G : Mem} (h : fX4_layChain q0 x1 x2 G = some G') : xMv l D cy ad kd NP A yX4_layChain cX4_layChain 5 none 4 86 [.ref (ad q0), .int x1, .int x2] G G' := by
  refine xMv_of trivial (by decide +kernel) (Nat.le_of_ble_eq_true rfl) (fun p e s m args below meth c C => ?_)
  have C : xC p s m args meth c cX4_layChain RX4 5 none D cy := C
  refine xsub C (lv' := [(0, .ref (ad q0)), (1, .int x1), (2, .int x2)]) [0, 1, 2] rfl ?_
  unfold fX4_layChain at h
  refine xaload_n C 0 rfl rfl dX4_layChain_0 ?_
  refine xg_4_hedges C a0.1 w_99 dX4_layChain_1 ?_
  refine xiload_n C 1 rfl rfl dX4_layChain_4 ?_
  obtain ⟨hi5, h⟩ := ix_some h
  refine xaa_18 C x1.toNatClampNeg rfl (q0 + 3 + 5 * x1.toNatClampNeg) (by omega) a0.2.1 hi5 dX4_layChain_5 ?_
  refine xastore_n C (lv' := [(3, .ref (ad (q0 + 3 + 5 * x1.toNatClampNeg))), (0, .ref (ad q0)), (1, .int x1), (2, .int x2)]) rfl (by decide) rfl dX4_layChain_6 ?_
  refine xaload_n C 0 rfl rfl dX4_layChain_7 ?_
  refine xiload_n C 3 rfl rfl dX4_layChain_8 ?_
  obtain ⟨r9, G9, hc9, h⟩ := bd_some h
  refine xNi C (As := [.int x2]) (rest := []) (kX1_thicknessOf (a0.2.2.2.1 x1.toNatClampNeg (vp_lt hi5)) hc9) ((a0.2.2.2.1 x1.toNatClampNeg (vp_lt hi5)).1) rfl rfl nm_15 mvX1_thicknessOf mwX1_thicknessOf rfl ⟨Nat.le_of_ble_eq_true rfl, Nat.le_of_ble_eq_true rfl⟩ ⟨Nat.le_refl _, Nat.le_refl _⟩ (Nat.le_of_ble_eq_true rfl) dX4_layChain_9 ?_
  refine xistore C (lv' := [(4, .int r9), (3, .ref (ad (q0 + 3 + 5 * x1.toNatClampNeg))), (0, .ref (ad q0)), (1, .int x1), (2, .int x2)]) (by decide) rfl dX4_layChain_12 ?_
  refine xaload_n C 2 rfl rfl dX4_layChain_14 ?_
  refine xdup C dX4_layChain_15 rfl ?_
  refine xg_4_work C a0.1 w_110 dX4_layChain_16 ?_
  refine xiload C 0 rfl dX4_layChain_19 ?_
  refine xisub C dX4_layChain_21 ?_
  refine xp_4_work C a0.1 w_110 dX4_layChain_22 ?_
  generalize mset G9 q0 6 ((G9 q0 6) - r9) = G22 at h ⊢
  replace h := lt_go h
  refine xaload_n C 2 rfl rfl dX4_layChain_25 ?_
  refine xdup C dX4_layChain_26 rfl ?_
  refine xg_4_stakes C a0.1 w_112 dX4_layChain_27 ?_
  refine xiconst C (v := (nI 2)) dX4_layChain_30 (by decide) ?_
  refine xisub C dX4_layChain_31 ?_
  refine xp_4_stakes C a0.1 w_112 dX4_layChain_32 ?_
  generalize mset G22 q0 7 ((G22 q0 7) - (nI 2)) = G32 at h ⊢
  replace h := lt_go h
  refine xaload_n C 1 rfl rfl dX4_layChain_35 ?_
  refine xiload_n C 4 rfl rfl dX4_layChain_36 ?_
  refine xiconst C (v := (nI 1)) dX4_layChain_37 (by decide) ?_
  refine xiload C 0 rfl dX4_layChain_38 ?_
  obtain ⟨G40, hc40, h⟩ := bv_some h
  refine xNv C (As := [.int x2, .int (nI 1), .int r9]) (rest := []) (kX1_changeChain (a0.2.2.2.1 x1.toNatClampNeg (vp_lt hi5)) hc40) ((a0.2.2.2.1 x1.toNatClampNeg (vp_lt hi5)).1) rfl rfl nm_22 mvX1_changeChain mwX1_changeChain rfl ⟨Nat.le_of_ble_eq_true rfl, Nat.le_of_ble_eq_true rfl⟩ ⟨Nat.le_refl _, Nat.le_refl _⟩ (Nat.le_of_ble_eq_true rfl) dX4_layChain_40 ?_
  refine xaload_n C 2 rfl rfl dX4_layChain_43 ?_
  refine xdup C dX4_layChain_44 rfl ?_
  refine xg_4_laid C a0.1 w_122 dX4_layChain_45 ?_
  refine xiconst C (v := (nI 1)) dX4_layChain_48 (by decide) ?_
  refine xiadd C dX4_layChain_49 ?_
  refine xp_4_laid C a0.1 w_122 dX4_layChain_50 ?_
  generalize mset G40 q0 12 ((G40 q0 12) + (nI 1)) = G50 at h ⊢
  replace h := lt_go h
  refine xaload_n C 2 rfl rfl dX4_layChain_53 ?_
  refine xg_4_contracts C a0.1 w_101 dX4_layChain_54 ?_
  refine xiload_n C 3 rfl rfl dX4_layChain_57 ?_
  obtain ⟨hi58, h⟩ := ix_some h
  refine xaa_19 C x1.toNatClampNeg rfl (q0 + 7 + 5 * x1.toNatClampNeg) (by omega) a0.2.2.1 hi58 dX4_layChain_58 ?_
  refine xgN_0_made C (a0.2.2.2.2 x1.toNatClampNeg (vp_lt hi58)) nf_4 dX4_layChain_59 ?_
  refine xif_eq C (tgt := 101) h (by decide) dX4_layChain_62 (fun h => ?_) (fun h => ?_)
  · refine xaload_n C 2 rfl rfl dX4_layChain_101 ?_
    refine xiload_n C 3 rfl rfl dX4_layChain_102 ?_
    obtain ⟨G103, hc103, h⟩ := bv_some h
    refine xVv C (As := [.int x1]) (rest := []) (kX4_endContractIfNoneStands a0 hc103) a0.1 rfl rfl w_332 mvX4_endContractIfNoneStands mwX4_endContractIfNoneStands rfl ⟨Nat.le_of_ble_eq_true rfl, Nat.le_of_ble_eq_true rfl⟩ ⟨Nat.le_refl _, Nat.le_refl _⟩ (Nat.le_of_ble_eq_true rfl) dX4_layChain_103 ?_
    obtain rfl := so_1 h
    exact xvret C rfl dX4_layChain_106
  · refine xaload_n C 2 rfl rfl dX4_layChain_65 ?_
    refine xdup C dX4_layChain_66 rfl ?_
    refine xg_4_purse C a0.1 w_114 dX4_layChain_67 ?_
    refine xaload_n C 2 rfl rfl dX4_layChain_70 ?_
    refine xg_4_contracts C a0.1 w_101 dX4_layChain_71 ?_
    refine xiload_n C 3 rfl rfl dX4_layChain_74 ?_
    obtain ⟨hi75, h⟩ := ix_some h
    refine xaa_19 C x1.toNatClampNeg rfl (q0 + 7 + 5 * x1.toNatClampNeg) (by omega) a0.2.2.1 hi75 dX4_layChain_75 ?_
    refine xgN_0_price C (a0.2.2.2.2 x1.toNatClampNeg (vp_lt hi75)) nf_6 dX4_layChain_76 ?_
    refine xiadd C dX4_layChain_79 ?_
    refine xp_4_purse C a0.1 w_114 dX4_layChain_80 ?_
    generalize mset G50 q0 8 ((G50 q0 8) + (G50 (q0 + 7 + 5 * x1.toNatClampNeg) 1)) = G80 at h ⊢
    replace h := lt_go h
    refine xaload_n C 2 rfl rfl dX4_layChain_83 ?_
    refine xdup C dX4_layChain_84 rfl ?_
    refine xg_4_earned C a0.1 w_118 dX4_layChain_85 ?_
    refine xaload_n C 2 rfl rfl dX4_layChain_88 ?_
    refine xg_4_contracts C a0.1 w_101 dX4_layChain_89 ?_
    refine xiload_n C 3 rfl rfl dX4_layChain_92 ?_
    obtain ⟨hi93, h⟩ := ix_some h
    refine xaa_19 C x1.toNatClampNeg rfl (q0 + 7 + 5 * x1.toNatClampNeg) (by omega) a0.2.2.1 hi93 dX4_layChain_93 ?_
    refine xgN_0_price C (a0.2.2.2.2 x1.toNatClampNeg (vp_lt hi93)) nf_6 dX4_layChain_94 ?_
    refine xiadd C dX4_layChain_97 ?_
    refine xp_4_earned C a0.1 w_118 dX4_layChain_98 ?_
    generalize mset G80 q0 10 ((G80 q0 10) + (G80 (q0 + 7 + 5 * x1.toNatClampNeg) 1)) = G98 at h ⊢
    replace h := lt_go h
    refine xaload_n C 2 rfl rfl dX4_layChain_101 ?_
    refine xiload_n C 3 rfl rfl dX4_layChain_102 ?_
    obtain ⟨G103, hc103, h⟩ := bv_some h
    refine xVv C (As := [.int x1]) (rest := []) (kX4_endContractIfNoneStands a0 hc103) a0.1 rfl rfl w_332 mvX4_endContractIfNoneStands mwX4_endContractIfNoneStands rfl ⟨Nat.le_of_ble_eq_true rfl, Nat.le_of_ble_eq_true rfl⟩ ⟨Nat.le_refl _, Nat.le_refl _⟩ (Nat.le_of_ble_eq_true rfl) dX4_layChain_103 ?_
    obtain rfl := so_1 h
    exact xvret C rfl dX4_layChain_106
/-- HedgeChains$Land.canCut(II)Z -/
theorem kX4_canCut {r : Int32}  {q0 : Nat} {x1 : Int32} {x2 : Int32} (a0 : A4 kd NP q0) {G : Mem} (h : fX4_canCut q0 x1 x2 G = some (r, G')) : xMi l D cy ad kd NP A yX4_canCut cX4_canCut 3 (some .boolean) 2 42 [.ref (ad q0), .int x1, .int x2] G r G' := by
  refine xMi_of trivial (by decide +kernel) (Nat.le_of_ble_eq_true rfl) (fun p e s m args below meth c C => ?_)
  have C : xC p s m args meth c cX4_canCut RX4 3 (some .boolean) D cy := C
  refine xsub C (lv' := [(0, .ref (ad q0)), (1, .int x1), (2, .int x2)]) [0, 1, 2] rfl ?_
  unfold fX4_canCut at h
  refine xaload_n C 0 rfl rfl dX4_canCut_0 ?_
  refine xg_4_hedges C a0.1 w_99 dX4_canCut_1 ?_
  refine xiload_n C 1 rfl rfl dX4_canCut_4 ?_
  obtain ⟨hi5, h⟩ := ix_some h
  refine xaa_18 C x1.toNatClampNeg rfl (q0 + 3 + 5 * x1.toNatClampNeg) (by omega) a0.2.1 hi5 dX4_canCut_5 ?_
  refine xiload_n C 2 rfl rfl dX4_canCut_6 ?_
  obtain ⟨r7, G7, hc7, h⟩ := bd_some h
  refine xNi C (As := [.int x2]) (rest := []) (kX1_isToCut (a0.2.2.2.1 x1.toNatClampNeg (vp_lt hi5)) hc7) ((a0.2.2.2.1 x1.toNatClampNeg (vp_lt hi5)).1) rfl rfl nm_25 mvX1_isToCut mwX1_isToCut rfl ⟨Nat.le_of_ble_eq_true rfl, Nat.le_of_ble_eq_true rfl⟩ ⟨Nat.le_refl _, Nat.le_refl _⟩ (Nat.le_of_ble_eq_true rfl) dX4_canCut_7 ?_
  refine xif_eq C (tgt := 25) h (by decide) dX4_canCut_10 (fun h => ?_) (fun h => ?_)
  · refine xiconst C (v := (nI 0)) dX4_canCut_25 (by decide) ?_
    obtain ⟨rfl, rfl⟩ := so_2 h
    exact xzret C (Or.inl rfl) rfl dX4_canCut_26
  · refine xaload_n C 0 rfl rfl dX4_canCut_13 ?_
    refine xg_4_work C a0.1 w_110 dX4_canCut_14 ?_
    refine xiconst C (v := (nI 1)) dX4_canCut_17 (by decide) ?_
    refine xicmp_lt C (tgt := 25) h (by decide) dX4_canCut_18 (fun h => ?_) (fun h => ?_)
    · refine xiconst C (v := (nI 0)) dX4_canCut_25 (by decide) ?_
      obtain ⟨rfl, rfl⟩ := so_2 h
      exact xzret C (Or.inl rfl) rfl dX4_canCut_26
    · refine xiconst C (v := (nI 1)) dX4_canCut_21 (by decide) ?_
      refine xgoto C (tgt := 26) (by decide) dX4_canCut_22 ?_
      obtain ⟨rfl, rfl⟩ := so_2 h
      exact xzret C (Or.inr rfl) rfl dX4_canCut_26
/-- HedgeChains$Land.cutChain(II)V -/
theorem kX4_cutChain  {q0 : Nat} {x1 : Int32} {x2 : Int32} (a0 : A4 kd NP q0) {G : Mem} (h : fX4_cutChain q0 x1 x2 G = some G') : xMv l D cy ad kd NP A yX4_cutChain cX4_cutChain 4 none 2 44 [.ref (ad q0), .int x1, .int x2] G G' := by
  refine xMv_of trivial (by decide +kernel) (Nat.le_of_ble_eq_true rfl) (fun p e s m args below meth c C => ?_)
  have C : xC p s m args meth c cX4_cutChain RX4 4 none D cy := C
  refine xsub C (lv' := [(0, .ref (ad q0)), (1, .int x1), (2, .int x2)]) [0, 1, 2] rfl ?_
  unfold fX4_cutChain at h
  refine xaload_n C 0 rfl rfl dX4_cutChain_0 ?_
  refine xg_4_hedges C a0.1 w_99 dX4_cutChain_1 ?_
  refine xiload_n C 1 rfl rfl dX4_cutChain_4 ?_
  obtain ⟨hi5, h⟩ := ix_some h
  refine xaa_18 C x1.toNatClampNeg rfl (q0 + 3 + 5 * x1.toNatClampNeg) (by omega) a0.2.1 hi5 dX4_cutChain_5 ?_
  refine xiload_n C 2 rfl rfl dX4_cutChain_6 ?_
  obtain ⟨r7, G7, hc7, h⟩ := bd_some h
  refine xNi C (As := [.int x2]) (rest := []) (kX1_thicknessOf (a0.2.2.2.1 x1.toNatClampNeg (vp_lt hi5)) hc7) ((a0.2.2.2.1 x1.toNatClampNeg (vp_lt hi5)).1) rfl rfl nm_15 mvX1_thicknessOf mwX1_thicknessOf rfl ⟨Nat.le_of_ble_eq_true rfl, Nat.le_of_ble_eq_true rfl⟩ ⟨Nat.le_refl _, Nat.le_refl _⟩ (Nat.le_of_ble_eq_true rfl) dX4_cutChain_7 ?_
  refine xistore_n C (lv' := [(3, .int r7), (0, .ref (ad q0)), (1, .int x1), (2, .int x2)]) rfl (by decide) rfl dX4_cutChain_10 ?_
  refine xaload_n C 1 rfl rfl dX4_cutChain_11 ?_
  refine xdup C dX4_cutChain_12 rfl ?_
  refine xg_4_work C a0.1 w_110 dX4_cutChain_13 ?_
  refine xiconst C (v := (nI 1)) dX4_cutChain_16 (by decide) ?_
  refine xisub C dX4_cutChain_17 ?_
  refine xp_4_work C a0.1 w_110 dX4_cutChain_18 ?_
  generalize mset G7 q0 6 ((G7 q0 6) - (nI 1)) = G18 at h ⊢
  replace h := lt_go h
  refine xaload_n C 1 rfl rfl dX4_cutChain_21 ?_
  refine xdup C dX4_cutChain_22 rfl ?_
  refine xg_4_stakes C a0.1 w_112 dX4_cutChain_23 ?_
  refine xiload_n C 0 rfl rfl dX4_cutChain_26 ?_
  refine xiadd C dX4_cutChain_27 ?_
  refine xp_4_stakes C a0.1 w_112 dX4_cutChain_28 ?_
  generalize mset G18 q0 7 ((G18 q0 7) + r7) = G28 at h ⊢
  replace h := lt_go h
  refine xaload_n C 1 rfl rfl dX4_cutChain_31 ?_
  refine xg_4_hedges C a0.1 w_99 dX4_cutChain_32 ?_
  refine xiload_n C 2 rfl rfl dX4_cutChain_35 ?_
  obtain ⟨hi36, h⟩ := ix_some h
  refine xaa_18 C x1.toNatClampNeg rfl (q0 + 3 + 5 * x1.toNatClampNeg) (by omega) a0.2.1 hi36 dX4_cutChain_36 ?_
  refine xiload_n C 3 rfl rfl dX4_cutChain_37 ?_
  refine xiconst C (v := (nI 0)) dX4_cutChain_38 (by decide) ?_
  refine xiload_n C 0 rfl rfl dX4_cutChain_39 ?_
  refine xiconst C (v := (nI 2)) dX4_cutChain_40 (by decide) ?_
  refine xisub C dX4_cutChain_41 ?_
  obtain ⟨G42, hc42, h⟩ := bv_some h
  refine xNv C (As := [.int x2, .int (nI 0), .int (r7 - (nI 2))]) (rest := []) (kX1_changeChain (a0.2.2.2.1 x1.toNatClampNeg (vp_lt hi36)) hc42) ((a0.2.2.2.1 x1.toNatClampNeg (vp_lt hi36)).1) rfl rfl nm_22 mvX1_changeChain mwX1_changeChain rfl ⟨Nat.le_of_ble_eq_true rfl, Nat.le_of_ble_eq_true rfl⟩ ⟨Nat.le_refl _, Nat.le_refl _⟩ (Nat.le_of_ble_eq_true rfl) dX4_cutChain_42 ?_
  obtain rfl := so_1 h
  exact xvret C rfl dX4_cutChain_45
/-- HedgeChains$Land.canPlant(II)Z -/
theorem kX4_canPlant {r : Int32}  {q0 : Nat} {x1 : Int32} {x2 : Int32} (a0 : A4 kd NP q0) {G : Mem} (h : fX4_canPlant q0 x1 x2 G = some (r, G')) : xMi l D cy ad kd NP A yX4_canPlant cX4_canPlant 3 (some .boolean) 2 42 [.ref (ad q0), .int x1, .int x2] G r G' := by
  refine xMi_of trivial (by decide +kernel) (Nat.le_of_ble_eq_true rfl) (fun p e s m args below meth c C => ?_)
  have C : xC p s m args meth c cX4_canPlant RX4 3 (some .boolean) D cy := C
  refine xsub C (lv' := [(0, .ref (ad q0)), (1, .int x1), (2, .int x2)]) [0, 1, 2] rfl ?_
  unfold fX4_canPlant at h
  refine xaload_n C 0 rfl rfl dX4_canPlant_0 ?_
  refine xg_4_hedges C a0.1 w_99 dX4_canPlant_1 ?_
  refine xiload_n C 1 rfl rfl dX4_canPlant_4 ?_
  obtain ⟨hi5, h⟩ := ix_some h
  refine xaa_18 C x1.toNatClampNeg rfl (q0 + 3 + 5 * x1.toNatClampNeg) (by omega) a0.2.1 hi5 dX4_canPlant_5 ?_
  refine xiload_n C 2 rfl rfl dX4_canPlant_6 ?_
  obtain ⟨r7, G7, hc7, h⟩ := bd_some h
  refine xNi C (As := [.int x2]) (rest := []) (kX1_kindOf (a0.2.2.2.1 x1.toNatClampNeg (vp_lt hi5)) hc7) ((a0.2.2.2.1 x1.toNatClampNeg (vp_lt hi5)).1) rfl rfl nm_28 mvX1_kindOf mwX1_kindOf rfl ⟨Nat.le_of_ble_eq_true rfl, Nat.le_of_ble_eq_true rfl⟩ ⟨Nat.le_refl _, Nat.le_refl _⟩ (Nat.le_of_ble_eq_true rfl) dX4_canPlant_7 ?_
  refine xiconst C (v := (nI 2)) dX4_canPlant_10 (by decide) ?_
  refine xicmp_ne C (tgt := 34) h (by decide) dX4_canPlant_11 (fun h => ?_) (fun h => ?_)
  · refine xaload_n C 0 rfl rfl dX4_canPlant_14 ?_
    refine xg_4_work C a0.1 w_110 dX4_canPlant_15 ?_
    refine xiconst C (v := (nI 2)) dX4_canPlant_18 (by decide) ?_
    refine xicmp_lt C (tgt := 34) h (by decide) dX4_canPlant_19 (fun h => ?_) (fun h => ?_)
    · refine xiconst C (v := (nI 0)) dX4_canPlant_34 (by decide) ?_
      obtain ⟨rfl, rfl⟩ := so_2 h
      exact xzret C (Or.inl rfl) rfl dX4_canPlant_35
    · refine xaload_n C 0 rfl rfl dX4_canPlant_22 ?_
      refine xg_4_purse C a0.1 w_114 dX4_canPlant_23 ?_
      refine xiconst C (v := (nI 3)) dX4_canPlant_26 (by decide) ?_
      refine xicmp_lt C (tgt := 34) h (by decide) dX4_canPlant_27 (fun h => ?_) (fun h => ?_)
      · refine xiconst C (v := (nI 0)) dX4_canPlant_34 (by decide) ?_
        obtain ⟨rfl, rfl⟩ := so_2 h
        exact xzret C (Or.inl rfl) rfl dX4_canPlant_35
      · refine xiconst C (v := (nI 1)) dX4_canPlant_30 (by decide) ?_
        refine xgoto C (tgt := 35) (by decide) dX4_canPlant_31 ?_
        obtain ⟨rfl, rfl⟩ := so_2 h
        exact xzret C (Or.inr rfl) rfl dX4_canPlant_35
  · refine xiconst C (v := (nI 0)) dX4_canPlant_34 (by decide) ?_
    obtain ⟨rfl, rfl⟩ := so_2 h
    exact xzret C (Or.inl rfl) rfl dX4_canPlant_35
/-- HedgeChains$Land.plantChain(II)V -/
theorem kX4_plantChain  {q0 : Nat} {x1 : Int32} {x2 : Int32} (a0 : A4 kd NP q0) {G : Mem} (h : fX4_plantChain q0 x1 x2 G = some G') : xMv l D cy ad kd NP A yX4_plantChain cX4_plantChain 3 none 2 44 [.ref (ad q0), .int x1, .int x2] G G' := by
  refine xMv_of trivial (by decide +kernel) (Nat.le_of_ble_eq_true rfl) (fun p e s m args below meth c C => ?_)
  have C : xC p s m args meth c cX4_plantChain RX4 3 none D cy := C
  refine xsub C (lv' := [(0, .ref (ad q0)), (1, .int x1), (2, .int x2)]) [0, 1, 2] rfl ?_
  unfold fX4_plantChain at h
  refine xaload_n C 0 rfl rfl dX4_plantChain_0 ?_
  refine xdup C dX4_plantChain_1 rfl ?_
  refine xg_4_work C a0.1 w_110 dX4_plantChain_2 ?_
  refine xiconst C (v := (nI 2)) dX4_plantChain_5 (by decide) ?_
  refine xisub C dX4_plantChain_6 ?_
  refine xp_4_work C a0.1 w_110 dX4_plantChain_7 ?_
  generalize mset G q0 6 ((G q0 6) - (nI 2)) = G7 at h ⊢
  replace h := lt_go h
  refine xaload_n C 0 rfl rfl dX4_plantChain_10 ?_
  refine xdup C dX4_plantChain_11 rfl ?_
  refine xg_4_purse C a0.1 w_114 dX4_plantChain_12 ?_
  refine xiconst C (v := (nI 3)) dX4_plantChain_15 (by decide) ?_
  refine xisub C dX4_plantChain_16 ?_
  refine xp_4_purse C a0.1 w_114 dX4_plantChain_17 ?_
  generalize mset G7 q0 8 ((G7 q0 8) - (nI 3)) = G17 at h ⊢
  replace h := lt_go h
  refine xaload_n C 0 rfl rfl dX4_plantChain_20 ?_
  refine xg_4_hedges C a0.1 w_99 dX4_plantChain_21 ?_
  refine xiload_n C 1 rfl rfl dX4_plantChain_24 ?_
  obtain ⟨hi25, h⟩ := ix_some h
  refine xaa_18 C x1.toNatClampNeg rfl (q0 + 3 + 5 * x1.toNatClampNeg) (by omega) a0.2.1 hi25 dX4_plantChain_25 ?_
  refine xiload_n C 2 rfl rfl dX4_plantChain_26 ?_
  refine xiconst C (v := (nI 3)) dX4_plantChain_27 (by decide) ?_
  refine xiconst C (v := (nI 0)) dX4_plantChain_28 (by decide) ?_
  obtain ⟨G29, hc29, h⟩ := bv_some h
  refine xNv C (As := [.int x2, .int (nI 3), .int (nI 0)]) (rest := []) (kX1_changeChain (a0.2.2.2.1 x1.toNatClampNeg (vp_lt hi25)) hc29) ((a0.2.2.2.1 x1.toNatClampNeg (vp_lt hi25)).1) rfl rfl nm_22 mvX1_changeChain mwX1_changeChain rfl ⟨Nat.le_of_ble_eq_true rfl, Nat.le_of_ble_eq_true rfl⟩ ⟨Nat.le_refl _, Nat.le_refl _⟩ (Nat.le_of_ble_eq_true rfl) dX4_plantChain_29 ?_
  refine xaload_n C 0 rfl rfl dX4_plantChain_32 ?_
  refine xdup C dX4_plantChain_33 rfl ?_
  refine xg_4_planted C a0.1 w_124 dX4_plantChain_34 ?_
  refine xiconst C (v := (nI 1)) dX4_plantChain_37 (by decide) ?_
  refine xiadd C dX4_plantChain_38 ?_
  refine xp_4_planted C a0.1 w_124 dX4_plantChain_39 ?_
  generalize mset G29 q0 13 ((G29 q0 13) + (nI 1)) = G39 at h ⊢
  replace h := lt_go h
  obtain rfl := so_1 h
  exact xvret C rfl dX4_plantChain_42
/-- HedgeChains$Land.grubChain(II)V -/
theorem kX4_grubChain  {q0 : Nat} {x1 : Int32} {x2 : Int32} (a0 : A4 kd NP q0) {G : Mem} (h : fX4_grubChain q0 x1 x2 G = some G') : xMv l D cy ad kd NP A yX4_grubChain cX4_grubChain 3 none 4 86 [.ref (ad q0), .int x1, .int x2] G G' := by
  refine xMv_of trivial (by decide +kernel) (Nat.le_of_ble_eq_true rfl) (fun p e s m args below meth c C => ?_)
  have C : xC p s m args meth c cX4_grubChain RX4 3 none D cy := C
  refine xsub C (lv' := [(0, .ref (ad q0)), (1, .int x1), (2, .int x2)]) [0, 1, 2] rfl ?_
  unfold fX4_grubChain at h
  refine xaload_n C 0 rfl rfl dX4_grubChain_0 ?_
  refine xg_4_hedges C a0.1 w_99 dX4_grubChain_1 ?_
  refine xiload_n C 1 rfl rfl dX4_grubChain_4 ?_
  obtain ⟨hi5, h⟩ := ix_some h
  refine xaa_18 C x1.toNatClampNeg rfl (q0 + 3 + 5 * x1.toNatClampNeg) (by omega) a0.2.1 hi5 dX4_grubChain_5 ?_
  refine xiload_n C 2 rfl rfl dX4_grubChain_6 ?_
  refine xiconst C (v := (nI 2)) dX4_grubChain_7 (by decide) ?_
  refine xiconst C (v := (nI 0)) dX4_grubChain_8 (by decide) ?_
  obtain ⟨G9, hc9, h⟩ := bv_some h
  refine xNv C (As := [.int x2, .int (nI 2), .int (nI 0)]) (rest := []) (kX1_changeChain (a0.2.2.2.1 x1.toNatClampNeg (vp_lt hi5)) hc9) ((a0.2.2.2.1 x1.toNatClampNeg (vp_lt hi5)).1) rfl rfl nm_22 mvX1_changeChain mwX1_changeChain rfl ⟨Nat.le_of_ble_eq_true rfl, Nat.le_of_ble_eq_true rfl⟩ ⟨Nat.le_refl _, Nat.le_refl _⟩ (Nat.le_of_ble_eq_true rfl) dX4_grubChain_9 ?_
  refine xaload_n C 0 rfl rfl dX4_grubChain_12 ?_
  refine xiload_n C 1 rfl rfl dX4_grubChain_13 ?_
  obtain ⟨G14, hc14, h⟩ := bv_some h
  refine xVv C (As := [.int x1]) (rest := []) (kX4_endContractIfNoneStands a0 hc14) a0.1 rfl rfl w_332 mvX4_endContractIfNoneStands mwX4_endContractIfNoneStands rfl ⟨Nat.le_of_ble_eq_true rfl, Nat.le_of_ble_eq_true rfl⟩ ⟨Nat.le_refl _, Nat.le_refl _⟩ (Nat.le_of_ble_eq_true rfl) dX4_grubChain_14 ?_
  obtain rfl := so_1 h
  exact xvret C rfl dX4_grubChain_17
/-- HedgeChains$Land.finePerWeek(I)I -/
theorem kX4_finePerWeek {r : Int32}  {q0 : Nat} {x1 : Int32} (a0 : A4 kd NP q0) {G : Mem} (h : fX4_finePerWeek q0 x1 G = some (r, G')) : xMi l D cy ad kd NP A yX4_finePerWeek cX4_finePerWeek 2 (some .int) 3 65 [.ref (ad q0), .int x1] G r G' := by
  refine xMi_of trivial (by decide +kernel) (Nat.le_of_ble_eq_true rfl) (fun p e s m args below meth c C => ?_)
  have C : xC p s m args meth c cX4_finePerWeek RX4 2 (some .int) D cy := C
  refine xsub C (lv' := [(0, .ref (ad q0)), (1, .int x1)]) [0, 1] rfl ?_
  unfold fX4_finePerWeek at h
  refine xaload_n C 0 rfl rfl dX4_finePerWeek_0 ?_
  refine xg_4_contracts C a0.1 w_101 dX4_finePerWeek_1 ?_
  refine xiload_n C 1 rfl rfl dX4_finePerWeek_4 ?_
  obtain ⟨hi5, h⟩ := ix_some h
  refine xaa_19 C x1.toNatClampNeg rfl (q0 + 7 + 5 * x1.toNatClampNeg) (by omega) a0.2.2.1 hi5 dX4_finePerWeek_5 ?_
  refine xgN_0_fine C (a0.2.2.2.2 x1.toNatClampNeg (vp_lt hi5)) nf_12 dX4_finePerWeek_6 ?_
  refine xaload_n C 0 rfl rfl dX4_finePerWeek_9 ?_
  refine xg_4_hedges C a0.1 w_99 dX4_finePerWeek_10 ?_
  refine xiload_n C 1 rfl rfl dX4_finePerWeek_13 ?_
  obtain ⟨hi14, h⟩ := ix_some h
  refine xaa_18 C x1.toNatClampNeg rfl (q0 + 3 + 5 * x1.toNatClampNeg) (by omega) a0.2.1 hi14 dX4_finePerWeek_14 ?_
  refine xiconst C (v := (nI 0)) dX4_finePerWeek_15 (by decide) ?_
  obtain ⟨r16, G16, hc16, h⟩ := bd_some h
  refine xNi C (As := [.int (nI 0)]) (rest := [.int (G (q0 + 7 + 5 * x1.toNatClampNeg) 3)]) (kX1_numberOf (a0.2.2.2.1 x1.toNatClampNeg (vp_lt hi14)) hc16) ((a0.2.2.2.1 x1.toNatClampNeg (vp_lt hi14)).1) rfl rfl nm_23 mvX1_numberOf mwX1_numberOf rfl ⟨Nat.le_of_ble_eq_true rfl, Nat.le_of_ble_eq_true rfl⟩ ⟨Nat.le_refl _, Nat.le_refl _⟩ (Nat.le_of_ble_eq_true rfl) dX4_finePerWeek_16 ?_
  refine ximul C dX4_finePerWeek_19 ?_
  obtain ⟨rfl, rfl⟩ := so_2 h
  exact xiret C rfl dX4_finePerWeek_20
/-- HedgeChains$Land.finesDue()I -/
theorem wX4_finesDue_4 {r : Int32} (C : xC p s m args meth c cX4_finesDue RX4 3 (some .int) D cy) (q0 : Nat) (a0 : A4 kd NP q0) : ∀ (n : Nat) (x1 : Int32) (x2 : Int32) (G : Mem) (h : itr n (FX4_finesDue_4 q0) (x1, x2, G) = some (r, G')), xX p l e (xR 4 86) s m args below meth c A s.heap D cy ad kd NP 3 0 0 (xQi below D cy ad kd NP A args s r G') G 4 [(0, .ref (ad q0)), (1, .int x1), (2, .int x2)] [] := by
  intro n
  induction n with
  | zero =>
    intro x1 x2 G h
    have h : none = some (r, G') := h
    cases h
  | succ n ih =>
    intro x1 x2 G h
    have h : bX4_finesDue_4 q0 (itr n (FX4_finesDue_4 q0)) x1 x2 G = some (r, G') := h
    have hrec4 : ∀ (x1 : Int32) (x2 : Int32) (G : Mem), itr n (FX4_finesDue_4 q0) (x1, x2, G) = some (r, G') → xX p l e (xR 4 86) s m args below meth c A s.heap D cy ad kd NP 3 0 0 (xQi below D cy ad kd NP A args s r G') G 4 [(0, .ref (ad q0)), (1, .int x1), (2, .int x2)] [] := fun x1 x2 G h => ih x1 x2 G h
    unfold bX4_finesDue_4 at h
    refine xiload_n C 2 rfl rfl dX4_finesDue_4 ?_
    refine xbipush C (v := (nI 6)) dX4_finesDue_5 (by decide) ?_
    refine xicmp_ge C (tgt := 52) h (by decide) dX4_finesDue_7 (fun h => ?_) (fun h => ?_)
    · refine xiload_n C 1 rfl rfl dX4_finesDue_52 ?_
      obtain ⟨rfl, rfl⟩ := so_2 h
      exact xiret C rfl dX4_finesDue_53
    · refine xaload_n C 0 rfl rfl dX4_finesDue_10 ?_
      refine xg_4_contracts C a0.1 w_101 dX4_finesDue_11 ?_
      refine xiload_n C 2 rfl rfl dX4_finesDue_14 ?_
      obtain ⟨hi15, h⟩ := ix_some h
      refine xaa_19 C x2.toNatClampNeg rfl (q0 + 7 + 5 * x2.toNatClampNeg) (by omega) a0.2.2.1 hi15 dX4_finesDue_15 ?_
      refine xgN_0_made C (a0.2.2.2.2 x2.toNatClampNeg (vp_lt hi15)) nf_4 dX4_finesDue_16 ?_
      refine xif_eq C (tgt := 46) h (by decide) dX4_finesDue_19 (fun h => ?_) (fun h => ?_)
      · refine xiinc C (v := (x2 + nI 1)) (lv' := [(2, .int (x2 + nI 1)), (0, .ref (ad q0)), (1, .int x1)]) 2 rfl rfl (by decide) rfl dX4_finesDue_46 ?_
        refine xgoto C (tgt := 4) (by decide) dX4_finesDue_49 ?_
        refine xsub C (lv' := [(0, .ref (ad q0)), (1, .int x1), (2, .int (x2 + nI 1))]) [1, 2, 0] rfl ?_
        exact hrec4 x1 (x2 + nI 1) G h
      · refine xaload_n C 0 rfl rfl dX4_finesDue_22 ?_
        refine xg_4_contracts C a0.1 w_101 dX4_finesDue_23 ?_
        refine xiload_n C 2 rfl rfl dX4_finesDue_26 ?_
        obtain ⟨hi27, h⟩ := ix_some h
        refine xaa_19 C x2.toNatClampNeg rfl (q0 + 7 + 5 * x2.toNatClampNeg) (by omega) a0.2.2.1 hi27 dX4_finesDue_27 ?_
        refine xgN_0_lastWeek C (a0.2.2.2.2 x2.toNatClampNeg (vp_lt hi27)) nf_9 dX4_finesDue_28 ?_
        refine xaload_n C 0 rfl rfl dX4_finesDue_31 ?_
        refine xg_4_week C a0.1 w_105 dX4_finesDue_32 ?_
        refine xicmp_ge C (tgt := 46) h (by decide) dX4_finesDue_35 (fun h => ?_) (fun h => ?_)
        · refine xiinc C (v := (x2 + nI 1)) (lv' := [(2, .int (x2 + nI 1)), (0, .ref (ad q0)), (1, .int x1)]) 2 rfl rfl (by decide) rfl dX4_finesDue_46 ?_
          refine xgoto C (tgt := 4) (by decide) dX4_finesDue_49 ?_
          refine xsub C (lv' := [(0, .ref (ad q0)), (1, .int x1), (2, .int (x2 + nI 1))]) [1, 2, 0] rfl ?_
          exact hrec4 x1 (x2 + nI 1) G h
        · refine xiload_n C 1 rfl rfl dX4_finesDue_38 ?_
          refine xaload_n C 0 rfl rfl dX4_finesDue_39 ?_
          refine xiload_n C 2 rfl rfl dX4_finesDue_40 ?_
          obtain ⟨r41, G41, hc41, h⟩ := bd_some h
          refine xVi C (As := [.int x2]) (rest := [.int x1]) (kX4_finePerWeek a0 hc41) a0.1 rfl rfl w_412 mvX4_finePerWeek mwX4_finePerWeek rfl ⟨Nat.le_of_ble_eq_true rfl, Nat.le_of_ble_eq_true rfl⟩ ⟨Nat.le_refl _, Nat.le_refl _⟩ (Nat.le_of_ble_eq_true rfl) dX4_finesDue_41 ?_
          refine xiadd C dX4_finesDue_44 ?_
          refine xistore_n C (lv' := [(1, .int (x1 + r41)), (0, .ref (ad q0)), (2, .int x2)]) rfl (by decide) rfl dX4_finesDue_45 ?_
          refine xiinc C (v := (x2 + nI 1)) (lv' := [(2, .int (x2 + nI 1)), (1, .int (x1 + r41)), (0, .ref (ad q0))]) 2 rfl rfl (by decide) rfl dX4_finesDue_46 ?_
          refine xgoto C (tgt := 4) (by decide) dX4_finesDue_49 ?_
          refine xsub C (lv' := [(0, .ref (ad q0)), (1, .int (x1 + r41)), (2, .int (x2 + nI 1))]) [2, 1, 0] rfl ?_
          exact hrec4 (x1 + r41) (x2 + nI 1) G41 h
theorem kX4_finesDue {r : Int32}  {q0 : Nat} (a0 : A4 kd NP q0) {G : Mem} (h : fX4_finesDue q0 G = some (r, G')) : xMi l D cy ad kd NP A yX4_finesDue cX4_finesDue 3 (some .int) 4 86 [.ref (ad q0)] G r G' := by
  refine xMi_of trivial (by decide +kernel) (Nat.le_of_ble_eq_true rfl) (fun p e s m args below meth c C => ?_)
  have C : xC p s m args meth c cX4_finesDue RX4 3 (some .int) D cy := C
  refine xsub C (lv' := [(0, .ref (ad q0))]) [0] rfl ?_
  unfold fX4_finesDue at h
  refine xiconst C (v := (nI 0)) dX4_finesDue_0 (by decide) ?_
  refine xistore_n C (lv' := [(1, .int (nI 0)), (0, .ref (ad q0))]) rfl (by decide) rfl dX4_finesDue_1 ?_
  refine xiconst C (v := (nI 0)) dX4_finesDue_2 (by decide) ?_
  refine xistore_n C (lv' := [(2, .int (nI 0)), (1, .int (nI 0)), (0, .ref (ad q0))]) rfl (by decide) rfl dX4_finesDue_3 ?_
  refine xsub C (lv' := [(0, .ref (ad q0)), (1, .int (nI 0)), (2, .int (nI 0))]) [2, 1, 0] rfl ?_
  exact wX4_finesDue_4 C q0 a0 _ (nI 0) (nI 0) G h
/-- HedgeChains$Land.spend(I)V -/
theorem kX4_spend  {q0 : Nat} {x1 : Int32} (a0 : A4 kd NP q0) {G : Mem} (h : fX4_spend q0 x1 G = some G') : xMv l D cy ad kd NP A yX4_spend cX4_spend 3 none 1 21 [.ref (ad q0), .int x1] G G' := by
  refine xMv_of trivial (by decide +kernel) (Nat.le_of_ble_eq_true rfl) (fun p e s m args below meth c C => ?_)
  have C : xC p s m args meth c cX4_spend RX4 3 none D cy := C
  refine xsub C (lv' := [(0, .ref (ad q0)), (1, .int x1)]) [0, 1] rfl ?_
  unfold fX4_spend at h
  refine xaload_n C 0 rfl rfl dX4_spend_0 ?_
  refine xg_4_purse C a0.1 w_114 dX4_spend_1 ?_
  refine xiload_n C 1 rfl rfl dX4_spend_4 ?_
  refine xmmin C w_420 w_325 w_12 w_326 ⟨Nat.le_of_ble_eq_true rfl, Nat.le_of_ble_eq_true rfl⟩ ⟨Nat.le_refl _, Nat.le_refl _⟩ dX4_spend_5 ?_
  refine xistore_n C (lv' := [(2, .int (if x1 < (G q0 8) then x1 else (G q0 8))), (0, .ref (ad q0)), (1, .int x1)]) rfl (by decide) rfl dX4_spend_8 ?_
  refine xaload_n C 1 rfl rfl dX4_spend_9 ?_
  refine xdup C dX4_spend_10 rfl ?_
  refine xg_4_purse C a0.1 w_114 dX4_spend_11 ?_
  refine xiload_n C 0 rfl rfl dX4_spend_14 ?_
  refine xisub C dX4_spend_15 ?_
  refine xp_4_purse C a0.1 w_114 dX4_spend_16 ?_
  generalize mset G q0 8 ((G q0 8) - (if x1 < (G q0 8) then x1 else (G q0 8))) = G16 at h ⊢
  replace h := lt_go h
  refine xaload_n C 1 rfl rfl dX4_spend_19 ?_
  refine xdup C dX4_spend_20 rfl ?_
  refine xg_4_debt C a0.1 w_116 dX4_spend_21 ?_
  refine xiload_n C 2 rfl rfl dX4_spend_24 ?_
  refine xiload_n C 0 rfl rfl dX4_spend_25 ?_
  refine xisub C dX4_spend_26 ?_
  refine xiadd C dX4_spend_27 ?_
  refine xp_4_debt C a0.1 w_116 dX4_spend_28 ?_
  generalize mset G16 q0 9 ((G16 q0 9) + (x1 - (if x1 < (G q0 8) then x1 else (G q0 8)))) = G28 at h ⊢
  replace h := lt_go h
  obtain rfl := so_1 h
  exact xvret C rfl dX4_spend_31
/-- HedgeChains$Land.passWeek()I -/
theorem wX4_passWeek_20 {r : Int32} (C : xC p s m args meth c cX4_passWeek RX4 2 (some .int) D cy) (q0 : Nat) (a0 : A4 kd NP q0) : ∀ (n : Nat) (x1 : Int32) (G : Mem) (h : itr n (FX4_passWeek_20 q0) (x1, G) = some (r, G')), xX p l e (xR 5 108) s m args below meth c A s.heap D cy ad kd NP 2 0 0 (xQi below D cy ad kd NP A args s r G') G 20 [(0, .ref (ad q0)), (1, .int x1)] [] := by
  intro n
  induction n with
  | zero =>
    intro x1 G h
    have h : none = some (r, G') := h
    cases h
  | succ n ih =>
    intro x1 G h
    have h : bX4_passWeek_20 q0 (itr n (FX4_passWeek_20 q0)) x1 G = some (r, G') := h
    have hrec20 : ∀ (x1 : Int32) (G : Mem), itr n (FX4_passWeek_20 q0) (x1, G) = some (r, G') → xX p l e (xR 5 108) s m args below meth c A s.heap D cy ad kd NP 2 0 0 (xQi below D cy ad kd NP A args s r G') G 20 [(0, .ref (ad q0)), (1, .int x1)] [] := fun x1 G h => ih x1 G h
    unfold bX4_passWeek_20 at h
    refine xiload_n C 1 rfl rfl dX4_passWeek_20 ?_
    refine xbipush C (v := (nI 6)) dX4_passWeek_21 (by decide) ?_
    refine xicmp_ge C (tgt := 45) h (by decide) dX4_passWeek_23 (fun h => ?_) (fun h => ?_)
    · refine xaload_n C 0 rfl rfl dX4_passWeek_45 ?_
      obtain ⟨r46, G46, hc46, h⟩ := bd_some h
      refine xVi C (As := []) (rest := []) (kX4_finesDue a0 hc46) a0.1 rfl rfl w_408 mvX4_finesDue mwX4_finesDue rfl ⟨Nat.le_of_ble_eq_true rfl, Nat.le_of_ble_eq_true rfl⟩ ⟨Nat.le_refl _, Nat.le_refl _⟩ (Nat.le_of_ble_eq_true rfl) dX4_passWeek_46 ?_
      refine xistore_n C (lv' := [(1, .int r46), (0, .ref (ad q0))]) rfl (by decide) rfl dX4_passWeek_49 ?_
      refine xaload_n C 1 rfl rfl dX4_passWeek_50 ?_
      refine xdup C dX4_passWeek_51 rfl ?_
      refine xg_4_fined C a0.1 w_120 dX4_passWeek_52 ?_
      refine xiload_n C 0 rfl rfl dX4_passWeek_55 ?_
      refine xiadd C dX4_passWeek_56 ?_
      refine xp_4_fined C a0.1 w_120 dX4_passWeek_57 ?_
      generalize mset G46 q0 11 ((G46 q0 11) + r46) = G57 at h ⊢
      replace h := lt_go h
      refine xaload_n C 1 rfl rfl dX4_passWeek_60 ?_
      refine xiload_n C 0 rfl rfl dX4_passWeek_61 ?_
      obtain ⟨G62, hc62, h⟩ := bv_some h
      refine xVv C (As := [.int r46]) (rest := []) (kX4_spend a0 hc62) a0.1 rfl rfl w_416 mvX4_spend mwX4_spend rfl ⟨Nat.le_of_ble_eq_true rfl, Nat.le_of_ble_eq_true rfl⟩ ⟨Nat.le_refl _, Nat.le_refl _⟩ (Nat.le_of_ble_eq_true rfl) dX4_passWeek_62 ?_
      refine xiload_n C 0 rfl rfl dX4_passWeek_65 ?_
      obtain ⟨rfl, rfl⟩ := so_2 h
      exact xiret C rfl dX4_passWeek_66
    · refine xaload_n C 0 rfl rfl dX4_passWeek_26 ?_
      refine xg_4_hedges C a0.1 w_99 dX4_passWeek_27 ?_
      refine xiload_n C 1 rfl rfl dX4_passWeek_30 ?_
      obtain ⟨hi31, h⟩ := ix_some h
      refine xaa_18 C x1.toNatClampNeg rfl (q0 + 3 + 5 * x1.toNatClampNeg) (by omega) a0.2.1 hi31 dX4_passWeek_31 ?_
      refine xaload_n C 0 rfl rfl dX4_passWeek_32 ?_
      refine xg_4_week C a0.1 w_105 dX4_passWeek_33 ?_
      obtain ⟨G36, hc36, h⟩ := bv_some h
      refine xNv C (As := [.int (G q0 2)]) (rest := []) (kX1_grow (a0.2.2.2.1 x1.toNatClampNeg (vp_lt hi31)) hc36) ((a0.2.2.2.1 x1.toNatClampNeg (vp_lt hi31)).1) rfl rfl nm_33 mvX1_grow mwX1_grow rfl ⟨Nat.le_of_ble_eq_true rfl, Nat.le_of_ble_eq_true rfl⟩ ⟨Nat.le_refl _, Nat.le_refl _⟩ (Nat.le_of_ble_eq_true rfl) dX4_passWeek_36 ?_
      refine xiinc C (v := (x1 + nI 1)) (lv' := [(1, .int (x1 + nI 1)), (0, .ref (ad q0))]) 1 rfl rfl (by decide) rfl dX4_passWeek_39 ?_
      refine xgoto C (tgt := 20) (by decide) dX4_passWeek_42 ?_
      refine xsub C (lv' := [(0, .ref (ad q0)), (1, .int (x1 + nI 1))]) [1, 0] rfl ?_
      exact hrec20 (x1 + nI 1) G36 h
theorem kX4_passWeek {r : Int32}  {q0 : Nat} (a0 : A4 kd NP q0) {G : Mem} (h : fX4_passWeek q0 G = some (r, G')) : xMi l D cy ad kd NP A yX4_passWeek cX4_passWeek 2 (some .int) 5 108 [.ref (ad q0)] G r G' := by
  refine xMi_of trivial (by decide +kernel) (Nat.le_of_ble_eq_true rfl) (fun p e s m args below meth c C => ?_)
  have C : xC p s m args meth c cX4_passWeek RX4 2 (some .int) D cy := C
  refine xsub C (lv' := [(0, .ref (ad q0))]) [0] rfl ?_
  unfold fX4_passWeek at h
  refine xaload_n C 0 rfl rfl dX4_passWeek_0 ?_
  refine xdup C dX4_passWeek_1 rfl ?_
  refine xg_4_week C a0.1 w_105 dX4_passWeek_2 ?_
  refine xiconst C (v := (nI 1)) dX4_passWeek_5 (by decide) ?_
  refine xiadd C dX4_passWeek_6 ?_
  refine xp_4_week C a0.1 w_105 dX4_passWeek_7 ?_
  generalize mset G q0 2 ((G q0 2) + (nI 1)) = G7 at h ⊢
  replace h := lt_go h
  refine xaload_n C 0 rfl rfl dX4_passWeek_10 ?_
  refine xaload_n C 0 rfl rfl dX4_passWeek_11 ?_
  refine xg_4_strength C a0.1 w_109 dX4_passWeek_12 ?_
  refine xp_4_work C a0.1 w_110 dX4_passWeek_15 ?_
  generalize mset G7 q0 6 (G7 q0 5) = G15 at h ⊢
  replace h := lt_go h
  refine xiconst C (v := (nI 0)) dX4_passWeek_18 (by decide) ?_
  refine xistore_n C (lv' := [(1, .int (nI 0)), (0, .ref (ad q0))]) rfl (by decide) rfl dX4_passWeek_19 ?_
  refine xsub C (lv' := [(0, .ref (ad q0)), (1, .int (nI 0))]) [1, 0] rfl ?_
  exact wX4_passWeek_20 C q0 a0 _ (nI 0) G15 h
/-- HedgeChains$Land.settingOf(I)I -/
theorem kX4_settingOf {r : Int32}  {q0 : Nat} {x1 : Int32} (a0 : A4 kd NP q0) {G : Mem} (h : fX4_settingOf q0 x1 G = some (r, G')) : xMi l D cy ad kd NP A yX4_settingOf cX4_settingOf 2 (some .int) 0 0 [.ref (ad q0), .int x1] G r G' := by
  refine xMi_of trivial (by decide +kernel) (Nat.le_of_ble_eq_true rfl) (fun p e s m args below meth c C => ?_)
  have C : xC p s m args meth c cX4_settingOf RX4 2 (some .int) D cy := C
  refine xsub C (lv' := [(0, .ref (ad q0)), (1, .int x1)]) [0, 1] rfl ?_
  unfold fX4_settingOf at h
  refine xiload_n C 1 rfl rfl dX4_settingOf_0 ?_
  rcases if_some h with ⟨hs1_0, h⟩ | ⟨hs1_0, h⟩
  · refine xlook C (off := 27) (tgt := 28) rfl (by show Op.lookupswitch.offset [(0, 27), (1, 32)] 37 _ = 27; rw [hs1_0]; rfl) (by decide) dX4_settingOf_1 ?_
    refine xaload_n C 0 rfl rfl dX4_settingOf_28 ?_
    refine xg_4_firstClosed C a0.1 w_107 dX4_settingOf_29 ?_
    obtain ⟨rfl, rfl⟩ := so_2 h
    exact xiret C rfl dX4_settingOf_32
  rcases if_some h with ⟨hs1_1, h⟩ | ⟨hs1_1, h⟩
  · refine xlook C (off := 32) (tgt := 33) rfl (by show Op.lookupswitch.offset [(0, 27), (1, 32)] 37 _ = 32; rw [hs1_1]; rfl) (by decide) dX4_settingOf_1 ?_
    refine xaload_n C 0 rfl rfl dX4_settingOf_33 ?_
    refine xg_4_lastClosed C a0.1 w_108 dX4_settingOf_34 ?_
    obtain ⟨rfl, rfl⟩ := so_2 h
    exact xiret C rfl dX4_settingOf_37
  refine xlook C (off := 37) (tgt := 38) rfl (by show Op.lookupswitch.offset [(0, 27), (1, 32)] 37 _ = 37; rw [Op.lookupswitch.offset_cons, if_neg (fun q => xne hs1_0 0 rfl q.symm), Op.lookupswitch.offset_cons, if_neg (fun q => xne hs1_1 1 rfl q.symm), Op.lookupswitch.offset_nil]) (by decide) dX4_settingOf_1 ?_
  refine xaload_n C 0 rfl rfl dX4_settingOf_38 ?_
  refine xg_4_strength C a0.1 w_109 dX4_settingOf_39 ?_
  obtain ⟨rfl, rfl⟩ := so_2 h
  exact xiret C rfl dX4_settingOf_42
/-- HedgeChains$Land.changeSetting(II)V -/
theorem kX4_changeSetting  {q0 : Nat} {x1 : Int32} {x2 : Int32} (a0 : A4 kd NP q0) {G : Mem} (h : fX4_changeSetting q0 x1 x2 G = some G') : xMv l D cy ad kd NP A yX4_changeSetting cX4_changeSetting 3 none 1 21 [.ref (ad q0), .int x1, .int x2] G G' := by
  refine xMv_of trivial (by decide +kernel) (Nat.le_of_ble_eq_true rfl) (fun p e s m args below meth c C => ?_)
  have C : xC p s m args meth c cX4_changeSetting RX4 3 none D cy := C
  refine xsub C (lv' := [(0, .ref (ad q0)), (1, .int x1), (2, .int x2)]) [0, 1, 2] rfl ?_
  unfold fX4_changeSetting at h
  refine xiload_n C 1 rfl rfl dX4_changeSetting_0 ?_
  rcases if_some h with ⟨hs1_0, h⟩ | ⟨hs1_0, h⟩
  · refine xlook C (off := 27) (tgt := 28) rfl (by show Op.lookupswitch.offset [(0, 27), (1, 35)] 43 _ = 27; rw [hs1_0]; rfl) (by decide) dX4_changeSetting_1 ?_
    refine xaload_n C 0 rfl rfl dX4_changeSetting_28 ?_
    refine xiload_n C 2 rfl rfl dX4_changeSetting_29 ?_
    refine xp_4_firstClosed C a0.1 w_107 dX4_changeSetting_30 ?_
    generalize mset G q0 3 x2 = G30 at h ⊢
    replace h := lt_go h
    refine xgoto C (tgt := 68) (by decide) dX4_changeSetting_33 ?_
    obtain rfl := so_1 h
    exact xvret C rfl dX4_changeSetting_68
  rcases if_some h with ⟨hs1_1, h⟩ | ⟨hs1_1, h⟩
  · refine xlook C (off := 35) (tgt := 36) rfl (by show Op.lookupswitch.offset [(0, 27), (1, 35)] 43 _ = 35; rw [hs1_1]; rfl) (by decide) dX4_changeSetting_1 ?_
    refine xaload_n C 0 rfl rfl dX4_changeSetting_36 ?_
    refine xiload_n C 2 rfl rfl dX4_changeSetting_37 ?_
    refine xp_4_lastClosed C a0.1 w_108 dX4_changeSetting_38 ?_
    generalize mset G q0 4 x2 = G38 at h ⊢
    replace h := lt_go h
    refine xgoto C (tgt := 68) (by decide) dX4_changeSetting_41 ?_
    obtain rfl := so_1 h
    exact xvret C rfl dX4_changeSetting_68
  refine xlook C (off := 43) (tgt := 44) rfl (by show Op.lookupswitch.offset [(0, 27), (1, 35)] 43 _ = 43; rw [Op.lookupswitch.offset_cons, if_neg (fun q => xne hs1_0 0 rfl q.symm), Op.lookupswitch.offset_cons, if_neg (fun q => xne hs1_1 1 rfl q.symm), Op.lookupswitch.offset_nil]) (by decide) dX4_changeSetting_1 ?_
  refine xaload_n C 0 rfl rfl dX4_changeSetting_44 ?_
  refine xaload_n C 0 rfl rfl dX4_changeSetting_45 ?_
  refine xg_4_work C a0.1 w_110 dX4_changeSetting_46 ?_
  refine xiload_n C 2 rfl rfl dX4_changeSetting_49 ?_
  refine xiadd C dX4_changeSetting_50 ?_
  refine xaload_n C 0 rfl rfl dX4_changeSetting_51 ?_
  refine xg_4_strength C a0.1 w_109 dX4_changeSetting_52 ?_
  refine xisub C dX4_changeSetting_55 ?_
  refine xiconst C (v := (nI 0)) dX4_changeSetting_56 (by decide) ?_
  refine xmmax C w_436 w_437 w_12 w_438 ⟨Nat.le_of_ble_eq_true rfl, Nat.le_of_ble_eq_true rfl⟩ ⟨Nat.le_refl _, Nat.le_refl _⟩ dX4_changeSetting_57 ?_
  refine xp_4_work C a0.1 w_110 dX4_changeSetting_60 ?_
  generalize mset G q0 6 (if (((G q0 6) + x2) - (G q0 5)) < (nI 0) then (nI 0) else (((G q0 6) + x2) - (G q0 5))) = G60 at h ⊢
  replace h := lt_go h
  refine xaload_n C 0 rfl rfl dX4_changeSetting_63 ?_
  refine xiload_n C 2 rfl rfl dX4_changeSetting_64 ?_
  refine xp_4_strength C a0.1 w_109 dX4_changeSetting_65 ?_
  generalize mset G60 q0 5 x2 = G65 at h ⊢
  replace h := lt_go h
  obtain rfl := so_1 h
  exact xvret C rfl dX4_changeSetting_68
/-- HedgeChains$Land.replaceHedge(ILHedgeChains$Hedge;)V -/
theorem kX4_replaceHedge  {q0 : Nat} {x1 : Int32} {q2 : Nat} (a0 : A4 kd NP q0) (a2 : A1 kd NP q2) {G : Mem} (h : fX4_replaceHedge q0 x1 q2 G = some G') : xMv l D cy ad kd NP A yX4_replaceHedge cX4_replaceHedge 3 none 4 86 [.ref (ad q0), .int x1, .ref (ad q2)] G G' := by
  refine xMv_of trivial (by decide +kernel) (Nat.le_of_ble_eq_true rfl) (fun p e s m args below meth c C => ?_)
  have C : xC p s m args meth c cX4_replaceHedge RX4 3 none D cy := C
  refine xsub C (lv' := [(0, .ref (ad q0)), (1, .int x1), (2, .ref (ad q2))]) [0, 1, 2] rfl ?_
  unfold fX4_replaceHedge at h
  refine xaload_n C 0 rfl rfl dX4_replaceHedge_0 ?_
  refine xg_4_hedges C a0.1 w_99 dX4_replaceHedge_1 ?_
  refine xiload_n C 1 rfl rfl dX4_replaceHedge_4 ?_
  obtain ⟨hi5, h⟩ := ix_some h
  refine xaa_18 C x1.toNatClampNeg rfl (q0 + 3 + 5 * x1.toNatClampNeg) (by omega) a0.2.1 hi5 dX4_replaceHedge_5 ?_
  refine xaload_n C 2 rfl rfl dX4_replaceHedge_6 ?_
  obtain ⟨G7, hc7, h⟩ := bv_some h
  refine xNv C (As := [.ref (ad q2)]) (rest := []) (kX1_copyFrom (a0.2.2.2.1 x1.toNatClampNeg (vp_lt hi5)) a2 hc7) ((a0.2.2.2.1 x1.toNatClampNeg (vp_lt hi5)).1) rfl rfl nm_19 mvX1_copyFrom mwX1_copyFrom rfl ⟨Nat.le_of_ble_eq_true rfl, Nat.le_of_ble_eq_true rfl⟩ ⟨Nat.le_refl _, Nat.le_refl _⟩ (Nat.le_of_ble_eq_true rfl) dX4_replaceHedge_7 ?_
  refine xaload_n C 0 rfl rfl dX4_replaceHedge_10 ?_
  refine xiload_n C 1 rfl rfl dX4_replaceHedge_11 ?_
  obtain ⟨G12, hc12, h⟩ := bv_some h
  refine xVv C (As := [.int x1]) (rest := []) (kX4_endContractIfNoneStands a0 hc12) a0.1 rfl rfl w_332 mvX4_endContractIfNoneStands mwX4_endContractIfNoneStands rfl ⟨Nat.le_of_ble_eq_true rfl, Nat.le_of_ble_eq_true rfl⟩ ⟨Nat.le_refl _, Nat.le_refl _⟩ (Nat.le_of_ble_eq_true rfl) dX4_replaceHedge_12 ?_
  obtain rfl := so_1 h
  exact xvret C rfl dX4_replaceHedge_15
/-- HedgeChains$Land.numberOfContracts()I -/
theorem wX4_numberOfContracts_4 {r : Int32} (C : xC p s m args meth c cX4_numberOfContracts RX4 3 (some .int) D cy) (q0 : Nat) (a0 : A4 kd NP q0) : ∀ (n : Nat) (x1 : Int32) (x2 : Int32) (G : Mem) (h : itr n (FX4_numberOfContracts_4 q0) (x1, x2, G) = some (r, G')), xX p l e (xR 0 0) s m args below meth c A s.heap D cy ad kd NP 3 0 0 (xQi below D cy ad kd NP A args s r G') G 4 [(0, .ref (ad q0)), (1, .int x1), (2, .int x2)] [] := by
  intro n
  induction n with
  | zero =>
    intro x1 x2 G h
    have h : none = some (r, G') := h
    cases h
  | succ n ih =>
    intro x1 x2 G h
    have h : bX4_numberOfContracts_4 q0 (itr n (FX4_numberOfContracts_4 q0)) x1 x2 G = some (r, G') := h
    have hrec4 : ∀ (x1 : Int32) (x2 : Int32) (G : Mem), itr n (FX4_numberOfContracts_4 q0) (x1, x2, G) = some (r, G') → xX p l e (xR 0 0) s m args below meth c A s.heap D cy ad kd NP 3 0 0 (xQi below D cy ad kd NP A args s r G') G 4 [(0, .ref (ad q0)), (1, .int x1), (2, .int x2)] [] := fun x1 x2 G h => ih x1 x2 G h
    unfold bX4_numberOfContracts_4 at h
    refine xiload_n C 2 rfl rfl dX4_numberOfContracts_4 ?_
    refine xbipush C (v := (nI 6)) dX4_numberOfContracts_5 (by decide) ?_
    refine xicmp_ge C (tgt := 31) h (by decide) dX4_numberOfContracts_7 (fun h => ?_) (fun h => ?_)
    · refine xiload_n C 1 rfl rfl dX4_numberOfContracts_31 ?_
      obtain ⟨rfl, rfl⟩ := so_2 h
      exact xiret C rfl dX4_numberOfContracts_32
    · refine xaload_n C 0 rfl rfl dX4_numberOfContracts_10 ?_
      refine xg_4_contracts C a0.1 w_101 dX4_numberOfContracts_11 ?_
      refine xiload_n C 2 rfl rfl dX4_numberOfContracts_14 ?_
      obtain ⟨hi15, h⟩ := ix_some h
      refine xaa_19 C x2.toNatClampNeg rfl (q0 + 7 + 5 * x2.toNatClampNeg) (by omega) a0.2.2.1 hi15 dX4_numberOfContracts_15 ?_
      refine xgN_0_made C (a0.2.2.2.2 x2.toNatClampNeg (vp_lt hi15)) nf_4 dX4_numberOfContracts_16 ?_
      refine xif_eq C (tgt := 25) h (by decide) dX4_numberOfContracts_19 (fun h => ?_) (fun h => ?_)
      · refine xiinc C (v := (x2 + nI 1)) (lv' := [(2, .int (x2 + nI 1)), (0, .ref (ad q0)), (1, .int x1)]) 2 rfl rfl (by decide) rfl dX4_numberOfContracts_25 ?_
        refine xgoto C (tgt := 4) (by decide) dX4_numberOfContracts_28 ?_
        refine xsub C (lv' := [(0, .ref (ad q0)), (1, .int x1), (2, .int (x2 + nI 1))]) [1, 2, 0] rfl ?_
        exact hrec4 x1 (x2 + nI 1) G h
      · refine xiinc C (v := (x1 + nI 1)) (lv' := [(1, .int (x1 + nI 1)), (0, .ref (ad q0)), (2, .int x2)]) 1 rfl rfl (by decide) rfl dX4_numberOfContracts_22 ?_
        refine xiinc C (v := (x2 + nI 1)) (lv' := [(2, .int (x2 + nI 1)), (1, .int (x1 + nI 1)), (0, .ref (ad q0))]) 2 rfl rfl (by decide) rfl dX4_numberOfContracts_25 ?_
        refine xgoto C (tgt := 4) (by decide) dX4_numberOfContracts_28 ?_
        refine xsub C (lv' := [(0, .ref (ad q0)), (1, .int (x1 + nI 1)), (2, .int (x2 + nI 1))]) [2, 1, 0] rfl ?_
        exact hrec4 (x1 + nI 1) (x2 + nI 1) G h
theorem kX4_numberOfContracts {r : Int32}  {q0 : Nat} (a0 : A4 kd NP q0) {G : Mem} (h : fX4_numberOfContracts q0 G = some (r, G')) : xMi l D cy ad kd NP A yX4_numberOfContracts cX4_numberOfContracts 3 (some .int) 0 0 [.ref (ad q0)] G r G' := by
  refine xMi_of trivial (by decide +kernel) (Nat.le_of_ble_eq_true rfl) (fun p e s m args below meth c C => ?_)
  have C : xC p s m args meth c cX4_numberOfContracts RX4 3 (some .int) D cy := C
  refine xsub C (lv' := [(0, .ref (ad q0))]) [0] rfl ?_
  unfold fX4_numberOfContracts at h
  refine xiconst C (v := (nI 0)) dX4_numberOfContracts_0 (by decide) ?_
  refine xistore_n C (lv' := [(1, .int (nI 0)), (0, .ref (ad q0))]) rfl (by decide) rfl dX4_numberOfContracts_1 ?_
  refine xiconst C (v := (nI 0)) dX4_numberOfContracts_2 (by decide) ?_
  refine xistore_n C (lv' := [(2, .int (nI 0)), (1, .int (nI 0)), (0, .ref (ad q0))]) rfl (by decide) rfl dX4_numberOfContracts_3 ?_
  refine xsub C (lv' := [(0, .ref (ad q0)), (1, .int (nI 0)), (2, .int (nI 0))]) [2, 1, 0] rfl ?_
  exact wX4_numberOfContracts_4 C q0 a0 _ (nI 0) (nI 0) G h
/-- HedgeChains$Land.workAfter(I)I -/
theorem kX4_workAfter {r : Int32}  {q0 : Nat} {x1 : Int32} (a0 : A4 kd NP q0) {G : Mem} (h : fX4_workAfter q0 x1 G = some (r, G')) : xMi l D cy ad kd NP A yX4_workAfter cX4_workAfter 2 (some .int) 1 22 [.ref (ad q0), .int x1] G r G' := by
  refine xMi_of trivial (by decide +kernel) (Nat.le_of_ble_eq_true rfl) (fun p e s m args below meth c C => ?_)
  have C : xC p s m args meth c cX4_workAfter RX4 2 (some .int) D cy := C
  refine xsub C (lv' := [(0, .ref (ad q0)), (1, .int x1)]) [0, 1] rfl ?_
  unfold fX4_workAfter at h
  refine xaload_n C 0 rfl rfl dX4_workAfter_0 ?_
  refine xaload_n C 0 rfl rfl dX4_workAfter_1 ?_
  refine xg_4_week C a0.1 w_105 dX4_workAfter_2 ?_
  refine xiload_n C 1 rfl rfl dX4_workAfter_5 ?_
  refine xiadd C dX4_workAfter_6 ?_
  obtain ⟨r7, G7, hc7, h⟩ := bd_some h
  refine xVi C (As := [.int ((G q0 2) + x1)]) (rest := []) (kX4_isClosed a0 hc7) a0.1 rfl rfl w_592 mvX4_isClosed mwX4_isClosed rfl ⟨Nat.le_of_ble_eq_true rfl, Nat.le_of_ble_eq_true rfl⟩ ⟨Nat.le_refl _, Nat.le_refl _⟩ (Nat.le_of_ble_eq_true rfl) dX4_workAfter_7 ?_
  refine xif_eq C (tgt := 15) h (by decide) dX4_workAfter_10 (fun h => ?_) (fun h => ?_)
  · refine xiload_n C 1 rfl rfl dX4_workAfter_15 ?_
    refine xif_ne C (tgt := 26) h (by decide) dX4_workAfter_16 (fun h => ?_) (fun h => ?_)
    · refine xaload_n C 0 rfl rfl dX4_workAfter_19 ?_
      refine xg_4_work C a0.1 w_110 dX4_workAfter_20 ?_
      refine xgoto C (tgt := 30) (by decide) dX4_workAfter_23 ?_
      obtain ⟨rfl, rfl⟩ := so_2 h
      exact xiret C rfl dX4_workAfter_30
    · refine xaload_n C 0 rfl rfl dX4_workAfter_26 ?_
      refine xg_4_strength C a0.1 w_109 dX4_workAfter_27 ?_
      obtain ⟨rfl, rfl⟩ := so_2 h
      exact xiret C rfl dX4_workAfter_30
  · refine xiconst C (v := (nI 0)) dX4_workAfter_13 (by decide) ?_
    obtain ⟨rfl, rfl⟩ := so_2 h
    exact xiret C rfl dX4_workAfter_14
/-- HedgeChains$Land.weeksUntilLaid(I)I -/
theorem wX4_weeksUntilLaid_76 {r : Int32} (C : xC p s m args meth c cX4_weeksUntilLaid RX4 7 (some .int) D cy) (q0 : Nat) (q2 : Nat) (x3 : Int32) (x4 : Int32) (x5 : Int32) (x6 : Int32) {rec19 : (Int32 × Int32 × Int32 × Mem) → Option (Int32 × Mem)} (hrec19 : ∀ (x3 : Int32) (x4 : Int32) (x5 : Int32) (G : Mem), rec19 (x3, x4, x5, G) = some (r, G') → xX p l e (xR 2 43) s m args below meth c A s.heap D cy ad kd NP 7 0 0 (xQi below D cy ad kd NP A args s r G') G 19 [(0, .ref (ad q0)), (2, .ref (ad q2)), (3, .int x3), (4, .int x4), (5, .int x5)] []) (G : Mem) (a0 : A4 kd NP q0) (a2 : A1 kd NP q2) (h : jX4_weeksUntilLaid_76 rec19 q0 q2 x3 x4 x5 x6 G = some (r, G')) : xX p l e (xR 2 43) s m args below meth c A s.heap D cy ad kd NP 7 0 0 (xQi below D cy ad kd NP A args s r G') G 76 [(0, .ref (ad q0)), (2, .ref (ad q2)), (3, .int x3), (4, .int x4), (5, .int x5), (6, .int x6)] [] := by
  unfold jX4_weeksUntilLaid_76 at h
  refine xiload C 3 rfl dX4_weeksUntilLaid_76 ?_
  refine xiload C 5 rfl dX4_weeksUntilLaid_78 ?_
  refine xicmp_ge C (tgt := 86) h (by decide) dX4_weeksUntilLaid_80 (fun h => ?_) (fun h => ?_)
  · refine xiload C 3 rfl dX4_weeksUntilLaid_86 ?_
    refine xiload C 5 rfl dX4_weeksUntilLaid_88 ?_
    refine xisub C dX4_weeksUntilLaid_90 ?_
    refine xistore C (lv' := [(4, .int (x4 - x6)), (0, .ref (ad q0)), (2, .ref (ad q2)), (3, .int x3), (5, .int x5), (6, .int x6)]) (by decide) rfl dX4_weeksUntilLaid_91 ?_
    refine xiinc C (v := (x5 + nI 1)) (lv' := [(5, .int (x5 + nI 1)), (4, .int (x4 - x6)), (0, .ref (ad q0)), (2, .ref (ad q2)), (3, .int x3), (6, .int x6)]) 4 rfl rfl (by decide) rfl dX4_weeksUntilLaid_93 ?_
    refine xgoto C (tgt := 19) (by decide) dX4_weeksUntilLaid_96 ?_
    refine xsub C (lv' := [(0, .ref (ad q0)), (2, .ref (ad q2)), (3, .int x3), (4, .int (x4 - x6)), (5, .int (x5 + nI 1))]) [2, 3, 4, 1, 0] rfl ?_
    exact hrec19 x3 (x4 - x6) (x5 + nI 1) G h
  · refine xbipush C (v := (-9)) dX4_weeksUntilLaid_83 (by decide) ?_
    obtain ⟨rfl, rfl⟩ := so_2 h
    exact xiret C rfl dX4_weeksUntilLaid_85
theorem wX4_weeksUntilLaid_49 {r : Int32} (C : xC p s m args meth c cX4_weeksUntilLaid RX4 7 (some .int) D cy) (q0 : Nat) (q2 : Nat) (x5 : Int32) (x6 : Int32) {rec19 : (Int32 × Int32 × Int32 × Mem) → Option (Int32 × Mem)} (hrec19 : ∀ (x3 : Int32) (x4 : Int32) (x5 : Int32) (G : Mem), rec19 (x3, x4, x5, G) = some (r, G') → xX p l e (xR 2 43) s m args below meth c A s.heap D cy ad kd NP 7 0 0 (xQi below D cy ad kd NP A args s r G') G 19 [(0, .ref (ad q0)), (2, .ref (ad q2)), (3, .int x3), (4, .int x4), (5, .int x5)] []) (a0 : A4 kd NP q0) (a2 : A1 kd NP q2) : ∀ (n : Nat) (x3 : Int32) (x4 : Int32) (G : Mem) (h : itr n (FX4_weeksUntilLaid_49 rec19 q0 q2 x5 x6) (x3, x4, G) = some (r, G')), xX p l e (xR 2 43) s m args below meth c A s.heap D cy ad kd NP 7 0 0 (xQi below D cy ad kd NP A args s r G') G 49 [(0, .ref (ad q0)), (2, .ref (ad q2)), (3, .int x3), (4, .int x4), (5, .int x5), (6, .int x6)] [] := by
  intro n
  induction n with
  | zero =>
    intro x3 x4 G h
    have h : none = some (r, G') := h
    cases h
  | succ n ih =>
    intro x3 x4 G h
    have h : bX4_weeksUntilLaid_49 rec19 q0 q2 x5 x6 (itr n (FX4_weeksUntilLaid_49 rec19 q0 q2 x5 x6)) x3 x4 G = some (r, G') := h
    have hrec49 : ∀ (x3 : Int32) (x4 : Int32) (G : Mem), itr n (FX4_weeksUntilLaid_49 rec19 q0 q2 x5 x6) (x3, x4, G) = some (r, G') → xX p l e (xR 2 43) s m args below meth c A s.heap D cy ad kd NP 7 0 0 (xQi below D cy ad kd NP A args s r G') G 49 [(0, .ref (ad q0)), (2, .ref (ad q2)), (3, .int x3), (4, .int x4), (5, .int x5), (6, .int x6)] [] := fun x3 x4 G h => ih x3 x4 G h
    unfold bX4_weeksUntilLaid_49 at h
    refine xiload C 3 rfl dX4_weeksUntilLaid_49 ?_
    refine xiload C 5 rfl dX4_weeksUntilLaid_51 ?_
    refine xicmp_ge C (tgt := 76) h (by decide) dX4_weeksUntilLaid_53 (fun h => ?_) (fun h => ?_)
    · exact wX4_weeksUntilLaid_76 C q0 q2 x3 x4 x5 x6 hrec19 G a0 a2 h
    · refine xiload_n C 2 rfl rfl dX4_weeksUntilLaid_56 ?_
      refine xsipush C (v := (nI 200)) dX4_weeksUntilLaid_57 (by decide) ?_
      refine xicmp_ge C (tgt := 76) h (by decide) dX4_weeksUntilLaid_60 (fun h => ?_) (fun h => ?_)
      · exact wX4_weeksUntilLaid_76 C q0 q2 x3 x4 x5 x6 hrec19 G a0 a2 h
      · refine xiinc C (v := (x3 + nI 1)) (lv' := [(3, .int (x3 + nI 1)), (0, .ref (ad q0)), (2, .ref (ad q2)), (4, .int x4), (5, .int x5), (6, .int x6)]) 2 rfl rfl (by decide) rfl dX4_weeksUntilLaid_63 ?_
        refine xaload_n C 1 rfl rfl dX4_weeksUntilLaid_66 ?_
        refine xiload_n C 0 rfl rfl dX4_weeksUntilLaid_67 ?_
        obtain ⟨r68, G68, hc68, h⟩ := bd_some h
        refine xVi C (As := [.int (x3 + nI 1)]) (rest := []) (kX4_workAfter a0 hc68) a0.1 rfl rfl w_588 mvX4_workAfter mwX4_workAfter rfl ⟨Nat.le_of_ble_eq_true rfl, Nat.le_of_ble_eq_true rfl⟩ ⟨Nat.le_refl _, Nat.le_refl _⟩ (Nat.le_of_ble_eq_true rfl) dX4_weeksUntilLaid_68 ?_
        refine xistore C (lv' := [(4, .int r68), (3, .int (x3 + nI 1)), (0, .ref (ad q0)), (2, .ref (ad q2)), (5, .int x5), (6, .int x6)]) (by decide) rfl dX4_weeksUntilLaid_71 ?_
        refine xgoto C (tgt := 49) (by decide) dX4_weeksUntilLaid_73 ?_
        refine xsub C (lv' := [(0, .ref (ad q0)), (2, .ref (ad q2)), (3, .int (x3 + nI 1)), (4, .int r68), (5, .int x5), (6, .int x6)]) [2, 3, 1, 0, 4, 5] rfl ?_
        exact hrec49 (x3 + nI 1) r68 G68 h
theorem wX4_weeksUntilLaid_19 {r : Int32} (C : xC p s m args meth c cX4_weeksUntilLaid RX4 7 (some .int) D cy) (q0 : Nat) (q2 : Nat) (a0 : A4 kd NP q0) (a2 : A1 kd NP q2) : ∀ (n : Nat) (x3 : Int32) (x4 : Int32) (x5 : Int32) (G : Mem) (h : itr n (FX4_weeksUntilLaid_19 q0 q2) (x3, x4, x5, G) = some (r, G')), xX p l e (xR 2 43) s m args below meth c A s.heap D cy ad kd NP 7 0 0 (xQi below D cy ad kd NP A args s r G') G 19 [(0, .ref (ad q0)), (2, .ref (ad q2)), (3, .int x3), (4, .int x4), (5, .int x5)] [] := by
  intro n
  induction n with
  | zero =>
    intro x3 x4 x5 G h
    have h : none = some (r, G') := h
    cases h
  | succ n ih =>
    intro x3 x4 x5 G h
    have h : bX4_weeksUntilLaid_19 q0 q2 (itr n (FX4_weeksUntilLaid_19 q0 q2)) x3 x4 x5 G = some (r, G') := h
    have hrec19 : ∀ (x3 : Int32) (x4 : Int32) (x5 : Int32) (G : Mem), itr n (FX4_weeksUntilLaid_19 q0 q2) (x3, x4, x5, G) = some (r, G') → xX p l e (xR 2 43) s m args below meth c A s.heap D cy ad kd NP 7 0 0 (xQi below D cy ad kd NP A args s r G') G 19 [(0, .ref (ad q0)), (2, .ref (ad q2)), (3, .int x3), (4, .int x4), (5, .int x5)] [] := fun x3 x4 x5 G h => ih x3 x4 x5 G h
    unfold bX4_weeksUntilLaid_19 at h
    refine xiload C 4 rfl dX4_weeksUntilLaid_19 ?_
    refine xaload_n C 1 rfl rfl dX4_weeksUntilLaid_21 ?_
    refine xgN_1_length C a2.1 nf_2 dX4_weeksUntilLaid_22 ?_
    refine xicmp_ge C (tgt := 99) h (by decide) dX4_weeksUntilLaid_25 (fun h => ?_) (fun h => ?_)
    · refine xiload_n C 2 rfl rfl dX4_weeksUntilLaid_99 ?_
      obtain ⟨rfl, rfl⟩ := so_2 h
      exact xiret C rfl dX4_weeksUntilLaid_100
    · refine xaload_n C 1 rfl rfl dX4_weeksUntilLaid_28 ?_
      refine xiload C 4 rfl dX4_weeksUntilLaid_29 ?_
      obtain ⟨r31, G31, hc31, h⟩ := bd_some h
      refine xNi C (As := [.int x5]) (rest := []) (kX1_isToLay a2 hc31) a2.1 rfl rfl nm_14 mvX1_isToLay mwX1_isToLay rfl ⟨Nat.le_of_ble_eq_true rfl, Nat.le_of_ble_eq_true rfl⟩ ⟨Nat.le_refl _, Nat.le_refl _⟩ (Nat.le_of_ble_eq_true rfl) dX4_weeksUntilLaid_31 ?_
      refine xif_eq C (tgt := 46) h (by decide) dX4_weeksUntilLaid_34 (fun h => ?_) (fun h => ?_)
      · refine xiconst C (v := (nI 0)) dX4_weeksUntilLaid_46 (by decide) ?_
        refine xistore C (lv' := [(6, .int (nI 0)), (0, .ref (ad q0)), (2, .ref (ad q2)), (3, .int x3), (4, .int x4), (5, .int x5)]) (by decide) rfl dX4_weeksUntilLaid_47 ?_
        refine xsub C (lv' := [(0, .ref (ad q0)), (2, .ref (ad q2)), (3, .int x3), (4, .int x4), (5, .int x5), (6, .int (nI 0))]) [1, 2, 3, 4, 5, 0] rfl ?_
        exact wX4_weeksUntilLaid_49 C q0 q2 x5 (nI 0) hrec19 a0 a2 _ x3 x4 G31 h
      · refine xaload_n C 1 rfl rfl dX4_weeksUntilLaid_37 ?_
        refine xiload C 4 rfl dX4_weeksUntilLaid_38 ?_
        obtain ⟨r40, G40, hc40, h⟩ := bd_some h
        refine xNi C (As := [.int x5]) (rest := []) (kX1_thicknessOf a2 hc40) a2.1 rfl rfl nm_15 mvX1_thicknessOf mwX1_thicknessOf rfl ⟨Nat.le_of_ble_eq_true rfl, Nat.le_of_ble_eq_true rfl⟩ ⟨Nat.le_refl _, Nat.le_refl _⟩ (Nat.le_of_ble_eq_true rfl) dX4_weeksUntilLaid_40 ?_
        refine xgoto C (tgt := 47) (by decide) dX4_weeksUntilLaid_43 ?_
        refine xistore C (lv' := [(6, .int r40), (0, .ref (ad q0)), (2, .ref (ad q2)), (3, .int x3), (4, .int x4), (5, .int x5)]) (by decide) rfl dX4_weeksUntilLaid_47 ?_
        refine xsub C (lv' := [(0, .ref (ad q0)), (2, .ref (ad q2)), (3, .int x3), (4, .int x4), (5, .int x5), (6, .int r40)]) [1, 2, 3, 4, 5, 0] rfl ?_
        exact wX4_weeksUntilLaid_49 C q0 q2 x5 r40 hrec19 a0 a2 _ x3 x4 G40 h
theorem kX4_weeksUntilLaid {r : Int32}  {q0 : Nat} {x1 : Int32} (a0 : A4 kd NP q0) {G : Mem} (h : fX4_weeksUntilLaid q0 x1 G = some (r, G')) : xMi l D cy ad kd NP A yX4_weeksUntilLaid cX4_weeksUntilLaid 7 (some .int) 2 43 [.ref (ad q0), .int x1] G r G' := by
  refine xMi_of trivial (by decide +kernel) (Nat.le_of_ble_eq_true rfl) (fun p e s m args below meth c C => ?_)
  have C : xC p s m args meth c cX4_weeksUntilLaid RX4 7 (some .int) D cy := C
  refine xsub C (lv' := [(0, .ref (ad q0)), (1, .int x1)]) [0, 1] rfl ?_
  unfold fX4_weeksUntilLaid at h
  refine xaload_n C 0 rfl rfl dX4_weeksUntilLaid_0 ?_
  refine xg_4_hedges C a0.1 w_99 dX4_weeksUntilLaid_1 ?_
  refine xiload_n C 1 rfl rfl dX4_weeksUntilLaid_4 ?_
  obtain ⟨hi5, h⟩ := ix_some h
  refine xaa_18 C x1.toNatClampNeg rfl (q0 + 3 + 5 * x1.toNatClampNeg) (by omega) a0.2.1 hi5 dX4_weeksUntilLaid_5 ?_
  refine xastore_n C (lv' := [(2, .ref (ad (q0 + 3 + 5 * x1.toNatClampNeg))), (0, .ref (ad q0)), (1, .int x1)]) rfl (by decide) rfl dX4_weeksUntilLaid_6 ?_
  refine xiconst C (v := (nI 0)) dX4_weeksUntilLaid_7 (by decide) ?_
  refine xistore_n C (lv' := [(3, .int (nI 0)), (2, .ref (ad (q0 + 3 + 5 * x1.toNatClampNeg))), (0, .ref (ad q0)), (1, .int x1)]) rfl (by decide) rfl dX4_weeksUntilLaid_8 ?_
  refine xaload_n C 2 rfl rfl dX4_weeksUntilLaid_9 ?_
  refine xiconst C (v := (nI 0)) dX4_weeksUntilLaid_10 (by decide) ?_
  obtain ⟨r11, G11, hc11, h⟩ := bd_some h
  refine xVi C (As := [.int (nI 0)]) (rest := []) (kX4_workAfter a0 hc11) a0.1 rfl rfl w_588 mvX4_workAfter mwX4_workAfter rfl ⟨Nat.le_of_ble_eq_true rfl, Nat.le_of_ble_eq_true rfl⟩ ⟨Nat.le_refl _, Nat.le_refl _⟩ (Nat.le_of_ble_eq_true rfl) dX4_weeksUntilLaid_11 ?_
  refine xistore C (lv' := [(4, .int r11), (3, .int (nI 0)), (2, .ref (ad (q0 + 3 + 5 * x1.toNatClampNeg))), (0, .ref (ad q0)), (1, .int x1)]) (by decide) rfl dX4_weeksUntilLaid_14 ?_
  refine xiconst C (v := (nI 0)) dX4_weeksUntilLaid_16 (by decide) ?_
  refine xistore C (lv' := [(5, .int (nI 0)), (4, .int r11), (3, .int (nI 0)), (2, .ref (ad (q0 + 3 + 5 * x1.toNatClampNeg))), (0, .ref (ad q0)), (1, .int x1)]) (by decide) rfl dX4_weeksUntilLaid_17 ?_
  refine xsub C (lv' := [(0, .ref (ad q0)), (2, .ref (ad (q0 + 3 + 5 * x1.toNatClampNeg))), (3, .int (nI 0)), (4, .int r11), (5, .int (nI 0))]) [4, 3, 2, 1, 0] rfl ?_
  exact wX4_weeksUntilLaid_19 C q0 (q0 + 3 + 5 * x1.toNatClampNeg) a0 (a0.2.2.2.1 x1.toNatClampNeg (vp_lt hi5)) _ (nI 0) r11 (nI 0) G11 h
/-- HedgeChains$Land.weeksOfWork(I)I -/
theorem kX4_weeksOfWork {r : Int32}  {q0 : Nat} {x1 : Int32} (a0 : A4 kd NP q0) {G : Mem} (h : fX4_weeksOfWork q0 x1 G = some (r, G')) : xMi l D cy ad kd NP A yX4_weeksOfWork cX4_weeksOfWork 2 (some .int) 3 64 [.ref (ad q0), .int x1] G r G' := by
  refine xMi_of trivial (by decide +kernel) (Nat.le_of_ble_eq_true rfl) (fun p e s m args below meth c C => ?_)
  have C : xC p s m args meth c cX4_weeksOfWork RX4 2 (some .int) D cy := C
  refine xsub C (lv' := [(0, .ref (ad q0)), (1, .int x1)]) [0, 1] rfl ?_
  unfold fX4_weeksOfWork at h
  refine xaload_n C 0 rfl rfl dX4_weeksOfWork_0 ?_
  refine xg_4_hedges C a0.1 w_99 dX4_weeksOfWork_1 ?_
  refine xiload_n C 1 rfl rfl dX4_weeksOfWork_4 ?_
  obtain ⟨hi5, h⟩ := ix_some h
  refine xaa_18 C x1.toNatClampNeg rfl (q0 + 3 + 5 * x1.toNatClampNeg) (by omega) a0.2.1 hi5 dX4_weeksOfWork_5 ?_
  obtain ⟨r6, G6, hc6, h⟩ := bd_some h
  refine xNi C (As := []) (rest := []) (kX1_workToLay (a0.2.2.2.1 x1.toNatClampNeg (vp_lt hi5)) hc6) ((a0.2.2.2.1 x1.toNatClampNeg (vp_lt hi5)).1) rfl rfl nm_59 mvX1_workToLay mwX1_workToLay rfl ⟨Nat.le_of_ble_eq_true rfl, Nat.le_of_ble_eq_true rfl⟩ ⟨Nat.le_refl _, Nat.le_refl _⟩ (Nat.le_of_ble_eq_true rfl) dX4_weeksOfWork_6 ?_
  refine xaload_n C 0 rfl rfl dX4_weeksOfWork_9 ?_
  refine xg_4_strength C a0.1 w_109 dX4_weeksOfWork_10 ?_
  refine xiadd C dX4_weeksOfWork_13 ?_
  refine xiconst C (v := (nI 1)) dX4_weeksOfWork_14 (by decide) ?_
  refine xisub C dX4_weeksOfWork_15 ?_
  refine xaload_n C 0 rfl rfl dX4_weeksOfWork_16 ?_
  refine xg_4_strength C a0.1 w_109 dX4_weeksOfWork_17 ?_
  refine xiconst C (v := (nI 1)) dX4_weeksOfWork_20 (by decide) ?_
  refine xmmax C w_436 w_437 w_12 w_438 ⟨Nat.le_of_ble_eq_true rfl, Nat.le_of_ble_eq_true rfl⟩ ⟨Nat.le_refl _, Nat.le_refl _⟩ dX4_weeksOfWork_21 ?_
  obtain ⟨hn24, h⟩ := nz_some h
  refine xidiv C dX4_weeksOfWork_24 hn24 ?_
  obtain ⟨rfl, rfl⟩ := so_2 h
  exact xiret C rfl dX4_weeksOfWork_25
end
