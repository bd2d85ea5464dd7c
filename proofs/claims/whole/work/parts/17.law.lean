section
variable {p : Program} {l : Launch} {e : Env} {s : State} {m : MethodId} {args : Array Value} {below : List Frame} {meth : Method} {c : Code} {D : va_G} {cy : xCy} {ad kd : Nat → Nat} {NP : Nat} {G G' : Mem} {b L : Nat} {xs : Nat → Int32} {pc : Nat} {lv : List (Nat × Value)} {rest : List Value}
theorem xsld (C : xC p s m #[Value.ref b] meth c code RL 4 ret D cy) (hX : va_X b L xs s s.heap) (hbl : b < s.heap.size) {i : Int32} (hin : vp_in i L) (d : decode code pc = .ok (.iaload, 1)) (k : xX p l e room_1 s m #[Value.ref b] below meth c (fun q => s.heap.size ≤ q) s.heap D cy ad kd NP 4 600000 7302250 (lw_Z below #[Value.ref b] s) G (pc + 1) lv (.int (xs i.toNatClampNeg) :: rest)) : xX p l e room_1 s m #[Value.ref b] below meth c (fun q => s.heap.size ≤ q) s.heap D cy ad kd NP 4 600000 7302250 (lw_Z below #[Value.ref b] s) G pc lv (.int i :: .ref b :: rest) := by
  obtain ⟨hx, hb, hml, hown, hts, hK, hN, hr, hlk⟩ := C
  intro H locs ls hP hD hS hl
  exact va_sld hx hb hX hbl (Nat.not_le.mpr hbl) hS hin d (k H locs ls hP hD hS hl)
theorem xslen (C : xC p s m #[Value.ref b] meth c code RL 4 ret D cy) (hX : va_X b L xs s s.heap) (hbl : b < s.heap.size) (d : decode code pc = .ok (.arraylength, 1)) (k : xX p l e room_1 s m #[Value.ref b] below meth c (fun q => s.heap.size ≤ q) s.heap D cy ad kd NP 4 600000 7302250 (lw_Z below #[Value.ref b] s) G (pc + 1) lv (.int (Int32.ofNat L) :: rest)) : xX p l e room_1 s m #[Value.ref b] below meth c (fun q => s.heap.size ≤ q) s.heap D cy ad kd NP 4 600000 7302250 (lw_Z below #[Value.ref b] s) G pc lv (.ref b :: rest) := by
  obtain ⟨hx, hb, hml, hown, hts, hK, hN, hr, hlk⟩ := C
  intro H locs ls hP hD hS hl
  exact va_slen hx hb hX hbl (Nat.not_le.mpr hbl) hS d (k H locs ls hP hD hS hl)
theorem xlret (C : xC p s m #[Value.ref b] meth c code RL 4 ret D cy) (d : decode code pc = .ok (.ireturn, 1)) : xX p l e room_1 s m #[Value.ref b] below meth c (fun q => s.heap.size ≤ q) s.heap D cy ad kd NP 4 600000 7302250 (lw_Z below #[Value.ref b] s) G pc lv [.int 1] := by
  obtain ⟨hx, hb, hml, hown, hts, hK, hN, hr, hlk⟩ := C
  intro H locs ls hP hD hS hl
  refine va_forget (fun q hq => hS.2.2 q hq) ?_
  exact lw_ret hx hb hr hlk d
def bL (L : Nat) (xs : Nat → Int32) (rec18 : (Int32 × Mem) → Option Mem) (x3 : Int32) (G : Mem) : Option Mem := (if ((nI L) - (nI 5)) < x3 then some G else ix x3 L ((if ((xs x3.toNatClampNeg) &&& (nI 31)) = nI 0 then ix (x3 + (nI 1)) L (ix (x3 + (nI 2)) L (ix (x3 + (nI 3)) L (bd (fX8_lay 0 (xs (x3 + (nI 1)).toNatClampNeg) (xs (x3 + (nI 2)).toNatClampNeg) (xs (x3 + (nI 3)).toNatClampNeg) G) (fun r152 G152 => ix (x3 + (nI 1)) L (ix (x3 + (nI 2)) L (ix (x3 + (nI 3)) L (bd (fX9_lay 627 (xs (x3 + (nI 1)).toNatClampNeg) (xs (x3 + (nI 2)).toNatClampNeg) (xs (x3 + (nI 3)).toNatClampNeg) G152) (fun r171 G171 => (if r152 = r171 then rec18 ((x3 + nI 5), G171) else none))))))))) else (if ((xs x3.toNatClampNeg) &&& (nI 31)) = nI 1 then ix (x3 + (nI 1)) L (ix (x3 + (nI 2)) L (bd (fX8_cut 0 (xs (x3 + (nI 1)).toNatClampNeg) (xs (x3 + (nI 2)).toNatClampNeg) G) (fun r190 G190 => ix (x3 + (nI 1)) L (ix (x3 + (nI 2)) L (bd (fX9_cut 627 (xs (x3 + (nI 1)).toNatClampNeg) (xs (x3 + (nI 2)).toNatClampNeg) G190) (fun r204 G204 => (if r190 = r204 then rec18 ((x3 + nI 5), G204) else none))))))) else (if ((xs x3.toNatClampNeg) &&& (nI 31)) = nI 2 then ix (x3 + (nI 1)) L (ix (x3 + (nI 2)) L (bd (fX8_plant 0 (xs (x3 + (nI 1)).toNatClampNeg) (xs (x3 + (nI 2)).toNatClampNeg) G) (fun r223 G223 => ix (x3 + (nI 1)) L (ix (x3 + (nI 2)) L (bd (fX9_plant 627 (xs (x3 + (nI 1)).toNatClampNeg) (xs (x3 + (nI 2)).toNatClampNeg) G223) (fun r237 G237 => (if r223 = r237 then rec18 ((x3 + nI 5), G237) else none))))))) else (if ((xs x3.toNatClampNeg) &&& (nI 31)) = nI 3 then ix (x3 + (nI 1)) L (ix (x3 + (nI 2)) L (bd (fX8_grub 0 (xs (x3 + (nI 1)).toNatClampNeg) (xs (x3 + (nI 2)).toNatClampNeg) G) (fun r256 G256 => ix (x3 + (nI 1)) L (ix (x3 + (nI 2)) L (bd (fX9_grub 627 (xs (x3 + (nI 1)).toNatClampNeg) (xs (x3 + (nI 2)).toNatClampNeg) G256) (fun r270 G270 => (if r256 = r270 then rec18 ((x3 + nI 5), G270) else none))))))) else (if ((xs x3.toNatClampNeg) &&& (nI 31)) = nI 4 then ix (x3 + (nI 1)) L (bd (fX8_pass 0 (xs (x3 + (nI 1)).toNatClampNeg) G) (fun r284 G284 => ix (x3 + (nI 1)) L (bd (fX9_pass 627 (xs (x3 + (nI 1)).toNatClampNeg) G284) (fun r293 G293 => (if r284 = r293 then rec18 ((x3 + nI 5), G293) else none))))) else (if ((xs x3.toNatClampNeg) &&& (nI 31)) = nI 5 then ix (x3 + (nI 1)) L (ix (x3 + (nI 2)) L (bd (fX8_set 0 (xs (x3 + (nI 1)).toNatClampNeg) (xs (x3 + (nI 2)).toNatClampNeg) G) (fun r312 G312 => ix (x3 + (nI 1)) L (ix (x3 + (nI 2)) L (bd (fX9_set 627 (xs (x3 + (nI 1)).toNatClampNeg) (xs (x3 + (nI 2)).toNatClampNeg) G312) (fun r326 G326 => (if r312 = r326 then rec18 ((x3 + nI 5), G326) else none))))))) else (if ((xs x3.toNatClampNeg) &&& (nI 31)) = nI 6 then ix (x3 + (nI 1)) L (ix (x3 + (nI 2)) L (ix (x3 + (nI 3)) L (ix (x3 + (nI 4)) L (bd (fX8_contract 0 (xs (x3 + (nI 1)).toNatClampNeg) (xs (x3 + (nI 2)).toNatClampNeg) (xs (x3 + (nI 3)).toNatClampNeg) (xs (x3 + (nI 4)).toNatClampNeg) G) (fun r355 G355 => ix (x3 + (nI 1)) L (ix (x3 + (nI 2)) L (ix (x3 + (nI 3)) L (ix (x3 + (nI 4)) L (bd (fX9_contract 627 (xs (x3 + (nI 1)).toNatClampNeg) (xs (x3 + (nI 2)).toNatClampNeg) (xs (x3 + (nI 3)).toNatClampNeg) (xs (x3 + (nI 4)).toNatClampNeg) G355) (fun r379 G379 => (if r355 = r379 then rec18 ((x3 + nI 5), G379) else none))))))))))) else (if ((xs x3.toNatClampNeg) &&& (nI 31)) = nI 7 then ix (x3 + (nI 1)) L (bd (fX8_giveBack 0 (xs (x3 + (nI 1)).toNatClampNeg) G) (fun r393 G393 => ix (x3 + (nI 1)) L (bd (fX9_giveBack 627 (xs (x3 + (nI 1)).toNatClampNeg) G393) (fun r402 G402 => (if r393 = r402 then rec18 ((x3 + nI 5), G402) else none))))) else (if ((xs x3.toNatClampNeg) &&& (nI 31)) = nI 8 then bd (fX8_payDebt 0 G) (fun r411 G411 => bd (fX9_payDebt 627 G411) (fun r415 G415 => (if r411 = r415 then rec18 ((x3 + nI 5), G415) else none))) else (if ((xs x3.toNatClampNeg) &&& (nI 31)) = nI 9 then ix (x3 + (nI 1)) L (bd (fX8_take 0 (xs (x3 + (nI 1)).toNatClampNeg) G) (fun r429 G429 => ix (x3 + (nI 1)) L (bd (fX9_take 627 (xs (x3 + (nI 1)).toNatClampNeg) G429) (fun r438 G438 => (if r429 = r438 then rec18 ((x3 + nI 5), G438) else none))))) else (if ((xs x3.toNatClampNeg) &&& (nI 31)) = nI 10 then ix (x3 + (nI 1)) L (bd (fX8_restore 0 (xs (x3 + (nI 1)).toNatClampNeg) G) (fun r452 G452 => ix (x3 + (nI 1)) L (bd (fX9_restore 627 (xs (x3 + (nI 1)).toNatClampNeg) G452) (fun r461 G461 => (if r452 = r461 then rec18 ((x3 + nI 5), G461) else none))))) else (if ((xs x3.toNatClampNeg) &&& (nI 31)) = nI 11 then bd (fX8_undo 0 G) (fun r470 G470 => bd (fX9_undo 627 G470) (fun r474 G474 => (if r470 = r474 then rec18 ((x3 + nI 5), G474) else none))) else (if ((xs x3.toNatClampNeg) &&& (nI 31)) = nI 12 then ix (x3 + (nI 1)) L (bd (fX8_append 0 (xs (x3 + (nI 1)).toNatClampNeg) G) (fun r488 G488 => ix (x3 + (nI 1)) L (bd (fX9_append 627 (xs (x3 + (nI 1)).toNatClampNeg) G488) (fun r497 G497 => (if r488 = r497 then rec18 ((x3 + nI 5), G497) else none))))) else (if ((xs x3.toNatClampNeg) &&& (nI 31)) = nI 13 then bd (fX8_clearText 0 G) (fun r506 G506 => bd (fX9_clearText 627 G506) (fun r510 G510 => (if r506 = r510 then rec18 ((x3 + nI 5), G510) else none))) else (if ((xs x3.toNatClampNeg) &&& (nI 31)) = nI 14 then ix (x3 + (nI 1)) L (bd (fX8_read 0 (xs (x3 + (nI 1)).toNatClampNeg) G) (fun r524 G524 => ix (x3 + (nI 1)) L (bd (fX9_read 627 (xs (x3 + (nI 1)).toNatClampNeg) G524) (fun r533 G533 => (if r524 = r533 then rec18 ((x3 + nI 5), G533) else none))))) else (if ((xs x3.toNatClampNeg) &&& (nI 31)) = nI 15 then ix (x3 + (nI 1)) L (bd (fX8_count 0 (xs (x3 + (nI 1)).toNatClampNeg) G) (fun r547 G547 => ix (x3 + (nI 1)) L (bd (fX9_count 627 (xs (x3 + (nI 1)).toNatClampNeg) G547) (fun r556 G556 => (if r547 = r556 then rec18 ((x3 + nI 5), G556) else none))))) else (if ((xs x3.toNatClampNeg) &&& (nI 31)) = nI 16 then ix (x3 + (nI 1)) L (ix (x3 + (nI 2)) L (bd (fX8_field 0 (xs (x3 + (nI 1)).toNatClampNeg) (xs (x3 + (nI 2)).toNatClampNeg) G) (fun r575 G575 => ix (x3 + (nI 1)) L (ix (x3 + (nI 2)) L (bd (fX9_field 627 (xs (x3 + (nI 1)).toNatClampNeg) (xs (x3 + (nI 2)).toNatClampNeg) G575) (fun r589 G589 => (if r575 = r589 then rec18 ((x3 + nI 5), G589) else none))))))) else (if ((xs x3.toNatClampNeg) &&& (nI 31)) = nI 17 then ix (x3 + (nI 1)) L (ix (x3 + (nI 2)) L (ix (x3 + (nI 3)) L (bd (fX8_chain 0 (xs (x3 + (nI 1)).toNatClampNeg) (xs (x3 + (nI 2)).toNatClampNeg) (xs (x3 + (nI 3)).toNatClampNeg) G) (fun r613 G613 => ix (x3 + (nI 1)) L (ix (x3 + (nI 2)) L (ix (x3 + (nI 3)) L (bd (fX9_chain 627 (xs (x3 + (nI 1)).toNatClampNeg) (xs (x3 + (nI 2)).toNatClampNeg) (xs (x3 + (nI 3)).toNatClampNeg) G613) (fun r632 G632 => (if r613 = r632 then rec18 ((x3 + nI 5), G632) else none))))))))) else (if ((xs x3.toNatClampNeg) &&& (nI 31)) = nI 18 then ix (x3 + (nI 1)) L (ix (x3 + (nI 2)) L (bd (fX8_toLay 0 (xs (x3 + (nI 1)).toNatClampNeg) (xs (x3 + (nI 2)).toNatClampNeg) G) (fun r651 G651 => ix (x3 + (nI 1)) L (ix (x3 + (nI 2)) L (bd (fX9_toLay 627 (xs (x3 + (nI 1)).toNatClampNeg) (xs (x3 + (nI 2)).toNatClampNeg) G651) (fun r665 G665 => (if r651 = r665 then rec18 ((x3 + nI 5), G665) else none))))))) else (if ((xs x3.toNatClampNeg) &&& (nI 31)) = nI 19 then ix (x3 + (nI 1)) L (bd (fX8_stakesIn 0 (xs (x3 + (nI 1)).toNatClampNeg) G) (fun r679 G679 => ix (x3 + (nI 1)) L (bd (fX9_stakesIn 627 (xs (x3 + (nI 1)).toNatClampNeg) G679) (fun r688 G688 => (if r679 = r688 then rec18 ((x3 + nI 5), G688) else none))))) else (if ((xs x3.toNatClampNeg) &&& (nI 31)) = nI 20 then ix (x3 + (nI 1)) L (bd (fX8_doneIn 0 (xs (x3 + (nI 1)).toNatClampNeg) G) (fun r702 G702 => ix (x3 + (nI 1)) L (bd (fX9_doneIn 627 (xs (x3 + (nI 1)).toNatClampNeg) G702) (fun r711 G711 => (if r702 = r711 then rec18 ((x3 + nI 5), G711) else none))))) else (if ((xs x3.toNatClampNeg) &&& (nI 31)) = nI 21 then ix (x3 + (nI 1)) L (bd (fX8_bestOrder 0 (xs (x3 + (nI 1)).toNatClampNeg) G) (fun r725 G725 => ix (x3 + (nI 1)) L (bd (fX9_bestOrder 627 (xs (x3 + (nI 1)).toNatClampNeg) G725) (fun r734 G734 => (if r725 = r734 then rec18 ((x3 + nI 5), G734) else none))))) else rec18 ((x3 + nI 5), G)))))))))))))))))))))))))
def FL (L : Nat) (xs : Nat → Int32) : ((Int32 × Mem) → Option Mem) → (Int32 × Mem) → Option Mem := fun rec x => bL L xs rec x.1 x.2
set_option maxHeartbeats 4000000 in
theorem wL_18 (C : xC p s m #[Value.ref b] meth c code RL 4 ret D cy) (hX : va_X b L xs s s.heap) (hbl : b < s.heap.size) (a1 : A8 kd NP 0) (a2 : A9 kd NP 627) : ∀ (n : Nat) (x3 : Int32) (G : Mem) (h : itr n (FL L xs) (x3, G) = some G'), xX p l e room_1 s m #[Value.ref b] below meth c (fun q => s.heap.size ≤ q) s.heap D cy ad kd NP 4 600000 7302250 (lw_Z below #[Value.ref b] s) G 18 [(0, .ref b), (1, .ref (ad 0)), (2, .ref (ad 627)), (3, .int x3)] [] := by
  intro n
  induction n with
  | zero =>
    intro x3 G h
    have h : none = some G' := h
    cases h
  | succ n ih =>
    intro x3 G h
    have h : bL L xs (itr n (FL L xs)) x3 G = some G' := h
    have hrec18 : ∀ (x3 : Int32) (G : Mem), itr n (FL L xs) (x3, G) = some G' → xX p l e room_1 s m #[Value.ref b] below meth c (fun q => s.heap.size ≤ q) s.heap D cy ad kd NP 4 600000 7302250 (lw_Z below #[Value.ref b] s) G 18 [(0, .ref b), (1, .ref (ad 0)), (2, .ref (ad 627)), (3, .int x3)] [] := fun x3 G h => ih x3 G h
    unfold bL at h
    refine xiload_n C 3 rfl rfl dL_law_18 ?_
    refine xaload_n C 0 rfl rfl dL_law_19 ?_
    refine xslen C hX hbl dL_law_20 ?_
    refine xiconst C (v := (nI 5)) dL_law_21 (by decide) ?_
    refine xisub C dL_law_22 ?_
    refine xicmp_gt C (tgt := 748) h (by decide) dL_law_23 (fun h => ?_) (fun h => ?_)
    · refine xiconst C (v := (nI 1)) dL_law_748 (by decide) ?_
      exact xlret C dL_law_749
    · refine xaload_n C 0 rfl rfl dL_law_26 ?_
      refine xiload_n C 3 rfl rfl dL_law_27 ?_
      obtain ⟨hi28, h⟩ := ix_some h
      refine xsld C hX hbl hi28 dL_law_28 ?_
      refine xbipush C (v := (nI 31)) dL_law_29 (by decide) ?_
      refine xiand C dL_law_31 ?_
      rcases if_some h with ⟨hs32_0, h⟩ | ⟨hs32_0, h⟩
      · refine xtab C (tgt := 136) (nI 0) hs32_0 (by decide) (by decide) rfl (by decide) dL_law_32 ?_
        refine xaload_n C 1 rfl rfl dL_law_136 ?_
        refine xaload_n C 0 rfl rfl dL_law_137 ?_
        refine xiload_n C 3 rfl rfl dL_law_138 ?_
        refine xiconst C (v := (nI 1)) dL_law_139 (by decide) ?_
        refine xiadd C dL_law_140 ?_
        obtain ⟨hi141, h⟩ := ix_some h
        refine xsld C hX hbl hi141 dL_law_141 ?_
        refine xaload_n C 0 rfl rfl dL_law_142 ?_
        refine xiload_n C 3 rfl rfl dL_law_143 ?_
        refine xiconst C (v := (nI 2)) dL_law_144 (by decide) ?_
        refine xiadd C dL_law_145 ?_
        obtain ⟨hi146, h⟩ := ix_some h
        refine xsld C hX hbl hi146 dL_law_146 ?_
        refine xaload_n C 0 rfl rfl dL_law_147 ?_
        refine xiload_n C 3 rfl rfl dL_law_148 ?_
        refine xiconst C (v := (nI 3)) dL_law_149 (by decide) ?_
        refine xiadd C dL_law_150 ?_
        obtain ⟨hi151, h⟩ := ix_some h
        refine xsld C hX hbl hi151 dL_law_151 ?_
        obtain ⟨r152, G152, hc152, h⟩ := bd_some h
        refine xVi C (As := [.int (xs (x3 + (nI 1)).toNatClampNeg), .int (xs (x3 + (nI 2)).toNatClampNeg), .int (xs (x3 + (nI 3)).toNatClampNeg)]) (rest := []) (kX8_lay a1 hc152) a1.1 rfl rfl w_270 mvX8_lay mwX8_lay rfl ⟨Nat.le_of_ble_eq_true rfl, Nat.le_of_ble_eq_true rfl⟩ ⟨Nat.le_refl _, Nat.le_refl _⟩ (Nat.le_of_ble_eq_true rfl) dL_law_152 ?_
        refine xaload_n C 2 rfl rfl dL_law_155 ?_
        refine xaload_n C 0 rfl rfl dL_law_156 ?_
        refine xiload_n C 3 rfl rfl dL_law_157 ?_
        refine xiconst C (v := (nI 1)) dL_law_158 (by decide) ?_
        refine xiadd C dL_law_159 ?_
        obtain ⟨hi160, h⟩ := ix_some h
        refine xsld C hX hbl hi160 dL_law_160 ?_
        refine xaload_n C 0 rfl rfl dL_law_161 ?_
        refine xiload_n C 3 rfl rfl dL_law_162 ?_
        refine xiconst C (v := (nI 2)) dL_law_163 (by decide) ?_
        refine xiadd C dL_law_164 ?_
        obtain ⟨hi165, h⟩ := ix_some h
        refine xsld C hX hbl hi165 dL_law_165 ?_
        refine xaload_n C 0 rfl rfl dL_law_166 ?_
        refine xiload_n C 3 rfl rfl dL_law_167 ?_
        refine xiconst C (v := (nI 3)) dL_law_168 (by decide) ?_
        refine xiadd C dL_law_169 ?_
        obtain ⟨hi170, h⟩ := ix_some h
        refine xsld C hX hbl hi170 dL_law_170 ?_
        obtain ⟨r171, G171, hc171, h⟩ := bd_some h
        refine xVi C (As := [.int (xs (x3 + (nI 1)).toNatClampNeg), .int (xs (x3 + (nI 2)).toNatClampNeg), .int (xs (x3 + (nI 3)).toNatClampNeg)]) (rest := [.int r152]) (kX9_lay a2 hc171) a2.1 rfl rfl w_677 mvX9_lay mwX9_lay rfl ⟨Nat.le_of_ble_eq_true rfl, Nat.le_of_ble_eq_true rfl⟩ ⟨Nat.le_refl _, Nat.le_refl _⟩ (Nat.le_of_ble_eq_true rfl) dL_law_171 ?_
        refine xicmp_eq C (tgt := 742) h (by decide) dL_law_174 (fun h => ?_) (fun h => ?_)
        · refine xiinc C (v := (x3 + nI 5)) (lv' := [(3, .int (x3 + nI 5)), (0, .ref b), (1, .ref (ad 0)), (2, .ref (ad 627))]) 3 rfl rfl (by decide) rfl dL_law_742 ?_
          refine xgoto C (tgt := 18) (by decide) dL_law_745 ?_
          refine xsub C (lv' := [(0, .ref b), (1, .ref (ad 0)), (2, .ref (ad 627)), (3, .int (x3 + nI 5))]) [1, 2, 3, 0] rfl ?_
          exact hrec18 (x3 + nI 5) G171 h
        · refine xiconst C (v := (nI 0)) dL_law_177 (by decide) ?_
          cases h
      rcases if_some h with ⟨hs32_1, h⟩ | ⟨hs32_1, h⟩
      · refine xtab C (tgt := 179) (nI 1) hs32_1 (by decide) (by decide) rfl (by decide) dL_law_32 ?_
        refine xaload_n C 1 rfl rfl dL_law_179 ?_
        refine xaload_n C 0 rfl rfl dL_law_180 ?_
        refine xiload_n C 3 rfl rfl dL_law_181 ?_
        refine xiconst C (v := (nI 1)) dL_law_182 (by decide) ?_
        refine xiadd C dL_law_183 ?_
        obtain ⟨hi184, h⟩ := ix_some h
        refine xsld C hX hbl hi184 dL_law_184 ?_
        refine xaload_n C 0 rfl rfl dL_law_185 ?_
        refine xiload_n C 3 rfl rfl dL_law_186 ?_
        refine xiconst C (v := (nI 2)) dL_law_187 (by decide) ?_
        refine xiadd C dL_law_188 ?_
        obtain ⟨hi189, h⟩ := ix_some h
        refine xsld C hX hbl hi189 dL_law_189 ?_
        obtain ⟨r190, G190, hc190, h⟩ := bd_some h
        refine xVi C (As := [.int (xs (x3 + (nI 1)).toNatClampNeg), .int (xs (x3 + (nI 2)).toNatClampNeg)]) (rest := []) (kX8_cut a1 hc190) a1.1 rfl rfl w_344 mvX8_cut mwX8_cut rfl ⟨Nat.le_of_ble_eq_true rfl, Nat.le_of_ble_eq_true rfl⟩ ⟨Nat.le_refl _, Nat.le_refl _⟩ (Nat.le_of_ble_eq_true rfl) dL_law_190 ?_
        refine xaload_n C 2 rfl rfl dL_law_193 ?_
        refine xaload_n C 0 rfl rfl dL_law_194 ?_
        refine xiload_n C 3 rfl rfl dL_law_195 ?_
        refine xiconst C (v := (nI 1)) dL_law_196 (by decide) ?_
        refine xiadd C dL_law_197 ?_
        obtain ⟨hi198, h⟩ := ix_some h
        refine xsld C hX hbl hi198 dL_law_198 ?_
        refine xaload_n C 0 rfl rfl dL_law_199 ?_
        refine xiload_n C 3 rfl rfl dL_law_200 ?_
        refine xiconst C (v := (nI 2)) dL_law_201 (by decide) ?_
        refine xiadd C dL_law_202 ?_
        obtain ⟨hi203, h⟩ := ix_some h
        refine xsld C hX hbl hi203 dL_law_203 ?_
        obtain ⟨r204, G204, hc204, h⟩ := bd_some h
        refine xVi C (As := [.int (xs (x3 + (nI 1)).toNatClampNeg), .int (xs (x3 + (nI 2)).toNatClampNeg)]) (rest := [.int r190]) (kX9_cut a2 hc204) a2.1 rfl rfl w_727 mvX9_cut mwX9_cut rfl ⟨Nat.le_of_ble_eq_true rfl, Nat.le_of_ble_eq_true rfl⟩ ⟨Nat.le_refl _, Nat.le_refl _⟩ (Nat.le_of_ble_eq_true rfl) dL_law_204 ?_
        refine xicmp_eq C (tgt := 742) h (by decide) dL_law_207 (fun h => ?_) (fun h => ?_)
        · refine xiinc C (v := (x3 + nI 5)) (lv' := [(3, .int (x3 + nI 5)), (0, .ref b), (1, .ref (ad 0)), (2, .ref (ad 627))]) 3 rfl rfl (by decide) rfl dL_law_742 ?_
          refine xgoto C (tgt := 18) (by decide) dL_law_745 ?_
          refine xsub C (lv' := [(0, .ref b), (1, .ref (ad 0)), (2, .ref (ad 627)), (3, .int (x3 + nI 5))]) [1, 2, 3, 0] rfl ?_
          exact hrec18 (x3 + nI 5) G204 h
        · refine xiconst C (v := (nI 0)) dL_law_210 (by decide) ?_
          cases h
      rcases if_some h with ⟨hs32_2, h⟩ | ⟨hs32_2, h⟩
      · refine xtab C (tgt := 212) (nI 2) hs32_2 (by decide) (by decide) rfl (by decide) dL_law_32 ?_
        refine xaload_n C 1 rfl rfl dL_law_212 ?_
        refine xaload_n C 0 rfl rfl dL_law_213 ?_
        refine xiload_n C 3 rfl rfl dL_law_214 ?_
        refine xiconst C (v := (nI 1)) dL_law_215 (by decide) ?_
        refine xiadd C dL_law_216 ?_
        obtain ⟨hi217, h⟩ := ix_some h
        refine xsld C hX hbl hi217 dL_law_217 ?_
        refine xaload_n C 0 rfl rfl dL_law_218 ?_
        refine xiload_n C 3 rfl rfl dL_law_219 ?_
        refine xiconst C (v := (nI 2)) dL_law_220 (by decide) ?_
        refine xiadd C dL_law_221 ?_
        obtain ⟨hi222, h⟩ := ix_some h
        refine xsld C hX hbl hi222 dL_law_222 ?_
        obtain ⟨r223, G223, hc223, h⟩ := bd_some h
        refine xVi C (As := [.int (xs (x3 + (nI 1)).toNatClampNeg), .int (xs (x3 + (nI 2)).toNatClampNeg)]) (rest := []) (kX8_plant a1 hc223) a1.1 rfl rfl w_360 mvX8_plant mwX8_plant rfl ⟨Nat.le_of_ble_eq_true rfl, Nat.le_of_ble_eq_true rfl⟩ ⟨Nat.le_refl _, Nat.le_refl _⟩ (Nat.le_of_ble_eq_true rfl) dL_law_223 ?_
        refine xaload_n C 2 rfl rfl dL_law_226 ?_
        refine xaload_n C 0 rfl rfl dL_law_227 ?_
        refine xiload_n C 3 rfl rfl dL_law_228 ?_
        refine xiconst C (v := (nI 1)) dL_law_229 (by decide) ?_
        refine xiadd C dL_law_230 ?_
        obtain ⟨hi231, h⟩ := ix_some h
        refine xsld C hX hbl hi231 dL_law_231 ?_
        refine xaload_n C 0 rfl rfl dL_law_232 ?_
        refine xiload_n C 3 rfl rfl dL_law_233 ?_
        refine xiconst C (v := (nI 2)) dL_law_234 (by decide) ?_
        refine xiadd C dL_law_235 ?_
        obtain ⟨hi236, h⟩ := ix_some h
        refine xsld C hX hbl hi236 dL_law_236 ?_
        obtain ⟨r237, G237, hc237, h⟩ := bd_some h
        refine xVi C (As := [.int (xs (x3 + (nI 1)).toNatClampNeg), .int (xs (x3 + (nI 2)).toNatClampNeg)]) (rest := [.int r223]) (kX9_plant a2 hc237) a2.1 rfl rfl w_731 mvX9_plant mwX9_plant rfl ⟨Nat.le_of_ble_eq_true rfl, Nat.le_of_ble_eq_true rfl⟩ ⟨Nat.le_refl _, Nat.le_refl _⟩ (Nat.le_of_ble_eq_true rfl) dL_law_237 ?_
        refine xicmp_eq C (tgt := 742) h (by decide) dL_law_240 (fun h => ?_) (fun h => ?_)
        · refine xiinc C (v := (x3 + nI 5)) (lv' := [(3, .int (x3 + nI 5)), (0, .ref b), (1, .ref (ad 0)), (2, .ref (ad 627))]) 3 rfl rfl (by decide) rfl dL_law_742 ?_
          refine xgoto C (tgt := 18) (by decide) dL_law_745 ?_
          refine xsub C (lv' := [(0, .ref b), (1, .ref (ad 0)), (2, .ref (ad 627)), (3, .int (x3 + nI 5))]) [1, 2, 3, 0] rfl ?_
          exact hrec18 (x3 + nI 5) G237 h
        · refine xiconst C (v := (nI 0)) dL_law_243 (by decide) ?_
          cases h
      rcases if_some h with ⟨hs32_3, h⟩ | ⟨hs32_3, h⟩
      · refine xtab C (tgt := 245) (nI 3) hs32_3 (by decide) (by decide) rfl (by decide) dL_law_32 ?_
        refine xaload_n C 1 rfl rfl dL_law_245 ?_
        refine xaload_n C 0 rfl rfl dL_law_246 ?_
        refine xiload_n C 3 rfl rfl dL_law_247 ?_
        refine xiconst C (v := (nI 1)) dL_law_248 (by decide) ?_
        refine xiadd C dL_law_249 ?_
        obtain ⟨hi250, h⟩ := ix_some h
        refine xsld C hX hbl hi250 dL_law_250 ?_
        refine xaload_n C 0 rfl rfl dL_law_251 ?_
        refine xiload_n C 3 rfl rfl dL_law_252 ?_
        refine xiconst C (v := (nI 2)) dL_law_253 (by decide) ?_
        refine xiadd C dL_law_254 ?_
        obtain ⟨hi255, h⟩ := ix_some h
        refine xsld C hX hbl hi255 dL_law_255 ?_
        obtain ⟨r256, G256, hc256, h⟩ := bd_some h
        refine xVi C (As := [.int (xs (x3 + (nI 1)).toNatClampNeg), .int (xs (x3 + (nI 2)).toNatClampNeg)]) (rest := []) (kX8_grub a1 hc256) a1.1 rfl rfl w_373 mvX8_grub mwX8_grub rfl ⟨Nat.le_of_ble_eq_true rfl, Nat.le_of_ble_eq_true rfl⟩ ⟨Nat.le_refl _, Nat.le_refl _⟩ (Nat.le_of_ble_eq_true rfl) dL_law_256 ?_
        refine xaload_n C 2 rfl rfl dL_law_259 ?_
        refine xaload_n C 0 rfl rfl dL_law_260 ?_
        refine xiload_n C 3 rfl rfl dL_law_261 ?_
        refine xiconst C (v := (nI 1)) dL_law_262 (by decide) ?_
        refine xiadd C dL_law_263 ?_
        obtain ⟨hi264, h⟩ := ix_some h
        refine xsld C hX hbl hi264 dL_law_264 ?_
        refine xaload_n C 0 rfl rfl dL_law_265 ?_
        refine xiload_n C 3 rfl rfl dL_law_266 ?_
        refine xiconst C (v := (nI 2)) dL_law_267 (by decide) ?_
        refine xiadd C dL_law_268 ?_
        obtain ⟨hi269, h⟩ := ix_some h
        refine xsld C hX hbl hi269 dL_law_269 ?_
        obtain ⟨r270, G270, hc270, h⟩ := bd_some h
        refine xVi C (As := [.int (xs (x3 + (nI 1)).toNatClampNeg), .int (xs (x3 + (nI 2)).toNatClampNeg)]) (rest := [.int r256]) (kX9_grub a2 hc270) a2.1 rfl rfl w_735 mvX9_grub mwX9_grub rfl ⟨Nat.le_of_ble_eq_true rfl, Nat.le_of_ble_eq_true rfl⟩ ⟨Nat.le_refl _, Nat.le_refl _⟩ (Nat.le_of_ble_eq_true rfl) dL_law_270 ?_
        refine xicmp_eq C (tgt := 742) h (by decide) dL_law_273 (fun h => ?_) (fun h => ?_)
        · refine xiinc C (v := (x3 + nI 5)) (lv' := [(3, .int (x3 + nI 5)), (0, .ref b), (1, .ref (ad 0)), (2, .ref (ad 627))]) 3 rfl rfl (by decide) rfl dL_law_742 ?_
          refine xgoto C (tgt := 18) (by decide) dL_law_745 ?_
          refine xsub C (lv' := [(0, .ref b), (1, .ref (ad 0)), (2, .ref (ad 627)), (3, .int (x3 + nI 5))]) [1, 2, 3, 0] rfl ?_
          exact hrec18 (x3 + nI 5) G270 h
        · refine xiconst C (v := (nI 0)) dL_law_276 (by decide) ?_
          cases h
      rcases if_some h with ⟨hs32_4, h⟩ | ⟨hs32_4, h⟩
      · refine xtab C (tgt := 278) (nI 4) hs32_4 (by decide) (by decide) rfl (by decide) dL_law_32 ?_
        refine xaload_n C 1 rfl rfl dL_law_278 ?_
        refine xaload_n C 0 rfl rfl dL_law_279 ?_
        refine xiload_n C 3 rfl rfl dL_law_280 ?_
        refine xiconst C (v := (nI 1)) dL_law_281 (by decide) ?_
        refine xiadd C dL_law_282 ?_
        obtain ⟨hi283, h⟩ := ix_some h
        refine xsld C hX hbl hi283 dL_law_283 ?_
        obtain ⟨r284, G284, hc284, h⟩ := bd_some h
        refine xVi C (As := [.int (xs (x3 + (nI 1)).toNatClampNeg)]) (rest := []) (kX8_pass a1 hc284) a1.1 rfl rfl w_382 mvX8_pass mwX8_pass rfl ⟨Nat.le_of_ble_eq_true rfl, Nat.le_of_ble_eq_true rfl⟩ ⟨Nat.le_refl _, Nat.le_refl _⟩ (Nat.le_of_ble_eq_true rfl) dL_law_284 ?_
        refine xaload_n C 2 rfl rfl dL_law_287 ?_
        refine xaload_n C 0 rfl rfl dL_law_288 ?_
        refine xiload_n C 3 rfl rfl dL_law_289 ?_
        refine xiconst C (v := (nI 1)) dL_law_290 (by decide) ?_
        refine xiadd C dL_law_291 ?_
        obtain ⟨hi292, h⟩ := ix_some h
        refine xsld C hX hbl hi292 dL_law_292 ?_
        obtain ⟨r293, G293, hc293, h⟩ := bd_some h
        refine xVi C (As := [.int (xs (x3 + (nI 1)).toNatClampNeg)]) (rest := [.int r284]) (kX9_pass a2 hc293) a2.1 rfl rfl w_739 mvX9_pass mwX9_pass rfl ⟨Nat.le_of_ble_eq_true rfl, Nat.le_of_ble_eq_true rfl⟩ ⟨Nat.le_refl _, Nat.le_refl _⟩ (Nat.le_of_ble_eq_true rfl) dL_law_293 ?_
        refine xicmp_eq C (tgt := 742) h (by decide) dL_law_296 (fun h => ?_) (fun h => ?_)
        · refine xiinc C (v := (x3 + nI 5)) (lv' := [(3, .int (x3 + nI 5)), (0, .ref b), (1, .ref (ad 0)), (2, .ref (ad 627))]) 3 rfl rfl (by decide) rfl dL_law_742 ?_
          refine xgoto C (tgt := 18) (by decide) dL_law_745 ?_
          refine xsub C (lv' := [(0, .ref b), (1, .ref (ad 0)), (2, .ref (ad 627)), (3, .int (x3 + nI 5))]) [1, 2, 3, 0] rfl ?_
          exact hrec18 (x3 + nI 5) G293 h
        · refine xiconst C (v := (nI 0)) dL_law_299 (by decide) ?_
          cases h
      rcases if_some h with ⟨hs32_5, h⟩ | ⟨hs32_5, h⟩
      · refine xtab C (tgt := 301) (nI 5) hs32_5 (by decide) (by decide) rfl (by decide) dL_law_32 ?_
        refine xaload_n C 1 rfl rfl dL_law_301 ?_
        refine xaload_n C 0 rfl rfl dL_law_302 ?_
        refine xiload_n C 3 rfl rfl dL_law_303 ?_
        refine xiconst C (v := (nI 1)) dL_law_304 (by decide) ?_
        refine xiadd C dL_law_305 ?_
        obtain ⟨hi306, h⟩ := ix_some h
        refine xsld C hX hbl hi306 dL_law_306 ?_
        refine xaload_n C 0 rfl rfl dL_law_307 ?_
        refine xiload_n C 3 rfl rfl dL_law_308 ?_
        refine xiconst C (v := (nI 2)) dL_law_309 (by decide) ?_
        refine xiadd C dL_law_310 ?_
        obtain ⟨hi311, h⟩ := ix_some h
        refine xsld C hX hbl hi311 dL_law_311 ?_
        obtain ⟨r312, G312, hc312, h⟩ := bd_some h
        refine xVi C (As := [.int (xs (x3 + (nI 1)).toNatClampNeg), .int (xs (x3 + (nI 2)).toNatClampNeg)]) (rest := []) (kX8_set a1 hc312) a1.1 rfl rfl w_421 mvX8_set mwX8_set rfl ⟨Nat.le_of_ble_eq_true rfl, Nat.le_of_ble_eq_true rfl⟩ ⟨Nat.le_refl _, Nat.le_refl _⟩ (Nat.le_of_ble_eq_true rfl) dL_law_312 ?_
        refine xaload_n C 2 rfl rfl dL_law_315 ?_
        refine xaload_n C 0 rfl rfl dL_law_316 ?_
        refine xiload_n C 3 rfl rfl dL_law_317 ?_
        refine xiconst C (v := (nI 1)) dL_law_318 (by decide) ?_
        refine xiadd C dL_law_319 ?_
        obtain ⟨hi320, h⟩ := ix_some h
        refine xsld C hX hbl hi320 dL_law_320 ?_
        refine xaload_n C 0 rfl rfl dL_law_321 ?_
        refine xiload_n C 3 rfl rfl dL_law_322 ?_
        refine xiconst C (v := (nI 2)) dL_law_323 (by decide) ?_
        refine xiadd C dL_law_324 ?_
        obtain ⟨hi325, h⟩ := ix_some h
        refine xsld C hX hbl hi325 dL_law_325 ?_
        obtain ⟨r326, G326, hc326, h⟩ := bd_some h
        refine xVi C (As := [.int (xs (x3 + (nI 1)).toNatClampNeg), .int (xs (x3 + (nI 2)).toNatClampNeg)]) (rest := [.int r312]) (kX9_set a2 hc326) a2.1 rfl rfl w_759 mvX9_set mwX9_set rfl ⟨Nat.le_of_ble_eq_true rfl, Nat.le_of_ble_eq_true rfl⟩ ⟨Nat.le_refl _, Nat.le_refl _⟩ (Nat.le_of_ble_eq_true rfl) dL_law_326 ?_
        refine xicmp_eq C (tgt := 742) h (by decide) dL_law_329 (fun h => ?_) (fun h => ?_)
        · refine xiinc C (v := (x3 + nI 5)) (lv' := [(3, .int (x3 + nI 5)), (0, .ref b), (1, .ref (ad 0)), (2, .ref (ad 627))]) 3 rfl rfl (by decide) rfl dL_law_742 ?_
          refine xgoto C (tgt := 18) (by decide) dL_law_745 ?_
          refine xsub C (lv' := [(0, .ref b), (1, .ref (ad 0)), (2, .ref (ad 627)), (3, .int (x3 + nI 5))]) [1, 2, 3, 0] rfl ?_
          exact hrec18 (x3 + nI 5) G326 h
        · refine xiconst C (v := (nI 0)) dL_law_332 (by decide) ?_
          cases h
      rcases if_some h with ⟨hs32_6, h⟩ | ⟨hs32_6, h⟩
      · refine xtab C (tgt := 334) (nI 6) hs32_6 (by decide) (by decide) rfl (by decide) dL_law_32 ?_
        refine xaload_n C 1 rfl rfl dL_law_334 ?_
        refine xaload_n C 0 rfl rfl dL_law_335 ?_
        refine xiload_n C 3 rfl rfl dL_law_336 ?_
        refine xiconst C (v := (nI 1)) dL_law_337 (by decide) ?_
        refine xiadd C dL_law_338 ?_
        obtain ⟨hi339, h⟩ := ix_some h
        refine xsld C hX hbl hi339 dL_law_339 ?_
        refine xaload_n C 0 rfl rfl dL_law_340 ?_
        refine xiload_n C 3 rfl rfl dL_law_341 ?_
        refine xiconst C (v := (nI 2)) dL_law_342 (by decide) ?_
        refine xiadd C dL_law_343 ?_
        obtain ⟨hi344, h⟩ := ix_some h
        refine xsld C hX hbl hi344 dL_law_344 ?_
        refine xaload_n C 0 rfl rfl dL_law_345 ?_
        refine xiload_n C 3 rfl rfl dL_law_346 ?_
        refine xiconst C (v := (nI 3)) dL_law_347 (by decide) ?_
        refine xiadd C dL_law_348 ?_
        obtain ⟨hi349, h⟩ := ix_some h
        refine xsld C hX hbl hi349 dL_law_349 ?_
        refine xaload_n C 0 rfl rfl dL_law_350 ?_
        refine xiload_n C 3 rfl rfl dL_law_351 ?_
        refine xiconst C (v := (nI 4)) dL_law_352 (by decide) ?_
        refine xiadd C dL_law_353 ?_
        obtain ⟨hi354, h⟩ := ix_some h
        refine xsld C hX hbl hi354 dL_law_354 ?_
        obtain ⟨r355, G355, hc355, h⟩ := bd_some h
        refine xVi C (As := [.int (xs (x3 + (nI 1)).toNatClampNeg), .int (xs (x3 + (nI 2)).toNatClampNeg), .int (xs (x3 + (nI 3)).toNatClampNeg), .int (xs (x3 + (nI 4)).toNatClampNeg)]) (rest := []) (kX8_contract a1 hc355) a1.1 rfl rfl w_439 mvX8_contract mwX8_contract rfl ⟨Nat.le_of_ble_eq_true rfl, Nat.le_of_ble_eq_true rfl⟩ ⟨Nat.le_refl _, Nat.le_refl _⟩ (Nat.le_of_ble_eq_true rfl) dL_law_355 ?_
        refine xaload_n C 2 rfl rfl dL_law_358 ?_
        refine xaload_n C 0 rfl rfl dL_law_359 ?_
        refine xiload_n C 3 rfl rfl dL_law_360 ?_
        refine xiconst C (v := (nI 1)) dL_law_361 (by decide) ?_
        refine xiadd C dL_law_362 ?_
        obtain ⟨hi363, h⟩ := ix_some h
        refine xsld C hX hbl hi363 dL_law_363 ?_
        refine xaload_n C 0 rfl rfl dL_law_364 ?_
        refine xiload_n C 3 rfl rfl dL_law_365 ?_
        refine xiconst C (v := (nI 2)) dL_law_366 (by decide) ?_
        refine xiadd C dL_law_367 ?_
        obtain ⟨hi368, h⟩ := ix_some h
        refine xsld C hX hbl hi368 dL_law_368 ?_
        refine xaload_n C 0 rfl rfl dL_law_369 ?_
        refine xiload_n C 3 rfl rfl dL_law_370 ?_
        refine xiconst C (v := (nI 3)) dL_law_371 (by decide) ?_
        refine xiadd C dL_law_372 ?_
        obtain ⟨hi373, h⟩ := ix_some h
        refine xsld C hX hbl hi373 dL_law_373 ?_
        refine xaload_n C 0 rfl rfl dL_law_374 ?_
        refine xiload_n C 3 rfl rfl dL_law_375 ?_
        refine xiconst C (v := (nI 4)) dL_law_376 (by decide) ?_
        refine xiadd C dL_law_377 ?_
        obtain ⟨hi378, h⟩ := ix_some h
        refine xsld C hX hbl hi378 dL_law_378 ?_
        obtain ⟨r379, G379, hc379, h⟩ := bd_some h
        refine xVi C (As := [.int (xs (x3 + (nI 1)).toNatClampNeg), .int (xs (x3 + (nI 2)).toNatClampNeg), .int (xs (x3 + (nI 3)).toNatClampNeg), .int (xs (x3 + (nI 4)).toNatClampNeg)]) (rest := [.int r355]) (kX9_contract a2 hc379) a2.1 rfl rfl w_763 mvX9_contract mwX9_contract rfl ⟨Nat.le_of_ble_eq_true rfl, Nat.le_of_ble_eq_true rfl⟩ ⟨Nat.le_refl _, Nat.le_refl _⟩ (Nat.le_of_ble_eq_true rfl) dL_law_379 ?_
        refine xicmp_eq C (tgt := 742) h (by decide) dL_law_382 (fun h => ?_) (fun h => ?_)
        · refine xiinc C (v := (x3 + nI 5)) (lv' := [(3, .int (x3 + nI 5)), (0, .ref b), (1, .ref (ad 0)), (2, .ref (ad 627))]) 3 rfl rfl (by decide) rfl dL_law_742 ?_
          refine xgoto C (tgt := 18) (by decide) dL_law_745 ?_
          refine xsub C (lv' := [(0, .ref b), (1, .ref (ad 0)), (2, .ref (ad 627)), (3, .int (x3 + nI 5))]) [1, 2, 3, 0] rfl ?_
          exact hrec18 (x3 + nI 5) G379 h
        · refine xiconst C (v := (nI 0)) dL_law_385 (by decide) ?_
          cases h
      rcases if_some h with ⟨hs32_7, h⟩ | ⟨hs32_7, h⟩
      · refine xtab C (tgt := 387) (nI 7) hs32_7 (by decide) (by decide) rfl (by decide) dL_law_32 ?_
        refine xaload_n C 1 rfl rfl dL_law_387 ?_
        refine xaload_n C 0 rfl rfl dL_law_388 ?_
        refine xiload_n C 3 rfl rfl dL_law_389 ?_
        refine xiconst C (v := (nI 1)) dL_law_390 (by decide) ?_
        refine xiadd C dL_law_391 ?_
        obtain ⟨hi392, h⟩ := ix_some h
        refine xsld C hX hbl hi392 dL_law_392 ?_
        obtain ⟨r393, G393, hc393, h⟩ := bd_some h
        refine xVi C (As := [.int (xs (x3 + (nI 1)).toNatClampNeg)]) (rest := []) (kX8_giveBack a1 hc393) a1.1 rfl rfl w_448 mvX8_giveBack mwX8_giveBack rfl ⟨Nat.le_of_ble_eq_true rfl, Nat.le_of_ble_eq_true rfl⟩ ⟨Nat.le_refl _, Nat.le_refl _⟩ (Nat.le_of_ble_eq_true rfl) dL_law_393 ?_
        refine xaload_n C 2 rfl rfl dL_law_396 ?_
        refine xaload_n C 0 rfl rfl dL_law_397 ?_
        refine xiload_n C 3 rfl rfl dL_law_398 ?_
        refine xiconst C (v := (nI 1)) dL_law_399 (by decide) ?_
        refine xiadd C dL_law_400 ?_
        obtain ⟨hi401, h⟩ := ix_some h
        refine xsld C hX hbl hi401 dL_law_401 ?_
        obtain ⟨r402, G402, hc402, h⟩ := bd_some h
        refine xVi C (As := [.int (xs (x3 + (nI 1)).toNatClampNeg)]) (rest := [.int r393]) (kX9_giveBack a2 hc402) a2.1 rfl rfl w_767 mvX9_giveBack mwX9_giveBack rfl ⟨Nat.le_of_ble_eq_true rfl, Nat.le_of_ble_eq_true rfl⟩ ⟨Nat.le_refl _, Nat.le_refl _⟩ (Nat.le_of_ble_eq_true rfl) dL_law_402 ?_
        refine xicmp_eq C (tgt := 742) h (by decide) dL_law_405 (fun h => ?_) (fun h => ?_)
        · refine xiinc C (v := (x3 + nI 5)) (lv' := [(3, .int (x3 + nI 5)), (0, .ref b), (1, .ref (ad 0)), (2, .ref (ad 627))]) 3 rfl rfl (by decide) rfl dL_law_742 ?_
          refine xgoto C (tgt := 18) (by decide) dL_law_745 ?_
          refine xsub C (lv' := [(0, .ref b), (1, .ref (ad 0)), (2, .ref (ad 627)), (3, .int (x3 + nI 5))]) [1, 2, 3, 0] rfl ?_
          exact hrec18 (x3 + nI 5) G402 h
        · refine xiconst C (v := (nI 0)) dL_law_408 (by decide) ?_
          cases h
      rcases if_some h with ⟨hs32_8, h⟩ | ⟨hs32_8, h⟩
      · refine xtab C (tgt := 410) (nI 8) hs32_8 (by decide) (by decide) rfl (by decide) dL_law_32 ?_
        refine xaload_n C 1 rfl rfl dL_law_410 ?_
        obtain ⟨r411, G411, hc411, h⟩ := bd_some h
        refine xVi C (As := []) (rest := []) (kX8_payDebt a1 hc411) a1.1 rfl rfl w_453 mvX8_payDebt mwX8_payDebt rfl ⟨Nat.le_of_ble_eq_true rfl, Nat.le_of_ble_eq_true rfl⟩ ⟨Nat.le_refl _, Nat.le_refl _⟩ (Nat.le_of_ble_eq_true rfl) dL_law_411 ?_
        refine xaload_n C 2 rfl rfl dL_law_414 ?_
        obtain ⟨r415, G415, hc415, h⟩ := bd_some h
        refine xVi C (As := []) (rest := [.int r411]) (kX9_payDebt a2 hc415) a2.1 rfl rfl w_771 mvX9_payDebt mwX9_payDebt rfl ⟨Nat.le_of_ble_eq_true rfl, Nat.le_of_ble_eq_true rfl⟩ ⟨Nat.le_refl _, Nat.le_refl _⟩ (Nat.le_of_ble_eq_true rfl) dL_law_415 ?_
        refine xicmp_eq C (tgt := 742) h (by decide) dL_law_418 (fun h => ?_) (fun h => ?_)
        · refine xiinc C (v := (x3 + nI 5)) (lv' := [(3, .int (x3 + nI 5)), (0, .ref b), (1, .ref (ad 0)), (2, .ref (ad 627))]) 3 rfl rfl (by decide) rfl dL_law_742 ?_
          refine xgoto C (tgt := 18) (by decide) dL_law_745 ?_
          refine xsub C (lv' := [(0, .ref b), (1, .ref (ad 0)), (2, .ref (ad 627)), (3, .int (x3 + nI 5))]) [1, 2, 3, 0] rfl ?_
          exact hrec18 (x3 + nI 5) G415 h
        · refine xiconst C (v := (nI 0)) dL_law_421 (by decide) ?_
          cases h
      rcases if_some h with ⟨hs32_9, h⟩ | ⟨hs32_9, h⟩
      · refine xtab C (tgt := 423) (nI 9) hs32_9 (by decide) (by decide) rfl (by decide) dL_law_32 ?_
        refine xaload_n C 1 rfl rfl dL_law_423 ?_
        refine xaload_n C 0 rfl rfl dL_law_424 ?_
        refine xiload_n C 3 rfl rfl dL_law_425 ?_
        refine xiconst C (v := (nI 1)) dL_law_426 (by decide) ?_
        refine xiadd C dL_law_427 ?_
        obtain ⟨hi428, h⟩ := ix_some h
        refine xsld C hX hbl hi428 dL_law_428 ?_
        obtain ⟨r429, G429, hc429, h⟩ := bd_some h
        refine xVi C (As := [.int (xs (x3 + (nI 1)).toNatClampNeg)]) (rest := []) (kX8_take a1 hc429) a1.1 rfl rfl w_458 mvX8_take mwX8_take rfl ⟨Nat.le_of_ble_eq_true rfl, Nat.le_of_ble_eq_true rfl⟩ ⟨Nat.le_refl _, Nat.le_refl _⟩ (Nat.le_of_ble_eq_true rfl) dL_law_429 ?_
        refine xaload_n C 2 rfl rfl dL_law_432 ?_
        refine xaload_n C 0 rfl rfl dL_law_433 ?_
        refine xiload_n C 3 rfl rfl dL_law_434 ?_
        refine xiconst C (v := (nI 1)) dL_law_435 (by decide) ?_
        refine xiadd C dL_law_436 ?_
        obtain ⟨hi437, h⟩ := ix_some h
        refine xsld C hX hbl hi437 dL_law_437 ?_
        obtain ⟨r438, G438, hc438, h⟩ := bd_some h
        refine xVi C (As := [.int (xs (x3 + (nI 1)).toNatClampNeg)]) (rest := [.int r429]) (kX9_take a2 hc438) a2.1 rfl rfl w_775 mvX9_take mwX9_take rfl ⟨Nat.le_of_ble_eq_true rfl, Nat.le_of_ble_eq_true rfl⟩ ⟨Nat.le_refl _, Nat.le_refl _⟩ (Nat.le_of_ble_eq_true rfl) dL_law_438 ?_
        refine xicmp_eq C (tgt := 742) h (by decide) dL_law_441 (fun h => ?_) (fun h => ?_)
        · refine xiinc C (v := (x3 + nI 5)) (lv' := [(3, .int (x3 + nI 5)), (0, .ref b), (1, .ref (ad 0)), (2, .ref (ad 627))]) 3 rfl rfl (by decide) rfl dL_law_742 ?_
          refine xgoto C (tgt := 18) (by decide) dL_law_745 ?_
          refine xsub C (lv' := [(0, .ref b), (1, .ref (ad 0)), (2, .ref (ad 627)), (3, .int (x3 + nI 5))]) [1, 2, 3, 0] rfl ?_
          exact hrec18 (x3 + nI 5) G438 h
        · refine xiconst C (v := (nI 0)) dL_law_444 (by decide) ?_
          cases h
      rcases if_some h with ⟨hs32_10, h⟩ | ⟨hs32_10, h⟩
      · refine xtab C (tgt := 446) (nI 10) hs32_10 (by decide) (by decide) rfl (by decide) dL_law_32 ?_
        refine xaload_n C 1 rfl rfl dL_law_446 ?_
        refine xaload_n C 0 rfl rfl dL_law_447 ?_
        refine xiload_n C 3 rfl rfl dL_law_448 ?_
        refine xiconst C (v := (nI 1)) dL_law_449 (by decide) ?_
        refine xiadd C dL_law_450 ?_
        obtain ⟨hi451, h⟩ := ix_some h
        refine xsld C hX hbl hi451 dL_law_451 ?_
        obtain ⟨r452, G452, hc452, h⟩ := bd_some h
        refine xVi C (As := [.int (xs (x3 + (nI 1)).toNatClampNeg)]) (rest := []) (kX8_restore a1 hc452) a1.1 rfl rfl w_469 mvX8_restore mwX8_restore rfl ⟨Nat.le_of_ble_eq_true rfl, Nat.le_of_ble_eq_true rfl⟩ ⟨Nat.le_refl _, Nat.le_refl _⟩ (Nat.le_of_ble_eq_true rfl) dL_law_452 ?_
        refine xaload_n C 2 rfl rfl dL_law_455 ?_
        refine xaload_n C 0 rfl rfl dL_law_456 ?_
        refine xiload_n C 3 rfl rfl dL_law_457 ?_
        refine xiconst C (v := (nI 1)) dL_law_458 (by decide) ?_
        refine xiadd C dL_law_459 ?_
        obtain ⟨hi460, h⟩ := ix_some h
        refine xsld C hX hbl hi460 dL_law_460 ?_
        obtain ⟨r461, G461, hc461, h⟩ := bd_some h
        refine xVi C (As := [.int (xs (x3 + (nI 1)).toNatClampNeg)]) (rest := [.int r452]) (kX9_restore a2 hc461) a2.1 rfl rfl w_779 mvX9_restore mwX9_restore rfl ⟨Nat.le_of_ble_eq_true rfl, Nat.le_of_ble_eq_true rfl⟩ ⟨Nat.le_refl _, Nat.le_refl _⟩ (Nat.le_of_ble_eq_true rfl) dL_law_461 ?_
        refine xicmp_eq C (tgt := 742) h (by decide) dL_law_464 (fun h => ?_) (fun h => ?_)
        · refine xiinc C (v := (x3 + nI 5)) (lv' := [(3, .int (x3 + nI 5)), (0, .ref b), (1, .ref (ad 0)), (2, .ref (ad 627))]) 3 rfl rfl (by decide) rfl dL_law_742 ?_
          refine xgoto C (tgt := 18) (by decide) dL_law_745 ?_
          refine xsub C (lv' := [(0, .ref b), (1, .ref (ad 0)), (2, .ref (ad 627)), (3, .int (x3 + nI 5))]) [1, 2, 3, 0] rfl ?_
          exact hrec18 (x3 + nI 5) G461 h
        · refine xiconst C (v := (nI 0)) dL_law_467 (by decide) ?_
          cases h
      rcases if_some h with ⟨hs32_11, h⟩ | ⟨hs32_11, h⟩
      · refine xtab C (tgt := 469) (nI 11) hs32_11 (by decide) (by decide) rfl (by decide) dL_law_32 ?_
        refine xaload_n C 1 rfl rfl dL_law_469 ?_
        obtain ⟨r470, G470, hc470, h⟩ := bd_some h
        refine xVi C (As := []) (rest := []) (kX8_undo a1 hc470) a1.1 rfl rfl w_474 mvX8_undo mwX8_undo rfl ⟨Nat.le_of_ble_eq_true rfl, Nat.le_of_ble_eq_true rfl⟩ ⟨Nat.le_refl _, Nat.le_refl _⟩ (Nat.le_of_ble_eq_true rfl) dL_law_470 ?_
        refine xaload_n C 2 rfl rfl dL_law_473 ?_
        obtain ⟨r474, G474, hc474, h⟩ := bd_some h
        refine xVi C (As := []) (rest := [.int r470]) (kX9_undo a2 hc474) a2.1 rfl rfl w_783 mvX9_undo mwX9_undo rfl ⟨Nat.le_of_ble_eq_true rfl, Nat.le_of_ble_eq_true rfl⟩ ⟨Nat.le_refl _, Nat.le_refl _⟩ (Nat.le_of_ble_eq_true rfl) dL_law_474 ?_
        refine xicmp_eq C (tgt := 742) h (by decide) dL_law_477 (fun h => ?_) (fun h => ?_)
        · refine xiinc C (v := (x3 + nI 5)) (lv' := [(3, .int (x3 + nI 5)), (0, .ref b), (1, .ref (ad 0)), (2, .ref (ad 627))]) 3 rfl rfl (by decide) rfl dL_law_742 ?_
          refine xgoto C (tgt := 18) (by decide) dL_law_745 ?_
          refine xsub C (lv' := [(0, .ref b), (1, .ref (ad 0)), (2, .ref (ad 627)), (3, .int (x3 + nI 5))]) [1, 2, 3, 0] rfl ?_
          exact hrec18 (x3 + nI 5) G474 h
        · refine xiconst C (v := (nI 0)) dL_law_480 (by decide) ?_
          cases h
      rcases if_some h with ⟨hs32_12, h⟩ | ⟨hs32_12, h⟩
      · refine xtab C (tgt := 482) (nI 12) hs32_12 (by decide) (by decide) rfl (by decide) dL_law_32 ?_
        refine xaload_n C 1 rfl rfl dL_law_482 ?_
        refine xaload_n C 0 rfl rfl dL_law_483 ?_
        refine xiload_n C 3 rfl rfl dL_law_484 ?_
        refine xiconst C (v := (nI 1)) dL_law_485 (by decide) ?_
        refine xiadd C dL_law_486 ?_
        obtain ⟨hi487, h⟩ := ix_some h
        refine xsld C hX hbl hi487 dL_law_487 ?_
        obtain ⟨r488, G488, hc488, h⟩ := bd_some h
        refine xVi C (As := [.int (xs (x3 + (nI 1)).toNatClampNeg)]) (rest := []) (kX8_append a1 hc488) a1.1 rfl rfl w_482 mvX8_append mwX8_append rfl ⟨Nat.le_of_ble_eq_true rfl, Nat.le_of_ble_eq_true rfl⟩ ⟨Nat.le_refl _, Nat.le_refl _⟩ (Nat.le_of_ble_eq_true rfl) dL_law_488 ?_
        refine xaload_n C 2 rfl rfl dL_law_491 ?_
        refine xaload_n C 0 rfl rfl dL_law_492 ?_
        refine xiload_n C 3 rfl rfl dL_law_493 ?_
        refine xiconst C (v := (nI 1)) dL_law_494 (by decide) ?_
        refine xiadd C dL_law_495 ?_
        obtain ⟨hi496, h⟩ := ix_some h
        refine xsld C hX hbl hi496 dL_law_496 ?_
        obtain ⟨r497, G497, hc497, h⟩ := bd_some h
        refine xVi C (As := [.int (xs (x3 + (nI 1)).toNatClampNeg)]) (rest := [.int r488]) (kX9_append a2 hc497) a2.1 rfl rfl w_787 mvX9_append mwX9_append rfl ⟨Nat.le_of_ble_eq_true rfl, Nat.le_of_ble_eq_true rfl⟩ ⟨Nat.le_refl _, Nat.le_refl _⟩ (Nat.le_of_ble_eq_true rfl) dL_law_497 ?_
        refine xicmp_eq C (tgt := 742) h (by decide) dL_law_500 (fun h => ?_) (fun h => ?_)
        · refine xiinc C (v := (x3 + nI 5)) (lv' := [(3, .int (x3 + nI 5)), (0, .ref b), (1, .ref (ad 0)), (2, .ref (ad 627))]) 3 rfl rfl (by decide) rfl dL_law_742 ?_
          refine xgoto C (tgt := 18) (by decide) dL_law_745 ?_
          refine xsub C (lv' := [(0, .ref b), (1, .ref (ad 0)), (2, .ref (ad 627)), (3, .int (x3 + nI 5))]) [1, 2, 3, 0] rfl ?_
          exact hrec18 (x3 + nI 5) G497 h
        · refine xiconst C (v := (nI 0)) dL_law_503 (by decide) ?_
          cases h
      rcases if_some h with ⟨hs32_13, h⟩ | ⟨hs32_13, h⟩
      · refine xtab C (tgt := 505) (nI 13) hs32_13 (by decide) (by decide) rfl (by decide) dL_law_32 ?_
        refine xaload_n C 1 rfl rfl dL_law_505 ?_
        obtain ⟨r506, G506, hc506, h⟩ := bd_some h
        refine xVi C (As := []) (rest := []) (kX8_clearText a1 hc506) a1.1 rfl rfl w_490 mvX8_clearText mwX8_clearText rfl ⟨Nat.le_of_ble_eq_true rfl, Nat.le_of_ble_eq_true rfl⟩ ⟨Nat.le_refl _, Nat.le_refl _⟩ (Nat.le_of_ble_eq_true rfl) dL_law_506 ?_
        refine xaload_n C 2 rfl rfl dL_law_509 ?_
        obtain ⟨r510, G510, hc510, h⟩ := bd_some h
        refine xVi C (As := []) (rest := [.int r506]) (kX9_clearText a2 hc510) a2.1 rfl rfl w_791 mvX9_clearText mwX9_clearText rfl ⟨Nat.le_of_ble_eq_true rfl, Nat.le_of_ble_eq_true rfl⟩ ⟨Nat.le_refl _, Nat.le_refl _⟩ (Nat.le_of_ble_eq_true rfl) dL_law_510 ?_
        refine xicmp_eq C (tgt := 742) h (by decide) dL_law_513 (fun h => ?_) (fun h => ?_)
        · refine xiinc C (v := (x3 + nI 5)) (lv' := [(3, .int (x3 + nI 5)), (0, .ref b), (1, .ref (ad 0)), (2, .ref (ad 627))]) 3 rfl rfl (by decide) rfl dL_law_742 ?_
          refine xgoto C (tgt := 18) (by decide) dL_law_745 ?_
          refine xsub C (lv' := [(0, .ref b), (1, .ref (ad 0)), (2, .ref (ad 627)), (3, .int (x3 + nI 5))]) [1, 2, 3, 0] rfl ?_
          exact hrec18 (x3 + nI 5) G510 h
        · refine xiconst C (v := (nI 0)) dL_law_516 (by decide) ?_
          cases h
      rcases if_some h with ⟨hs32_14, h⟩ | ⟨hs32_14, h⟩
      · refine xtab C (tgt := 518) (nI 14) hs32_14 (by decide) (by decide) rfl (by decide) dL_law_32 ?_
        refine xaload_n C 1 rfl rfl dL_law_518 ?_
        refine xaload_n C 0 rfl rfl dL_law_519 ?_
        refine xiload_n C 3 rfl rfl dL_law_520 ?_
        refine xiconst C (v := (nI 1)) dL_law_521 (by decide) ?_
        refine xiadd C dL_law_522 ?_
        obtain ⟨hi523, h⟩ := ix_some h
        refine xsld C hX hbl hi523 dL_law_523 ?_
        obtain ⟨r524, G524, hc524, h⟩ := bd_some h
        refine xVi C (As := [.int (xs (x3 + (nI 1)).toNatClampNeg)]) (rest := []) (kX8_read a1 hc524) a1.1 rfl rfl w_494 mvX8_read mwX8_read rfl ⟨Nat.le_of_ble_eq_true rfl, Nat.le_of_ble_eq_true rfl⟩ ⟨Nat.le_refl _, Nat.le_refl _⟩ (Nat.le_of_ble_eq_true rfl) dL_law_524 ?_
        refine xaload_n C 2 rfl rfl dL_law_527 ?_
        refine xaload_n C 0 rfl rfl dL_law_528 ?_
        refine xiload_n C 3 rfl rfl dL_law_529 ?_
        refine xiconst C (v := (nI 1)) dL_law_530 (by decide) ?_
        refine xiadd C dL_law_531 ?_
        obtain ⟨hi532, h⟩ := ix_some h
        refine xsld C hX hbl hi532 dL_law_532 ?_
        obtain ⟨r533, G533, hc533, h⟩ := bd_some h
        refine xVi C (As := [.int (xs (x3 + (nI 1)).toNatClampNeg)]) (rest := [.int r524]) (kX9_read a2 hc533) a2.1 rfl rfl w_795 mvX9_read mwX9_read rfl ⟨Nat.le_of_ble_eq_true rfl, Nat.le_of_ble_eq_true rfl⟩ ⟨Nat.le_refl _, Nat.le_refl _⟩ (Nat.le_of_ble_eq_true rfl) dL_law_533 ?_
        refine xicmp_eq C (tgt := 742) h (by decide) dL_law_536 (fun h => ?_) (fun h => ?_)
        · refine xiinc C (v := (x3 + nI 5)) (lv' := [(3, .int (x3 + nI 5)), (0, .ref b), (1, .ref (ad 0)), (2, .ref (ad 627))]) 3 rfl rfl (by decide) rfl dL_law_742 ?_
          refine xgoto C (tgt := 18) (by decide) dL_law_745 ?_
          refine xsub C (lv' := [(0, .ref b), (1, .ref (ad 0)), (2, .ref (ad 627)), (3, .int (x3 + nI 5))]) [1, 2, 3, 0] rfl ?_
          exact hrec18 (x3 + nI 5) G533 h
        · refine xiconst C (v := (nI 0)) dL_law_539 (by decide) ?_
          cases h
      rcases if_some h with ⟨hs32_15, h⟩ | ⟨hs32_15, h⟩
      · refine xtab C (tgt := 541) (nI 15) hs32_15 (by decide) (by decide) rfl (by decide) dL_law_32 ?_
        refine xaload_n C 1 rfl rfl dL_law_541 ?_
        refine xaload_n C 0 rfl rfl dL_law_542 ?_
        refine xiload_n C 3 rfl rfl dL_law_543 ?_
        refine xiconst C (v := (nI 1)) dL_law_544 (by decide) ?_
        refine xiadd C dL_law_545 ?_
        obtain ⟨hi546, h⟩ := ix_some h
        refine xsld C hX hbl hi546 dL_law_546 ?_
        obtain ⟨r547, G547, hc547, h⟩ := bd_some h
        refine xVi C (As := [.int (xs (x3 + (nI 1)).toNatClampNeg)]) (rest := []) (kX8_count a1 hc547) a1.1 rfl rfl w_525 mvX8_count mwX8_count rfl ⟨Nat.le_of_ble_eq_true rfl, Nat.le_of_ble_eq_true rfl⟩ ⟨Nat.le_refl _, Nat.le_refl _⟩ (Nat.le_of_ble_eq_true rfl) dL_law_547 ?_
        refine xaload_n C 2 rfl rfl dL_law_550 ?_
        refine xaload_n C 0 rfl rfl dL_law_551 ?_
        refine xiload_n C 3 rfl rfl dL_law_552 ?_
        refine xiconst C (v := (nI 1)) dL_law_553 (by decide) ?_
        refine xiadd C dL_law_554 ?_
        obtain ⟨hi555, h⟩ := ix_some h
        refine xsld C hX hbl hi555 dL_law_555 ?_
        obtain ⟨r556, G556, hc556, h⟩ := bd_some h
        refine xVi C (As := [.int (xs (x3 + (nI 1)).toNatClampNeg)]) (rest := [.int r547]) (kX9_count a2 hc556) a2.1 rfl rfl w_811 mvX9_count mwX9_count rfl ⟨Nat.le_of_ble_eq_true rfl, Nat.le_of_ble_eq_true rfl⟩ ⟨Nat.le_refl _, Nat.le_refl _⟩ (Nat.le_of_ble_eq_true rfl) dL_law_556 ?_
        refine xicmp_eq C (tgt := 742) h (by decide) dL_law_559 (fun h => ?_) (fun h => ?_)
        · refine xiinc C (v := (x3 + nI 5)) (lv' := [(3, .int (x3 + nI 5)), (0, .ref b), (1, .ref (ad 0)), (2, .ref (ad 627))]) 3 rfl rfl (by decide) rfl dL_law_742 ?_
          refine xgoto C (tgt := 18) (by decide) dL_law_745 ?_
          refine xsub C (lv' := [(0, .ref b), (1, .ref (ad 0)), (2, .ref (ad 627)), (3, .int (x3 + nI 5))]) [1, 2, 3, 0] rfl ?_
          exact hrec18 (x3 + nI 5) G556 h
        · refine xiconst C (v := (nI 0)) dL_law_562 (by decide) ?_
          cases h
      rcases if_some h with ⟨hs32_16, h⟩ | ⟨hs32_16, h⟩
      · refine xtab C (tgt := 564) (nI 16) hs32_16 (by decide) (by decide) rfl (by decide) dL_law_32 ?_
        refine xaload_n C 1 rfl rfl dL_law_564 ?_
        refine xaload_n C 0 rfl rfl dL_law_565 ?_
        refine xiload_n C 3 rfl rfl dL_law_566 ?_
        refine xiconst C (v := (nI 1)) dL_law_567 (by decide) ?_
        refine xiadd C dL_law_568 ?_
        obtain ⟨hi569, h⟩ := ix_some h
        refine xsld C hX hbl hi569 dL_law_569 ?_
        refine xaload_n C 0 rfl rfl dL_law_570 ?_
        refine xiload_n C 3 rfl rfl dL_law_571 ?_
        refine xiconst C (v := (nI 2)) dL_law_572 (by decide) ?_
        refine xiadd C dL_law_573 ?_
        obtain ⟨hi574, h⟩ := ix_some h
        refine xsld C hX hbl hi574 dL_law_574 ?_
        obtain ⟨r575, G575, hc575, h⟩ := bd_some h
        refine xVi C (As := [.int (xs (x3 + (nI 1)).toNatClampNeg), .int (xs (x3 + (nI 2)).toNatClampNeg)]) (rest := []) (kX8_field a1 hc575) a1.1 rfl rfl w_537 mvX8_field mwX8_field rfl ⟨Nat.le_of_ble_eq_true rfl, Nat.le_of_ble_eq_true rfl⟩ ⟨Nat.le_refl _, Nat.le_refl _⟩ (Nat.le_of_ble_eq_true rfl) dL_law_575 ?_
        refine xaload_n C 2 rfl rfl dL_law_578 ?_
        refine xaload_n C 0 rfl rfl dL_law_579 ?_
        refine xiload_n C 3 rfl rfl dL_law_580 ?_
        refine xiconst C (v := (nI 1)) dL_law_581 (by decide) ?_
        refine xiadd C dL_law_582 ?_
        obtain ⟨hi583, h⟩ := ix_some h
        refine xsld C hX hbl hi583 dL_law_583 ?_
        refine xaload_n C 0 rfl rfl dL_law_584 ?_
        refine xiload_n C 3 rfl rfl dL_law_585 ?_
        refine xiconst C (v := (nI 2)) dL_law_586 (by decide) ?_
        refine xiadd C dL_law_587 ?_
        obtain ⟨hi588, h⟩ := ix_some h
        refine xsld C hX hbl hi588 dL_law_588 ?_
        obtain ⟨r589, G589, hc589, h⟩ := bd_some h
        refine xVi C (As := [.int (xs (x3 + (nI 1)).toNatClampNeg), .int (xs (x3 + (nI 2)).toNatClampNeg)]) (rest := [.int r575]) (kX9_field a2 hc589) a2.1 rfl rfl w_819 mvX9_field mwX9_field rfl ⟨Nat.le_of_ble_eq_true rfl, Nat.le_of_ble_eq_true rfl⟩ ⟨Nat.le_refl _, Nat.le_refl _⟩ (Nat.le_of_ble_eq_true rfl) dL_law_589 ?_
        refine xicmp_eq C (tgt := 742) h (by decide) dL_law_592 (fun h => ?_) (fun h => ?_)
        · refine xiinc C (v := (x3 + nI 5)) (lv' := [(3, .int (x3 + nI 5)), (0, .ref b), (1, .ref (ad 0)), (2, .ref (ad 627))]) 3 rfl rfl (by decide) rfl dL_law_742 ?_
          refine xgoto C (tgt := 18) (by decide) dL_law_745 ?_
          refine xsub C (lv' := [(0, .ref b), (1, .ref (ad 0)), (2, .ref (ad 627)), (3, .int (x3 + nI 5))]) [1, 2, 3, 0] rfl ?_
          exact hrec18 (x3 + nI 5) G589 h
        · refine xiconst C (v := (nI 0)) dL_law_595 (by decide) ?_
          cases h
      rcases if_some h with ⟨hs32_17, h⟩ | ⟨hs32_17, h⟩
      · refine xtab C (tgt := 597) (nI 17) hs32_17 (by decide) (by decide) rfl (by decide) dL_law_32 ?_
        refine xaload_n C 1 rfl rfl dL_law_597 ?_
        refine xaload_n C 0 rfl rfl dL_law_598 ?_
        refine xiload_n C 3 rfl rfl dL_law_599 ?_
        refine xiconst C (v := (nI 1)) dL_law_600 (by decide) ?_
        refine xiadd C dL_law_601 ?_
        obtain ⟨hi602, h⟩ := ix_some h
        refine xsld C hX hbl hi602 dL_law_602 ?_
        refine xaload_n C 0 rfl rfl dL_law_603 ?_
        refine xiload_n C 3 rfl rfl dL_law_604 ?_
        refine xiconst C (v := (nI 2)) dL_law_605 (by decide) ?_
        refine xiadd C dL_law_606 ?_
        obtain ⟨hi607, h⟩ := ix_some h
        refine xsld C hX hbl hi607 dL_law_607 ?_
        refine xaload_n C 0 rfl rfl dL_law_608 ?_
        refine xiload_n C 3 rfl rfl dL_law_609 ?_
        refine xiconst C (v := (nI 3)) dL_law_610 (by decide) ?_
        refine xiadd C dL_law_611 ?_
        obtain ⟨hi612, h⟩ := ix_some h
        refine xsld C hX hbl hi612 dL_law_612 ?_
        obtain ⟨r613, G613, hc613, h⟩ := bd_some h
        refine xVi C (As := [.int (xs (x3 + (nI 1)).toNatClampNeg), .int (xs (x3 + (nI 2)).toNatClampNeg), .int (xs (x3 + (nI 3)).toNatClampNeg)]) (rest := []) (kX8_chain a1 hc613) a1.1 rfl rfl w_550 mvX8_chain mwX8_chain rfl ⟨Nat.le_of_ble_eq_true rfl, Nat.le_of_ble_eq_true rfl⟩ ⟨Nat.le_refl _, Nat.le_refl _⟩ (Nat.le_of_ble_eq_true rfl) dL_law_613 ?_
        refine xaload_n C 2 rfl rfl dL_law_616 ?_
        refine xaload_n C 0 rfl rfl dL_law_617 ?_
        refine xiload_n C 3 rfl rfl dL_law_618 ?_
        refine xiconst C (v := (nI 1)) dL_law_619 (by decide) ?_
        refine xiadd C dL_law_620 ?_
        obtain ⟨hi621, h⟩ := ix_some h
        refine xsld C hX hbl hi621 dL_law_621 ?_
        refine xaload_n C 0 rfl rfl dL_law_622 ?_
        refine xiload_n C 3 rfl rfl dL_law_623 ?_
        refine xiconst C (v := (nI 2)) dL_law_624 (by decide) ?_
        refine xiadd C dL_law_625 ?_
        obtain ⟨hi626, h⟩ := ix_some h
        refine xsld C hX hbl hi626 dL_law_626 ?_
        refine xaload_n C 0 rfl rfl dL_law_627 ?_
        refine xiload_n C 3 rfl rfl dL_law_628 ?_
        refine xiconst C (v := (nI 3)) dL_law_629 (by decide) ?_
        refine xiadd C dL_law_630 ?_
        obtain ⟨hi631, h⟩ := ix_some h
        refine xsld C hX hbl hi631 dL_law_631 ?_
        obtain ⟨r632, G632, hc632, h⟩ := bd_some h
        refine xVi C (As := [.int (xs (x3 + (nI 1)).toNatClampNeg), .int (xs (x3 + (nI 2)).toNatClampNeg), .int (xs (x3 + (nI 3)).toNatClampNeg)]) (rest := [.int r613]) (kX9_chain a2 hc632) a2.1 rfl rfl w_827 mvX9_chain mwX9_chain rfl ⟨Nat.le_of_ble_eq_true rfl, Nat.le_of_ble_eq_true rfl⟩ ⟨Nat.le_refl _, Nat.le_refl _⟩ (Nat.le_of_ble_eq_true rfl) dL_law_632 ?_
        refine xicmp_eq C (tgt := 742) h (by decide) dL_law_635 (fun h => ?_) (fun h => ?_)
        · refine xiinc C (v := (x3 + nI 5)) (lv' := [(3, .int (x3 + nI 5)), (0, .ref b), (1, .ref (ad 0)), (2, .ref (ad 627))]) 3 rfl rfl (by decide) rfl dL_law_742 ?_
          refine xgoto C (tgt := 18) (by decide) dL_law_745 ?_
          refine xsub C (lv' := [(0, .ref b), (1, .ref (ad 0)), (2, .ref (ad 627)), (3, .int (x3 + nI 5))]) [1, 2, 3, 0] rfl ?_
          exact hrec18 (x3 + nI 5) G632 h
        · refine xiconst C (v := (nI 0)) dL_law_638 (by decide) ?_
          cases h
      rcases if_some h with ⟨hs32_18, h⟩ | ⟨hs32_18, h⟩
      · refine xtab C (tgt := 640) (nI 18) hs32_18 (by decide) (by decide) rfl (by decide) dL_law_32 ?_
        refine xaload_n C 1 rfl rfl dL_law_640 ?_
        refine xaload_n C 0 rfl rfl dL_law_641 ?_
        refine xiload_n C 3 rfl rfl dL_law_642 ?_
        refine xiconst C (v := (nI 1)) dL_law_643 (by decide) ?_
        refine xiadd C dL_law_644 ?_
        obtain ⟨hi645, h⟩ := ix_some h
        refine xsld C hX hbl hi645 dL_law_645 ?_
        refine xaload_n C 0 rfl rfl dL_law_646 ?_
        refine xiload_n C 3 rfl rfl dL_law_647 ?_
        refine xiconst C (v := (nI 2)) dL_law_648 (by decide) ?_
        refine xiadd C dL_law_649 ?_
        obtain ⟨hi650, h⟩ := ix_some h
        refine xsld C hX hbl hi650 dL_law_650 ?_
        obtain ⟨r651, G651, hc651, h⟩ := bd_some h
        refine xVi C (As := [.int (xs (x3 + (nI 1)).toNatClampNeg), .int (xs (x3 + (nI 2)).toNatClampNeg)]) (rest := []) (kX8_toLay a1 hc651) a1.1 rfl rfl w_556 mvX8_toLay mwX8_toLay rfl ⟨Nat.le_of_ble_eq_true rfl, Nat.le_of_ble_eq_true rfl⟩ ⟨Nat.le_refl _, Nat.le_refl _⟩ (Nat.le_of_ble_eq_true rfl) dL_law_651 ?_
        refine xaload_n C 2 rfl rfl dL_law_654 ?_
        refine xaload_n C 0 rfl rfl dL_law_655 ?_
        refine xiload_n C 3 rfl rfl dL_law_656 ?_
        refine xiconst C (v := (nI 1)) dL_law_657 (by decide) ?_
        refine xiadd C dL_law_658 ?_
        obtain ⟨hi659, h⟩ := ix_some h
        refine xsld C hX hbl hi659 dL_law_659 ?_
        refine xaload_n C 0 rfl rfl dL_law_660 ?_
        refine xiload_n C 3 rfl rfl dL_law_661 ?_
        refine xiconst C (v := (nI 2)) dL_law_662 (by decide) ?_
        refine xiadd C dL_law_663 ?_
        obtain ⟨hi664, h⟩ := ix_some h
        refine xsld C hX hbl hi664 dL_law_664 ?_
        obtain ⟨r665, G665, hc665, h⟩ := bd_some h
        refine xVi C (As := [.int (xs (x3 + (nI 1)).toNatClampNeg), .int (xs (x3 + (nI 2)).toNatClampNeg)]) (rest := [.int r651]) (kX9_toLay a2 hc665) a2.1 rfl rfl w_831 mvX9_toLay mwX9_toLay rfl ⟨Nat.le_of_ble_eq_true rfl, Nat.le_of_ble_eq_true rfl⟩ ⟨Nat.le_refl _, Nat.le_refl _⟩ (Nat.le_of_ble_eq_true rfl) dL_law_665 ?_
        refine xicmp_eq C (tgt := 742) h (by decide) dL_law_668 (fun h => ?_) (fun h => ?_)
        · refine xiinc C (v := (x3 + nI 5)) (lv' := [(3, .int (x3 + nI 5)), (0, .ref b), (1, .ref (ad 0)), (2, .ref (ad 627))]) 3 rfl rfl (by decide) rfl dL_law_742 ?_
          refine xgoto C (tgt := 18) (by decide) dL_law_745 ?_
          refine xsub C (lv' := [(0, .ref b), (1, .ref (ad 0)), (2, .ref (ad 627)), (3, .int (x3 + nI 5))]) [1, 2, 3, 0] rfl ?_
          exact hrec18 (x3 + nI 5) G665 h
        · refine xiconst C (v := (nI 0)) dL_law_671 (by decide) ?_
          cases h
      rcases if_some h with ⟨hs32_19, h⟩ | ⟨hs32_19, h⟩
      · refine xtab C (tgt := 673) (nI 19) hs32_19 (by decide) (by decide) rfl (by decide) dL_law_32 ?_
        refine xaload_n C 1 rfl rfl dL_law_673 ?_
        refine xaload_n C 0 rfl rfl dL_law_674 ?_
        refine xiload_n C 3 rfl rfl dL_law_675 ?_
        refine xiconst C (v := (nI 1)) dL_law_676 (by decide) ?_
        refine xiadd C dL_law_677 ?_
        obtain ⟨hi678, h⟩ := ix_some h
        refine xsld C hX hbl hi678 dL_law_678 ?_
        obtain ⟨r679, G679, hc679, h⟩ := bd_some h
        refine xVi C (As := [.int (xs (x3 + (nI 1)).toNatClampNeg)]) (rest := []) (kX8_stakesIn a1 hc679) a1.1 rfl rfl w_569 mvX8_stakesIn mwX8_stakesIn rfl ⟨Nat.le_of_ble_eq_true rfl, Nat.le_of_ble_eq_true rfl⟩ ⟨Nat.le_refl _, Nat.le_refl _⟩ (Nat.le_of_ble_eq_true rfl) dL_law_679 ?_
        refine xaload_n C 2 rfl rfl dL_law_682 ?_
        refine xaload_n C 0 rfl rfl dL_law_683 ?_
        refine xiload_n C 3 rfl rfl dL_law_684 ?_
        refine xiconst C (v := (nI 1)) dL_law_685 (by decide) ?_
        refine xiadd C dL_law_686 ?_
        obtain ⟨hi687, h⟩ := ix_some h
        refine xsld C hX hbl hi687 dL_law_687 ?_
        obtain ⟨r688, G688, hc688, h⟩ := bd_some h
        refine xVi C (As := [.int (xs (x3 + (nI 1)).toNatClampNeg)]) (rest := [.int r679]) (kX9_stakesIn a2 hc688) a2.1 rfl rfl w_843 mvX9_stakesIn mwX9_stakesIn rfl ⟨Nat.le_of_ble_eq_true rfl, Nat.le_of_ble_eq_true rfl⟩ ⟨Nat.le_refl _, Nat.le_refl _⟩ (Nat.le_of_ble_eq_true rfl) dL_law_688 ?_
        refine xicmp_eq C (tgt := 742) h (by decide) dL_law_691 (fun h => ?_) (fun h => ?_)
        · refine xiinc C (v := (x3 + nI 5)) (lv' := [(3, .int (x3 + nI 5)), (0, .ref b), (1, .ref (ad 0)), (2, .ref (ad 627))]) 3 rfl rfl (by decide) rfl dL_law_742 ?_
          refine xgoto C (tgt := 18) (by decide) dL_law_745 ?_
          refine xsub C (lv' := [(0, .ref b), (1, .ref (ad 0)), (2, .ref (ad 627)), (3, .int (x3 + nI 5))]) [1, 2, 3, 0] rfl ?_
          exact hrec18 (x3 + nI 5) G688 h
        · refine xiconst C (v := (nI 0)) dL_law_694 (by decide) ?_
          cases h
      rcases if_some h with ⟨hs32_20, h⟩ | ⟨hs32_20, h⟩
      · refine xtab C (tgt := 696) (nI 20) hs32_20 (by decide) (by decide) rfl (by decide) dL_law_32 ?_
        refine xaload_n C 1 rfl rfl dL_law_696 ?_
        refine xaload_n C 0 rfl rfl dL_law_697 ?_
        refine xiload_n C 3 rfl rfl dL_law_698 ?_
        refine xiconst C (v := (nI 1)) dL_law_699 (by decide) ?_
        refine xiadd C dL_law_700 ?_
        obtain ⟨hi701, h⟩ := ix_some h
        refine xsld C hX hbl hi701 dL_law_701 ?_
        obtain ⟨r702, G702, hc702, h⟩ := bd_some h
        refine xVi C (As := [.int (xs (x3 + (nI 1)).toNatClampNeg)]) (rest := []) (kX8_doneIn a1 hc702) a1.1 rfl rfl w_580 mvX8_doneIn mwX8_doneIn rfl ⟨Nat.le_of_ble_eq_true rfl, Nat.le_of_ble_eq_true rfl⟩ ⟨Nat.le_refl _, Nat.le_refl _⟩ (Nat.le_of_ble_eq_true rfl) dL_law_702 ?_
        refine xaload_n C 2 rfl rfl dL_law_705 ?_
        refine xaload_n C 0 rfl rfl dL_law_706 ?_
        refine xiload_n C 3 rfl rfl dL_law_707 ?_
        refine xiconst C (v := (nI 1)) dL_law_708 (by decide) ?_
        refine xiadd C dL_law_709 ?_
        obtain ⟨hi710, h⟩ := ix_some h
        refine xsld C hX hbl hi710 dL_law_710 ?_
        obtain ⟨r711, G711, hc711, h⟩ := bd_some h
        refine xVi C (As := [.int (xs (x3 + (nI 1)).toNatClampNeg)]) (rest := [.int r702]) (kX9_doneIn a2 hc711) a2.1 rfl rfl w_847 mvX9_doneIn mwX9_doneIn rfl ⟨Nat.le_of_ble_eq_true rfl, Nat.le_of_ble_eq_true rfl⟩ ⟨Nat.le_refl _, Nat.le_refl _⟩ (Nat.le_of_ble_eq_true rfl) dL_law_711 ?_
        refine xicmp_eq C (tgt := 742) h (by decide) dL_law_714 (fun h => ?_) (fun h => ?_)
        · refine xiinc C (v := (x3 + nI 5)) (lv' := [(3, .int (x3 + nI 5)), (0, .ref b), (1, .ref (ad 0)), (2, .ref (ad 627))]) 3 rfl rfl (by decide) rfl dL_law_742 ?_
          refine xgoto C (tgt := 18) (by decide) dL_law_745 ?_
          refine xsub C (lv' := [(0, .ref b), (1, .ref (ad 0)), (2, .ref (ad 627)), (3, .int (x3 + nI 5))]) [1, 2, 3, 0] rfl ?_
          exact hrec18 (x3 + nI 5) G711 h
        · refine xiconst C (v := (nI 0)) dL_law_717 (by decide) ?_
          cases h
      rcases if_some h with ⟨hs32_21, h⟩ | ⟨hs32_21, h⟩
      · refine xtab C (tgt := 719) (nI 21) hs32_21 (by decide) (by decide) rfl (by decide) dL_law_32 ?_
        refine xaload_n C 1 rfl rfl dL_law_719 ?_
        refine xaload_n C 0 rfl rfl dL_law_720 ?_
        refine xiload_n C 3 rfl rfl dL_law_721 ?_
        refine xiconst C (v := (nI 1)) dL_law_722 (by decide) ?_
        refine xiadd C dL_law_723 ?_
        obtain ⟨hi724, h⟩ := ix_some h
        refine xsld C hX hbl hi724 dL_law_724 ?_
        obtain ⟨r725, G725, hc725, h⟩ := bd_some h
        refine xVi C (As := [.int (xs (x3 + (nI 1)).toNatClampNeg)]) (rest := []) (kX8_bestOrder a1 hc725) a1.1 rfl rfl w_593 mvX8_bestOrder mwX8_bestOrder rfl ⟨Nat.le_of_ble_eq_true rfl, Nat.le_of_ble_eq_true rfl⟩ ⟨Nat.le_refl _, Nat.le_refl _⟩ (Nat.le_of_ble_eq_true rfl) dL_law_725 ?_
        refine xaload_n C 2 rfl rfl dL_law_728 ?_
        refine xaload_n C 0 rfl rfl dL_law_729 ?_
        refine xiload_n C 3 rfl rfl dL_law_730 ?_
        refine xiconst C (v := (nI 1)) dL_law_731 (by decide) ?_
        refine xiadd C dL_law_732 ?_
        obtain ⟨hi733, h⟩ := ix_some h
        refine xsld C hX hbl hi733 dL_law_733 ?_
        obtain ⟨r734, G734, hc734, h⟩ := bd_some h
        refine xVi C (As := [.int (xs (x3 + (nI 1)).toNatClampNeg)]) (rest := [.int r725]) (kX9_bestOrder a2 hc734) a2.1 rfl rfl w_851 mvX9_bestOrder mwX9_bestOrder rfl ⟨Nat.le_of_ble_eq_true rfl, Nat.le_of_ble_eq_true rfl⟩ ⟨Nat.le_refl _, Nat.le_refl _⟩ (Nat.le_of_ble_eq_true rfl) dL_law_734 ?_
        refine xicmp_eq C (tgt := 742) h (by decide) dL_law_737 (fun h => ?_) (fun h => ?_)
        · refine xiinc C (v := (x3 + nI 5)) (lv' := [(3, .int (x3 + nI 5)), (0, .ref b), (1, .ref (ad 0)), (2, .ref (ad 627))]) 3 rfl rfl (by decide) rfl dL_law_742 ?_
          refine xgoto C (tgt := 18) (by decide) dL_law_745 ?_
          refine xsub C (lv' := [(0, .ref b), (1, .ref (ad 0)), (2, .ref (ad 627)), (3, .int (x3 + nI 5))]) [1, 2, 3, 0] rfl ?_
          exact hrec18 (x3 + nI 5) G734 h
        · refine xiconst C (v := (nI 0)) dL_law_740 (by decide) ?_
          cases h
      refine xtabOut C (tgt := 742) (by have := xne hs32_0 0 rfl; have := xne hs32_1 1 rfl; have := xne hs32_2 2 rfl; have := xne hs32_3 3 rfl; have := xne hs32_4 4 rfl; have := xne hs32_5 5 rfl; have := xne hs32_6 6 rfl; have := xne hs32_7 7 rfl; have := xne hs32_8 8 rfl; have := xne hs32_9 9 rfl; have := xne hs32_10 10 rfl; have := xne hs32_11 11 rfl; have := xne hs32_12 12 rfl; have := xne hs32_13 13 rfl; have := xne hs32_14 14 rfl; have := xne hs32_15 15 rfl; have := xne hs32_16 16 rfl; have := xne hs32_17 17 rfl; have := xne hs32_18 18 rfl; have := xne hs32_19 19 rfl; have := xne hs32_20 20 rfl; have := xne hs32_21 21 rfl; omega) (by decide) dL_law_32 ?_
      refine xiinc C (v := (x3 + nI 5)) (lv' := [(3, .int (x3 + nI 5)), (0, .ref b), (1, .ref (ad 0)), (2, .ref (ad 627))]) 3 rfl rfl (by decide) rfl dL_law_742 ?_
      refine xgoto C (tgt := 18) (by decide) dL_law_745 ?_
      refine xsub C (lv' := [(0, .ref b), (1, .ref (ad 0)), (2, .ref (ad 627)), (3, .int (x3 + nI 5))]) [1, 2, 3, 0] rfl ?_
      exact hrec18 (x3 + nI 5) G h
end
