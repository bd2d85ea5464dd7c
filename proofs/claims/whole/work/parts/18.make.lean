section
variable {p : Program} {l : Launch} {e : Env} {R : Room} {s : State} {m : MethodId} {args : Array Value} {below : List Frame} {meth : Method} {c : Code} {H : Heap} {locs : List Loc} {D : va_G} {c1 : Nat → ClassId} {ce ce' : Nat → va_E} {b0 : Nat} {kd kd' : Nat → Nat} {NP nL cells slots : Nat} {Q : State → Prop} {G G' : Mem} {pc : Nat} {lv : List (Nat × Value)} {rest st : List Value} {cc : ByteArray} {own : String} {rt : Option FieldType} {g : JFrame} {cy cy' : xCy} {ad : Nat → Nat}
def bad (b0 : Nat) : Nat → Nat := fun q => b0 + q
theorem wsz (kk : H.size ≤ s.heap.size + cells → W p l e R s m args below meth c H locs cells slots Q g) : W p l e R s m args below meth c H locs cells slots Q g := fun T hT X => kk (by rw [← hT]; exact X.same.2.2.1) T hT X
theorem xtop (hP : va_P D vwCl (wo cy (bad b0) kd G NP) H) (h0 : b0 ≤ H.size) : b0 + NP ≤ H.size := by
  cases NP with
  | zero => exact h0
  | succ n => exact (hP n _ (wo_at ⟨Nat.lt_succ_self n, rfl⟩)).lt
theorem wo_ext (h : ∀ q, q < NP → kE cy' ad G' (kd' q) q = kE cy ad G (kd q) q) : wo cy' ad kd' G' NP = wo cy ad kd G NP := by
  unfold wo
  exact List.map_congr_left (fun q hq => by rw [h q (List.mem_range.mp hq)])
theorem wo_push {e : va_E} (h : ∀ q, q < NP → kE cy' ad G' (kd' q) q = kE cy ad G (kd q) q) (he : kE cy' ad G' (kd' NP) NP = e) : wo cy ad kd G NP ++ [(ad NP, e)] = wo cy' ad kd' G' (NP + 1) := by
  rw [← wo_ext h]
  unfold wo
  rw [List.range_succ, List.map_append, List.map_singleton, he]
theorem kE_congrC {k q : Nat} (h : ce' q = ce q) : kE (c1, ce') ad G k q = kE (c1, ce) ad G k q := by
  unfold kE
  simp only [h]
theorem wo_setO {q : Nat} {e : va_E} (hq : q < NP) (h : kd q = 99) : (wo (c1, ce) ad kd G NP).set q (ad q, e) = wo (c1, va_up ce q e) ad kd G NP := by
  refine List.ext_getElem? fun i => ?_
  by_cases hi : i = q
  · subst hi
    rw [List.getElem?_set_self (by simpa [wo] using hq)]
    simp [wo, hq, h, kE, va_up]
  · rw [List.getElem?_set_ne (Ne.symm hi)]
    by_cases hl : i < NP
    · simp only [wo, List.getElem?_map, List.getElem?_range hl, Option.map_some]
      rw [kE_congrC (ce' := va_up ce q e) (ce := ce) (if_neg hi)]
    · have hr : (List.range NP)[i]? = none := by simpa using hl
      simp only [wo, List.getElem?_map, hr, Option.map_none]
theorem bad_inj {i j : Nat} (h : bad b0 i = bad b0 j) : i = j := Nat.add_left_cancel h
theorem wo_key {k : Nat} {q : Nat × va_E} (hk : (wo cy ad kd G NP)[k]? = some q) : k < NP ∧ q.1 = ad k := by
  by_cases hl : k < NP
  · simp only [wo, List.getElem?_map, List.getElem?_range hl, Option.map_some] at hk
    cases hk
    exact ⟨hl, rfl⟩
  · have hr : (List.range NP)[k]? = none := by simpa using hl
    simp only [wo, List.getElem?_map, hr, Option.map_none] at hk
    cases hk
theorem bad_D : va_D (fun q => b0 ≤ q) (wo cy (bad b0) kd G NP) := by
  refine ⟨fun i j x y hi hj hxy => ?_, fun k q hk => ?_⟩
  · obtain ⟨-, h1⟩ := wo_key hi
    obtain ⟨-, h2⟩ := wo_key hj
    rw [h1, h2] at hxy
    exact bad_inj hxy
  · obtain ⟨-, h1⟩ := wo_key hk
    rw [h1]
    exact Nat.le_add_right b0 k
theorem xw (h : ∀ q, q < NP → kE (c1, ce') (bad b0) G' (kd' q) q = kE (c1, ce) (bad b0) G (kd q) q) (k : xX p l e R s m args below meth c (fun q => b0 ≤ q) s.heap D (c1, ce') (bad b0) kd' NP nL cells slots Q G' pc lv st) : xX p l e R s m args below meth c (fun q => b0 ≤ q) s.heap D (c1, ce) (bad b0) kd NP nL cells slots Q G pc lv st := by
  intro H locs ls hP hD hS hl
  exact k H locs ls (by rw [wo_ext h]; exact hP) bad_D hS hl
theorem xwiden {k n : Nat} (h1 : cells ≤ k) (h2 : slots ≤ n) (kk : xX p l e R s m args below meth c (fun q => b0 ≤ q) s.heap D (c1, ce) (bad b0) kd NP nL k n Q G pc lv st) : xX p l e R s m args below meth c (fun q => b0 ≤ q) s.heap D (c1, ce) (bad b0) kd NP nL cells slots Q G pc lv st := fun H locs ls hP hD hS hl => W.widen h1 h2 (kk H locs ls hP hD hS hl)
theorem xnew (C : xC p s m args meth c cc own nL rt D (c1, ce)) {CN : String} {T : u_T} {N ci index : Nat} (ty : Nat → FieldType) (hty : ∀ k, k < N → parseFieldDescriptor (T k).2.2.1 = some (ty k)) (hin : ∀ w ∈ u_ws CN T N, w ∈ xAllW) (hcl : Cond.classLink own index CN ∈ xAllW) (hinst : Cond.instantiable CN N ∈ xAllW) (hini : Cond.initialized CN ∈ xAllW) (hc : vwCl[ci]? = some (CN, T, N)) (fs : List Value) (hfs : ∀ j, j < N → defaultValue (ty j) = vp_V fs j) (hsz : s.heap.size + cells = b0 + NP) (hb0 : b0 ≤ s.heap.size) (hcells : cells + 1 ≤ R.cells) (hslots : slots + N ≤ R.slots) (d : decode cc pc = .ok (.new index, 3)) (k : xX p l e R s m args below meth c (fun q => b0 ≤ q) s.heap D (c1, (va_up ce NP (.inr (ci, fs)))) (bad b0) (va_up kd NP 99) (NP + 1) nL (cells + 1) (slots + N) Q G (pc + 3) lv (.ref (bad b0 NP) :: rest)) : xX p l e R s m args below meth c (fun q => b0 ≤ q) s.heap D (c1, ce) (bad b0) kd NP nL cells slots Q G pc lv rest := by
  obtain ⟨hx, hb, hml, hown, hts, hK, hN, hr, hlk⟩ := C
  intro H locs ls hP hD hS hl
  refine va_new (ci := ci) (fs := fs) hx hb hts hin ty hty hown (hts _ hcl) (hts _ hinst) (hts _ hini) hK hP hD hS (fun q h => Nat.le_trans hb0 h) hc hfs hcells hslots d (fun q H1 hP1 hD1 hS1 => ?_)
  refine wsz (fun h2 => ?_)
  have hq : q = bad b0 NP := by
    have hlen : (wo (c1, ce) (bad b0) kd G NP).length = NP := by simp [wo]
    have hnew : (wo (c1, ce) (bad b0) kd G NP ++ [(q, (.inr (ci, fs) : va_E))])[NP]? = some (q, .inr (ci, fs)) := by
      rw [List.getElem?_append_right (by omega), hlen, Nat.sub_self]; rfl
    have hlt : q < H1.size := (hP1 NP _ hnew).lt
    have hge : b0 ≤ q := hD1.2 NP _ hnew
    by_cases h3 : q < b0 + NP
    · have hj : q - b0 < NP := by omega
      have hold : (wo (c1, ce) (bad b0) kd G NP ++ [(q, (.inr (ci, fs) : va_E))])[q - b0]? = some (bad b0 (q - b0), kE (c1, ce) (bad b0) G (kd (q - b0)) (q - b0)) := by
        rw [List.getElem?_append_left (by omega)]; exact wo_at ⟨hj, rfl⟩
      have := hD1.1 (q - b0) NP _ _ hold hnew (by show b0 + (q - b0) = q; omega)
      omega
    · show q = b0 + NP
      omega
  subst hq
  rw [wo_push (cy' := (c1, va_up ce NP (.inr (ci, fs)))) (kd' := va_up kd NP 99) (G' := G) (fun q hq => by rw [show va_up kd NP 99 q = kd q from if_neg (Nat.ne_of_lt hq)]; exact kE_congrC (if_neg (Nat.ne_of_lt hq))) (by simp [va_up, kE])] at hP1
  exact k H1 locs ls hP1 bad_D hS1 hl
theorem xnewaI (C : xC p s m args meth c cc own nL rt D (c1, ce)) {x : Int32} (n kk : Nat) (hn : ¬ x < 0) (hNn : x.toNatClampNeg = n) (hbytes : n * componentBytes .int ≤ 536870912) (hkk : ∀ (cy : xCy) (ad : Nat → Nat) (G : Mem) (q : Nat), kE cy ad G kk q = .inl (cy.1 0, n, .inl (G q))) (hw : Cond.arrayClass FieldType.int ∈ xAllW) (hsz : s.heap.size + cells = b0 + NP) (hb0 : b0 ≤ s.heap.size) (hcells : cells + 1 ≤ R.cells) (hslots : slots + n ≤ R.slots) (d : decode cc pc = .ok (.newarray .int, 2)) (k : xX p l e R s m args below meth c (fun q => b0 ≤ q) s.heap D (c1, ce) (bad b0) (va_up kd NP kk) (NP + 1) nL (cells + 1) (slots + n) Q (mrow G NP (fun _ => 0)) (pc + 2) lv (.ref (bad b0 NP) :: rest)) : xX p l e R s m args below meth c (fun q => b0 ≤ q) s.heap D (c1, ce) (bad b0) kd NP nL cells slots Q G pc lv (.int x :: rest) := by
  obtain ⟨hx, hb, hml, hown, hts, hK, hN, hr, hlk⟩ := C
  intro H locs ls hP hD hS hl
  refine va_newa (atype := .int) (ty := .int) (a0 := (n, .inl (fun _ => 0))) hx hb (hts _ hw) rfl hK hP hD hS (fun q h => Nat.le_trans hb0 h) (fun cA => rfl) hn hNn hbytes hcells hslots d (fun q cA H1 hK1 hP1 hD1 hS1 => ?_)
  have hcA : cA = c1 0 := by
    have h1 := (hK1.2 7 (cA, .int) rfl).2
    have h2 := (hK.2 0 (c1 0, .int) rfl).2
    exact Option.some.inj (h1.symm.trans h2)
  refine wsz (fun h2 => ?_)
  have hq : q = bad b0 NP := by
    have hlen : (wo (c1, ce) (bad b0) kd G NP).length = NP := by simp [wo]
    have hnew : (wo (c1, ce) (bad b0) kd G NP ++ [(q, (.inl (cA, n, .inl (fun _ => 0)) : va_E))])[NP]? = some (q, .inl (cA, n, .inl (fun _ => 0))) := by
      rw [List.getElem?_append_right (by omega), hlen, Nat.sub_self]; rfl
    have hlt : q < H1.size := (hP1 NP _ hnew).lt
    have hge : b0 ≤ q := hD1.2 NP _ hnew
    by_cases h3 : q < b0 + NP
    · have hj : q - b0 < NP := by omega
      have hold : (wo (c1, ce) (bad b0) kd G NP ++ [(q, (.inl (cA, n, .inl (fun _ => 0)) : va_E))])[q - b0]? = some (bad b0 (q - b0), kE (c1, ce) (bad b0) G (kd (q - b0)) (q - b0)) := by
        rw [List.getElem?_append_left (by omega)]; exact wo_at ⟨hj, rfl⟩
      have := hD1.1 (q - b0) NP _ _ hold hnew (by show b0 + (q - b0) = q; omega)
      omega
    · show q = b0 + NP
      omega
  subst hq
  subst hcA
  rw [wo_push (cy' := (c1, ce)) (kd' := va_up kd NP kk) (G' := mrow G NP (fun _ => 0)) (fun q hq => by rw [show va_up kd NP kk q = kd q from if_neg (Nat.ne_of_lt hq)]; exact kE_congr (mrow_ne (Nat.ne_of_lt hq))) (by rw [show va_up kd NP kk NP = kk from if_pos rfl, hkk, mrow_same])] at hP1
  exact k H1 locs ls hP1 bad_D hS1 hl
theorem xnewaZ (C : xC p s m args meth c cc own nL rt D (c1, ce)) {x : Int32} (n kk : Nat) (hn : ¬ x < 0) (hNn : x.toNatClampNeg = n) (hbytes : n * componentBytes .boolean ≤ 536870912) (hkk : ∀ (cy : xCy) (ad : Nat → Nat) (G : Mem) (q : Nat), kE cy ad G kk q = .inl (cy.1 1, n, .inl (G q))) (hw : Cond.arrayClass FieldType.boolean ∈ xAllW) (hsz : s.heap.size + cells = b0 + NP) (hb0 : b0 ≤ s.heap.size) (hcells : cells + 1 ≤ R.cells) (hslots : slots + n ≤ R.slots) (d : decode cc pc = .ok (.newarray .boolean, 2)) (k : xX p l e R s m args below meth c (fun q => b0 ≤ q) s.heap D (c1, ce) (bad b0) (va_up kd NP kk) (NP + 1) nL (cells + 1) (slots + n) Q (mrow G NP (fun _ => 0)) (pc + 2) lv (.ref (bad b0 NP) :: rest)) : xX p l e R s m args below meth c (fun q => b0 ≤ q) s.heap D (c1, ce) (bad b0) kd NP nL cells slots Q G pc lv (.int x :: rest) := by
  obtain ⟨hx, hb, hml, hown, hts, hK, hN, hr, hlk⟩ := C
  intro H locs ls hP hD hS hl
  refine va_newa (atype := .boolean) (ty := .boolean) (a0 := (n, .inl (fun _ => 0))) hx hb (hts _ hw) rfl hK hP hD hS (fun q h => Nat.le_trans hb0 h) (fun cA => rfl) hn hNn hbytes hcells hslots d (fun q cA H1 hK1 hP1 hD1 hS1 => ?_)
  have hcA : cA = c1 1 := by
    have h1 := (hK1.2 7 (cA, .boolean) rfl).2
    have h2 := (hK.2 1 (c1 1, .boolean) rfl).2
    exact Option.some.inj (h1.symm.trans h2)
  refine wsz (fun h2 => ?_)
  have hq : q = bad b0 NP := by
    have hlen : (wo (c1, ce) (bad b0) kd G NP).length = NP := by simp [wo]
    have hnew : (wo (c1, ce) (bad b0) kd G NP ++ [(q, (.inl (cA, n, .inl (fun _ => 0)) : va_E))])[NP]? = some (q, .inl (cA, n, .inl (fun _ => 0))) := by
      rw [List.getElem?_append_right (by omega), hlen, Nat.sub_self]; rfl
    have hlt : q < H1.size := (hP1 NP _ hnew).lt
    have hge : b0 ≤ q := hD1.2 NP _ hnew
    by_cases h3 : q < b0 + NP
    · have hj : q - b0 < NP := by omega
      have hold : (wo (c1, ce) (bad b0) kd G NP ++ [(q, (.inl (cA, n, .inl (fun _ => 0)) : va_E))])[q - b0]? = some (bad b0 (q - b0), kE (c1, ce) (bad b0) G (kd (q - b0)) (q - b0)) := by
        rw [List.getElem?_append_left (by omega)]; exact wo_at ⟨hj, rfl⟩
      have := hD1.1 (q - b0) NP _ _ hold hnew (by show b0 + (q - b0) = q; omega)
      omega
    · show q = b0 + NP
      omega
  subst hq
  subst hcA
  rw [wo_push (cy' := (c1, ce)) (kd' := va_up kd NP kk) (G' := mrow G NP (fun _ => 0)) (fun q hq => by rw [show va_up kd NP kk q = kd q from if_neg (Nat.ne_of_lt hq)]; exact kE_congr (mrow_ne (Nat.ne_of_lt hq))) (by rw [show va_up kd NP kk NP = kk from if_pos rfl, hkk, mrow_same])] at hP1
  exact k H1 locs ls hP1 bad_D hS1 hl
theorem xnewaC (C : xC p s m args meth c cc own nL rt D (c1, ce)) {x : Int32} (n kk : Nat) (hn : ¬ x < 0) (hNn : x.toNatClampNeg = n) (hbytes : n * componentBytes .char ≤ 536870912) (hkk : ∀ (cy : xCy) (ad : Nat → Nat) (G : Mem) (q : Nat), kE cy ad G kk q = .inl (cy.1 2, n, .inl (G q))) (hw : Cond.arrayClass FieldType.char ∈ xAllW) (hsz : s.heap.size + cells = b0 + NP) (hb0 : b0 ≤ s.heap.size) (hcells : cells + 1 ≤ R.cells) (hslots : slots + n ≤ R.slots) (d : decode cc pc = .ok (.newarray .char, 2)) (k : xX p l e R s m args below meth c (fun q => b0 ≤ q) s.heap D (c1, ce) (bad b0) (va_up kd NP kk) (NP + 1) nL (cells + 1) (slots + n) Q (mrow G NP (fun _ => 0)) (pc + 2) lv (.ref (bad b0 NP) :: rest)) : xX p l e R s m args below meth c (fun q => b0 ≤ q) s.heap D (c1, ce) (bad b0) kd NP nL cells slots Q G pc lv (.int x :: rest) := by
  obtain ⟨hx, hb, hml, hown, hts, hK, hN, hr, hlk⟩ := C
  intro H locs ls hP hD hS hl
  refine va_newa (atype := .char) (ty := .char) (a0 := (n, .inl (fun _ => 0))) hx hb (hts _ hw) rfl hK hP hD hS (fun q h => Nat.le_trans hb0 h) (fun cA => rfl) hn hNn hbytes hcells hslots d (fun q cA H1 hK1 hP1 hD1 hS1 => ?_)
  have hcA : cA = c1 2 := by
    have h1 := (hK1.2 7 (cA, .char) rfl).2
    have h2 := (hK.2 2 (c1 2, .char) rfl).2
    exact Option.some.inj (h1.symm.trans h2)
  refine wsz (fun h2 => ?_)
  have hq : q = bad b0 NP := by
    have hlen : (wo (c1, ce) (bad b0) kd G NP).length = NP := by simp [wo]
    have hnew : (wo (c1, ce) (bad b0) kd G NP ++ [(q, (.inl (cA, n, .inl (fun _ => 0)) : va_E))])[NP]? = some (q, .inl (cA, n, .inl (fun _ => 0))) := by
      rw [List.getElem?_append_right (by omega), hlen, Nat.sub_self]; rfl
    have hlt : q < H1.size := (hP1 NP _ hnew).lt
    have hge : b0 ≤ q := hD1.2 NP _ hnew
    by_cases h3 : q < b0 + NP
    · have hj : q - b0 < NP := by omega
      have hold : (wo (c1, ce) (bad b0) kd G NP ++ [(q, (.inl (cA, n, .inl (fun _ => 0)) : va_E))])[q - b0]? = some (bad b0 (q - b0), kE (c1, ce) (bad b0) G (kd (q - b0)) (q - b0)) := by
        rw [List.getElem?_append_left (by omega)]; exact wo_at ⟨hj, rfl⟩
      have := hD1.1 (q - b0) NP _ _ hold hnew (by show b0 + (q - b0) = q; omega)
      omega
    · show q = b0 + NP
      omega
  subst hq
  subst hcA
  rw [wo_push (cy' := (c1, ce)) (kd' := va_up kd NP kk) (G' := mrow G NP (fun _ => 0)) (fun q hq => by rw [show va_up kd NP kk q = kd q from if_neg (Nat.ne_of_lt hq)]; exact kE_congr (mrow_ne (Nat.ne_of_lt hq))) (by rw [show va_up kd NP kk NP = kk from if_pos rfl, hkk, mrow_same])] at hP1
  exact k H1 locs ls hP1 bad_D hS1 hl
theorem xnewq_1 (C : xC p s m args meth c cc own nL rt D (c1, ce)) {x : Int32} {index : Nat} (n : Nat) (hn : ¬ x < 0) (hNn : x.toNatClampNeg = n) (hbytes : n * 4 ≤ 536870912) (hcl : Cond.classLink own index RX1 ∈ xAllW) (hsz : s.heap.size + cells = b0 + NP) (hb0 : b0 ≤ s.heap.size) (hcells : cells + 1 ≤ R.cells) (hslots : slots + n ≤ R.slots) (d : decode cc pc = .ok (.anewarray index, 3)) (k : xX p l e R s m args below meth c (fun q => b0 ≤ q) s.heap D (c1, (va_up ce NP (.inl (c1 3, n, .inr (.inr (.inr (.inr (fun _ => none)))))))) (bad b0) (va_up kd NP 99) (NP + 1) nL (cells + 1) (slots + n) Q G (pc + 3) lv (.ref (bad b0 NP) :: rest)) : xX p l e R s m args below meth c (fun q => b0 ≤ q) s.heap D (c1, ce) (bad b0) kd NP nL cells slots Q G pc lv (.int x :: rest) := by
  obtain ⟨hx, hb, hml, hown, hts, hK, hN, hr, hlk⟩ := C
  intro H locs ls hP hD hS hl
  refine va_newq (C := RX1) hx hb hown (hts _ hcl) (hN.2.2 _ (by simp [xAO])) hK hP hD hS (fun q h => Nat.le_trans hb0 h) hn hNn hbytes hcells hslots d (fun q cA H1 hK1 hP1 hD1 hS1 => ?_)
  have hcA : cA = c1 3 := by
    obtain ⟨_, _, _, _, _, h1⟩ := (hK1.2 7 (cA, .object RX1) rfl).2
    obtain ⟨_, _, _, _, _, h2⟩ := (hK.2 3 (c1 3, .object RX1) rfl).2
    exact Option.some.inj (h1.symm.trans h2)
  refine wsz (fun h2 => ?_)
  have hq : q = bad b0 NP := by
    have hlen : (wo (c1, ce) (bad b0) kd G NP).length = NP := by simp [wo]
    have hnew : (wo (c1, ce) (bad b0) kd G NP ++ [(q, (.inl (cA, n, .inr (.inr (.inr (.inr (fun _ => none))))) : va_E))])[NP]? = some (q, .inl (cA, n, .inr (.inr (.inr (.inr (fun _ => none)))))) := by
      rw [List.getElem?_append_right (by omega), hlen, Nat.sub_self]; rfl
    have hlt : q < H1.size := (hP1 NP _ hnew).lt
    have hge : b0 ≤ q := hD1.2 NP _ hnew
    by_cases h3 : q < b0 + NP
    · have hj : q - b0 < NP := by omega
      have hold : (wo (c1, ce) (bad b0) kd G NP ++ [(q, (.inl (cA, n, .inr (.inr (.inr (.inr (fun _ => none))))) : va_E))])[q - b0]? = some (bad b0 (q - b0), kE (c1, ce) (bad b0) G (kd (q - b0)) (q - b0)) := by
        rw [List.getElem?_append_left (by omega)]; exact wo_at ⟨hj, rfl⟩
      have := hD1.1 (q - b0) NP _ _ hold hnew (by show b0 + (q - b0) = q; omega)
      omega
    · show q = b0 + NP
      omega
  subst hq
  subst hcA
  rw [wo_push (cy' := (c1, va_up ce NP (.inl (c1 3, n, .inr (.inr (.inr (.inr (fun _ => none)))))))) (kd' := va_up kd NP 99) (G' := G) (fun q hq => by rw [show va_up kd NP 99 q = kd q from if_neg (Nat.ne_of_lt hq)]; exact kE_congrC (if_neg (Nat.ne_of_lt hq))) (by simp [va_up, kE])] at hP1
  exact k H1 locs ls hP1 bad_D hS1 hl
theorem xnewq_0 (C : xC p s m args meth c cc own nL rt D (c1, ce)) {x : Int32} {index : Nat} (n : Nat) (hn : ¬ x < 0) (hNn : x.toNatClampNeg = n) (hbytes : n * 4 ≤ 536870912) (hcl : Cond.classLink own index RX0 ∈ xAllW) (hsz : s.heap.size + cells = b0 + NP) (hb0 : b0 ≤ s.heap.size) (hcells : cells + 1 ≤ R.cells) (hslots : slots + n ≤ R.slots) (d : decode cc pc = .ok (.anewarray index, 3)) (k : xX p l e R s m args below meth c (fun q => b0 ≤ q) s.heap D (c1, (va_up ce NP (.inl (c1 4, n, .inr (.inr (.inr (.inr (fun _ => none)))))))) (bad b0) (va_up kd NP 99) (NP + 1) nL (cells + 1) (slots + n) Q G (pc + 3) lv (.ref (bad b0 NP) :: rest)) : xX p l e R s m args below meth c (fun q => b0 ≤ q) s.heap D (c1, ce) (bad b0) kd NP nL cells slots Q G pc lv (.int x :: rest) := by
  obtain ⟨hx, hb, hml, hown, hts, hK, hN, hr, hlk⟩ := C
  intro H locs ls hP hD hS hl
  refine va_newq (C := RX0) hx hb hown (hts _ hcl) (hN.2.2 _ (by simp [xAO])) hK hP hD hS (fun q h => Nat.le_trans hb0 h) hn hNn hbytes hcells hslots d (fun q cA H1 hK1 hP1 hD1 hS1 => ?_)
  have hcA : cA = c1 4 := by
    obtain ⟨_, _, _, _, _, h1⟩ := (hK1.2 7 (cA, .object RX0) rfl).2
    obtain ⟨_, _, _, _, _, h2⟩ := (hK.2 4 (c1 4, .object RX0) rfl).2
    exact Option.some.inj (h1.symm.trans h2)
  refine wsz (fun h2 => ?_)
  have hq : q = bad b0 NP := by
    have hlen : (wo (c1, ce) (bad b0) kd G NP).length = NP := by simp [wo]
    have hnew : (wo (c1, ce) (bad b0) kd G NP ++ [(q, (.inl (cA, n, .inr (.inr (.inr (.inr (fun _ => none))))) : va_E))])[NP]? = some (q, .inl (cA, n, .inr (.inr (.inr (.inr (fun _ => none)))))) := by
      rw [List.getElem?_append_right (by omega), hlen, Nat.sub_self]; rfl
    have hlt : q < H1.size := (hP1 NP _ hnew).lt
    have hge : b0 ≤ q := hD1.2 NP _ hnew
    by_cases h3 : q < b0 + NP
    · have hj : q - b0 < NP := by omega
      have hold : (wo (c1, ce) (bad b0) kd G NP ++ [(q, (.inl (cA, n, .inr (.inr (.inr (.inr (fun _ => none))))) : va_E))])[q - b0]? = some (bad b0 (q - b0), kE (c1, ce) (bad b0) G (kd (q - b0)) (q - b0)) := by
        rw [List.getElem?_append_left (by omega)]; exact wo_at ⟨hj, rfl⟩
      have := hD1.1 (q - b0) NP _ _ hold hnew (by show b0 + (q - b0) = q; omega)
      omega
    · show q = b0 + NP
      omega
  subst hq
  subst hcA
  rw [wo_push (cy' := (c1, va_up ce NP (.inl (c1 4, n, .inr (.inr (.inr (.inr (fun _ => none)))))))) (kd' := va_up kd NP 99) (G' := G) (fun q hq => by rw [show va_up kd NP 99 q = kd q from if_neg (Nat.ne_of_lt hq)]; exact kE_congrC (if_neg (Nat.ne_of_lt hq))) (by simp [va_up, kE])] at hP1
  exact k H1 locs ls hP1 bad_D hS1 hl
theorem xnewq_4 (C : xC p s m args meth c cc own nL rt D (c1, ce)) {x : Int32} {index : Nat} (n : Nat) (hn : ¬ x < 0) (hNn : x.toNatClampNeg = n) (hbytes : n * 4 ≤ 536870912) (hcl : Cond.classLink own index RX4 ∈ xAllW) (hsz : s.heap.size + cells = b0 + NP) (hb0 : b0 ≤ s.heap.size) (hcells : cells + 1 ≤ R.cells) (hslots : slots + n ≤ R.slots) (d : decode cc pc = .ok (.anewarray index, 3)) (k : xX p l e R s m args below meth c (fun q => b0 ≤ q) s.heap D (c1, (va_up ce NP (.inl (c1 5, n, .inr (.inr (.inr (.inr (fun _ => none)))))))) (bad b0) (va_up kd NP 99) (NP + 1) nL (cells + 1) (slots + n) Q G (pc + 3) lv (.ref (bad b0 NP) :: rest)) : xX p l e R s m args below meth c (fun q => b0 ≤ q) s.heap D (c1, ce) (bad b0) kd NP nL cells slots Q G pc lv (.int x :: rest) := by
  obtain ⟨hx, hb, hml, hown, hts, hK, hN, hr, hlk⟩ := C
  intro H locs ls hP hD hS hl
  refine va_newq (C := RX4) hx hb hown (hts _ hcl) (hN.2.2 _ (by simp [xAO])) hK hP hD hS (fun q h => Nat.le_trans hb0 h) hn hNn hbytes hcells hslots d (fun q cA H1 hK1 hP1 hD1 hS1 => ?_)
  have hcA : cA = c1 5 := by
    obtain ⟨_, _, _, _, _, h1⟩ := (hK1.2 7 (cA, .object RX4) rfl).2
    obtain ⟨_, _, _, _, _, h2⟩ := (hK.2 5 (c1 5, .object RX4) rfl).2
    exact Option.some.inj (h1.symm.trans h2)
  refine wsz (fun h2 => ?_)
  have hq : q = bad b0 NP := by
    have hlen : (wo (c1, ce) (bad b0) kd G NP).length = NP := by simp [wo]
    have hnew : (wo (c1, ce) (bad b0) kd G NP ++ [(q, (.inl (cA, n, .inr (.inr (.inr (.inr (fun _ => none))))) : va_E))])[NP]? = some (q, .inl (cA, n, .inr (.inr (.inr (.inr (fun _ => none)))))) := by
      rw [List.getElem?_append_right (by omega), hlen, Nat.sub_self]; rfl
    have hlt : q < H1.size := (hP1 NP _ hnew).lt
    have hge : b0 ≤ q := hD1.2 NP _ hnew
    by_cases h3 : q < b0 + NP
    · have hj : q - b0 < NP := by omega
      have hold : (wo (c1, ce) (bad b0) kd G NP ++ [(q, (.inl (cA, n, .inr (.inr (.inr (.inr (fun _ => none))))) : va_E))])[q - b0]? = some (bad b0 (q - b0), kE (c1, ce) (bad b0) G (kd (q - b0)) (q - b0)) := by
        rw [List.getElem?_append_left (by omega)]; exact wo_at ⟨hj, rfl⟩
      have := hD1.1 (q - b0) NP _ _ hold hnew (by show b0 + (q - b0) = q; omega)
      omega
    · show q = b0 + NP
      omega
  subst hq
  subst hcA
  rw [wo_push (cy' := (c1, va_up ce NP (.inl (c1 5, n, .inr (.inr (.inr (.inr (fun _ => none)))))))) (kd' := va_up kd NP 99) (G' := G) (fun q hq => by rw [show va_up kd NP 99 q = kd q from if_neg (Nat.ne_of_lt hq)]; exact kE_congrC (if_neg (Nat.ne_of_lt hq))) (by simp [va_up, kE])] at hP1
  exact k H1 locs ls hP1 bad_D hS1 hl
theorem xnewq_6 (C : xC p s m args meth c cc own nL rt D (c1, ce)) {x : Int32} {index : Nat} (n : Nat) (hn : ¬ x < 0) (hNn : x.toNatClampNeg = n) (hbytes : n * 4 ≤ 536870912) (hcl : Cond.classLink own index RX6 ∈ xAllW) (hsz : s.heap.size + cells = b0 + NP) (hb0 : b0 ≤ s.heap.size) (hcells : cells + 1 ≤ R.cells) (hslots : slots + n ≤ R.slots) (d : decode cc pc = .ok (.anewarray index, 3)) (k : xX p l e R s m args below meth c (fun q => b0 ≤ q) s.heap D (c1, (va_up ce NP (.inl (c1 6, n, .inr (.inr (.inr (.inr (fun _ => none)))))))) (bad b0) (va_up kd NP 99) (NP + 1) nL (cells + 1) (slots + n) Q G (pc + 3) lv (.ref (bad b0 NP) :: rest)) : xX p l e R s m args below meth c (fun q => b0 ≤ q) s.heap D (c1, ce) (bad b0) kd NP nL cells slots Q G pc lv (.int x :: rest) := by
  obtain ⟨hx, hb, hml, hown, hts, hK, hN, hr, hlk⟩ := C
  intro H locs ls hP hD hS hl
  refine va_newq (C := RX6) hx hb hown (hts _ hcl) (hN.2.2 _ (by simp [xAO])) hK hP hD hS (fun q h => Nat.le_trans hb0 h) hn hNn hbytes hcells hslots d (fun q cA H1 hK1 hP1 hD1 hS1 => ?_)
  have hcA : cA = c1 6 := by
    obtain ⟨_, _, _, _, _, h1⟩ := (hK1.2 7 (cA, .object RX6) rfl).2
    obtain ⟨_, _, _, _, _, h2⟩ := (hK.2 6 (c1 6, .object RX6) rfl).2
    exact Option.some.inj (h1.symm.trans h2)
  refine wsz (fun h2 => ?_)
  have hq : q = bad b0 NP := by
    have hlen : (wo (c1, ce) (bad b0) kd G NP).length = NP := by simp [wo]
    have hnew : (wo (c1, ce) (bad b0) kd G NP ++ [(q, (.inl (cA, n, .inr (.inr (.inr (.inr (fun _ => none))))) : va_E))])[NP]? = some (q, .inl (cA, n, .inr (.inr (.inr (.inr (fun _ => none)))))) := by
      rw [List.getElem?_append_right (by omega), hlen, Nat.sub_self]; rfl
    have hlt : q < H1.size := (hP1 NP _ hnew).lt
    have hge : b0 ≤ q := hD1.2 NP _ hnew
    by_cases h3 : q < b0 + NP
    · have hj : q - b0 < NP := by omega
      have hold : (wo (c1, ce) (bad b0) kd G NP ++ [(q, (.inl (cA, n, .inr (.inr (.inr (.inr (fun _ => none))))) : va_E))])[q - b0]? = some (bad b0 (q - b0), kE (c1, ce) (bad b0) G (kd (q - b0)) (q - b0)) := by
        rw [List.getElem?_append_left (by omega)]; exact wo_at ⟨hj, rfl⟩
      have := hD1.1 (q - b0) NP _ _ hold hnew (by show b0 + (q - b0) = q; omega)
      omega
    · show q = b0 + NP
      omega
  subst hq
  subst hcA
  rw [wo_push (cy' := (c1, va_up ce NP (.inl (c1 6, n, .inr (.inr (.inr (.inr (fun _ => none)))))))) (kd' := va_up kd NP 99) (G' := G) (fun q hq => by rw [show va_up kd NP 99 q = kd q from if_neg (Nat.ne_of_lt hq)]; exact kE_congrC (if_neg (Nat.ne_of_lt hq))) (by simp [va_up, kE])] at hP1
  exact k H1 locs ls hP1 bad_D hS1 hl
theorem xgetO (C : xC p s m args meth c cc own nL rt D (c1, ce)) {q ci : Nat} {fs : List Value} {CN : String} {T : u_T} {N : Nat} {v : Value} {index : Nat} (hq : q < NP) (hk : kd q = 99) (he : ce q = .inr (ci, fs)) (hc : vwCl[ci]? = some (CN, T, N)) (hin : ∀ w ∈ u_ws CN T N, w ∈ xAllW) (f : Nat) (hf : f < N) (hv : fs[f]? = some v) (hlink : Cond.fieldLink own index (T f).1 (T f).2.1 (T f).2.2.1 ∈ xAllW) (d : decode cc pc = .ok (.getfield index, 3)) (k : xX p l e R s m args below meth c (fun q => b0 ≤ q) s.heap D (c1, ce) (bad b0) kd NP nL cells slots Q G (pc + 3) lv (v :: rest)) : xX p l e R s m args below meth c (fun q => b0 ≤ q) s.heap D (c1, ce) (bad b0) kd NP nL cells slots Q G pc lv (.ref (bad b0 q) :: rest) := by
  obtain ⟨hx, hb, hml, hown, hts, hK, hN, hr, hlk⟩ := C
  intro H locs ls hP hD hS hl
  exact va_get (D := D) (cl := vwCl) (ci := ci) (v := v) (C := CN) (T := T) (N := N) hx hb hts hin hown hK hP q (by rw [wo_at ⟨hq, hk⟩]; show some (bad b0 q, ce q) = _; rw [he]) hc f hf (hts _ hlink) (fun _ h9 => h9) hv d (k H locs ls hP hD hS hl)
theorem xputO (C : xC p s m args meth c cc own nL rt D (c1, ce)) {q ci : Nat} {fs : List Value} {CN : String} {T : u_T} {N : Nat} {v : Value} {index : Nat} (hq : q < NP) (hk : kd q = 99) (he : ce q = .inr (ci, fs)) (hc : vwCl[ci]? = some (CN, T, N)) (hin : ∀ w ∈ u_ws CN T N, w ∈ xAllW) (ty0 : Nat → FieldType) (hty : ∀ k, k < N → parseFieldDescriptor (T k).2.2.1 = some (ty0 k)) (hnm : ∀ a, a < N → ∀ b, b < N → a ≠ b → (T a).2.1 ≠ (T b).2.1) (f : Nat) (hf : f < N) (hfs : f < fs.length) (hfin : (T f).2.2.2 = false) {ty : FieldType} (hd : parseFieldDescriptor (T f).2.2.1 = some ty) (hn : narrow ty v = v) (hfit : fits ty v = true) (hlink : Cond.fieldLink own index (T f).1 (T f).2.1 (T f).2.2.1 ∈ xAllW) (d : decode cc pc = .ok (.putfield index, 3)) (k : xX p l e R s m args below meth c (fun q => b0 ≤ q) s.heap D (c1, (va_up ce q (.inr (ci, fs.set f v)))) (bad b0) kd NP nL cells slots Q G (pc + 3) lv rest) : xX p l e R s m args below meth c (fun q => b0 ≤ q) s.heap D (c1, ce) (bad b0) kd NP nL cells slots Q G pc lv (v :: .ref (bad b0 q) :: rest) := by
  obtain ⟨hx, hb, hml, hown, hts, hK, hN, hr, hlk⟩ := C
  intro H locs ls hP hD hS hl
  refine va_put (D := D) (cl := vwCl) (ci := ci) (v := v) (ty := ty) (C := CN) (T := T) (N := N) hx hb hts hin ty0 hty hnm hown hK hP hD hS q (by rw [wo_at ⟨hq, hk⟩]; show some (bad b0 q, ce q) = _; rw [he]) hc f hf (hts _ hlink) (fun _ h9 => h9) hfin hd hn hfit hfs d (fun H1 locs1 hP1 hD1 hS1 => ?_)
  rw [wo_setO hq hk] at hP1
  exact k H1 locs1 ls hP1 bad_D hS1 hl
theorem xputOF (C : xC p s m args meth c cc own nL rt D (c1, ce)) {q ci : Nat} {fs : List Value} {CN : String} {T : u_T} {N : Nat} {v : Value} {index : Nat} (hq : q < NP) (hk : kd q = 99) (he : ce q = .inr (ci, fs)) (hc : vwCl[ci]? = some (CN, T, N)) (hin : ∀ w ∈ u_ws CN T N, w ∈ xAllW) (ty0 : Nat → FieldType) (hty : ∀ k, k < N → parseFieldDescriptor (T k).2.2.1 = some (ty0 k)) (hnm : ∀ a, a < N → ∀ b, b < N → a ≠ b → (T a).2.1 ≠ (T b).2.1) (f : Nat) (hf : f < N) (hfs : f < fs.length) (hfin : (T f).2.2.2 = true) (hin2 : meth.name = "<init>") (hdecl : (T f).1 = own) {ty : FieldType} (hd : parseFieldDescriptor (T f).2.2.1 = some ty) (hn : narrow ty v = v) (hfit : fits ty v = true) (hlink : Cond.fieldLink own index (T f).1 (T f).2.1 (T f).2.2.1 ∈ xAllW) (d : decode cc pc = .ok (.putfield index, 3)) (k : xX p l e R s m args below meth c (fun q => b0 ≤ q) s.heap D (c1, (va_up ce q (.inr (ci, fs.set f v)))) (bad b0) kd NP nL cells slots Q G (pc + 3) lv rest) : xX p l e R s m args below meth c (fun q => b0 ≤ q) s.heap D (c1, ce) (bad b0) kd NP nL cells slots Q G pc lv (v :: .ref (bad b0 q) :: rest) := by
  obtain ⟨hx, hb, hml, hown, hts, hK, hN, hr, hlk⟩ := C
  intro H locs ls hP hD hS hl
  refine va_putF (D := D) (cl := vwCl) (ci := ci) (v := v) (ty := ty) (C := CN) (T := T) (N := N) hx hb hts hin ty0 hty hnm hown hK hP hD hS q (by rw [wo_at ⟨hq, hk⟩]; show some (bad b0 q, ce q) = _; rw [he]) hc f hf (hts _ hlink) (fun _ h9 => h9) hfin hin2 hdecl hd hn hfit hfs d (fun H1 locs1 hP1 hD1 hS1 => ?_)
  rw [wo_setO hq hk] at hP1
  exact k H1 locs1 ls hP1 bad_D hS1 hl
theorem xaasO_1 (C : xC p s m args meth c cc own nL rt D (c1, ce)) {q v n : Nat} {f : Nat → Option Nat} {i : Int32} {vs : List Value} (j : Nat) (hj : i.toNatClampNeg = j) (hq : q < NP) (hk : kd q = 99) (he : ce q = .inl (c1 3, n, .inr (.inr (.inr (.inr f))))) (hv : v < NP) (hve : kE (c1, ce) (bad b0) G (kd v) v = .inr (1, vs)) (hin : vp_in i n) (d : decode cc pc = .ok (.aastore, 1)) (k : xX p l e R s m args below meth c (fun q => b0 ≤ q) s.heap D (c1, (va_up ce q (.inl (c1 3, n, .inr (.inr (.inr (.inr (va_up f j (some (bad b0 v)))))))))) (bad b0) kd NP nL cells slots Q G (pc + 1) lv rest) : xX p l e R s m args below meth c (fun q => b0 ≤ q) s.heap D (c1, ce) (bad b0) kd NP nL cells slots Q G pc lv (.ref (bad b0 v) :: .int i :: .ref (bad b0 q) :: rest) := by
  subst hj
  obtain ⟨hx, hb, hml, hown, hts, hK, hN, hr, hlk⟩ := C
  intro H locs ls hP hD hS hl
  refine va_astq (r := (RX1, TX1, 4)) (ci := 1) hx hb hK hP hD hS q 3 v (f := f) (n := n) (cA := c1 3) (vs := vs) (by rw [wo_at ⟨hq, hk⟩]; show some (bad b0 q, ce q) = _; rw [he]) rfl (by rw [wo_at ⟨hv, rfl⟩, hve]) rfl hin d (fun H1 locs1 hP1 hD1 hS1 => ?_)
  rw [wo_setO hq hk] at hP1
  exact k H1 locs1 ls hP1 bad_D hS1 hl
theorem xaasO_0 (C : xC p s m args meth c cc own nL rt D (c1, ce)) {q v n : Nat} {f : Nat → Option Nat} {i : Int32} {vs : List Value} (j : Nat) (hj : i.toNatClampNeg = j) (hq : q < NP) (hk : kd q = 99) (he : ce q = .inl (c1 4, n, .inr (.inr (.inr (.inr f))))) (hv : v < NP) (hve : kE (c1, ce) (bad b0) G (kd v) v = .inr (0, vs)) (hin : vp_in i n) (d : decode cc pc = .ok (.aastore, 1)) (k : xX p l e R s m args below meth c (fun q => b0 ≤ q) s.heap D (c1, (va_up ce q (.inl (c1 4, n, .inr (.inr (.inr (.inr (va_up f j (some (bad b0 v)))))))))) (bad b0) kd NP nL cells slots Q G (pc + 1) lv rest) : xX p l e R s m args below meth c (fun q => b0 ≤ q) s.heap D (c1, ce) (bad b0) kd NP nL cells slots Q G pc lv (.ref (bad b0 v) :: .int i :: .ref (bad b0 q) :: rest) := by
  subst hj
  obtain ⟨hx, hb, hml, hown, hts, hK, hN, hr, hlk⟩ := C
  intro H locs ls hP hD hS hl
  refine va_astq (r := (RX0, TX0, 4)) (ci := 0) hx hb hK hP hD hS q 4 v (f := f) (n := n) (cA := c1 4) (vs := vs) (by rw [wo_at ⟨hq, hk⟩]; show some (bad b0 q, ce q) = _; rw [he]) rfl (by rw [wo_at ⟨hv, rfl⟩, hve]) rfl hin d (fun H1 locs1 hP1 hD1 hS1 => ?_)
  rw [wo_setO hq hk] at hP1
  exact k H1 locs1 ls hP1 bad_D hS1 hl
theorem xaasO_4 (C : xC p s m args meth c cc own nL rt D (c1, ce)) {q v n : Nat} {f : Nat → Option Nat} {i : Int32} {vs : List Value} (j : Nat) (hj : i.toNatClampNeg = j) (hq : q < NP) (hk : kd q = 99) (he : ce q = .inl (c1 5, n, .inr (.inr (.inr (.inr f))))) (hv : v < NP) (hve : kE (c1, ce) (bad b0) G (kd v) v = .inr (4, vs)) (hin : vp_in i n) (d : decode cc pc = .ok (.aastore, 1)) (k : xX p l e R s m args below meth c (fun q => b0 ≤ q) s.heap D (c1, (va_up ce q (.inl (c1 5, n, .inr (.inr (.inr (.inr (va_up f j (some (bad b0 v)))))))))) (bad b0) kd NP nL cells slots Q G (pc + 1) lv rest) : xX p l e R s m args below meth c (fun q => b0 ≤ q) s.heap D (c1, ce) (bad b0) kd NP nL cells slots Q G pc lv (.ref (bad b0 v) :: .int i :: .ref (bad b0 q) :: rest) := by
  subst hj
  obtain ⟨hx, hb, hml, hown, hts, hK, hN, hr, hlk⟩ := C
  intro H locs ls hP hD hS hl
  refine va_astq (r := (RX4, TX4, 14)) (ci := 4) hx hb hK hP hD hS q 5 v (f := f) (n := n) (cA := c1 5) (vs := vs) (by rw [wo_at ⟨hq, hk⟩]; show some (bad b0 q, ce q) = _; rw [he]) rfl (by rw [wo_at ⟨hv, rfl⟩, hve]) rfl hin d (fun H1 locs1 hP1 hD1 hS1 => ?_)
  rw [wo_setO hq hk] at hP1
  exact k H1 locs1 ls hP1 bad_D hS1 hl
theorem xaasO_6 (C : xC p s m args meth c cc own nL rt D (c1, ce)) {q v n : Nat} {f : Nat → Option Nat} {i : Int32} {vs : List Value} (j : Nat) (hj : i.toNatClampNeg = j) (hq : q < NP) (hk : kd q = 99) (he : ce q = .inl (c1 6, n, .inr (.inr (.inr (.inr f))))) (hv : v < NP) (hve : kE (c1, ce) (bad b0) G (kd v) v = .inr (6, vs)) (hin : vp_in i n) (d : decode cc pc = .ok (.aastore, 1)) (k : xX p l e R s m args below meth c (fun q => b0 ≤ q) s.heap D (c1, (va_up ce q (.inl (c1 6, n, .inr (.inr (.inr (.inr (va_up f j (some (bad b0 v)))))))))) (bad b0) kd NP nL cells slots Q G (pc + 1) lv rest) : xX p l e R s m args below meth c (fun q => b0 ≤ q) s.heap D (c1, ce) (bad b0) kd NP nL cells slots Q G pc lv (.ref (bad b0 v) :: .int i :: .ref (bad b0 q) :: rest) := by
  subst hj
  obtain ⟨hx, hb, hml, hown, hts, hK, hN, hr, hlk⟩ := C
  intro H locs ls hP hD hS hl
  refine va_astq (r := (RX6, TX6, 3)) (ci := 6) hx hb hK hP hD hS q 6 v (f := f) (n := n) (cA := c1 6) (vs := vs) (by rw [wo_at ⟨hq, hk⟩]; show some (bad b0 q, ce q) = _; rw [he]) rfl (by rw [wo_at ⟨hv, rfl⟩, hve]) rfl hin d (fun H1 locs1 hP1 hD1 hS1 => ?_)
  rw [wo_setO hq hk] at hP1
  exact k H1 locs1 ls hP1 bad_D hS1 hl
theorem xobj (C : xC p s m args meth c cc own nL rt D (c1, ce)) {q idx : Nat} (hlink : Cond.methodLink own idx objectInit ∈ xAllW) (hinst : Cond.instanceMethod objectInit ∈ xAllW) (hcode : Cond.code objectInit ⟨#[0xb1]⟩ 1 none ∈ xAllW) (hR : 1 ≤ R.frames ∧ (rest.map fun v => v.category).sum + 12 ≤ R.locals) (d : decode cc pc = .ok (.invokespecial idx, 3)) (k : xX p l e R s m args below meth c (fun q => b0 ≤ q) s.heap D (c1, ce) (bad b0) kd NP nL cells slots Q G (pc + 3) lv rest) : xX p l e R s m args below meth c (fun q => b0 ≤ q) s.heap D (c1, ce) (bad b0) kd NP nL cells slots Q G pc lv (.ref (bad b0 q) :: rest) := by
  obtain ⟨hx, hb, hml, hown, hts, hK, hN, hr, hlk⟩ := C
  intro H locs ls hP hD hS hl
  refine W.objInit hx hb hown (hts _ hlink) (hts _ hinst) (hts _ hcode) rfl (by rw [hml]; exact hl.1) rfl d hR.1 (by show 2 * 0 + _ + 12 ≤ _; omega) ?_
  exact k H locs ls hP hD hS hl
def xRm (fr lo mc ms : Nat) : Room := { frames := fr, cells := mc, slots := ms, locals := lo }
def xK (l : Launch) (D : va_G) (c1 : Nat → ClassId) (b0 : Nat) (y : MethodName) (b : ByteArray) (n fr lo mc ms : Nat) (as : List Value) (ce0 : Nat → va_E) (kd0 : Nat → Nat) (G0 : Mem) (NP0 : Nat) (ce' : Nat → va_E) (kd' : Nat → Nat) (G' : Mem) (NP' : Nat) : Prop :=
  Met l y (xWs y b n none) (xRm fr lo mc ms) (va_Pc as (fun U => xPre D (c1, ce0) (bad b0) kd0 NP0 (fun q => b0 ≤ q) G0 U ∧ U.heap.size = b0 + NP0)) (va_Qv (fun (_ : Unit) => True) (fun _ t => va_P D vwCl (wo (c1, ce') (bad b0) kd' G' NP') t.heap) (fun q => b0 ≤ q)) mc ms (fun q => b0 ≤ q)
def xQk (below : List Frame) (D : va_G) (c1 : Nat → ClassId) (b0 : Nat) (args : Array Value) (s : State) (mc ms : Nat) (ce' : Nat → va_E) (kd' : Nat → Nat) (G' : Mem) (NP' : Nat) : State → Prop := MQ below (va_Qv (fun (_ : Unit) => True) (fun _ t => va_P D vwCl (wo (c1, ce') (bad b0) kd' G' NP') t.heap) (fun q => b0 ≤ q)) args s mc ms (fun q => b0 ≤ q)
theorem xkret {mc ms : Nat} (C : xC p s m args meth c cc own nL rt D (c1, ce)) (hrt : rt = none) (d : decode cc pc = .ok (.return_, 1)) : xX p l e R s m args below meth c (fun q => b0 ≤ q) s.heap D (c1, ce) (bad b0) kd NP nL mc ms (xQk below D c1 b0 args s mc ms ce kd G NP) G pc lv [] := by
  obtain ⟨hx, hb, hml, hown, hts, hK, hN, hr, hlk⟩ := C
  intro H locs ls hP hD hS hl
  exact W.vret hx hb (hr.trans hrt) (fun t ht hW => ⟨⟨(), rfl, trivial, by show va_P D vwCl (wo (c1, ce) (bad b0) kd G NP) t.heap; rw [ht]; exact hP⟩, hS.F ht⟩) hS.2.2 d hlk
theorem xK_of {l : Launch} {y : MethodName} {b : ByteArray} {n fr lo mc ms : Nat} {as : List Value} {ce0 : Nat → va_E} {kd0 : Nat → Nat} {G0 : Mem} {NP0 : Nat} {ce' : Nat → va_E} {kd' : Nat → Nat} {G' : Mem} {NP' : Nat} (hy : plainName y.cls = true) (hn : (lg_sl as).length ≤ n)
    (body : ∀ (p : Program) (e : Env) (s : State) (m : MethodId) (args : Array Value) (below : List Frame) (meth : Method) (c : Code), xC p s m args meth c b y.cls n none D (c1, ce0) → meth.name = y.name → s.heap.size = b0 + NP0 → xX p l e (xRm fr lo mc ms) s m args below meth c (fun q => b0 ≤ q) s.heap D (c1, ce0) (bad b0) kd0 NP0 n 0 0 (xQk below D c1 b0 args s mc ms ce' kd' G' NP') G0 0 (lv_args 0 as) []) : xK l D c1 b0 y b n fr lo mc ms as ce0 kd0 G0 NP0 ce' kd' G' NP' := by
  refine Met.ofW (cc := b) (maxL := n) (ret := none) hy rfl ?_
  intro p e s m args below meth c s₁ B hml hv
  obtain ⟨rfl, ⟨hP, hD, hK, hN⟩, hz⟩ := hv
  have hts := atoms_spec (ws := xWs y b n none) B.pre
  have hl := lv_entry as hn
  rw [lg_entry_eq]
  exact body p e s m as.toArray below meth c ⟨B.exec, B.bytes, hml, findClass_of_methodNamed B.named, fun w hw => hts w (List.mem_cons_of_mem _ hw), hK, hN, B.returns, B.notSynchronized⟩ (name_of_methodNamed B.named B.method).1 hz s.heap [] _ hP hD va_S.rf hl
theorem xblindK (as : List Value) (ce0 : Nat → va_E) : FrameBlind (va_Pc as (fun U => xPre D (c1, ce0) (bad b0) kd NP (fun q => b0 ≤ q) G U ∧ U.heap.size = b0 + NP)) := fun a U g mk q => by
  obtain ⟨q0, ⟨qP, qD, qK, qN⟩, qz⟩ := q
  exact ⟨q0, ⟨qP, qD, va_K.moved (u := U) (U := U.calling g mk a) (Vm.Alike.refl U.vm) qK, xNs.same (s := U) (U := U.calling g mk a) rfl qN⟩, qz⟩
theorem xKN (C : xC p s m args meth c cc own nL rt D (c1, ce)) {y : MethodName} {b : ByteArray} {n fr lo mc ms index q NP' : Nat} (hM : xK l D c1 b0 y b n fr lo mc ms [.ref (bad b0 q)] ce kd G NP ce' kd' G' NP') (hlink : (own, index, y) ∈ xNM) (hinst : Cond.instanceMethod y ∈ xAllW) (hy : y.name = "<init>") (hw : xW y b n none 0) (hR : fr + 1 ≤ R.frames ∧ 8 + (n + 11) + lo ≤ R.locals) (hsz : s.heap.size + cells = b0 + NP) (hcs : cells + mc ≤ R.cells ∧ slots + ms ≤ R.slots) (hrs : (rest.map fun v => v.category).sum ≤ 8) (hb0 : b0 ≤ s.heap.size) (d : decode cc pc = .ok (.invokespecial index, 3)) (k : xX p l e R s m args below meth c (fun q => b0 ≤ q) s.heap D (c1, ce') (bad b0) kd' NP' nL (cells + mc) (slots + ms) Q G' (pc + 3) lv rest) : xX p l e R s m args below meth c (fun q => b0 ≤ q) s.heap D (c1, ce) (bad b0) kd NP nL cells slots Q G pc lv (.ref (bad b0 q) :: rest) := by
  obtain ⟨hx, hb, hml, hown, hts, hK, hN, hr, hlk⟩ := C
  intro H locs ls hP hD hS hl
  refine wsz (fun h1 => ?_)
  have hsz1 : H.size = b0 + NP := Nat.le_antisymm (by omega) (xtop hP (by have := hS.1; omega))
  refine va_callv (va_runIN (As := []) (rest := rest) ⟨hx, hb, hml, hown, hts⟩ hM ⟨va_cnB 0 hts (xWs_good hw.2.1) rfl rfl rfl (hN.2.1 _ hlink) (hts _ hw.1) hw.2.2 hR, hy, hts _ hinst⟩ ⟨xblindK _ _, fun U hU hW => ⟨rfl, ⟨by rw [hU]; exact hP, hD, va_K.moved hW.alike hK, hN.warm hW⟩, by rw [hU]; exact hsz1⟩⟩ rfl rfl hl.1 rfl (lv_room hrs) d hcs) hS (fun _ _ h => h) (fun _ h => h) (fun u t H1 locs1 ht hvm hw1 hB hz1 hk1 hS1 => ?_)
  rw [ht] at hB
  exact k H1 locs1 ls hB bad_D hS1 hl
theorem xKI (C : xC p s m args meth c cc own nL rt D (c1, ce)) {y : MethodName} {b : ByteArray} {n fr lo mc ms index q NP' : Nat} (hM : xK l D c1 b0 y b n fr lo mc ms [.ref (bad b0 q)] ce kd G NP ce' kd' G' NP') (hlink : Cond.methodLink own index y ∈ xAllW) (hinst : Cond.instanceMethod y ∈ xAllW) (hy : y.name = "<init>") (hw : xW y b n none 0) (hR : fr + 1 ≤ R.frames ∧ 8 + (n + 11) + lo ≤ R.locals) (hsz : s.heap.size + cells = b0 + NP) (hcs : cells + mc ≤ R.cells ∧ slots + ms ≤ R.slots) (hrs : (rest.map fun v => v.category).sum ≤ 8) (hb0 : b0 ≤ s.heap.size) (d : decode cc pc = .ok (.invokespecial index, 3)) (k : xX p l e R s m args below meth c (fun q => b0 ≤ q) s.heap D (c1, ce') (bad b0) kd' NP' nL (cells + mc) (slots + ms) Q G' (pc + 3) lv rest) : xX p l e R s m args below meth c (fun q => b0 ≤ q) s.heap D (c1, ce) (bad b0) kd NP nL cells slots Q G pc lv (.ref (bad b0 q) :: rest) := by
  obtain ⟨hx, hb, hml, hown, hts, hK, hN, hr, hlk⟩ := C
  intro H locs ls hP hD hS hl
  refine wsz (fun h1 => ?_)
  have hsz1 : H.size = b0 + NP := Nat.le_antisymm (by omega) (xtop hP (by have := hS.1; omega))
  refine va_callv (va_runI (As := []) (rest := rest) ⟨hx, hb, hml, hown, hts⟩ hM ⟨callB_of 0 hts (xWs_good hw.2.1) rfl rfl rfl (hts _ hw.1) (hts _ hlink) hw.2.2 hR, hy, hts _ hinst⟩ ⟨xblindK _ _, fun U hU hW => ⟨rfl, ⟨by rw [hU]; exact hP, hD, va_K.moved hW.alike hK, hN.warm hW⟩, by rw [hU]; exact hsz1⟩⟩ rfl rfl hl.1 rfl (lv_room hrs) d hcs) hS (fun _ _ h => h) (fun _ h => h) (fun u t H1 locs1 ht hvm hw1 hB hz1 hk1 hS1 => ?_)
  rw [ht] at hB
  exact k H1 locs1 ls hB bad_D hS1 hl
end
