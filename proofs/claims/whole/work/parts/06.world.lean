def xNF : List (String × Nat × String × String × String) := [(RX2, 25, "HedgeChains$Hedge", "length", "I"), (RX8, 207, "HedgeChains$Hedge", "length", "I"), (RX4, 135, "HedgeChains$Hedge", "length", "I"), (RX5, 48, "HedgeChains$Contract", "made", "Z"), (RX4, 84, "HedgeChains$Contract", "made", "Z"), (RX8, 132, "HedgeChains$Contract", "made", "Z"), (RX4, 88, "HedgeChains$Contract", "price", "I"), (RX8, 232, "HedgeChains$Contract", "price", "I"), (RX5, 57, "HedgeChains$Contract", "lastWeek", "I"), (RX4, 114, "HedgeChains$Contract", "lastWeek", "I"), (RX8, 235, "HedgeChains$Contract", "lastWeek", "I"), (RX8, 142, "HedgeChains$Contract", "fine", "I"), (RX4, 120, "HedgeChains$Contract", "fine", "I"), (RX8, 96, "HedgeChains$Land", "hedges", "[LHedgeChains$Hedge;"), (RX5, 44, "HedgeChains$Land", "contracts", "[LHedgeChains$Contract;"), (RX8, 128, "HedgeChains$Land", "contracts", "[LHedgeChains$Contract;"), (RX8, 57, "HedgeChains$Land", "week", "I"), (RX5, 36, "HedgeChains$Land", "week", "I"), (RX8, 93, "HedgeChains$Land", "work", "I"), (RX8, 84, "HedgeChains$Land", "stakes", "I"), (RX8, 149, "HedgeChains$Land", "purse", "I"), (RX8, 152, "HedgeChains$Land", "debt", "I"), (RX8, 208, "HedgeChains$Land", "earned", "I"), (RX8, 211, "HedgeChains$Land", "fined", "I"), (RX8, 217, "HedgeChains$Land", "laid", "I"), (RX8, 220, "HedgeChains$Land", "planted", "I"), (RX8, 16, "HedgeChains$State", "land", "LHedgeChains$Land;"), (RX8, 171, "HedgeChains$State", "slots", "[LHedgeChains$Land;"), (RX8, 167, "HedgeChains$State", "filled", "[Z"), (RX8, 179, "HedgeChains$History", "kept", "I"), (RX2, 32, "HedgeChains$Text", "length", "I"), (RX8, 185, "HedgeChains$Text", "length", "I"), (RX8, 199, "HedgeChains$HedgeReader", "hedge", "LHedgeChains$Hedge;"), (RX8, 196, "HedgeChains$HedgeReader", "told", "I")]
def xNM : List (String × Nat × MethodName) := [(RX8, 9, yX6_init), (RX6, 11, yX4_init), (RX4, 23, yX1_init), (RX4, 24, yX1_addChains), (RX4, 28, yX0_init), (RX8, 23, yX3_init), (RX3, 17, yX6_init), (RX8, 30, yX7_init), (RX8, 37, yX2_init), (RX2, 11, yX1_init), (RX8, 44, yX5_init), (RX8, 265, yX1_has), (RX8, 63, yX4_isClosed), (RX8, 67, yX4_canLay), (RX4, 73, yX1_isToLay), (RX4, 77, yX1_thicknessOf), (RX8, 70, yX3_keep), (RX3, 25, yX6_copyFrom), (RX6, 26, yX4_copyFrom), (RX4, 48, yX1_copyFrom), (RX4, 52, yX0_copyFrom), (RX8, 74, yX4_layChain), (RX4, 81, yX1_changeChain), (RX4, 101, yX1_numberOf), (RX8, 78, yX4_canCut), (RX4, 95, yX1_isToCut), (RX8, 81, yX4_cutChain), (RX8, 87, yX4_canPlant), (RX4, 98, yX1_kindOf), (RX8, 90, yX4_plantChain), (RX8, 100, yX1_kindOf), (RX8, 106, yX4_grubChain), (RX8, 109, yX4_passWeek), (RX4, 104, yX1_grow), (RX8, 116, yX4_settingOf), (RX8, 119, yX4_changeSetting), (RX8, 125, yX1_numberOf), (RX8, 138, yX0_make), (RX8, 145, yX4_spend), (RX8, 164, yX6_fillSlot), (RX8, 175, yX4_copyFrom), (RX8, 182, yX3_bringBack), (RX8, 188, yX7_addSign), (RX8, 192, yX2_faultOf), (RX2, 35, yX7_signAt), (RX2, 50, yX1_addChains), (RX8, 203, yX4_replaceHedge), (RX8, 214, yX4_numberOfContracts), (RX8, 223, yX6_numberOfSnapshots), (RX8, 226, yX1_longestRunBegin), (RX8, 229, yX1_runFrom), (RX8, 238, yX1_thicknessOf), (RX8, 241, yX1_ageOf), (RX8, 244, yX1_workToLay), (RX8, 247, yX1_stakesToLay), (RX8, 250, yX1_stakesToCut), (RX8, 253, yX4_weeksUntilLaid), (RX8, 256, yX5_reckon), (RX5, 54, yX4_weeksOfWork), (RX4, 141, yX1_workToLay), (RX5, 60, yX4_finePerWeek), (RX8, 259, yX5_leastFines), (RX8, 262, yX5_firstField)]
/-! THE WORLD: places 0 .. NP-1; place p lies at the cell ad p, is of the kind kd p, and holds the numbers G p 0, G p 1 ..; what refers to what is fixed by the kinds (places beside each other) -/
abbrev Mem : Type := Nat → Nat → Int32
def mrow (G : Mem) (p : Nat) (f : Nat → Int32) : Mem := fun q => if q = p then f else G q
def mset (G : Mem) (p j : Nat) (v : Int32) : Mem := mrow G p (upd (G p) j v)
abbrev xCy : Type := (Nat → ClassId) × (Nat → va_E)
def xT (cy : xCy) : List (ClassId × FieldType) := [(cy.1 0, .int), (cy.1 1, .boolean), (cy.1 2, .char), (cy.1 3, .object RX1), (cy.1 4, .object RX0), (cy.1 5, .object RX4), (cy.1 6, .object RX6)]
def kE (cy : xCy) (ad : Nat → Nat) (G : Mem) (k p : Nat) : va_E := match k with
  | 0 => .inr (0, [.int (G p 0), .int (G p 1), .int (G p 2), .int (G p 3)])
  | 1 => .inr (1, [.ref (ad (p + 1)), .ref (ad (p + 2)), .ref (ad (p + 3)), .int (G p 3)])
  | 2 => .inr (2, [.ref (ad (p + 1)), .int (G p 1), .int (G p 2)])
  | 3 => .inr (3, [.ref (ad (p + 1)), .int (G p 1), .int (G p 2)])
  | 4 => .inr (4, [.ref (ad (p + 1)), .ref (ad (p + 2)), .int (G p 2), .int (G p 3), .int (G p 4), .int (G p 5), .int (G p 6), .int (G p 7), .int (G p 8), .int (G p 9), .int (G p 10), .int (G p 11), .int (G p 12), .int (G p 13)])
  | 5 => .inr (5, [.ref (ad (p + 1)), .ref (ad (p + 2)), .ref (ad (p + 3)), .ref (ad (p + 4)), .int (G p 4), .int (G p 5)])
  | 6 => .inr (6, [.ref (ad (p + 1)), .ref (ad (p + 34)), .ref (ad (p + 35))])
  | 7 => .inr (7, [.ref (ad (p + 1)), .int (G p 1)])
  | 8 => .inr (8, [.ref (ad (p + 1)), .ref (ad (p + 2)), .ref (ad (p + 103)), .ref (ad (p + 615)), .ref (ad (p + 617)), .ref (ad (p + 622))])
  | 9 => .inr (9, [.ref (ad (p + 1)), .ref (ad (p + 2)), .ref (ad (p + 3)), .ref (ad (p + 4)), .int (G p 4), .ref (ad (p + 5)), .int (G p 6), .int (G p 7), .int (G p 8), .int (G p 9), .int (G p 10)])
  | 10 => .inl (cy.1 0, 30, .inl (G p))
  | 11 => .inl (cy.1 0, 6, .inl (G p))
  | 12 => .inl (cy.1 0, 64, .inl (G p))
  | 13 => .inl (cy.1 0, 80, .inl (G p))
  | 14 => .inl (cy.1 0, 668, .inl (G p))
  | 15 => .inl (cy.1 0, 3340, .inl (G p))
  | 16 => .inl (cy.1 1, 2, .inl (G p))
  | 17 => .inl (cy.1 2, 80, .inl (G p))
  | 18 => .inl (cy.1 3, 6, .inr (.inr (.inr (.inr (fun i => if i < 6 then some (ad (p + 2 + 5 * i)) else none)))))
  | 19 => .inl (cy.1 4, 6, .inr (.inr (.inr (.inr (fun i => if i < 6 then some (ad (p + 5 + 5 * i)) else none)))))
  | 20 => .inl (cy.1 5, 2, .inr (.inr (.inr (.inr (fun i => if i < 2 then some (ad (p + 2 + 33 * i)) else none)))))
  | 21 => .inl (cy.1 6, 5, .inr (.inr (.inr (.inr (fun i => if i < 5 then some (ad (p + 1 + 102 * i)) else none)))))
  | _ => cy.2 p
def wo (cy : xCy) (ad kd : Nat → Nat) (G : Mem) (NP : Nat) : va_W := (List.range NP).map (fun p => (ad p, kE cy ad G (kd p) p))
def xO (kd : Nat → Nat) (NP k q : Nat) : Prop := q < NP ∧ kd q = k
theorem wo_at {cy : xCy} {ad kd : Nat → Nat} {G : Mem} {NP q k : Nat} (h : xO kd NP k q) : (wo cy ad kd G NP)[q]? = some (ad q, kE cy ad G k q) := by
  obtain ⟨h1, h2⟩ := h
  subst h2
  simp [wo, h1]
theorem kE_congr {cy : xCy} {ad : Nat → Nat} {G G' : Mem} {k p : Nat} (h : G' p = G p) : kE cy ad G' k p = kE cy ad G k p := by
  unfold kE
  rw [h]
theorem mrow_same {G : Mem} {p : Nat} {f : Nat → Int32} : mrow G p f p = f := if_pos rfl
theorem mrow_ne {G : Mem} {p q : Nat} {f : Nat → Int32} (h : q ≠ p) : mrow G p f q = G q := if_neg h
theorem wo_set {cy : xCy} {ad kd : Nat → Nat} {G : Mem} {NP q k : Nat} {f : Nat → Int32} {e : va_E} (h : xO kd NP k q) (he : e = kE cy ad (mrow G q f) k q) : (wo cy ad kd G NP).set q (ad q, e) = wo cy ad kd (mrow G q f) NP := by
  obtain ⟨h1, h2⟩ := h
  subst h2; subst he
  refine List.ext_getElem? fun i => ?_
  by_cases hi : i = q
  · subst hi
    rw [List.getElem?_set_self (by simpa [wo] using h1)]
    simp [wo, h1]
  · rw [List.getElem?_set_ne (Ne.symm hi)]
    by_cases hl : i < NP
    · simp only [wo, List.getElem?_map, List.getElem?_range hl, Option.map_some]
      rw [kE_congr (mrow_ne hi)]
    · have hr : (List.range NP)[i]? = none := by simpa using hl
      simp only [wo, List.getElem?_map, hr, Option.map_none]
theorem wo_D {A : Nat → Prop} {cy : xCy} {ad kd : Nat → Nat} {G : Mem} {NP : Nat} (G' : Mem) (h : va_D A (wo cy ad kd G NP)) : va_D A (wo cy ad kd G' NP) := by
  have key : ∀ (k : Nat) (q : Nat × va_E), (wo cy ad kd G' NP)[k]? = some q → ∃ q0, (wo cy ad kd G NP)[k]? = some q0 ∧ q0.1 = q.1 := by
    intro k q hk
    by_cases hl : k < NP
    · simp only [wo, List.getElem?_map, List.getElem?_range hl, Option.map_some] at hk ⊢
      cases hk
      exact ⟨_, rfl, rfl⟩
    · have hr : (List.range NP)[k]? = none := by simpa using hl
      simp only [wo, List.getElem?_map, hr, Option.map_none] at hk
      cases hk
  refine ⟨fun i j x y hi hj hxy => ?_, fun k q hk => ?_⟩
  · obtain ⟨x0, h1, h2⟩ := key i x hi
    obtain ⟨y0, h3, h4⟩ := key j y hj
    exact h.1 i j x0 y0 h1 h3 (h2.trans (hxy.trans h4.symm))
  · obtain ⟨q0, h1, h2⟩ := key k q hk
    rw [← h2]
    exact h.2 k q0 h1
/-! what hangs together: an object and what belongs to it, beside each other -/
abbrev A0 (kd : Nat → Nat) (NP p : Nat) : Prop := xO kd NP 0 p
abbrev A1 (kd : Nat → Nat) (NP p : Nat) : Prop := xO kd NP 1 p ∧ xO kd NP 10 (p + 1) ∧ xO kd NP 10 (p + 2) ∧ xO kd NP 10 (p + 3)
abbrev A2 (kd : Nat → Nat) (NP p : Nat) : Prop := xO kd NP 2 p ∧ A1 kd NP (p + 1)
abbrev A4 (kd : Nat → Nat) (NP p : Nat) : Prop := xO kd NP 4 p ∧ xO kd NP 18 (p + 1) ∧ xO kd NP 19 (p + 2) ∧ (∀ f, f < 6 → A1 kd NP (p + 3 + 5 * f)) ∧ (∀ f, f < 6 → A0 kd NP (p + 7 + 5 * f))
abbrev A5 (kd : Nat → Nat) (NP p : Nat) : Prop := xO kd NP 5 p ∧ xO kd NP 11 (p + 1) ∧ xO kd NP 11 (p + 2) ∧ xO kd NP 11 (p + 3) ∧ xO kd NP 12 (p + 4)
abbrev A6 (kd : Nat → Nat) (NP p : Nat) : Prop := xO kd NP 6 p ∧ A4 kd NP (p + 1) ∧ xO kd NP 20 (p + 34) ∧ xO kd NP 16 (p + 35) ∧ (∀ f, f < 2 → A4 kd NP (p + 36 + 33 * f))
abbrev A3 (kd : Nat → Nat) (NP p : Nat) : Prop := xO kd NP 3 p ∧ xO kd NP 21 (p + 1) ∧ (∀ f, f < 5 → A6 kd NP (p + 2 + 102 * f))
abbrev A7 (kd : Nat → Nat) (NP p : Nat) : Prop := xO kd NP 7 p ∧ xO kd NP 17 (p + 1)
abbrev A8 (kd : Nat → Nat) (NP p : Nat) : Prop := xO kd NP 8 p ∧ A6 kd NP (p + 1) ∧ A3 kd NP (p + 103) ∧ A7 kd NP (p + 615) ∧ A2 kd NP (p + 617) ∧ A5 kd NP (p + 622)
abbrev A9 (kd : Nat → Nat) (NP p : Nat) : Prop := xO kd NP 9 p ∧ xO kd NP 14 (p + 1) ∧ xO kd NP 15 (p + 2) ∧ xO kd NP 14 (p + 3) ∧ xO kd NP 12 (p + 4) ∧ xO kd NP 13 (p + 5)
/-! the nest mates' words -/
def xAO : List String := [RX1, RX0, RX4, RX6]
def xNs (s : State) : Prop := (∀ q ∈ xNF, va_Nw (.fieldLinkNest q.1 q.2.1 q.2.2.1 q.2.2.2.1 q.2.2.2.2 RX8) s) ∧ (∀ q ∈ xNM, va_Nw (.methodLinkNest q.1 q.2.1 q.2.2 RX8) s) ∧ ∀ q ∈ xAO, va_AO q s
theorem xNs.warm {s U : State} (hW : s.WarmedH U.vm) (h : xNs s) : xNs U := ⟨fun q hq => va_Nw.warmF hW (h.1 q hq), fun q hq => va_Nw.warmM hW (h.2.1 q hq), fun q hq => va_AO.moved hW.alike (h.2.2 q hq)⟩
theorem xNs.same {s U : State} (hW : s.vm = U.vm) (h : xNs s) : xNs U := ⟨fun q hq => va_Nw.same rfl hW (h.1 q hq), fun q hq => va_Nw.same rfl hW (h.2.1 q hq), fun q hq => va_AO.moved (by rw [hW]; exact Vm.Alike.refl _) (h.2.2 q hq)⟩
/-! the judgement -/
def xC (p : Program) (s : State) (m : MethodId) (args : Array Value) (meth : Method) (c : Code) (cc : ByteArray) (own : String) (nL : Nat) (rt : Option FieldType) (D : va_G) (cy : xCy) : Prop :=
  p.tables.exec = Jvm.exec ∧ c.code = cc ∧ c.maxLocals = nL ∧ s.vm.findClass own = some m.cls ∧ (∀ w ∈ xAllW, w.before args s = true) ∧ va_K D vwCl (xT cy) s ∧ xNs s ∧ meth.sig.returnType = rt ∧ meth.locks = false
def xX (p : Program) (l : Launch) (e : Env) (R : Room) (s : State) (m : MethodId) (args : Array Value) (below : List Frame) (meth : Method) (c : Code) (A : Nat → Prop) (H0 : Heap) (D : va_G) (cy : xCy) (ad kd : Nat → Nat) (NP nL cells slots : Nat) (Q : State → Prop) (G : Mem) (pc : Nat) (lv : List (Nat × Value)) (st : List Value) : Prop :=
  ∀ (H : Heap) (locs : List Loc) (ls : Array Slot), va_P D vwCl (wo cy ad kd G NP) H → va_D A (wo cy ad kd G NP) → va_S A H0 H locs → lv_has ls nL lv → W p l e R s m args below meth c H locs cells slots Q (F0 m pc ls st)
def xPre (D : va_G) (cy : xCy) (ad kd : Nat → Nat) (NP : Nat) (A : Nat → Prop) (G : Mem) (U : State) : Prop := va_P D vwCl (wo cy ad kd G NP) U.heap ∧ va_D A (wo cy ad kd G NP) ∧ va_K D vwCl (xT cy) U ∧ xNs U
def xR (fr lo : Nat) : Room := { frames := fr, cells := 0, slots := 0, locals := lo }
def xWs (y : MethodName) (b : ByteArray) (n : Nat) (ret : Option FieldType) : List Cond := .code y b n ret :: xAllW
/-- a method's contract: from the memory G to G', the answer r -/
def xMi (l : Launch) (D : va_G) (cy : xCy) (ad kd : Nat → Nat) (NP : Nat) (A : Nat → Prop) (y : MethodName) (b : ByteArray) (n : Nat) (ret : Option FieldType) (fr lo : Nat) (as : List Value) (G : Mem) (r : Int32) (G' : Mem) : Prop :=
  Met l y (xWs y b n ret) (xR fr lo) (va_Pc as (xPre D cy ad kd NP A G)) (va_Qi (fun (x : Int32) (_ : Unit) => x = r) (fun _ t => va_P D vwCl (wo cy ad kd G' NP) t.heap) A) 0 0 A
def xMv (l : Launch) (D : va_G) (cy : xCy) (ad kd : Nat → Nat) (NP : Nat) (A : Nat → Prop) (y : MethodName) (b : ByteArray) (n : Nat) (ret : Option FieldType) (fr lo : Nat) (as : List Value) (G : Mem) (G' : Mem) : Prop :=
  Met l y (xWs y b n ret) (xR fr lo) (va_Pc as (xPre D cy ad kd NP A G)) (va_Qv (fun (_ : Unit) => True) (fun _ t => va_P D vwCl (wo cy ad kd G' NP) t.heap) A) 0 0 A
def xQi (below : List Frame) (D : va_G) (cy : xCy) (ad kd : Nat → Nat) (NP : Nat) (A : Nat → Prop) (args : Array Value) (s : State) (r : Int32) (G' : Mem) : State → Prop := MQ below (va_Qi (fun (x : Int32) (_ : Unit) => x = r) (fun _ t => va_P D vwCl (wo cy ad kd G' NP) t.heap) A) args s 0 0 A
def xQv (below : List Frame) (D : va_G) (cy : xCy) (ad kd : Nat → Nat) (NP : Nat) (A : Nat → Prop) (args : Array Value) (s : State) (G' : Mem) : State → Prop := MQ below (va_Qv (fun (_ : Unit) => True) (fun _ t => va_P D vwCl (wo cy ad kd G' NP) t.heap) A) args s 0 0 A
/-! pictures' words: an index looked at, a divisor, a truth, a character; a loop with fuel -/
def ix {α : Type} (i : Int32) (n : Nat) (k : Option α) : Option α := if i < 0 ∨ n ≤ i.toNatClampNeg then none else k
theorem ix_some {α : Type} {i : Int32} {n : Nat} {k : Option α} {r : α} (h : ix i n k = some r) : vp_in i n ∧ k = some r := by
  unfold ix at h
  by_cases hc : i < 0 ∨ n ≤ i.toNatClampNeg
  · rw [if_pos hc] at h; cases h
  · rw [if_neg hc] at h; exact ⟨hc, h⟩
theorem vp_lt {i : Int32} {n : Nat} (h : vp_in i n) : i.toNatClampNeg < n := Nat.not_le.mp fun q => h (Or.inr q)
def nz {α : Type} (i : Int32) (k : Option α) : Option α := if i = 0 then none else k
theorem nz_some {α : Type} {i : Int32} {k : Option α} {r : α} (h : nz i k = some r) : ¬ i = 0 ∧ k = some r := by
  unfold nz at h
  by_cases hc : i = 0
  · rw [if_pos hc] at h; cases h
  · rw [if_neg hc] at h; exact ⟨hc, h⟩
def zk {α : Type} (i : Int32) (k : Option α) : Option α := if i = 0 ∨ i = 1 then k else none
theorem zk_some {α : Type} {i : Int32} {k : Option α} {r : α} (h : zk i k = some r) : (i = 0 ∨ i = 1) ∧ k = some r := by
  unfold zk at h
  by_cases hc : i = 0 ∨ i = 1
  · rw [if_pos hc] at h; exact ⟨hc, h⟩
  · rw [if_neg hc] at h; cases h
def ck {α : Type} (i : Int32) (k : Option α) : Option α := if vp_nar .char i = i then k else none
theorem ck_some {α : Type} {i : Int32} {k : Option α} {r : α} (h : ck i k = some r) : vp_nar .char i = i ∧ k = some r := by
  unfold ck at h
  by_cases hc : vp_nar .char i = i
  · rw [if_pos hc] at h; exact ⟨hc, h⟩
  · rw [if_neg hc] at h; cases h
theorem if_some {α : Type} {c : Prop} [Decidable c] {a b : Option α} {r : α} (h : (if c then a else b) = some r) : (c ∧ a = some r) ∨ (¬ c ∧ b = some r) := by
  by_cases hc : c
  · rw [if_pos hc] at h; exact Or.inl ⟨hc, h⟩
  · rw [if_neg hc] at h; exact Or.inr ⟨hc, h⟩
def itr {σ ρ : Type} : Nat → ((σ → Option ρ) → σ → Option ρ) → σ → Option ρ
  | 0, _, _ => none
  | n + 1, F, s => F (itr n F) s

section
variable {p : Program} {l : Launch} {e : Env} {R : Room} {s : State} {m : MethodId} {args : Array Value} {below : List Frame} {meth : Method} {c : Code} {A : Nat → Prop} {H0 : Heap} {D : va_G} {cy : xCy} {ad kd : Nat → Nat} {NP nL cells slots : Nat} {Q : State → Prop} {G : Mem} {pc : Nat} {lv : List (Nat × Value)} {rest : List Value} {cc : ByteArray} {own : String} {rt : Option FieldType}
theorem xiconst (C : xC p s m args meth c cc own nL rt D cy) {n : Int} {v : Int32} (d : decode cc pc = .ok (.iconst n, 1)) (hv : Int32.ofInt n = v) (k : xX p l e R s m args below meth c A H0 D cy ad kd NP nL cells slots Q G (pc + 1) lv (.int v :: rest)) : xX p l e R s m args below meth c A H0 D cy ad kd NP nL cells slots Q G pc lv rest := by
  obtain ⟨hx, hb, hml, hown, hts, hK, hN, hr, hlk⟩ := C
  intro H locs ls hP hD hS hl
  exact lv_iconst hx hb d hv (k H locs ls hP hD hS hl)
theorem xbipush (C : xC p s m args meth c cc own nL rt D cy) {n : Int} {v : Int32} (d : decode cc pc = .ok (.bipush n, 2)) (hv : (Int8.ofInt n).toInt32 = v) (k : xX p l e R s m args below meth c A H0 D cy ad kd NP nL cells slots Q G (pc + 2) lv (.int v :: rest)) : xX p l e R s m args below meth c A H0 D cy ad kd NP nL cells slots Q G pc lv rest := by
  obtain ⟨hx, hb, hml, hown, hts, hK, hN, hr, hlk⟩ := C
  intro H locs ls hP hD hS hl
  exact lv_bipush hx hb d hv (k H locs ls hP hD hS hl)
theorem xsipush (C : xC p s m args meth c cc own nL rt D cy) {n : Int} {v : Int32} (d : decode cc pc = .ok (.sipush n, 3)) (hv : (Int16.ofInt n).toInt32 = v) (k : xX p l e R s m args below meth c A H0 D cy ad kd NP nL cells slots Q G (pc + 3) lv (.int v :: rest)) : xX p l e R s m args below meth c A H0 D cy ad kd NP nL cells slots Q G pc lv rest := by
  obtain ⟨hx, hb, hml, hown, hts, hK, hN, hr, hlk⟩ := C
  intro H locs ls hP hD hS hl
  exact lv_sipush hx hb d hv (k H locs ls hP hD hS hl)
theorem xldc (C : xC p s m args meth c cc own nL rt D cy) {i : Nat} {v : Int32} (hc : Cond.constant own i v ∈ xAllW) (d : decode cc pc = .ok (.ldc i, 2)) (k : xX p l e R s m args below meth c A H0 D cy ad kd NP nL cells slots Q G (pc + 2) lv (.int v :: rest)) : xX p l e R s m args below meth c A H0 D cy ad kd NP nL cells slots Q G pc lv rest := by
  obtain ⟨hx, hb, hml, hown, hts, hK, hN, hr, hlk⟩ := C
  intro H locs ls hP hD hS hl
  exact lv_ldc hx hb hown (hts _ hc) d (k H locs ls hP hD hS hl)
theorem xiload_n (C : xC p s m args meth c cc own nL rt D cy) {k : Fin 4} {i : Nat} {x : Int32} (j : Nat) (hj : lv[j]? = some (i, .int x)) (hi : (k : Nat) = i) (d : decode cc pc = .ok (.iload_n k, 1)) (k : xX p l e R s m args below meth c A H0 D cy ad kd NP nL cells slots Q G (pc + 1) lv (.int x :: rest)) : xX p l e R s m args below meth c A H0 D cy ad kd NP nL cells slots Q G pc lv rest := by
  obtain ⟨hx, hb, hml, hown, hts, hK, hN, hr, hlk⟩ := C
  intro H locs ls hP hD hS hl
  exact lv_iload_n hx hb d hi (lv_at hl j hj) (k H locs ls hP hD hS hl)
theorem xiload (C : xC p s m args meth c cc own nL rt D cy) {i : Nat} {x : Int32} (j : Nat) (hj : lv[j]? = some (i, .int x)) (d : decode cc pc = .ok (.iload i, 2)) (k : xX p l e R s m args below meth c A H0 D cy ad kd NP nL cells slots Q G (pc + 2) lv (.int x :: rest)) : xX p l e R s m args below meth c A H0 D cy ad kd NP nL cells slots Q G pc lv rest := by
  obtain ⟨hx, hb, hml, hown, hts, hK, hN, hr, hlk⟩ := C
  intro H locs ls hP hD hS hl
  exact lv_iload hx hb d (lv_at hl j hj) (k H locs ls hP hD hS hl)
theorem xistore_n (C : xC p s m args meth c cc own nL rt D cy) {k : Fin 4} {i : Nat} {x : Int32} {lv' : List (Nat × Value)} (hi : (k : Nat) = i) (hn : i < nL) (hv : (i, Value.int x) :: lv.filter (fun q => !(q.1 == i) && !(q.1 + 1 == i && q.2.category == 2)) = lv') (d : decode cc pc = .ok (.istore_n k, 1)) (k : xX p l e R s m args below meth c A H0 D cy ad kd NP nL cells slots Q G (pc + 1) lv' rest) : xX p l e R s m args below meth c A H0 D cy ad kd NP nL cells slots Q G pc lv (.int x :: rest) := by
  obtain ⟨hx, hb, hml, hown, hts, hK, hN, hr, hlk⟩ := C
  intro H locs ls hP hD hS hl
  exact lv_istore_n hx hb d hi hl hn hv (fun ls hl => (k H locs ls hP hD hS hl))
theorem xistore (C : xC p s m args meth c cc own nL rt D cy) {i : Nat} {x : Int32} {lv' : List (Nat × Value)} (hn : i < nL) (hv : (i, Value.int x) :: lv.filter (fun q => !(q.1 == i) && !(q.1 + 1 == i && q.2.category == 2)) = lv') (d : decode cc pc = .ok (.istore i, 2)) (k : xX p l e R s m args below meth c A H0 D cy ad kd NP nL cells slots Q G (pc + 2) lv' rest) : xX p l e R s m args below meth c A H0 D cy ad kd NP nL cells slots Q G pc lv (.int x :: rest) := by
  obtain ⟨hx, hb, hml, hown, hts, hK, hN, hr, hlk⟩ := C
  intro H locs ls hP hD hS hl
  exact lv_istore hx hb d hl hn hv (fun ls hl => (k H locs ls hP hD hS hl))
theorem xaload_n (C : xC p s m args meth c cc own nL rt D cy) {k : Fin 4} {i : Nat} {x : Nat} (j : Nat) (hj : lv[j]? = some (i, .ref x)) (hi : (k : Nat) = i) (d : decode cc pc = .ok (.aload_n k, 1)) (k : xX p l e R s m args below meth c A H0 D cy ad kd NP nL cells slots Q G (pc + 1) lv (.ref x :: rest)) : xX p l e R s m args below meth c A H0 D cy ad kd NP nL cells slots Q G pc lv rest := by
  obtain ⟨hx, hb, hml, hown, hts, hK, hN, hr, hlk⟩ := C
  intro H locs ls hP hD hS hl
  exact lv_aload_n hx hb d hi (lv_at hl j hj) (k H locs ls hP hD hS hl)
theorem xaload (C : xC p s m args meth c cc own nL rt D cy) {i : Nat} {x : Nat} (j : Nat) (hj : lv[j]? = some (i, .ref x)) (d : decode cc pc = .ok (.aload i, 2)) (k : xX p l e R s m args below meth c A H0 D cy ad kd NP nL cells slots Q G (pc + 2) lv (.ref x :: rest)) : xX p l e R s m args below meth c A H0 D cy ad kd NP nL cells slots Q G pc lv rest := by
  obtain ⟨hx, hb, hml, hown, hts, hK, hN, hr, hlk⟩ := C
  intro H locs ls hP hD hS hl
  exact lv_aload hx hb d (lv_at hl j hj) (k H locs ls hP hD hS hl)
theorem xastore_n (C : xC p s m args meth c cc own nL rt D cy) {k : Fin 4} {i : Nat} {x : Nat} {lv' : List (Nat × Value)} (hi : (k : Nat) = i) (hn : i < nL) (hv : (i, Value.ref x) :: lv.filter (fun q => !(q.1 == i) && !(q.1 + 1 == i && q.2.category == 2)) = lv') (d : decode cc pc = .ok (.astore_n k, 1)) (k : xX p l e R s m args below meth c A H0 D cy ad kd NP nL cells slots Q G (pc + 1) lv' rest) : xX p l e R s m args below meth c A H0 D cy ad kd NP nL cells slots Q G pc lv (.ref x :: rest) := by
  obtain ⟨hx, hb, hml, hown, hts, hK, hN, hr, hlk⟩ := C
  intro H locs ls hP hD hS hl
  exact lv_astore_n hx hb d hi hl hn hv (fun ls hl => (k H locs ls hP hD hS hl))
theorem xastore (C : xC p s m args meth c cc own nL rt D cy) {i : Nat} {x : Nat} {lv' : List (Nat × Value)} (hn : i < nL) (hv : (i, Value.ref x) :: lv.filter (fun q => !(q.1 == i) && !(q.1 + 1 == i && q.2.category == 2)) = lv') (d : decode cc pc = .ok (.astore i, 2)) (k : xX p l e R s m args below meth c A H0 D cy ad kd NP nL cells slots Q G (pc + 2) lv' rest) : xX p l e R s m args below meth c A H0 D cy ad kd NP nL cells slots Q G pc lv (.ref x :: rest) := by
  obtain ⟨hx, hb, hml, hown, hts, hK, hN, hr, hlk⟩ := C
  intro H locs ls hP hD hS hl
  exact lv_astore hx hb d hl hn hv (fun ls hl => (k H locs ls hP hD hS hl))
theorem xiinc (C : xC p s m args meth c cc own nL rt D cy) {i : Nat} {n : Int} {x v : Int32} {lv' : List (Nat × Value)} (j : Nat) (hj : lv[j]? = some (i, .int x)) (he : x + Int32.ofInt n = v) (hn : i < nL) (hv : (i, Value.int v) :: lv.filter (fun q => !(q.1 == i) && !(q.1 + 1 == i && q.2.category == 2)) = lv') (d : decode cc pc = .ok (.iinc i n, 3)) (k : xX p l e R s m args below meth c A H0 D cy ad kd NP nL cells slots Q G (pc + 3) lv' rest) : xX p l e R s m args below meth c A H0 D cy ad kd NP nL cells slots Q G pc lv rest := by
  obtain ⟨hx, hb, hml, hown, hts, hK, hN, hr, hlk⟩ := C
  intro H locs ls hP hD hS hl
  exact lv_iinc hx hb d hl hj he hn hv (fun ls hl => (k H locs ls hP hD hS hl))
theorem xsub (C : xC p s m args meth c cc own nL rt D cy) {lv' : List (Nat × Value)} (ks : List Nat) (hv : lv_pick lv ks = lv') (k : xX p l e R s m args below meth c A H0 D cy ad kd NP nL cells slots Q G pc lv' rest) : xX p l e R s m args below meth c A H0 D cy ad kd NP nL cells slots Q G pc lv rest := by
  obtain ⟨hx, hb, hml, hown, hts, hK, hN, hr, hlk⟩ := C
  intro H locs ls hP hD hS hl
  exact k H locs ls hP hD hS (lv_sub hl ks hv)
theorem xiadd (C : xC p s m args meth c cc own nL rt D cy) {x y : Int32} (d : decode cc pc = .ok (.iadd, 1)) (k : xX p l e R s m args below meth c A H0 D cy ad kd NP nL cells slots Q G (pc + 1) lv (.int (x + y) :: rest)) : xX p l e R s m args below meth c A H0 D cy ad kd NP nL cells slots Q G pc lv (.int y :: .int x :: rest) := by
  obtain ⟨hx, hb, hml, hown, hts, hK, hN, hr, hlk⟩ := C
  intro H locs ls hP hD hS hl
  exact lv_iadd hx hb d (k H locs ls hP hD hS hl)
theorem xisub (C : xC p s m args meth c cc own nL rt D cy) {x y : Int32} (d : decode cc pc = .ok (.isub, 1)) (k : xX p l e R s m args below meth c A H0 D cy ad kd NP nL cells slots Q G (pc + 1) lv (.int (x - y) :: rest)) : xX p l e R s m args below meth c A H0 D cy ad kd NP nL cells slots Q G pc lv (.int y :: .int x :: rest) := by
  obtain ⟨hx, hb, hml, hown, hts, hK, hN, hr, hlk⟩ := C
  intro H locs ls hP hD hS hl
  exact lv_isub hx hb d (k H locs ls hP hD hS hl)
theorem ximul (C : xC p s m args meth c cc own nL rt D cy) {x y : Int32} (d : decode cc pc = .ok (.imul, 1)) (k : xX p l e R s m args below meth c A H0 D cy ad kd NP nL cells slots Q G (pc + 1) lv (.int (x * y) :: rest)) : xX p l e R s m args below meth c A H0 D cy ad kd NP nL cells slots Q G pc lv (.int y :: .int x :: rest) := by
  obtain ⟨hx, hb, hml, hown, hts, hK, hN, hr, hlk⟩ := C
  intro H locs ls hP hD hS hl
  exact lv_imul hx hb d (k H locs ls hP hD hS hl)
theorem xiand (C : xC p s m args meth c cc own nL rt D cy) {x y : Int32} (d : decode cc pc = .ok (.iand, 1)) (k : xX p l e R s m args below meth c A H0 D cy ad kd NP nL cells slots Q G (pc + 1) lv (.int (x &&& y) :: rest)) : xX p l e R s m args below meth c A H0 D cy ad kd NP nL cells slots Q G pc lv (.int y :: .int x :: rest) := by
  obtain ⟨hx, hb, hml, hown, hts, hK, hN, hr, hlk⟩ := C
  intro H locs ls hP hD hS hl
  exact lv_iand hx hb d (k H locs ls hP hD hS hl)
theorem xior (C : xC p s m args meth c cc own nL rt D cy) {x y : Int32} (d : decode cc pc = .ok (.ior, 1)) (k : xX p l e R s m args below meth c A H0 D cy ad kd NP nL cells slots Q G (pc + 1) lv (.int (x ||| y) :: rest)) : xX p l e R s m args below meth c A H0 D cy ad kd NP nL cells slots Q G pc lv (.int y :: .int x :: rest) := by
  obtain ⟨hx, hb, hml, hown, hts, hK, hN, hr, hlk⟩ := C
  intro H locs ls hP hD hS hl
  exact lv_ior hx hb d (k H locs ls hP hD hS hl)
theorem xixor (C : xC p s m args meth c cc own nL rt D cy) {x y : Int32} (d : decode cc pc = .ok (.ixor, 1)) (k : xX p l e R s m args below meth c A H0 D cy ad kd NP nL cells slots Q G (pc + 1) lv (.int (x ^^^ y) :: rest)) : xX p l e R s m args below meth c A H0 D cy ad kd NP nL cells slots Q G pc lv (.int y :: .int x :: rest) := by
  obtain ⟨hx, hb, hml, hown, hts, hK, hN, hr, hlk⟩ := C
  intro H locs ls hP hD hS hl
  exact lv_ixor hx hb d (k H locs ls hP hD hS hl)
theorem xishl (C : xC p s m args meth c cc own nL rt D cy) {x y : Int32} (d : decode cc pc = .ok (.ishl, 1)) (k : xX p l e R s m args below meth c A H0 D cy ad kd NP nL cells slots Q G (pc + 1) lv (.int (x <<< (y &&& 31)) :: rest)) : xX p l e R s m args below meth c A H0 D cy ad kd NP nL cells slots Q G pc lv (.int y :: .int x :: rest) := by
  obtain ⟨hx, hb, hml, hown, hts, hK, hN, hr, hlk⟩ := C
  intro H locs ls hP hD hS hl
  exact lv_ishl hx hb d (k H locs ls hP hD hS hl)
theorem xishr (C : xC p s m args meth c cc own nL rt D cy) {x y : Int32} (d : decode cc pc = .ok (.ishr, 1)) (k : xX p l e R s m args below meth c A H0 D cy ad kd NP nL cells slots Q G (pc + 1) lv (.int (x >>> (y &&& 31)) :: rest)) : xX p l e R s m args below meth c A H0 D cy ad kd NP nL cells slots Q G pc lv (.int y :: .int x :: rest) := by
  obtain ⟨hx, hb, hml, hown, hts, hK, hN, hr, hlk⟩ := C
  intro H locs ls hP hD hS hl
  exact lv_ishr hx hb d (k H locs ls hP hD hS hl)
theorem xidiv (C : xC p s m args meth c cc own nL rt D cy) {x y : Int32} (d : decode cc pc = .ok (.idiv, 1)) (hne : ¬ y = 0) (k : xX p l e R s m args below meth c A H0 D cy ad kd NP nL cells slots Q G (pc + 1) lv (.int (x / y) :: rest)) : xX p l e R s m args below meth c A H0 D cy ad kd NP nL cells slots Q G pc lv (.int y :: .int x :: rest) := by
  obtain ⟨hx, hb, hml, hown, hts, hK, hN, hr, hlk⟩ := C
  intro H locs ls hP hD hS hl
  exact lv_idiv hx hb d hne (k H locs ls hP hD hS hl)
theorem xirem (C : xC p s m args meth c cc own nL rt D cy) {x y : Int32} (d : decode cc pc = .ok (.irem, 1)) (hne : ¬ y = 0) (k : xX p l e R s m args below meth c A H0 D cy ad kd NP nL cells slots Q G (pc + 1) lv (.int (x - x / y * y) :: rest)) : xX p l e R s m args below meth c A H0 D cy ad kd NP nL cells slots Q G pc lv (.int y :: .int x :: rest) := by
  obtain ⟨hx, hb, hml, hown, hts, hK, hN, hr, hlk⟩ := C
  intro H locs ls hP hD hS hl
  exact lv_irem hx hb d hne (k H locs ls hP hD hS hl)
theorem xi2c (C : xC p s m args meth c cc own nL rt D cy) {x : Int32} (d : decode cc pc = .ok (.i2c, 1)) (k : xX p l e R s m args below meth c A H0 D cy ad kd NP nL cells slots Q G (pc + 1) lv (.int ((x.toUInt32 % 65536).toInt32) :: rest)) : xX p l e R s m args below meth c A H0 D cy ad kd NP nL cells slots Q G pc lv (.int x :: rest) := by
  obtain ⟨hx, hb, hml, hown, hts, hK, hN, hr, hlk⟩ := C
  intro H locs ls hP hD hS hl
  exact lv_i2c hx hb d rfl (k H locs ls hP hD hS hl)
theorem xdup (C : xC p s m args meth c cc own nL rt D cy) {va : Value} (d : decode cc pc = .ok (.dup, 1)) (hc : va.category = 1) (k : xX p l e R s m args below meth c A H0 D cy ad kd NP nL cells slots Q G (pc + 1) lv (va :: va :: rest)) : xX p l e R s m args below meth c A H0 D cy ad kd NP nL cells slots Q G pc lv (va :: rest) := by
  obtain ⟨hx, hb, hml, hown, hts, hK, hN, hr, hlk⟩ := C
  intro H locs ls hP hD hS hl
  exact lv_dup hx hb d hc (k H locs ls hP hD hS hl)
theorem xpop (C : xC p s m args meth c cc own nL rt D cy) {va : Value} (d : decode cc pc = .ok (.pop, 1)) (hc : va.category = 1) (k : xX p l e R s m args below meth c A H0 D cy ad kd NP nL cells slots Q G (pc + 1) lv rest) : xX p l e R s m args below meth c A H0 D cy ad kd NP nL cells slots Q G pc lv (va :: rest) := by
  obtain ⟨hx, hb, hml, hown, hts, hK, hN, hr, hlk⟩ := C
  intro H locs ls hP hD hS hl
  exact lv_pop hx hb d hc (k H locs ls hP hD hS hl)
theorem xdup2 (C : xC p s m args meth c cc own nL rt D cy) {va vb : Value} (d : decode cc pc = .ok (.dup2, 1)) (hc : va.category = 1) (hc2 : vb.category = 1) (k : xX p l e R s m args below meth c A H0 D cy ad kd NP nL cells slots Q G (pc + 1) lv (va :: vb :: va :: vb :: rest)) : xX p l e R s m args below meth c A H0 D cy ad kd NP nL cells slots Q G pc lv (va :: vb :: rest) := by
  obtain ⟨hx, hb, hml, hown, hts, hK, hN, hr, hlk⟩ := C
  intro H locs ls hP hD hS hl
  exact lv_dup2_11 hx hb d hc hc2 (k H locs ls hP hD hS hl)
theorem xgoto (C : xC p s m args meth c cc own nL rt D cy) {off : Int} {tgt : Nat} (ht : (pc : Int) + off = (tgt : Int)) (d : decode cc pc = .ok (.goto off, 3)) (k : xX p l e R s m args below meth c A H0 D cy ad kd NP nL cells slots Q G tgt lv rest) : xX p l e R s m args below meth c A H0 D cy ad kd NP nL cells slots Q G pc lv rest := by
  obtain ⟨hx, hb, hml, hown, hts, hK, hN, hr, hlk⟩ := C
  intro H locs ls hP hD hS hl
  exact lv_goto hx hb d ht (k H locs ls hP hD hS hl)
theorem xif_eq (C : xC p s m args meth c cc own nL rt D cy) {x : Int32} {off : Int} {tgt : Nat} {α : Type} {a b : Option α} {r : α} (h : (if x = nI 0 then a else b) = some r) (ht : (pc : Int) + off = (tgt : Int)) (d : decode cc pc = .ok (.ifCond .eq off, 3)) (kt : a = some r → xX p l e R s m args below meth c A H0 D cy ad kd NP nL cells slots Q G tgt lv rest) (kf : b = some r → xX p l e R s m args below meth c A H0 D cy ad kd NP nL cells slots Q G (pc + 3) lv rest) : xX p l e R s m args below meth c A H0 D cy ad kd NP nL cells slots Q G pc lv (.int x :: rest) := by
  obtain ⟨hx, hb, hml, hown, hts, hK, hN, hr, hlk⟩ := C
  intro H locs ls hP hD hS hl
  exact lv_if_eq hx hb d ht (fun hc => kt (by rwa [if_pos (show x = nI 0 from hc)] at h) H locs ls hP hD hS hl) (fun hc => kf (by rwa [if_neg (show ¬ x = nI 0 from hc)] at h) H locs ls hP hD hS hl)
theorem xicmp_eq (C : xC p s m args meth c cc own nL rt D cy) {x y : Int32} {off : Int} {tgt : Nat} {α : Type} {a b : Option α} {r : α} (h : (if x = y then a else b) = some r) (ht : (pc : Int) + off = (tgt : Int)) (d : decode cc pc = .ok (.if_icmp .eq off, 3)) (kt : a = some r → xX p l e R s m args below meth c A H0 D cy ad kd NP nL cells slots Q G tgt lv rest) (kf : b = some r → xX p l e R s m args below meth c A H0 D cy ad kd NP nL cells slots Q G (pc + 3) lv rest) : xX p l e R s m args below meth c A H0 D cy ad kd NP nL cells slots Q G pc lv (.int y :: .int x :: rest) := by
  obtain ⟨hx, hb, hml, hown, hts, hK, hN, hr, hlk⟩ := C
  intro H locs ls hP hD hS hl
  exact lv_icmp_eq hx hb d ht (fun hc => kt (by rwa [if_pos (show x = y from hc)] at h) H locs ls hP hD hS hl) (fun hc => kf (by rwa [if_neg (show ¬ x = y from hc)] at h) H locs ls hP hD hS hl)
theorem xif_ne (C : xC p s m args meth c cc own nL rt D cy) {x : Int32} {off : Int} {tgt : Nat} {α : Type} {a b : Option α} {r : α} (h : (if x = nI 0 then a else b) = some r) (ht : (pc : Int) + off = (tgt : Int)) (d : decode cc pc = .ok (.ifCond .ne off, 3)) (kf : a = some r → xX p l e R s m args below meth c A H0 D cy ad kd NP nL cells slots Q G (pc + 3) lv rest) (kt : b = some r → xX p l e R s m args below meth c A H0 D cy ad kd NP nL cells slots Q G tgt lv rest) : xX p l e R s m args below meth c A H0 D cy ad kd NP nL cells slots Q G pc lv (.int x :: rest) := by
  obtain ⟨hx, hb, hml, hown, hts, hK, hN, hr, hlk⟩ := C
  intro H locs ls hP hD hS hl
  exact lv_if_ne hx hb d ht (fun hc => kt (by rwa [if_neg (show ¬ x = nI 0 from hc)] at h) H locs ls hP hD hS hl) (fun hc => kf (by rwa [if_pos (show x = nI 0 from hc)] at h) H locs ls hP hD hS hl)
theorem xicmp_ne (C : xC p s m args meth c cc own nL rt D cy) {x y : Int32} {off : Int} {tgt : Nat} {α : Type} {a b : Option α} {r : α} (h : (if x = y then a else b) = some r) (ht : (pc : Int) + off = (tgt : Int)) (d : decode cc pc = .ok (.if_icmp .ne off, 3)) (kf : a = some r → xX p l e R s m args below meth c A H0 D cy ad kd NP nL cells slots Q G (pc + 3) lv rest) (kt : b = some r → xX p l e R s m args below meth c A H0 D cy ad kd NP nL cells slots Q G tgt lv rest) : xX p l e R s m args below meth c A H0 D cy ad kd NP nL cells slots Q G pc lv (.int y :: .int x :: rest) := by
  obtain ⟨hx, hb, hml, hown, hts, hK, hN, hr, hlk⟩ := C
  intro H locs ls hP hD hS hl
  exact lv_icmp_ne hx hb d ht (fun hc => kt (by rwa [if_neg (show ¬ x = y from hc)] at h) H locs ls hP hD hS hl) (fun hc => kf (by rwa [if_pos (show x = y from hc)] at h) H locs ls hP hD hS hl)
theorem xif_lt (C : xC p s m args meth c cc own nL rt D cy) {x : Int32} {off : Int} {tgt : Nat} {α : Type} {a b : Option α} {r : α} (h : (if x < nI 0 then a else b) = some r) (ht : (pc : Int) + off = (tgt : Int)) (d : decode cc pc = .ok (.ifCond .lt off, 3)) (kt : a = some r → xX p l e R s m args below meth c A H0 D cy ad kd NP nL cells slots Q G tgt lv rest) (kf : b = some r → xX p l e R s m args below meth c A H0 D cy ad kd NP nL cells slots Q G (pc + 3) lv rest) : xX p l e R s m args below meth c A H0 D cy ad kd NP nL cells slots Q G pc lv (.int x :: rest) := by
  obtain ⟨hx, hb, hml, hown, hts, hK, hN, hr, hlk⟩ := C
  intro H locs ls hP hD hS hl
  exact lv_if_lt hx hb d ht (fun hc => kt (by rwa [if_pos (show x < nI 0 from hc)] at h) H locs ls hP hD hS hl) (fun hc => kf (by rwa [if_neg (show ¬ x < nI 0 from hc)] at h) H locs ls hP hD hS hl)
theorem xicmp_lt (C : xC p s m args meth c cc own nL rt D cy) {x y : Int32} {off : Int} {tgt : Nat} {α : Type} {a b : Option α} {r : α} (h : (if x < y then a else b) = some r) (ht : (pc : Int) + off = (tgt : Int)) (d : decode cc pc = .ok (.if_icmp .lt off, 3)) (kt : a = some r → xX p l e R s m args below meth c A H0 D cy ad kd NP nL cells slots Q G tgt lv rest) (kf : b = some r → xX p l e R s m args below meth c A H0 D cy ad kd NP nL cells slots Q G (pc + 3) lv rest) : xX p l e R s m args below meth c A H0 D cy ad kd NP nL cells slots Q G pc lv (.int y :: .int x :: rest) := by
  obtain ⟨hx, hb, hml, hown, hts, hK, hN, hr, hlk⟩ := C
  intro H locs ls hP hD hS hl
  exact lv_icmp_lt hx hb d ht (fun hc => kt (by rwa [if_pos (show x < y from hc)] at h) H locs ls hP hD hS hl) (fun hc => kf (by rwa [if_neg (show ¬ x < y from hc)] at h) H locs ls hP hD hS hl)
theorem xif_ge (C : xC p s m args meth c cc own nL rt D cy) {x : Int32} {off : Int} {tgt : Nat} {α : Type} {a b : Option α} {r : α} (h : (if nI 0 ≤ x then a else b) = some r) (ht : (pc : Int) + off = (tgt : Int)) (d : decode cc pc = .ok (.ifCond .ge off, 3)) (kt : a = some r → xX p l e R s m args below meth c A H0 D cy ad kd NP nL cells slots Q G tgt lv rest) (kf : b = some r → xX p l e R s m args below meth c A H0 D cy ad kd NP nL cells slots Q G (pc + 3) lv rest) : xX p l e R s m args below meth c A H0 D cy ad kd NP nL cells slots Q G pc lv (.int x :: rest) := by
  obtain ⟨hx, hb, hml, hown, hts, hK, hN, hr, hlk⟩ := C
  intro H locs ls hP hD hS hl
  exact lv_if_ge hx hb d ht (fun hc => kt (by rwa [if_pos (show nI 0 ≤ x from hc)] at h) H locs ls hP hD hS hl) (fun hc => kf (by rwa [if_neg (show ¬ nI 0 ≤ x from hc)] at h) H locs ls hP hD hS hl)
theorem xicmp_ge (C : xC p s m args meth c cc own nL rt D cy) {x y : Int32} {off : Int} {tgt : Nat} {α : Type} {a b : Option α} {r : α} (h : (if y ≤ x then a else b) = some r) (ht : (pc : Int) + off = (tgt : Int)) (d : decode cc pc = .ok (.if_icmp .ge off, 3)) (kt : a = some r → xX p l e R s m args below meth c A H0 D cy ad kd NP nL cells slots Q G tgt lv rest) (kf : b = some r → xX p l e R s m args below meth c A H0 D cy ad kd NP nL cells slots Q G (pc + 3) lv rest) : xX p l e R s m args below meth c A H0 D cy ad kd NP nL cells slots Q G pc lv (.int y :: .int x :: rest) := by
  obtain ⟨hx, hb, hml, hown, hts, hK, hN, hr, hlk⟩ := C
  intro H locs ls hP hD hS hl
  exact lv_icmp_ge hx hb d ht (fun hc => kt (by rwa [if_pos (show y ≤ x from hc)] at h) H locs ls hP hD hS hl) (fun hc => kf (by rwa [if_neg (show ¬ y ≤ x from hc)] at h) H locs ls hP hD hS hl)
theorem xif_gt (C : xC p s m args meth c cc own nL rt D cy) {x : Int32} {off : Int} {tgt : Nat} {α : Type} {a b : Option α} {r : α} (h : (if nI 0 < x then a else b) = some r) (ht : (pc : Int) + off = (tgt : Int)) (d : decode cc pc = .ok (.ifCond .gt off, 3)) (kt : a = some r → xX p l e R s m args below meth c A H0 D cy ad kd NP nL cells slots Q G tgt lv rest) (kf : b = some r → xX p l e R s m args below meth c A H0 D cy ad kd NP nL cells slots Q G (pc + 3) lv rest) : xX p l e R s m args below meth c A H0 D cy ad kd NP nL cells slots Q G pc lv (.int x :: rest) := by
  obtain ⟨hx, hb, hml, hown, hts, hK, hN, hr, hlk⟩ := C
  intro H locs ls hP hD hS hl
  exact lv_if_gt hx hb d ht (fun hc => kt (by rwa [if_pos (show nI 0 < x from hc)] at h) H locs ls hP hD hS hl) (fun hc => kf (by rwa [if_neg (show ¬ nI 0 < x from hc)] at h) H locs ls hP hD hS hl)
theorem xicmp_gt (C : xC p s m args meth c cc own nL rt D cy) {x y : Int32} {off : Int} {tgt : Nat} {α : Type} {a b : Option α} {r : α} (h : (if y < x then a else b) = some r) (ht : (pc : Int) + off = (tgt : Int)) (d : decode cc pc = .ok (.if_icmp .gt off, 3)) (kt : a = some r → xX p l e R s m args below meth c A H0 D cy ad kd NP nL cells slots Q G tgt lv rest) (kf : b = some r → xX p l e R s m args below meth c A H0 D cy ad kd NP nL cells slots Q G (pc + 3) lv rest) : xX p l e R s m args below meth c A H0 D cy ad kd NP nL cells slots Q G pc lv (.int y :: .int x :: rest) := by
  obtain ⟨hx, hb, hml, hown, hts, hK, hN, hr, hlk⟩ := C
  intro H locs ls hP hD hS hl
  exact lv_icmp_gt hx hb d ht (fun hc => kt (by rwa [if_pos (show y < x from hc)] at h) H locs ls hP hD hS hl) (fun hc => kf (by rwa [if_neg (show ¬ y < x from hc)] at h) H locs ls hP hD hS hl)
theorem xif_le (C : xC p s m args meth c cc own nL rt D cy) {x : Int32} {off : Int} {tgt : Nat} {α : Type} {a b : Option α} {r : α} (h : (if x ≤ nI 0 then a else b) = some r) (ht : (pc : Int) + off = (tgt : Int)) (d : decode cc pc = .ok (.ifCond .le off, 3)) (kt : a = some r → xX p l e R s m args below meth c A H0 D cy ad kd NP nL cells slots Q G tgt lv rest) (kf : b = some r → xX p l e R s m args below meth c A H0 D cy ad kd NP nL cells slots Q G (pc + 3) lv rest) : xX p l e R s m args below meth c A H0 D cy ad kd NP nL cells slots Q G pc lv (.int x :: rest) := by
  obtain ⟨hx, hb, hml, hown, hts, hK, hN, hr, hlk⟩ := C
  intro H locs ls hP hD hS hl
  exact lv_if_le hx hb d ht (fun hc => kt (by rwa [if_pos (show x ≤ nI 0 from hc)] at h) H locs ls hP hD hS hl) (fun hc => kf (by rwa [if_neg (show ¬ x ≤ nI 0 from hc)] at h) H locs ls hP hD hS hl)
theorem xicmp_le (C : xC p s m args meth c cc own nL rt D cy) {x y : Int32} {off : Int} {tgt : Nat} {α : Type} {a b : Option α} {r : α} (h : (if x ≤ y then a else b) = some r) (ht : (pc : Int) + off = (tgt : Int)) (d : decode cc pc = .ok (.if_icmp .le off, 3)) (kt : a = some r → xX p l e R s m args below meth c A H0 D cy ad kd NP nL cells slots Q G tgt lv rest) (kf : b = some r → xX p l e R s m args below meth c A H0 D cy ad kd NP nL cells slots Q G (pc + 3) lv rest) : xX p l e R s m args below meth c A H0 D cy ad kd NP nL cells slots Q G pc lv (.int y :: .int x :: rest) := by
  obtain ⟨hx, hb, hml, hown, hts, hK, hN, hr, hlk⟩ := C
  intro H locs ls hP hD hS hl
  exact lv_icmp_le hx hb d ht (fun hc => kt (by rwa [if_pos (show x ≤ y from hc)] at h) H locs ls hP hD hS hl) (fun hc => kf (by rwa [if_neg (show ¬ x ≤ y from hc)] at h) H locs ls hP hD hS hl)
theorem xtab (C : xC p s m args meth c cc own nL rt D cy) {dflt lo hi : Int} {offs : Array Int} {len : Nat} {x : Int32} {off : Int} {tgt : Nat} (v : Int32) (hxv : x = v) (h1 : ¬ v.toInt < lo) (h2 : ¬ hi < v.toInt) (ho : offs[(v.toInt - lo).toNat]? = some off) (ht : (pc : Int) + off = (tgt : Int)) (d : decode cc pc = .ok (.tableswitch dflt lo hi offs, len)) (k : xX p l e R s m args below meth c A H0 D cy ad kd NP nL cells slots Q G tgt lv rest) : xX p l e R s m args below meth c A H0 D cy ad kd NP nL cells slots Q G pc lv (.int x :: rest) := by
  obtain ⟨hx, hb, hml, hown, hts, hK, hN, hr, hlk⟩ := C
  intro H locs ls hP hD hS hl
  subst hxv
  exact lv_tableIn hx hb d h1 h2 ho ht (k H locs ls hP hD hS hl)
theorem xtabOut (C : xC p s m args meth c cc own nL rt D cy) {dflt lo hi : Int} {offs : Array Int} {len : Nat} {x : Int32} {tgt : Nat} (h : x.toInt < lo ∨ hi < x.toInt) (ht : (pc : Int) + dflt = (tgt : Int)) (d : decode cc pc = .ok (.tableswitch dflt lo hi offs, len)) (k : xX p l e R s m args below meth c A H0 D cy ad kd NP nL cells slots Q G tgt lv rest) : xX p l e R s m args below meth c A H0 D cy ad kd NP nL cells slots Q G pc lv (.int x :: rest) := by
  obtain ⟨hx, hb, hml, hown, hts, hK, hN, hr, hlk⟩ := C
  intro H locs ls hP hD hS hl
  exact lv_tableOut hx hb d h ht (k H locs ls hP hD hS hl)
theorem xlook (C : xC p s m args meth c cc own nL rt D cy) {dflt : Int} {ps : Array (Int × Int)} {len : Nat} {x : Int32} {off : Int} {tgt : Nat} (hp : (ps.toList.zip (ps.toList.drop 1)).all (fun (a, next) => a.1 < next.1) = true) (ho : Op.lookupswitch.offset ps.toList dflt x.toInt = off) (ht : (pc : Int) + off = (tgt : Int)) (d : decode cc pc = .ok (.lookupswitch dflt ps, len)) (k : xX p l e R s m args below meth c A H0 D cy ad kd NP nL cells slots Q G tgt lv rest) : xX p l e R s m args below meth c A H0 D cy ad kd NP nL cells slots Q G pc lv (.int x :: rest) := by
  obtain ⟨hx, hb, hml, hown, hts, hK, hN, hr, hlk⟩ := C
  intro H locs ls hP hD hS hl
  exact lv_lookup hx hb d hp ho ht (k H locs ls hP hD hS hl)
theorem xne {x v : Int32} (h : ¬ x = v) (k : Int) (hk : v.toInt = k) : x.toInt ≠ k := fun q => h (Int32.toInt_inj.mp (q.trans hk.symm))
theorem xgetB (C : xC p s m args meth c cc own nL rt D cy) {q ci : Nat} {fs : List Value} {CN : String} {T : u_T} {N : Nat} {v : Value} {index : Nat} (ho : xO kd NP ci q) (he : kE cy ad G ci q = .inr (ci, fs)) (hc : vwCl[ci]? = some (CN, T, N)) (hin : ∀ w ∈ u_ws CN T N, w ∈ xAllW) (f : Nat) (hf : f < N) (hv : fs[f]? = some v) (hlink : Cond.fieldLink own index (T f).1 (T f).2.1 (T f).2.2.1 ∈ xAllW) (d : decode cc pc = .ok (.getfield index, 3)) (k : xX p l e R s m args below meth c A H0 D cy ad kd NP nL cells slots Q G (pc + 3) lv (v :: rest)) : xX p l e R s m args below meth c A H0 D cy ad kd NP nL cells slots Q G pc lv (.ref (ad q) :: rest) := by
  obtain ⟨hx, hb, hml, hown, hts, hK, hN, hr, hlk⟩ := C
  intro H locs ls hP hD hS hl
  exact va_get (D := D) (cl := vwCl) (ci := ci) (v := v) (C := CN) (T := T) (N := N) hx hb hts hin hown hK hP q (by rw [wo_at ho, he]) hc f hf (hts _ hlink) (fun _ h9 => h9) hv d (k H locs ls hP hD hS hl)
theorem xgetBN (C : xC p s m args meth c cc own nL rt D cy) {q ci : Nat} {fs : List Value} {CN : String} {T : u_T} {N : Nat} {v : Value} {index : Nat} (ho : xO kd NP ci q) (he : kE cy ad G ci q = .inr (ci, fs)) (hc : vwCl[ci]? = some (CN, T, N)) (hin : ∀ w ∈ u_ws CN T N, w ∈ xAllW) (f : Nat) (hf : f < N) (hv : fs[f]? = some v) (hlink : (own, index, (T f).1, (T f).2.1, (T f).2.2.1) ∈ xNF) (d : decode cc pc = .ok (.getfield index, 3)) (k : xX p l e R s m args below meth c A H0 D cy ad kd NP nL cells slots Q G (pc + 3) lv (v :: rest)) : xX p l e R s m args below meth c A H0 D cy ad kd NP nL cells slots Q G pc lv (.ref (ad q) :: rest) := by
  obtain ⟨hx, hb, hml, hown, hts, hK, hN, hr, hlk⟩ := C
  intro H locs ls hP hD hS hl
  exact va_getN (D := D) (cl := vwCl) (ci := ci) (v := v) (C := CN) (T := T) (N := N) (host := RX8) hx hb hts hin hown hK hP q (by rw [wo_at ho, he]) hc f hf (va_Nw.use rfl (hN.1 _ hlink)) (fun _ h9 => h9) hv d (k H locs ls hP hD hS hl)
theorem xputB (C : xC p s m args meth c cc own nL rt D cy) {q ci : Nat} {fs : List Value} {CN : String} {T : u_T} {N : Nat} {v : Int32} {index : Nat} (ho : xO kd NP ci q) (he : kE cy ad G ci q = .inr (ci, fs)) (hc : vwCl[ci]? = some (CN, T, N)) (hin : ∀ w ∈ u_ws CN T N, w ∈ xAllW) (ty0 : Nat → FieldType) (hty : ∀ k, k < N → parseFieldDescriptor (T k).2.2.1 = some (ty0 k)) (hnm : ∀ a, a < N → ∀ b, b < N → a ≠ b → (T a).2.1 ≠ (T b).2.1) (f : Nat) (hf : f < N) (hfs : f < fs.length) (hfin : (T f).2.2.2 = false) {ty : FieldType} (hd : parseFieldDescriptor (T f).2.2.1 = some ty) (hn : narrow ty (.int v) = .int v) (hfit : fits ty (.int v) = true) (he1 : (.inr (ci, fs.set f (.int v)) : va_E) = kE cy ad (mset G q f v) ci q) (hlink : Cond.fieldLink own index (T f).1 (T f).2.1 (T f).2.2.1 ∈ xAllW) (d : decode cc pc = .ok (.putfield index, 3)) (k : xX p l e R s m args below meth c A H0 D cy ad kd NP nL cells slots Q (mset G q f v) (pc + 3) lv rest) : xX p l e R s m args below meth c A H0 D cy ad kd NP nL cells slots Q G pc lv (.int v :: .ref (ad q) :: rest) := by
  obtain ⟨hx, hb, hml, hown, hts, hK, hN, hr, hlk⟩ := C
  intro H locs ls hP hD hS hl
  refine va_put (D := D) (cl := vwCl) (ci := ci) (v := .int v) (ty := ty) (C := CN) (T := T) (N := N) hx hb hts hin ty0 hty hnm hown hK hP hD hS q (by rw [wo_at ho, he]) hc f hf (hts _ hlink) (fun _ h9 => h9) hfin hd hn hfit hfs d (fun H1 locs1 hP1 hD1 hS1 => ?_)
  rw [wo_set ho he1] at hP1 hD1
  exact k H1 locs1 ls hP1 hD1 hS1 hl
theorem xputBN (C : xC p s m args meth c cc own nL rt D cy) {q ci : Nat} {fs : List Value} {CN : String} {T : u_T} {N : Nat} {v : Int32} {index : Nat} (ho : xO kd NP ci q) (he : kE cy ad G ci q = .inr (ci, fs)) (hc : vwCl[ci]? = some (CN, T, N)) (hin : ∀ w ∈ u_ws CN T N, w ∈ xAllW) (ty0 : Nat → FieldType) (hty : ∀ k, k < N → parseFieldDescriptor (T k).2.2.1 = some (ty0 k)) (hnm : ∀ a, a < N → ∀ b, b < N → a ≠ b → (T a).2.1 ≠ (T b).2.1) (f : Nat) (hf : f < N) (hfs : f < fs.length) (hfin : (T f).2.2.2 = false) {ty : FieldType} (hd : parseFieldDescriptor (T f).2.2.1 = some ty) (hn : narrow ty (.int v) = .int v) (hfit : fits ty (.int v) = true) (he1 : (.inr (ci, fs.set f (.int v)) : va_E) = kE cy ad (mset G q f v) ci q) (hlink : (own, index, (T f).1, (T f).2.1, (T f).2.2.1) ∈ xNF) (d : decode cc pc = .ok (.putfield index, 3)) (k : xX p l e R s m args below meth c A H0 D cy ad kd NP nL cells slots Q (mset G q f v) (pc + 3) lv rest) : xX p l e R s m args below meth c A H0 D cy ad kd NP nL cells slots Q G pc lv (.int v :: .ref (ad q) :: rest) := by
  obtain ⟨hx, hb, hml, hown, hts, hK, hN, hr, hlk⟩ := C
  intro H locs ls hP hD hS hl
  refine va_putN (D := D) (cl := vwCl) (ci := ci) (v := .int v) (ty := ty) (C := CN) (T := T) (N := N) (host := RX8) hx hb hts hin ty0 hty hnm hown hK hP hD hS q (by rw [wo_at ho, he]) hc f hf (va_Nw.use rfl (hN.1 _ hlink)) (fun _ h9 => h9) hfin hd hn hfit hfs d (fun H1 locs1 hP1 hD1 hS1 => ?_)
  rw [wo_set ho he1] at hP1 hD1
  exact k H1 locs1 ls hP1 hD1 hS1 hl
theorem xz_nar {v : Int32} (h : v = 0 ∨ v = 1) : narrow .boolean (.int v) = .int v := by rcases h with rfl | rfl <;> rfl
theorem xz_fit {v : Int32} (h : v = 0 ∨ v = 1) : fits .boolean (.int v) = true := by rcases h with rfl | rfl <;> rfl
theorem xg_0_made (C : xC p s m args meth c cc own nL rt D cy) {q index : Nat} (ho : xO kd NP 0 q) (hlink : Cond.fieldLink own index "HedgeChains$Contract" "made" "Z" ∈ xAllW) (d : decode cc pc = .ok (.getfield index, 3)) (k : xX p l e R s m args below meth c A H0 D cy ad kd NP nL cells slots Q G (pc + 3) lv (.int (G q 0) :: rest)) : xX p l e R s m args below meth c A H0 D cy ad kd NP nL cells slots Q G pc lv (.ref (ad q) :: rest) :=
  xgetB C (ci := 0) (T := TX0) ho rfl rfl inlX0 0 (by decide) rfl hlink d k
theorem xp_0_made (C : xC p s m args meth c cc own nL rt D cy) {q index : Nat} {v : Int32} (ho : xO kd NP 0 q) (hz : v = 0 ∨ v = 1) (hlink : Cond.fieldLink own index "HedgeChains$Contract" "made" "Z" ∈ xAllW) (d : decode cc pc = .ok (.putfield index, 3)) (k : xX p l e R s m args below meth c A H0 D cy ad kd NP nL cells slots Q (mset G q 0 v) (pc + 3) lv rest) : xX p l e R s m args below meth c A H0 D cy ad kd NP nL cells slots Q G pc lv (.int v :: .ref (ad q) :: rest) :=
  xputB C (ci := 0) (T := TX0) (ty := .boolean) ho rfl rfl inlX0 tyX0 tyX0_ok nmX0 0 (by decide) (by exact Nat.le_of_ble_eq_true rfl) rfl (by decide +kernel) (xz_nar hz) (xz_fit hz) (by simp [kE, mset, mrow, upd]) hlink d k
theorem xgN_0_made (C : xC p s m args meth c cc own nL rt D cy) {q index : Nat} (ho : xO kd NP 0 q) (hlink : (own, index, "HedgeChains$Contract", "made", "Z") ∈ xNF) (d : decode cc pc = .ok (.getfield index, 3)) (k : xX p l e R s m args below meth c A H0 D cy ad kd NP nL cells slots Q G (pc + 3) lv (.int (G q 0) :: rest)) : xX p l e R s m args below meth c A H0 D cy ad kd NP nL cells slots Q G pc lv (.ref (ad q) :: rest) :=
  xgetBN C (ci := 0) (T := TX0) ho rfl rfl inlX0 0 (by decide) rfl hlink d k
theorem xpN_0_made (C : xC p s m args meth c cc own nL rt D cy) {q index : Nat} {v : Int32} (ho : xO kd NP 0 q) (hz : v = 0 ∨ v = 1) (hlink : (own, index, "HedgeChains$Contract", "made", "Z") ∈ xNF) (d : decode cc pc = .ok (.putfield index, 3)) (k : xX p l e R s m args below meth c A H0 D cy ad kd NP nL cells slots Q (mset G q 0 v) (pc + 3) lv rest) : xX p l e R s m args below meth c A H0 D cy ad kd NP nL cells slots Q G pc lv (.int v :: .ref (ad q) :: rest) :=
  xputBN C (ci := 0) (T := TX0) (ty := .boolean) ho rfl rfl inlX0 tyX0 tyX0_ok nmX0 0 (by decide) (by exact Nat.le_of_ble_eq_true rfl) rfl (by decide +kernel) (xz_nar hz) (xz_fit hz) (by simp [kE, mset, mrow, upd]) hlink d k
theorem xg_0_price (C : xC p s m args meth c cc own nL rt D cy) {q index : Nat} (ho : xO kd NP 0 q) (hlink : Cond.fieldLink own index "HedgeChains$Contract" "price" "I" ∈ xAllW) (d : decode cc pc = .ok (.getfield index, 3)) (k : xX p l e R s m args below meth c A H0 D cy ad kd NP nL cells slots Q G (pc + 3) lv (.int (G q 1) :: rest)) : xX p l e R s m args below meth c A H0 D cy ad kd NP nL cells slots Q G pc lv (.ref (ad q) :: rest) :=
  xgetB C (ci := 0) (T := TX0) ho rfl rfl inlX0 1 (by decide) rfl hlink d k
theorem xp_0_price (C : xC p s m args meth c cc own nL rt D cy) {q index : Nat} {v : Int32} (ho : xO kd NP 0 q) (hlink : Cond.fieldLink own index "HedgeChains$Contract" "price" "I" ∈ xAllW) (d : decode cc pc = .ok (.putfield index, 3)) (k : xX p l e R s m args below meth c A H0 D cy ad kd NP nL cells slots Q (mset G q 1 v) (pc + 3) lv rest) : xX p l e R s m args below meth c A H0 D cy ad kd NP nL cells slots Q G pc lv (.int v :: .ref (ad q) :: rest) :=
  xputB C (ci := 0) (T := TX0) (ty := .int) ho rfl rfl inlX0 tyX0 tyX0_ok nmX0 1 (by decide) (by exact Nat.le_of_ble_eq_true rfl) rfl (by decide +kernel) (by exact vp_nar_int v) rfl (by simp [kE, mset, mrow, upd]) hlink d k
theorem xgN_0_price (C : xC p s m args meth c cc own nL rt D cy) {q index : Nat} (ho : xO kd NP 0 q) (hlink : (own, index, "HedgeChains$Contract", "price", "I") ∈ xNF) (d : decode cc pc = .ok (.getfield index, 3)) (k : xX p l e R s m args below meth c A H0 D cy ad kd NP nL cells slots Q G (pc + 3) lv (.int (G q 1) :: rest)) : xX p l e R s m args below meth c A H0 D cy ad kd NP nL cells slots Q G pc lv (.ref (ad q) :: rest) :=
  xgetBN C (ci := 0) (T := TX0) ho rfl rfl inlX0 1 (by decide) rfl hlink d k
theorem xpN_0_price (C : xC p s m args meth c cc own nL rt D cy) {q index : Nat} {v : Int32} (ho : xO kd NP 0 q) (hlink : (own, index, "HedgeChains$Contract", "price", "I") ∈ xNF) (d : decode cc pc = .ok (.putfield index, 3)) (k : xX p l e R s m args below meth c A H0 D cy ad kd NP nL cells slots Q (mset G q 1 v) (pc + 3) lv rest) : xX p l e R s m args below meth c A H0 D cy ad kd NP nL cells slots Q G pc lv (.int v :: .ref (ad q) :: rest) :=
  xputBN C (ci := 0) (T := TX0) (ty := .int) ho rfl rfl inlX0 tyX0 tyX0_ok nmX0 1 (by decide) (by exact Nat.le_of_ble_eq_true rfl) rfl (by decide +kernel) (by exact vp_nar_int v) rfl (by simp [kE, mset, mrow, upd]) hlink d k
theorem xg_0_lastWeek (C : xC p s m args meth c cc own nL rt D cy) {q index : Nat} (ho : xO kd NP 0 q) (hlink : Cond.fieldLink own index "HedgeChains$Contract" "lastWeek" "I" ∈ xAllW) (d : decode cc pc = .ok (.getfield index, 3)) (k : xX p l e R s m args below meth c A H0 D cy ad kd NP nL cells slots Q G (pc + 3) lv (.int (G q 2) :: rest)) : xX p l e R s m args below meth c A H0 D cy ad kd NP nL cells slots Q G pc lv (.ref (ad q) :: rest) :=
  xgetB C (ci := 0) (T := TX0) ho rfl rfl inlX0 2 (by decide) rfl hlink d k
theorem xp_0_lastWeek (C : xC p s m args meth c cc own nL rt D cy) {q index : Nat} {v : Int32} (ho : xO kd NP 0 q) (hlink : Cond.fieldLink own index "HedgeChains$Contract" "lastWeek" "I" ∈ xAllW) (d : decode cc pc = .ok (.putfield index, 3)) (k : xX p l e R s m args below meth c A H0 D cy ad kd NP nL cells slots Q (mset G q 2 v) (pc + 3) lv rest) : xX p l e R s m args below meth c A H0 D cy ad kd NP nL cells slots Q G pc lv (.int v :: .ref (ad q) :: rest) :=
  xputB C (ci := 0) (T := TX0) (ty := .int) ho rfl rfl inlX0 tyX0 tyX0_ok nmX0 2 (by decide) (by exact Nat.le_of_ble_eq_true rfl) rfl (by decide +kernel) (by exact vp_nar_int v) rfl (by simp [kE, mset, mrow, upd]) hlink d k
theorem xgN_0_lastWeek (C : xC p s m args meth c cc own nL rt D cy) {q index : Nat} (ho : xO kd NP 0 q) (hlink : (own, index, "HedgeChains$Contract", "lastWeek", "I") ∈ xNF) (d : decode cc pc = .ok (.getfield index, 3)) (k : xX p l e R s m args below meth c A H0 D cy ad kd NP nL cells slots Q G (pc + 3) lv (.int (G q 2) :: rest)) : xX p l e R s m args below meth c A H0 D cy ad kd NP nL cells slots Q G pc lv (.ref (ad q) :: rest) :=
  xgetBN C (ci := 0) (T := TX0) ho rfl rfl inlX0 2 (by decide) rfl hlink d k
theorem xpN_0_lastWeek (C : xC p s m args meth c cc own nL rt D cy) {q index : Nat} {v : Int32} (ho : xO kd NP 0 q) (hlink : (own, index, "HedgeChains$Contract", "lastWeek", "I") ∈ xNF) (d : decode cc pc = .ok (.putfield index, 3)) (k : xX p l e R s m args below meth c A H0 D cy ad kd NP nL cells slots Q (mset G q 2 v) (pc + 3) lv rest) : xX p l e R s m args below meth c A H0 D cy ad kd NP nL cells slots Q G pc lv (.int v :: .ref (ad q) :: rest) :=
  xputBN C (ci := 0) (T := TX0) (ty := .int) ho rfl rfl inlX0 tyX0 tyX0_ok nmX0 2 (by decide) (by exact Nat.le_of_ble_eq_true rfl) rfl (by decide +kernel) (by exact vp_nar_int v) rfl (by simp [kE, mset, mrow, upd]) hlink d k
theorem xg_0_fine (C : xC p s m args meth c cc own nL rt D cy) {q index : Nat} (ho : xO kd NP 0 q) (hlink : Cond.fieldLink own index "HedgeChains$Contract" "fine" "I" ∈ xAllW) (d : decode cc pc = .ok (.getfield index, 3)) (k : xX p l e R s m args below meth c A H0 D cy ad kd NP nL cells slots Q G (pc + 3) lv (.int (G q 3) :: rest)) : xX p l e R s m args below meth c A H0 D cy ad kd NP nL cells slots Q G pc lv (.ref (ad q) :: rest) :=
  xgetB C (ci := 0) (T := TX0) ho rfl rfl inlX0 3 (by decide) rfl hlink d k
theorem xp_0_fine (C : xC p s m args meth c cc own nL rt D cy) {q index : Nat} {v : Int32} (ho : xO kd NP 0 q) (hlink : Cond.fieldLink own index "HedgeChains$Contract" "fine" "I" ∈ xAllW) (d : decode cc pc = .ok (.putfield index, 3)) (k : xX p l e R s m args below meth c A H0 D cy ad kd NP nL cells slots Q (mset G q 3 v) (pc + 3) lv rest) : xX p l e R s m args below meth c A H0 D cy ad kd NP nL cells slots Q G pc lv (.int v :: .ref (ad q) :: rest) :=
  xputB C (ci := 0) (T := TX0) (ty := .int) ho rfl rfl inlX0 tyX0 tyX0_ok nmX0 3 (by decide) (by exact Nat.le_of_ble_eq_true rfl) rfl (by decide +kernel) (by exact vp_nar_int v) rfl (by simp [kE, mset, mrow, upd]) hlink d k
theorem xgN_0_fine (C : xC p s m args meth c cc own nL rt D cy) {q index : Nat} (ho : xO kd NP 0 q) (hlink : (own, index, "HedgeChains$Contract", "fine", "I") ∈ xNF) (d : decode cc pc = .ok (.getfield index, 3)) (k : xX p l e R s m args below meth c A H0 D cy ad kd NP nL cells slots Q G (pc + 3) lv (.int (G q 3) :: rest)) : xX p l e R s m args below meth c A H0 D cy ad kd NP nL cells slots Q G pc lv (.ref (ad q) :: rest) :=
  xgetBN C (ci := 0) (T := TX0) ho rfl rfl inlX0 3 (by decide) rfl hlink d k
theorem xpN_0_fine (C : xC p s m args meth c cc own nL rt D cy) {q index : Nat} {v : Int32} (ho : xO kd NP 0 q) (hlink : (own, index, "HedgeChains$Contract", "fine", "I") ∈ xNF) (d : decode cc pc = .ok (.putfield index, 3)) (k : xX p l e R s m args below meth c A H0 D cy ad kd NP nL cells slots Q (mset G q 3 v) (pc + 3) lv rest) : xX p l e R s m args below meth c A H0 D cy ad kd NP nL cells slots Q G pc lv (.int v :: .ref (ad q) :: rest) :=
  xputBN C (ci := 0) (T := TX0) (ty := .int) ho rfl rfl inlX0 tyX0 tyX0_ok nmX0 3 (by decide) (by exact Nat.le_of_ble_eq_true rfl) rfl (by decide +kernel) (by exact vp_nar_int v) rfl (by simp [kE, mset, mrow, upd]) hlink d k
theorem xg_1_kinds (C : xC p s m args meth c cc own nL rt D cy) {q index : Nat} (ho : xO kd NP 1 q) (hlink : Cond.fieldLink own index "HedgeChains$Hedge" "kinds" "[I" ∈ xAllW) (d : decode cc pc = .ok (.getfield index, 3)) (k : xX p l e R s m args below meth c A H0 D cy ad kd NP nL cells slots Q G (pc + 3) lv (.ref (ad (q + 1)) :: rest)) : xX p l e R s m args below meth c A H0 D cy ad kd NP nL cells slots Q G pc lv (.ref (ad q) :: rest) :=
  xgetB C (ci := 1) (T := TX1) ho rfl rfl inlX1 0 (by decide) rfl hlink d k
theorem xgN_1_kinds (C : xC p s m args meth c cc own nL rt D cy) {q index : Nat} (ho : xO kd NP 1 q) (hlink : (own, index, "HedgeChains$Hedge", "kinds", "[I") ∈ xNF) (d : decode cc pc = .ok (.getfield index, 3)) (k : xX p l e R s m args below meth c A H0 D cy ad kd NP nL cells slots Q G (pc + 3) lv (.ref (ad (q + 1)) :: rest)) : xX p l e R s m args below meth c A H0 D cy ad kd NP nL cells slots Q G pc lv (.ref (ad q) :: rest) :=
  xgetBN C (ci := 1) (T := TX1) ho rfl rfl inlX1 0 (by decide) rfl hlink d k
theorem xg_1_thicknesses (C : xC p s m args meth c cc own nL rt D cy) {q index : Nat} (ho : xO kd NP 1 q) (hlink : Cond.fieldLink own index "HedgeChains$Hedge" "thicknesses" "[I" ∈ xAllW) (d : decode cc pc = .ok (.getfield index, 3)) (k : xX p l e R s m args below meth c A H0 D cy ad kd NP nL cells slots Q G (pc + 3) lv (.ref (ad (q + 2)) :: rest)) : xX p l e R s m args below meth c A H0 D cy ad kd NP nL cells slots Q G pc lv (.ref (ad q) :: rest) :=
  xgetB C (ci := 1) (T := TX1) ho rfl rfl inlX1 1 (by decide) rfl hlink d k
theorem xgN_1_thicknesses (C : xC p s m args meth c cc own nL rt D cy) {q index : Nat} (ho : xO kd NP 1 q) (hlink : (own, index, "HedgeChains$Hedge", "thicknesses", "[I") ∈ xNF) (d : decode cc pc = .ok (.getfield index, 3)) (k : xX p l e R s m args below meth c A H0 D cy ad kd NP nL cells slots Q G (pc + 3) lv (.ref (ad (q + 2)) :: rest)) : xX p l e R s m args below meth c A H0 D cy ad kd NP nL cells slots Q G pc lv (.ref (ad q) :: rest) :=
  xgetBN C (ci := 1) (T := TX1) ho rfl rfl inlX1 1 (by decide) rfl hlink d k
theorem xg_1_ages (C : xC p s m args meth c cc own nL rt D cy) {q index : Nat} (ho : xO kd NP 1 q) (hlink : Cond.fieldLink own index "HedgeChains$Hedge" "ages" "[I" ∈ xAllW) (d : decode cc pc = .ok (.getfield index, 3)) (k : xX p l e R s m args below meth c A H0 D cy ad kd NP nL cells slots Q G (pc + 3) lv (.ref (ad (q + 3)) :: rest)) : xX p l e R s m args below meth c A H0 D cy ad kd NP nL cells slots Q G pc lv (.ref (ad q) :: rest) :=
  xgetB C (ci := 1) (T := TX1) ho rfl rfl inlX1 2 (by decide) rfl hlink d k
theorem xgN_1_ages (C : xC p s m args meth c cc own nL rt D cy) {q index : Nat} (ho : xO kd NP 1 q) (hlink : (own, index, "HedgeChains$Hedge", "ages", "[I") ∈ xNF) (d : decode cc pc = .ok (.getfield index, 3)) (k : xX p l e R s m args below meth c A H0 D cy ad kd NP nL cells slots Q G (pc + 3) lv (.ref (ad (q + 3)) :: rest)) : xX p l e R s m args below meth c A H0 D cy ad kd NP nL cells slots Q G pc lv (.ref (ad q) :: rest) :=
  xgetBN C (ci := 1) (T := TX1) ho rfl rfl inlX1 2 (by decide) rfl hlink d k
theorem xg_1_length (C : xC p s m args meth c cc own nL rt D cy) {q index : Nat} (ho : xO kd NP 1 q) (hlink : Cond.fieldLink own index "HedgeChains$Hedge" "length" "I" ∈ xAllW) (d : decode cc pc = .ok (.getfield index, 3)) (k : xX p l e R s m args below meth c A H0 D cy ad kd NP nL cells slots Q G (pc + 3) lv (.int (G q 3) :: rest)) : xX p l e R s m args below meth c A H0 D cy ad kd NP nL cells slots Q G pc lv (.ref (ad q) :: rest) :=
  xgetB C (ci := 1) (T := TX1) ho rfl rfl inlX1 3 (by decide) rfl hlink d k
theorem xp_1_length (C : xC p s m args meth c cc own nL rt D cy) {q index : Nat} {v : Int32} (ho : xO kd NP 1 q) (hlink : Cond.fieldLink own index "HedgeChains$Hedge" "length" "I" ∈ xAllW) (d : decode cc pc = .ok (.putfield index, 3)) (k : xX p l e R s m args below meth c A H0 D cy ad kd NP nL cells slots Q (mset G q 3 v) (pc + 3) lv rest) : xX p l e R s m args below meth c A H0 D cy ad kd NP nL cells slots Q G pc lv (.int v :: .ref (ad q) :: rest) :=
  xputB C (ci := 1) (T := TX1) (ty := .int) ho rfl rfl inlX1 tyX1 tyX1_ok nmX1 3 (by decide) (by exact Nat.le_of_ble_eq_true rfl) rfl (by decide +kernel) (by exact vp_nar_int v) rfl (by simp [kE, mset, mrow, upd]) hlink d k
theorem xgN_1_length (C : xC p s m args meth c cc own nL rt D cy) {q index : Nat} (ho : xO kd NP 1 q) (hlink : (own, index, "HedgeChains$Hedge", "length", "I") ∈ xNF) (d : decode cc pc = .ok (.getfield index, 3)) (k : xX p l e R s m args below meth c A H0 D cy ad kd NP nL cells slots Q G (pc + 3) lv (.int (G q 3) :: rest)) : xX p l e R s m args below meth c A H0 D cy ad kd NP nL cells slots Q G pc lv (.ref (ad q) :: rest) :=
  xgetBN C (ci := 1) (T := TX1) ho rfl rfl inlX1 3 (by decide) rfl hlink d k
theorem xpN_1_length (C : xC p s m args meth c cc own nL rt D cy) {q index : Nat} {v : Int32} (ho : xO kd NP 1 q) (hlink : (own, index, "HedgeChains$Hedge", "length", "I") ∈ xNF) (d : decode cc pc = .ok (.putfield index, 3)) (k : xX p l e R s m args below meth c A H0 D cy ad kd NP nL cells slots Q (mset G q 3 v) (pc + 3) lv rest) : xX p l e R s m args below meth c A H0 D cy ad kd NP nL cells slots Q G pc lv (.int v :: .ref (ad q) :: rest) :=
  xputBN C (ci := 1) (T := TX1) (ty := .int) ho rfl rfl inlX1 tyX1 tyX1_ok nmX1 3 (by decide) (by exact Nat.le_of_ble_eq_true rfl) rfl (by decide +kernel) (by exact vp_nar_int v) rfl (by simp [kE, mset, mrow, upd]) hlink d k
theorem xg_2_hedge (C : xC p s m args meth c cc own nL rt D cy) {q index : Nat} (ho : xO kd NP 2 q) (hlink : Cond.fieldLink own index "HedgeChains$HedgeReader" "hedge" "LHedgeChains$Hedge;" ∈ xAllW) (d : decode cc pc = .ok (.getfield index, 3)) (k : xX p l e R s m args below meth c A H0 D cy ad kd NP nL cells slots Q G (pc + 3) lv (.ref (ad (q + 1)) :: rest)) : xX p l e R s m args below meth c A H0 D cy ad kd NP nL cells slots Q G pc lv (.ref (ad q) :: rest) :=
  xgetB C (ci := 2) (T := TX2) ho rfl rfl inlX2 0 (by decide) rfl hlink d k
theorem xgN_2_hedge (C : xC p s m args meth c cc own nL rt D cy) {q index : Nat} (ho : xO kd NP 2 q) (hlink : (own, index, "HedgeChains$HedgeReader", "hedge", "LHedgeChains$Hedge;") ∈ xNF) (d : decode cc pc = .ok (.getfield index, 3)) (k : xX p l e R s m args below meth c A H0 D cy ad kd NP nL cells slots Q G (pc + 3) lv (.ref (ad (q + 1)) :: rest)) : xX p l e R s m args below meth c A H0 D cy ad kd NP nL cells slots Q G pc lv (.ref (ad q) :: rest) :=
  xgetBN C (ci := 2) (T := TX2) ho rfl rfl inlX2 0 (by decide) rfl hlink d k
theorem xg_2_told (C : xC p s m args meth c cc own nL rt D cy) {q index : Nat} (ho : xO kd NP 2 q) (hlink : Cond.fieldLink own index "HedgeChains$HedgeReader" "told" "I" ∈ xAllW) (d : decode cc pc = .ok (.getfield index, 3)) (k : xX p l e R s m args below meth c A H0 D cy ad kd NP nL cells slots Q G (pc + 3) lv (.int (G q 1) :: rest)) : xX p l e R s m args below meth c A H0 D cy ad kd NP nL cells slots Q G pc lv (.ref (ad q) :: rest) :=
  xgetB C (ci := 2) (T := TX2) ho rfl rfl inlX2 1 (by decide) rfl hlink d k
theorem xp_2_told (C : xC p s m args meth c cc own nL rt D cy) {q index : Nat} {v : Int32} (ho : xO kd NP 2 q) (hlink : Cond.fieldLink own index "HedgeChains$HedgeReader" "told" "I" ∈ xAllW) (d : decode cc pc = .ok (.putfield index, 3)) (k : xX p l e R s m args below meth c A H0 D cy ad kd NP nL cells slots Q (mset G q 1 v) (pc + 3) lv rest) : xX p l e R s m args below meth c A H0 D cy ad kd NP nL cells slots Q G pc lv (.int v :: .ref (ad q) :: rest) :=
  xputB C (ci := 2) (T := TX2) (ty := .int) ho rfl rfl inlX2 tyX2 tyX2_ok nmX2 1 (by decide) (by exact Nat.le_of_ble_eq_true rfl) rfl (by decide +kernel) (by exact vp_nar_int v) rfl (by simp [kE, mset, mrow, upd]) hlink d k
theorem xgN_2_told (C : xC p s m args meth c cc own nL rt D cy) {q index : Nat} (ho : xO kd NP 2 q) (hlink : (own, index, "HedgeChains$HedgeReader", "told", "I") ∈ xNF) (d : decode cc pc = .ok (.getfield index, 3)) (k : xX p l e R s m args below meth c A H0 D cy ad kd NP nL cells slots Q G (pc + 3) lv (.int (G q 1) :: rest)) : xX p l e R s m args below meth c A H0 D cy ad kd NP nL cells slots Q G pc lv (.ref (ad q) :: rest) :=
  xgetBN C (ci := 2) (T := TX2) ho rfl rfl inlX2 1 (by decide) rfl hlink d k
theorem xpN_2_told (C : xC p s m args meth c cc own nL rt D cy) {q index : Nat} {v : Int32} (ho : xO kd NP 2 q) (hlink : (own, index, "HedgeChains$HedgeReader", "told", "I") ∈ xNF) (d : decode cc pc = .ok (.putfield index, 3)) (k : xX p l e R s m args below meth c A H0 D cy ad kd NP nL cells slots Q (mset G q 1 v) (pc + 3) lv rest) : xX p l e R s m args below meth c A H0 D cy ad kd NP nL cells slots Q G pc lv (.int v :: .ref (ad q) :: rest) :=
  xputBN C (ci := 2) (T := TX2) (ty := .int) ho rfl rfl inlX2 tyX2 tyX2_ok nmX2 1 (by decide) (by exact Nat.le_of_ble_eq_true rfl) rfl (by decide +kernel) (by exact vp_nar_int v) rfl (by simp [kE, mset, mrow, upd]) hlink d k
theorem xg_2_at (C : xC p s m args meth c cc own nL rt D cy) {q index : Nat} (ho : xO kd NP 2 q) (hlink : Cond.fieldLink own index "HedgeChains$HedgeReader" "at" "I" ∈ xAllW) (d : decode cc pc = .ok (.getfield index, 3)) (k : xX p l e R s m args below meth c A H0 D cy ad kd NP nL cells slots Q G (pc + 3) lv (.int (G q 2) :: rest)) : xX p l e R s m args below meth c A H0 D cy ad kd NP nL cells slots Q G pc lv (.ref (ad q) :: rest) :=
  xgetB C (ci := 2) (T := TX2) ho rfl rfl inlX2 2 (by decide) rfl hlink d k
theorem xp_2_at (C : xC p s m args meth c cc own nL rt D cy) {q index : Nat} {v : Int32} (ho : xO kd NP 2 q) (hlink : Cond.fieldLink own index "HedgeChains$HedgeReader" "at" "I" ∈ xAllW) (d : decode cc pc = .ok (.putfield index, 3)) (k : xX p l e R s m args below meth c A H0 D cy ad kd NP nL cells slots Q (mset G q 2 v) (pc + 3) lv rest) : xX p l e R s m args below meth c A H0 D cy ad kd NP nL cells slots Q G pc lv (.int v :: .ref (ad q) :: rest) :=
  xputB C (ci := 2) (T := TX2) (ty := .int) ho rfl rfl inlX2 tyX2 tyX2_ok nmX2 2 (by decide) (by exact Nat.le_of_ble_eq_true rfl) rfl (by decide +kernel) (by exact vp_nar_int v) rfl (by simp [kE, mset, mrow, upd]) hlink d k
theorem xgN_2_at (C : xC p s m args meth c cc own nL rt D cy) {q index : Nat} (ho : xO kd NP 2 q) (hlink : (own, index, "HedgeChains$HedgeReader", "at", "I") ∈ xNF) (d : decode cc pc = .ok (.getfield index, 3)) (k : xX p l e R s m args below meth c A H0 D cy ad kd NP nL cells slots Q G (pc + 3) lv (.int (G q 2) :: rest)) : xX p l e R s m args below meth c A H0 D cy ad kd NP nL cells slots Q G pc lv (.ref (ad q) :: rest) :=
  xgetBN C (ci := 2) (T := TX2) ho rfl rfl inlX2 2 (by decide) rfl hlink d k
theorem xpN_2_at (C : xC p s m args meth c cc own nL rt D cy) {q index : Nat} {v : Int32} (ho : xO kd NP 2 q) (hlink : (own, index, "HedgeChains$HedgeReader", "at", "I") ∈ xNF) (d : decode cc pc = .ok (.putfield index, 3)) (k : xX p l e R s m args below meth c A H0 D cy ad kd NP nL cells slots Q (mset G q 2 v) (pc + 3) lv rest) : xX p l e R s m args below meth c A H0 D cy ad kd NP nL cells slots Q G pc lv (.int v :: .ref (ad q) :: rest) :=
  xputBN C (ci := 2) (T := TX2) (ty := .int) ho rfl rfl inlX2 tyX2 tyX2_ok nmX2 2 (by decide) (by exact Nat.le_of_ble_eq_true rfl) rfl (by decide +kernel) (by exact vp_nar_int v) rfl (by simp [kE, mset, mrow, upd]) hlink d k
theorem xg_3_states (C : xC p s m args meth c cc own nL rt D cy) {q index : Nat} (ho : xO kd NP 3 q) (hlink : Cond.fieldLink own index "HedgeChains$History" "states" "[LHedgeChains$State;" ∈ xAllW) (d : decode cc pc = .ok (.getfield index, 3)) (k : xX p l e R s m args below meth c A H0 D cy ad kd NP nL cells slots Q G (pc + 3) lv (.ref (ad (q + 1)) :: rest)) : xX p l e R s m args below meth c A H0 D cy ad kd NP nL cells slots Q G pc lv (.ref (ad q) :: rest) :=
  xgetB C (ci := 3) (T := TX3) ho rfl rfl inlX3 0 (by decide) rfl hlink d k
theorem xgN_3_states (C : xC p s m args meth c cc own nL rt D cy) {q index : Nat} (ho : xO kd NP 3 q) (hlink : (own, index, "HedgeChains$History", "states", "[LHedgeChains$State;") ∈ xNF) (d : decode cc pc = .ok (.getfield index, 3)) (k : xX p l e R s m args below meth c A H0 D cy ad kd NP nL cells slots Q G (pc + 3) lv (.ref (ad (q + 1)) :: rest)) : xX p l e R s m args below meth c A H0 D cy ad kd NP nL cells slots Q G pc lv (.ref (ad q) :: rest) :=
  xgetBN C (ci := 3) (T := TX3) ho rfl rfl inlX3 0 (by decide) rfl hlink d k
theorem xg_3_next (C : xC p s m args meth c cc own nL rt D cy) {q index : Nat} (ho : xO kd NP 3 q) (hlink : Cond.fieldLink own index "HedgeChains$History" "next" "I" ∈ xAllW) (d : decode cc pc = .ok (.getfield index, 3)) (k : xX p l e R s m args below meth c A H0 D cy ad kd NP nL cells slots Q G (pc + 3) lv (.int (G q 1) :: rest)) : xX p l e R s m args below meth c A H0 D cy ad kd NP nL cells slots Q G pc lv (.ref (ad q) :: rest) :=
  xgetB C (ci := 3) (T := TX3) ho rfl rfl inlX3 1 (by decide) rfl hlink d k
theorem xp_3_next (C : xC p s m args meth c cc own nL rt D cy) {q index : Nat} {v : Int32} (ho : xO kd NP 3 q) (hlink : Cond.fieldLink own index "HedgeChains$History" "next" "I" ∈ xAllW) (d : decode cc pc = .ok (.putfield index, 3)) (k : xX p l e R s m args below meth c A H0 D cy ad kd NP nL cells slots Q (mset G q 1 v) (pc + 3) lv rest) : xX p l e R s m args below meth c A H0 D cy ad kd NP nL cells slots Q G pc lv (.int v :: .ref (ad q) :: rest) :=
  xputB C (ci := 3) (T := TX3) (ty := .int) ho rfl rfl inlX3 tyX3 tyX3_ok nmX3 1 (by decide) (by exact Nat.le_of_ble_eq_true rfl) rfl (by decide +kernel) (by exact vp_nar_int v) rfl (by simp [kE, mset, mrow, upd]) hlink d k
theorem xgN_3_next (C : xC p s m args meth c cc own nL rt D cy) {q index : Nat} (ho : xO kd NP 3 q) (hlink : (own, index, "HedgeChains$History", "next", "I") ∈ xNF) (d : decode cc pc = .ok (.getfield index, 3)) (k : xX p l e R s m args below meth c A H0 D cy ad kd NP nL cells slots Q G (pc + 3) lv (.int (G q 1) :: rest)) : xX p l e R s m args below meth c A H0 D cy ad kd NP nL cells slots Q G pc lv (.ref (ad q) :: rest) :=
  xgetBN C (ci := 3) (T := TX3) ho rfl rfl inlX3 1 (by decide) rfl hlink d k
theorem xpN_3_next (C : xC p s m args meth c cc own nL rt D cy) {q index : Nat} {v : Int32} (ho : xO kd NP 3 q) (hlink : (own, index, "HedgeChains$History", "next", "I") ∈ xNF) (d : decode cc pc = .ok (.putfield index, 3)) (k : xX p l e R s m args below meth c A H0 D cy ad kd NP nL cells slots Q (mset G q 1 v) (pc + 3) lv rest) : xX p l e R s m args below meth c A H0 D cy ad kd NP nL cells slots Q G pc lv (.int v :: .ref (ad q) :: rest) :=
  xputBN C (ci := 3) (T := TX3) (ty := .int) ho rfl rfl inlX3 tyX3 tyX3_ok nmX3 1 (by decide) (by exact Nat.le_of_ble_eq_true rfl) rfl (by decide +kernel) (by exact vp_nar_int v) rfl (by simp [kE, mset, mrow, upd]) hlink d k
theorem xg_3_kept (C : xC p s m args meth c cc own nL rt D cy) {q index : Nat} (ho : xO kd NP 3 q) (hlink : Cond.fieldLink own index "HedgeChains$History" "kept" "I" ∈ xAllW) (d : decode cc pc = .ok (.getfield index, 3)) (k : xX p l e R s m args below meth c A H0 D cy ad kd NP nL cells slots Q G (pc + 3) lv (.int (G q 2) :: rest)) : xX p l e R s m args below meth c A H0 D cy ad kd NP nL cells slots Q G pc lv (.ref (ad q) :: rest) :=
  xgetB C (ci := 3) (T := TX3) ho rfl rfl inlX3 2 (by decide) rfl hlink d k
theorem xp_3_kept (C : xC p s m args meth c cc own nL rt D cy) {q index : Nat} {v : Int32} (ho : xO kd NP 3 q) (hlink : Cond.fieldLink own index "HedgeChains$History" "kept" "I" ∈ xAllW) (d : decode cc pc = .ok (.putfield index, 3)) (k : xX p l e R s m args below meth c A H0 D cy ad kd NP nL cells slots Q (mset G q 2 v) (pc + 3) lv rest) : xX p l e R s m args below meth c A H0 D cy ad kd NP nL cells slots Q G pc lv (.int v :: .ref (ad q) :: rest) :=
  xputB C (ci := 3) (T := TX3) (ty := .int) ho rfl rfl inlX3 tyX3 tyX3_ok nmX3 2 (by decide) (by exact Nat.le_of_ble_eq_true rfl) rfl (by decide +kernel) (by exact vp_nar_int v) rfl (by simp [kE, mset, mrow, upd]) hlink d k
theorem xgN_3_kept (C : xC p s m args meth c cc own nL rt D cy) {q index : Nat} (ho : xO kd NP 3 q) (hlink : (own, index, "HedgeChains$History", "kept", "I") ∈ xNF) (d : decode cc pc = .ok (.getfield index, 3)) (k : xX p l e R s m args below meth c A H0 D cy ad kd NP nL cells slots Q G (pc + 3) lv (.int (G q 2) :: rest)) : xX p l e R s m args below meth c A H0 D cy ad kd NP nL cells slots Q G pc lv (.ref (ad q) :: rest) :=
  xgetBN C (ci := 3) (T := TX3) ho rfl rfl inlX3 2 (by decide) rfl hlink d k
theorem xpN_3_kept (C : xC p s m args meth c cc own nL rt D cy) {q index : Nat} {v : Int32} (ho : xO kd NP 3 q) (hlink : (own, index, "HedgeChains$History", "kept", "I") ∈ xNF) (d : decode cc pc = .ok (.putfield index, 3)) (k : xX p l e R s m args below meth c A H0 D cy ad kd NP nL cells slots Q (mset G q 2 v) (pc + 3) lv rest) : xX p l e R s m args below meth c A H0 D cy ad kd NP nL cells slots Q G pc lv (.int v :: .ref (ad q) :: rest) :=
  xputBN C (ci := 3) (T := TX3) (ty := .int) ho rfl rfl inlX3 tyX3 tyX3_ok nmX3 2 (by decide) (by exact Nat.le_of_ble_eq_true rfl) rfl (by decide +kernel) (by exact vp_nar_int v) rfl (by simp [kE, mset, mrow, upd]) hlink d k
theorem xg_4_hedges (C : xC p s m args meth c cc own nL rt D cy) {q index : Nat} (ho : xO kd NP 4 q) (hlink : Cond.fieldLink own index "HedgeChains$Land" "hedges" "[LHedgeChains$Hedge;" ∈ xAllW) (d : decode cc pc = .ok (.getfield index, 3)) (k : xX p l e R s m args below meth c A H0 D cy ad kd NP nL cells slots Q G (pc + 3) lv (.ref (ad (q + 1)) :: rest)) : xX p l e R s m args below meth c A H0 D cy ad kd NP nL cells slots Q G pc lv (.ref (ad q) :: rest) :=
  xgetB C (ci := 4) (T := TX4) ho rfl rfl inlX4 0 (by decide) rfl hlink d k
theorem xgN_4_hedges (C : xC p s m args meth c cc own nL rt D cy) {q index : Nat} (ho : xO kd NP 4 q) (hlink : (own, index, "HedgeChains$Land", "hedges", "[LHedgeChains$Hedge;") ∈ xNF) (d : decode cc pc = .ok (.getfield index, 3)) (k : xX p l e R s m args below meth c A H0 D cy ad kd NP nL cells slots Q G (pc + 3) lv (.ref (ad (q + 1)) :: rest)) : xX p l e R s m args below meth c A H0 D cy ad kd NP nL cells slots Q G pc lv (.ref (ad q) :: rest) :=
  xgetBN C (ci := 4) (T := TX4) ho rfl rfl inlX4 0 (by decide) rfl hlink d k
theorem xg_4_contracts (C : xC p s m args meth c cc own nL rt D cy) {q index : Nat} (ho : xO kd NP 4 q) (hlink : Cond.fieldLink own index "HedgeChains$Land" "contracts" "[LHedgeChains$Contract;" ∈ xAllW) (d : decode cc pc = .ok (.getfield index, 3)) (k : xX p l e R s m args below meth c A H0 D cy ad kd NP nL cells slots Q G (pc + 3) lv (.ref (ad (q + 2)) :: rest)) : xX p l e R s m args below meth c A H0 D cy ad kd NP nL cells slots Q G pc lv (.ref (ad q) :: rest) :=
  xgetB C (ci := 4) (T := TX4) ho rfl rfl inlX4 1 (by decide) rfl hlink d k
theorem xgN_4_contracts (C : xC p s m args meth c cc own nL rt D cy) {q index : Nat} (ho : xO kd NP 4 q) (hlink : (own, index, "HedgeChains$Land", "contracts", "[LHedgeChains$Contract;") ∈ xNF) (d : decode cc pc = .ok (.getfield index, 3)) (k : xX p l e R s m args below meth c A H0 D cy ad kd NP nL cells slots Q G (pc + 3) lv (.ref (ad (q + 2)) :: rest)) : xX p l e R s m args below meth c A H0 D cy ad kd NP nL cells slots Q G pc lv (.ref (ad q) :: rest) :=
  xgetBN C (ci := 4) (T := TX4) ho rfl rfl inlX4 1 (by decide) rfl hlink d k
theorem xg_4_week (C : xC p s m args meth c cc own nL rt D cy) {q index : Nat} (ho : xO kd NP 4 q) (hlink : Cond.fieldLink own index "HedgeChains$Land" "week" "I" ∈ xAllW) (d : decode cc pc = .ok (.getfield index, 3)) (k : xX p l e R s m args below meth c A H0 D cy ad kd NP nL cells slots Q G (pc + 3) lv (.int (G q 2) :: rest)) : xX p l e R s m args below meth c A H0 D cy ad kd NP nL cells slots Q G pc lv (.ref (ad q) :: rest) :=
  xgetB C (ci := 4) (T := TX4) ho rfl rfl inlX4 2 (by decide) rfl hlink d k
theorem xp_4_week (C : xC p s m args meth c cc own nL rt D cy) {q index : Nat} {v : Int32} (ho : xO kd NP 4 q) (hlink : Cond.fieldLink own index "HedgeChains$Land" "week" "I" ∈ xAllW) (d : decode cc pc = .ok (.putfield index, 3)) (k : xX p l e R s m args below meth c A H0 D cy ad kd NP nL cells slots Q (mset G q 2 v) (pc + 3) lv rest) : xX p l e R s m args below meth c A H0 D cy ad kd NP nL cells slots Q G pc lv (.int v :: .ref (ad q) :: rest) :=
  xputB C (ci := 4) (T := TX4) (ty := .int) ho rfl rfl inlX4 tyX4 tyX4_ok nmX4 2 (by decide) (by exact Nat.le_of_ble_eq_true rfl) rfl (by decide +kernel) (by exact vp_nar_int v) rfl (by simp [kE, mset, mrow, upd]) hlink d k
theorem xgN_4_week (C : xC p s m args meth c cc own nL rt D cy) {q index : Nat} (ho : xO kd NP 4 q) (hlink : (own, index, "HedgeChains$Land", "week", "I") ∈ xNF) (d : decode cc pc = .ok (.getfield index, 3)) (k : xX p l e R s m args below meth c A H0 D cy ad kd NP nL cells slots Q G (pc + 3) lv (.int (G q 2) :: rest)) : xX p l e R s m args below meth c A H0 D cy ad kd NP nL cells slots Q G pc lv (.ref (ad q) :: rest) :=
  xgetBN C (ci := 4) (T := TX4) ho rfl rfl inlX4 2 (by decide) rfl hlink d k
theorem xpN_4_week (C : xC p s m args meth c cc own nL rt D cy) {q index : Nat} {v : Int32} (ho : xO kd NP 4 q) (hlink : (own, index, "HedgeChains$Land", "week", "I") ∈ xNF) (d : decode cc pc = .ok (.putfield index, 3)) (k : xX p l e R s m args below meth c A H0 D cy ad kd NP nL cells slots Q (mset G q 2 v) (pc + 3) lv rest) : xX p l e R s m args below meth c A H0 D cy ad kd NP nL cells slots Q G pc lv (.int v :: .ref (ad q) :: rest) :=
  xputBN C (ci := 4) (T := TX4) (ty := .int) ho rfl rfl inlX4 tyX4 tyX4_ok nmX4 2 (by decide) (by exact Nat.le_of_ble_eq_true rfl) rfl (by decide +kernel) (by exact vp_nar_int v) rfl (by simp [kE, mset, mrow, upd]) hlink d k
theorem xg_4_firstClosed (C : xC p s m args meth c cc own nL rt D cy) {q index : Nat} (ho : xO kd NP 4 q) (hlink : Cond.fieldLink own index "HedgeChains$Land" "firstClosed" "I" ∈ xAllW) (d : decode cc pc = .ok (.getfield index, 3)) (k : xX p l e R s m args below meth c A H0 D cy ad kd NP nL cells slots Q G (pc + 3) lv (.int (G q 3) :: rest)) : xX p l e R s m args below meth c A H0 D cy ad kd NP nL cells slots Q G pc lv (.ref (ad q) :: rest) :=
  xgetB C (ci := 4) (T := TX4) ho rfl rfl inlX4 3 (by decide) rfl hlink d k
theorem xp_4_firstClosed (C : xC p s m args meth c cc own nL rt D cy) {q index : Nat} {v : Int32} (ho : xO kd NP 4 q) (hlink : Cond.fieldLink own index "HedgeChains$Land" "firstClosed" "I" ∈ xAllW) (d : decode cc pc = .ok (.putfield index, 3)) (k : xX p l e R s m args below meth c A H0 D cy ad kd NP nL cells slots Q (mset G q 3 v) (pc + 3) lv rest) : xX p l e R s m args below meth c A H0 D cy ad kd NP nL cells slots Q G pc lv (.int v :: .ref (ad q) :: rest) :=
  xputB C (ci := 4) (T := TX4) (ty := .int) ho rfl rfl inlX4 tyX4 tyX4_ok nmX4 3 (by decide) (by exact Nat.le_of_ble_eq_true rfl) rfl (by decide +kernel) (by exact vp_nar_int v) rfl (by simp [kE, mset, mrow, upd]) hlink d k
theorem xgN_4_firstClosed (C : xC p s m args meth c cc own nL rt D cy) {q index : Nat} (ho : xO kd NP 4 q) (hlink : (own, index, "HedgeChains$Land", "firstClosed", "I") ∈ xNF) (d : decode cc pc = .ok (.getfield index, 3)) (k : xX p l e R s m args below meth c A H0 D cy ad kd NP nL cells slots Q G (pc + 3) lv (.int (G q 3) :: rest)) : xX p l e R s m args below meth c A H0 D cy ad kd NP nL cells slots Q G pc lv (.ref (ad q) :: rest) :=
  xgetBN C (ci := 4) (T := TX4) ho rfl rfl inlX4 3 (by decide) rfl hlink d k
theorem xpN_4_firstClosed (C : xC p s m args meth c cc own nL rt D cy) {q index : Nat} {v : Int32} (ho : xO kd NP 4 q) (hlink : (own, index, "HedgeChains$Land", "firstClosed", "I") ∈ xNF) (d : decode cc pc = .ok (.putfield index, 3)) (k : xX p l e R s m args below meth c A H0 D cy ad kd NP nL cells slots Q (mset G q 3 v) (pc + 3) lv rest) : xX p l e R s m args below meth c A H0 D cy ad kd NP nL cells slots Q G pc lv (.int v :: .ref (ad q) :: rest) :=
  xputBN C (ci := 4) (T := TX4) (ty := .int) ho rfl rfl inlX4 tyX4 tyX4_ok nmX4 3 (by decide) (by exact Nat.le_of_ble_eq_true rfl) rfl (by decide +kernel) (by exact vp_nar_int v) rfl (by simp [kE, mset, mrow, upd]) hlink d k
theorem xg_4_lastClosed (C : xC p s m args meth c cc own nL rt D cy) {q index : Nat} (ho : xO kd NP 4 q) (hlink : Cond.fieldLink own index "HedgeChains$Land" "lastClosed" "I" ∈ xAllW) (d : decode cc pc = .ok (.getfield index, 3)) (k : xX p l e R s m args below meth c A H0 D cy ad kd NP nL cells slots Q G (pc + 3) lv (.int (G q 4) :: rest)) : xX p l e R s m args below meth c A H0 D cy ad kd NP nL cells slots Q G pc lv (.ref (ad q) :: rest) :=
  xgetB C (ci := 4) (T := TX4) ho rfl rfl inlX4 4 (by decide) rfl hlink d k
theorem xp_4_lastClosed (C : xC p s m args meth c cc own nL rt D cy) {q index : Nat} {v : Int32} (ho : xO kd NP 4 q) (hlink : Cond.fieldLink own index "HedgeChains$Land" "lastClosed" "I" ∈ xAllW) (d : decode cc pc = .ok (.putfield index, 3)) (k : xX p l e R s m args below meth c A H0 D cy ad kd NP nL cells slots Q (mset G q 4 v) (pc + 3) lv rest) : xX p l e R s m args below meth c A H0 D cy ad kd NP nL cells slots Q G pc lv (.int v :: .ref (ad q) :: rest) :=
  xputB C (ci := 4) (T := TX4) (ty := .int) ho rfl rfl inlX4 tyX4 tyX4_ok nmX4 4 (by decide) (by exact Nat.le_of_ble_eq_true rfl) rfl (by decide +kernel) (by exact vp_nar_int v) rfl (by simp [kE, mset, mrow, upd]) hlink d k
theorem xgN_4_lastClosed (C : xC p s m args meth c cc own nL rt D cy) {q index : Nat} (ho : xO kd NP 4 q) (hlink : (own, index, "HedgeChains$Land", "lastClosed", "I") ∈ xNF) (d : decode cc pc = .ok (.getfield index, 3)) (k : xX p l e R s m args below meth c A H0 D cy ad kd NP nL cells slots Q G (pc + 3) lv (.int (G q 4) :: rest)) : xX p l e R s m args below meth c A H0 D cy ad kd NP nL cells slots Q G pc lv (.ref (ad q) :: rest) :=
  xgetBN C (ci := 4) (T := TX4) ho rfl rfl inlX4 4 (by decide) rfl hlink d k
theorem xpN_4_lastClosed (C : xC p s m args meth c cc own nL rt D cy) {q index : Nat} {v : Int32} (ho : xO kd NP 4 q) (hlink : (own, index, "HedgeChains$Land", "lastClosed", "I") ∈ xNF) (d : decode cc pc = .ok (.putfield index, 3)) (k : xX p l e R s m args below meth c A H0 D cy ad kd NP nL cells slots Q (mset G q 4 v) (pc + 3) lv rest) : xX p l e R s m args below meth c A H0 D cy ad kd NP nL cells slots Q G pc lv (.int v :: .ref (ad q) :: rest) :=
  xputBN C (ci := 4) (T := TX4) (ty := .int) ho rfl rfl inlX4 tyX4 tyX4_ok nmX4 4 (by decide) (by exact Nat.le_of_ble_eq_true rfl) rfl (by decide +kernel) (by exact vp_nar_int v) rfl (by simp [kE, mset, mrow, upd]) hlink d k
theorem xg_4_strength (C : xC p s m args meth c cc own nL rt D cy) {q index : Nat} (ho : xO kd NP 4 q) (hlink : Cond.fieldLink own index "HedgeChains$Land" "strength" "I" ∈ xAllW) (d : decode cc pc = .ok (.getfield index, 3)) (k : xX p l e R s m args below meth c A H0 D cy ad kd NP nL cells slots Q G (pc + 3) lv (.int (G q 5) :: rest)) : xX p l e R s m args below meth c A H0 D cy ad kd NP nL cells slots Q G pc lv (.ref (ad q) :: rest) :=
  xgetB C (ci := 4) (T := TX4) ho rfl rfl inlX4 5 (by decide) rfl hlink d k
theorem xp_4_strength (C : xC p s m args meth c cc own nL rt D cy) {q index : Nat} {v : Int32} (ho : xO kd NP 4 q) (hlink : Cond.fieldLink own index "HedgeChains$Land" "strength" "I" ∈ xAllW) (d : decode cc pc = .ok (.putfield index, 3)) (k : xX p l e R s m args below meth c A H0 D cy ad kd NP nL cells slots Q (mset G q 5 v) (pc + 3) lv rest) : xX p l e R s m args below meth c A H0 D cy ad kd NP nL cells slots Q G pc lv (.int v :: .ref (ad q) :: rest) :=
  xputB C (ci := 4) (T := TX4) (ty := .int) ho rfl rfl inlX4 tyX4 tyX4_ok nmX4 5 (by decide) (by exact Nat.le_of_ble_eq_true rfl) rfl (by decide +kernel) (by exact vp_nar_int v) rfl (by simp [kE, mset, mrow, upd]) hlink d k
theorem xgN_4_strength (C : xC p s m args meth c cc own nL rt D cy) {q index : Nat} (ho : xO kd NP 4 q) (hlink : (own, index, "HedgeChains$Land", "strength", "I") ∈ xNF) (d : decode cc pc = .ok (.getfield index, 3)) (k : xX p l e R s m args below meth c A H0 D cy ad kd NP nL cells slots Q G (pc + 3) lv (.int (G q 5) :: rest)) : xX p l e R s m args below meth c A H0 D cy ad kd NP nL cells slots Q G pc lv (.ref (ad q) :: rest) :=
  xgetBN C (ci := 4) (T := TX4) ho rfl rfl inlX4 5 (by decide) rfl hlink d k
theorem xpN_4_strength (C : xC p s m args meth c cc own nL rt D cy) {q index : Nat} {v : Int32} (ho : xO kd NP 4 q) (hlink : (own, index, "HedgeChains$Land", "strength", "I") ∈ xNF) (d : decode cc pc = .ok (.putfield index, 3)) (k : xX p l e R s m args below meth c A H0 D cy ad kd NP nL cells slots Q (mset G q 5 v) (pc + 3) lv rest) : xX p l e R s m args below meth c A H0 D cy ad kd NP nL cells slots Q G pc lv (.int v :: .ref (ad q) :: rest) :=
  xputBN C (ci := 4) (T := TX4) (ty := .int) ho rfl rfl inlX4 tyX4 tyX4_ok nmX4 5 (by decide) (by exact Nat.le_of_ble_eq_true rfl) rfl (by decide +kernel) (by exact vp_nar_int v) rfl (by simp [kE, mset, mrow, upd]) hlink d k
theorem xg_4_work (C : xC p s m args meth c cc own nL rt D cy) {q index : Nat} (ho : xO kd NP 4 q) (hlink : Cond.fieldLink own index "HedgeChains$Land" "work" "I" ∈ xAllW) (d : decode cc pc = .ok (.getfield index, 3)) (k : xX p l e R s m args below meth c A H0 D cy ad kd NP nL cells slots Q G (pc + 3) lv (.int (G q 6) :: rest)) : xX p l e R s m args below meth c A H0 D cy ad kd NP nL cells slots Q G pc lv (.ref (ad q) :: rest) :=
  xgetB C (ci := 4) (T := TX4) ho rfl rfl inlX4 6 (by decide) rfl hlink d k
theorem xp_4_work (C : xC p s m args meth c cc own nL rt D cy) {q index : Nat} {v : Int32} (ho : xO kd NP 4 q) (hlink : Cond.fieldLink own index "HedgeChains$Land" "work" "I" ∈ xAllW) (d : decode cc pc = .ok (.putfield index, 3)) (k : xX p l e R s m args below meth c A H0 D cy ad kd NP nL cells slots Q (mset G q 6 v) (pc + 3) lv rest) : xX p l e R s m args below meth c A H0 D cy ad kd NP nL cells slots Q G pc lv (.int v :: .ref (ad q) :: rest) :=
  xputB C (ci := 4) (T := TX4) (ty := .int) ho rfl rfl inlX4 tyX4 tyX4_ok nmX4 6 (by decide) (by exact Nat.le_of_ble_eq_true rfl) rfl (by decide +kernel) (by exact vp_nar_int v) rfl (by simp [kE, mset, mrow, upd]) hlink d k
theorem xgN_4_work (C : xC p s m args meth c cc own nL rt D cy) {q index : Nat} (ho : xO kd NP 4 q) (hlink : (own, index, "HedgeChains$Land", "work", "I") ∈ xNF) (d : decode cc pc = .ok (.getfield index, 3)) (k : xX p l e R s m args below meth c A H0 D cy ad kd NP nL cells slots Q G (pc + 3) lv (.int (G q 6) :: rest)) : xX p l e R s m args below meth c A H0 D cy ad kd NP nL cells slots Q G pc lv (.ref (ad q) :: rest) :=
  xgetBN C (ci := 4) (T := TX4) ho rfl rfl inlX4 6 (by decide) rfl hlink d k
theorem xpN_4_work (C : xC p s m args meth c cc own nL rt D cy) {q index : Nat} {v : Int32} (ho : xO kd NP 4 q) (hlink : (own, index, "HedgeChains$Land", "work", "I") ∈ xNF) (d : decode cc pc = .ok (.putfield index, 3)) (k : xX p l e R s m args below meth c A H0 D cy ad kd NP nL cells slots Q (mset G q 6 v) (pc + 3) lv rest) : xX p l e R s m args below meth c A H0 D cy ad kd NP nL cells slots Q G pc lv (.int v :: .ref (ad q) :: rest) :=
  xputBN C (ci := 4) (T := TX4) (ty := .int) ho rfl rfl inlX4 tyX4 tyX4_ok nmX4 6 (by decide) (by exact Nat.le_of_ble_eq_true rfl) rfl (by decide +kernel) (by exact vp_nar_int v) rfl (by simp [kE, mset, mrow, upd]) hlink d k
theorem xg_4_stakes (C : xC p s m args meth c cc own nL rt D cy) {q index : Nat} (ho : xO kd NP 4 q) (hlink : Cond.fieldLink own index "HedgeChains$Land" "stakes" "I" ∈ xAllW) (d : decode cc pc = .ok (.getfield index, 3)) (k : xX p l e R s m args below meth c A H0 D cy ad kd NP nL cells slots Q G (pc + 3) lv (.int (G q 7) :: rest)) : xX p l e R s m args below meth c A H0 D cy ad kd NP nL cells slots Q G pc lv (.ref (ad q) :: rest) :=
  xgetB C (ci := 4) (T := TX4) ho rfl rfl inlX4 7 (by decide) rfl hlink d k
theorem xp_4_stakes (C : xC p s m args meth c cc own nL rt D cy) {q index : Nat} {v : Int32} (ho : xO kd NP 4 q) (hlink : Cond.fieldLink own index "HedgeChains$Land" "stakes" "I" ∈ xAllW) (d : decode cc pc = .ok (.putfield index, 3)) (k : xX p l e R s m args below meth c A H0 D cy ad kd NP nL cells slots Q (mset G q 7 v) (pc + 3) lv rest) : xX p l e R s m args below meth c A H0 D cy ad kd NP nL cells slots Q G pc lv (.int v :: .ref (ad q) :: rest) :=
  xputB C (ci := 4) (T := TX4) (ty := .int) ho rfl rfl inlX4 tyX4 tyX4_ok nmX4 7 (by decide) (by exact Nat.le_of_ble_eq_true rfl) rfl (by decide +kernel) (by exact vp_nar_int v) rfl (by simp [kE, mset, mrow, upd]) hlink d k
theorem xgN_4_stakes (C : xC p s m args meth c cc own nL rt D cy) {q index : Nat} (ho : xO kd NP 4 q) (hlink : (own, index, "HedgeChains$Land", "stakes", "I") ∈ xNF) (d : decode cc pc = .ok (.getfield index, 3)) (k : xX p l e R s m args below meth c A H0 D cy ad kd NP nL cells slots Q G (pc + 3) lv (.int (G q 7) :: rest)) : xX p l e R s m args below meth c A H0 D cy ad kd NP nL cells slots Q G pc lv (.ref (ad q) :: rest) :=
  xgetBN C (ci := 4) (T := TX4) ho rfl rfl inlX4 7 (by decide) rfl hlink d k
theorem xpN_4_stakes (C : xC p s m args meth c cc own nL rt D cy) {q index : Nat} {v : Int32} (ho : xO kd NP 4 q) (hlink : (own, index, "HedgeChains$Land", "stakes", "I") ∈ xNF) (d : decode cc pc = .ok (.putfield index, 3)) (k : xX p l e R s m args below meth c A H0 D cy ad kd NP nL cells slots Q (mset G q 7 v) (pc + 3) lv rest) : xX p l e R s m args below meth c A H0 D cy ad kd NP nL cells slots Q G pc lv (.int v :: .ref (ad q) :: rest) :=
  xputBN C (ci := 4) (T := TX4) (ty := .int) ho rfl rfl inlX4 tyX4 tyX4_ok nmX4 7 (by decide) (by exact Nat.le_of_ble_eq_true rfl) rfl (by decide +kernel) (by exact vp_nar_int v) rfl (by simp [kE, mset, mrow, upd]) hlink d k
theorem xg_4_purse (C : xC p s m args meth c cc own nL rt D cy) {q index : Nat} (ho : xO kd NP 4 q) (hlink : Cond.fieldLink own index "HedgeChains$Land" "purse" "I" ∈ xAllW) (d : decode cc pc = .ok (.getfield index, 3)) (k : xX p l e R s m args below meth c A H0 D cy ad kd NP nL cells slots Q G (pc + 3) lv (.int (G q 8) :: rest)) : xX p l e R s m args below meth c A H0 D cy ad kd NP nL cells slots Q G pc lv (.ref (ad q) :: rest) :=
  xgetB C (ci := 4) (T := TX4) ho rfl rfl inlX4 8 (by decide) rfl hlink d k
theorem xp_4_purse (C : xC p s m args meth c cc own nL rt D cy) {q index : Nat} {v : Int32} (ho : xO kd NP 4 q) (hlink : Cond.fieldLink own index "HedgeChains$Land" "purse" "I" ∈ xAllW) (d : decode cc pc = .ok (.putfield index, 3)) (k : xX p l e R s m args below meth c A H0 D cy ad kd NP nL cells slots Q (mset G q 8 v) (pc + 3) lv rest) : xX p l e R s m args below meth c A H0 D cy ad kd NP nL cells slots Q G pc lv (.int v :: .ref (ad q) :: rest) :=
  xputB C (ci := 4) (T := TX4) (ty := .int) ho rfl rfl inlX4 tyX4 tyX4_ok nmX4 8 (by decide) (by exact Nat.le_of_ble_eq_true rfl) rfl (by decide +kernel) (by exact vp_nar_int v) rfl (by simp [kE, mset, mrow, upd]) hlink d k
theorem xgN_4_purse (C : xC p s m args meth c cc own nL rt D cy) {q index : Nat} (ho : xO kd NP 4 q) (hlink : (own, index, "HedgeChains$Land", "purse", "I") ∈ xNF) (d : decode cc pc = .ok (.getfield index, 3)) (k : xX p l e R s m args below meth c A H0 D cy ad kd NP nL cells slots Q G (pc + 3) lv (.int (G q 8) :: rest)) : xX p l e R s m args below meth c A H0 D cy ad kd NP nL cells slots Q G pc lv (.ref (ad q) :: rest) :=
  xgetBN C (ci := 4) (T := TX4) ho rfl rfl inlX4 8 (by decide) rfl hlink d k
theorem xpN_4_purse (C : xC p s m args meth c cc own nL rt D cy) {q index : Nat} {v : Int32} (ho : xO kd NP 4 q) (hlink : (own, index, "HedgeChains$Land", "purse", "I") ∈ xNF) (d : decode cc pc = .ok (.putfield index, 3)) (k : xX p l e R s m args below meth c A H0 D cy ad kd NP nL cells slots Q (mset G q 8 v) (pc + 3) lv rest) : xX p l e R s m args below meth c A H0 D cy ad kd NP nL cells slots Q G pc lv (.int v :: .ref (ad q) :: rest) :=
  xputBN C (ci := 4) (T := TX4) (ty := .int) ho rfl rfl inlX4 tyX4 tyX4_ok nmX4 8 (by decide) (by exact Nat.le_of_ble_eq_true rfl) rfl (by decide +kernel) (by exact vp_nar_int v) rfl (by simp [kE, mset, mrow, upd]) hlink d k
theorem xg_4_debt (C : xC p s m args meth c cc own nL rt D cy) {q index : Nat} (ho : xO kd NP 4 q) (hlink : Cond.fieldLink own index "HedgeChains$Land" "debt" "I" ∈ xAllW) (d : decode cc pc = .ok (.getfield index, 3)) (k : xX p l e R s m args below meth c A H0 D cy ad kd NP nL cells slots Q G (pc + 3) lv (.int (G q 9) :: rest)) : xX p l e R s m args below meth c A H0 D cy ad kd NP nL cells slots Q G pc lv (.ref (ad q) :: rest) :=
  xgetB C (ci := 4) (T := TX4) ho rfl rfl inlX4 9 (by decide) rfl hlink d k
theorem xp_4_debt (C : xC p s m args meth c cc own nL rt D cy) {q index : Nat} {v : Int32} (ho : xO kd NP 4 q) (hlink : Cond.fieldLink own index "HedgeChains$Land" "debt" "I" ∈ xAllW) (d : decode cc pc = .ok (.putfield index, 3)) (k : xX p l e R s m args below meth c A H0 D cy ad kd NP nL cells slots Q (mset G q 9 v) (pc + 3) lv rest) : xX p l e R s m args below meth c A H0 D cy ad kd NP nL cells slots Q G pc lv (.int v :: .ref (ad q) :: rest) :=
  xputB C (ci := 4) (T := TX4) (ty := .int) ho rfl rfl inlX4 tyX4 tyX4_ok nmX4 9 (by decide) (by exact Nat.le_of_ble_eq_true rfl) rfl (by decide +kernel) (by exact vp_nar_int v) rfl (by simp [kE, mset, mrow, upd]) hlink d k
theorem xgN_4_debt (C : xC p s m args meth c cc own nL rt D cy) {q index : Nat} (ho : xO kd NP 4 q) (hlink : (own, index, "HedgeChains$Land", "debt", "I") ∈ xNF) (d : decode cc pc = .ok (.getfield index, 3)) (k : xX p l e R s m args below meth c A H0 D cy ad kd NP nL cells slots Q G (pc + 3) lv (.int (G q 9) :: rest)) : xX p l e R s m args below meth c A H0 D cy ad kd NP nL cells slots Q G pc lv (.ref (ad q) :: rest) :=
  xgetBN C (ci := 4) (T := TX4) ho rfl rfl inlX4 9 (by decide) rfl hlink d k
theorem xpN_4_debt (C : xC p s m args meth c cc own nL rt D cy) {q index : Nat} {v : Int32} (ho : xO kd NP 4 q) (hlink : (own, index, "HedgeChains$Land", "debt", "I") ∈ xNF) (d : decode cc pc = .ok (.putfield index, 3)) (k : xX p l e R s m args below meth c A H0 D cy ad kd NP nL cells slots Q (mset G q 9 v) (pc + 3) lv rest) : xX p l e R s m args below meth c A H0 D cy ad kd NP nL cells slots Q G pc lv (.int v :: .ref (ad q) :: rest) :=
  xputBN C (ci := 4) (T := TX4) (ty := .int) ho rfl rfl inlX4 tyX4 tyX4_ok nmX4 9 (by decide) (by exact Nat.le_of_ble_eq_true rfl) rfl (by decide +kernel) (by exact vp_nar_int v) rfl (by simp [kE, mset, mrow, upd]) hlink d k
theorem xg_4_earned (C : xC p s m args meth c cc own nL rt D cy) {q index : Nat} (ho : xO kd NP 4 q) (hlink : Cond.fieldLink own index "HedgeChains$Land" "earned" "I" ∈ xAllW) (d : decode cc pc = .ok (.getfield index, 3)) (k : xX p l e R s m args below meth c A H0 D cy ad kd NP nL cells slots Q G (pc + 3) lv (.int (G q 10) :: rest)) : xX p l e R s m args below meth c A H0 D cy ad kd NP nL cells slots Q G pc lv (.ref (ad q) :: rest) :=
  xgetB C (ci := 4) (T := TX4) ho rfl rfl inlX4 10 (by decide) rfl hlink d k
theorem xp_4_earned (C : xC p s m args meth c cc own nL rt D cy) {q index : Nat} {v : Int32} (ho : xO kd NP 4 q) (hlink : Cond.fieldLink own index "HedgeChains$Land" "earned" "I" ∈ xAllW) (d : decode cc pc = .ok (.putfield index, 3)) (k : xX p l e R s m args below meth c A H0 D cy ad kd NP nL cells slots Q (mset G q 10 v) (pc + 3) lv rest) : xX p l e R s m args below meth c A H0 D cy ad kd NP nL cells slots Q G pc lv (.int v :: .ref (ad q) :: rest) :=
  xputB C (ci := 4) (T := TX4) (ty := .int) ho rfl rfl inlX4 tyX4 tyX4_ok nmX4 10 (by decide) (by exact Nat.le_of_ble_eq_true rfl) rfl (by decide +kernel) (by exact vp_nar_int v) rfl (by simp [kE, mset, mrow, upd]) hlink d k
theorem xgN_4_earned (C : xC p s m args meth c cc own nL rt D cy) {q index : Nat} (ho : xO kd NP 4 q) (hlink : (own, index, "HedgeChains$Land", "earned", "I") ∈ xNF) (d : decode cc pc = .ok (.getfield index, 3)) (k : xX p l e R s m args below meth c A H0 D cy ad kd NP nL cells slots Q G (pc + 3) lv (.int (G q 10) :: rest)) : xX p l e R s m args below meth c A H0 D cy ad kd NP nL cells slots Q G pc lv (.ref (ad q) :: rest) :=
  xgetBN C (ci := 4) (T := TX4) ho rfl rfl inlX4 10 (by decide) rfl hlink d k
theorem xpN_4_earned (C : xC p s m args meth c cc own nL rt D cy) {q index : Nat} {v : Int32} (ho : xO kd NP 4 q) (hlink : (own, index, "HedgeChains$Land", "earned", "I") ∈ xNF) (d : decode cc pc = .ok (.putfield index, 3)) (k : xX p l e R s m args below meth c A H0 D cy ad kd NP nL cells slots Q (mset G q 10 v) (pc + 3) lv rest) : xX p l e R s m args below meth c A H0 D cy ad kd NP nL cells slots Q G pc lv (.int v :: .ref (ad q) :: rest) :=
  xputBN C (ci := 4) (T := TX4) (ty := .int) ho rfl rfl inlX4 tyX4 tyX4_ok nmX4 10 (by decide) (by exact Nat.le_of_ble_eq_true rfl) rfl (by decide +kernel) (by exact vp_nar_int v) rfl (by simp [kE, mset, mrow, upd]) hlink d k
theorem xg_4_fined (C : xC p s m args meth c cc own nL rt D cy) {q index : Nat} (ho : xO kd NP 4 q) (hlink : Cond.fieldLink own index "HedgeChains$Land" "fined" "I" ∈ xAllW) (d : decode cc pc = .ok (.getfield index, 3)) (k : xX p l e R s m args below meth c A H0 D cy ad kd NP nL cells slots Q G (pc + 3) lv (.int (G q 11) :: rest)) : xX p l e R s m args below meth c A H0 D cy ad kd NP nL cells slots Q G pc lv (.ref (ad q) :: rest) :=
  xgetB C (ci := 4) (T := TX4) ho rfl rfl inlX4 11 (by decide) rfl hlink d k
theorem xp_4_fined (C : xC p s m args meth c cc own nL rt D cy) {q index : Nat} {v : Int32} (ho : xO kd NP 4 q) (hlink : Cond.fieldLink own index "HedgeChains$Land" "fined" "I" ∈ xAllW) (d : decode cc pc = .ok (.putfield index, 3)) (k : xX p l e R s m args below meth c A H0 D cy ad kd NP nL cells slots Q (mset G q 11 v) (pc + 3) lv rest) : xX p l e R s m args below meth c A H0 D cy ad kd NP nL cells slots Q G pc lv (.int v :: .ref (ad q) :: rest) :=
  xputB C (ci := 4) (T := TX4) (ty := .int) ho rfl rfl inlX4 tyX4 tyX4_ok nmX4 11 (by decide) (by exact Nat.le_of_ble_eq_true rfl) rfl (by decide +kernel) (by exact vp_nar_int v) rfl (by simp [kE, mset, mrow, upd]) hlink d k
theorem xgN_4_fined (C : xC p s m args meth c cc own nL rt D cy) {q index : Nat} (ho : xO kd NP 4 q) (hlink : (own, index, "HedgeChains$Land", "fined", "I") ∈ xNF) (d : decode cc pc = .ok (.getfield index, 3)) (k : xX p l e R s m args below meth c A H0 D cy ad kd NP nL cells slots Q G (pc + 3) lv (.int (G q 11) :: rest)) : xX p l e R s m args below meth c A H0 D cy ad kd NP nL cells slots Q G pc lv (.ref (ad q) :: rest) :=
  xgetBN C (ci := 4) (T := TX4) ho rfl rfl inlX4 11 (by decide) rfl hlink d k
theorem xpN_4_fined (C : xC p s m args meth c cc own nL rt D cy) {q index : Nat} {v : Int32} (ho : xO kd NP 4 q) (hlink : (own, index, "HedgeChains$Land", "fined", "I") ∈ xNF) (d : decode cc pc = .ok (.putfield index, 3)) (k : xX p l e R s m args below meth c A H0 D cy ad kd NP nL cells slots Q (mset G q 11 v) (pc + 3) lv rest) : xX p l e R s m args below meth c A H0 D cy ad kd NP nL cells slots Q G pc lv (.int v :: .ref (ad q) :: rest) :=
  xputBN C (ci := 4) (T := TX4) (ty := .int) ho rfl rfl inlX4 tyX4 tyX4_ok nmX4 11 (by decide) (by exact Nat.le_of_ble_eq_true rfl) rfl (by decide +kernel) (by exact vp_nar_int v) rfl (by simp [kE, mset, mrow, upd]) hlink d k
theorem xg_4_laid (C : xC p s m args meth c cc own nL rt D cy) {q index : Nat} (ho : xO kd NP 4 q) (hlink : Cond.fieldLink own index "HedgeChains$Land" "laid" "I" ∈ xAllW) (d : decode cc pc = .ok (.getfield index, 3)) (k : xX p l e R s m args below meth c A H0 D cy ad kd NP nL cells slots Q G (pc + 3) lv (.int (G q 12) :: rest)) : xX p l e R s m args below meth c A H0 D cy ad kd NP nL cells slots Q G pc lv (.ref (ad q) :: rest) :=
  xgetB C (ci := 4) (T := TX4) ho rfl rfl inlX4 12 (by decide) rfl hlink d k
theorem xp_4_laid (C : xC p s m args meth c cc own nL rt D cy) {q index : Nat} {v : Int32} (ho : xO kd NP 4 q) (hlink : Cond.fieldLink own index "HedgeChains$Land" "laid" "I" ∈ xAllW) (d : decode cc pc = .ok (.putfield index, 3)) (k : xX p l e R s m args below meth c A H0 D cy ad kd NP nL cells slots Q (mset G q 12 v) (pc + 3) lv rest) : xX p l e R s m args below meth c A H0 D cy ad kd NP nL cells slots Q G pc lv (.int v :: .ref (ad q) :: rest) :=
  xputB C (ci := 4) (T := TX4) (ty := .int) ho rfl rfl inlX4 tyX4 tyX4_ok nmX4 12 (by decide) (by exact Nat.le_of_ble_eq_true rfl) rfl (by decide +kernel) (by exact vp_nar_int v) rfl (by simp [kE, mset, mrow, upd]) hlink d k
theorem xgN_4_laid (C : xC p s m args meth c cc own nL rt D cy) {q index : Nat} (ho : xO kd NP 4 q) (hlink : (own, index, "HedgeChains$Land", "laid", "I") ∈ xNF) (d : decode cc pc = .ok (.getfield index, 3)) (k : xX p l e R s m args below meth c A H0 D cy ad kd NP nL cells slots Q G (pc + 3) lv (.int (G q 12) :: rest)) : xX p l e R s m args below meth c A H0 D cy ad kd NP nL cells slots Q G pc lv (.ref (ad q) :: rest) :=
  xgetBN C (ci := 4) (T := TX4) ho rfl rfl inlX4 12 (by decide) rfl hlink d k
theorem xpN_4_laid (C : xC p s m args meth c cc own nL rt D cy) {q index : Nat} {v : Int32} (ho : xO kd NP 4 q) (hlink : (own, index, "HedgeChains$Land", "laid", "I") ∈ xNF) (d : decode cc pc = .ok (.putfield index, 3)) (k : xX p l e R s m args below meth c A H0 D cy ad kd NP nL cells slots Q (mset G q 12 v) (pc + 3) lv rest) : xX p l e R s m args below meth c A H0 D cy ad kd NP nL cells slots Q G pc lv (.int v :: .ref (ad q) :: rest) :=
  xputBN C (ci := 4) (T := TX4) (ty := .int) ho rfl rfl inlX4 tyX4 tyX4_ok nmX4 12 (by decide) (by exact Nat.le_of_ble_eq_true rfl) rfl (by decide +kernel) (by exact vp_nar_int v) rfl (by simp [kE, mset, mrow, upd]) hlink d k
theorem xg_4_planted (C : xC p s m args meth c cc own nL rt D cy) {q index : Nat} (ho : xO kd NP 4 q) (hlink : Cond.fieldLink own index "HedgeChains$Land" "planted" "I" ∈ xAllW) (d : decode cc pc = .ok (.getfield index, 3)) (k : xX p l e R s m args below meth c A H0 D cy ad kd NP nL cells slots Q G (pc + 3) lv (.int (G q 13) :: rest)) : xX p l e R s m args below meth c A H0 D cy ad kd NP nL cells slots Q G pc lv (.ref (ad q) :: rest) :=
  xgetB C (ci := 4) (T := TX4) ho rfl rfl inlX4 13 (by decide) rfl hlink d k
theorem xp_4_planted (C : xC p s m args meth c cc own nL rt D cy) {q index : Nat} {v : Int32} (ho : xO kd NP 4 q) (hlink : Cond.fieldLink own index "HedgeChains$Land" "planted" "I" ∈ xAllW) (d : decode cc pc = .ok (.putfield index, 3)) (k : xX p l e R s m args below meth c A H0 D cy ad kd NP nL cells slots Q (mset G q 13 v) (pc + 3) lv rest) : xX p l e R s m args below meth c A H0 D cy ad kd NP nL cells slots Q G pc lv (.int v :: .ref (ad q) :: rest) :=
  xputB C (ci := 4) (T := TX4) (ty := .int) ho rfl rfl inlX4 tyX4 tyX4_ok nmX4 13 (by decide) (by exact Nat.le_of_ble_eq_true rfl) rfl (by decide +kernel) (by exact vp_nar_int v) rfl (by simp [kE, mset, mrow, upd]) hlink d k
theorem xgN_4_planted (C : xC p s m args meth c cc own nL rt D cy) {q index : Nat} (ho : xO kd NP 4 q) (hlink : (own, index, "HedgeChains$Land", "planted", "I") ∈ xNF) (d : decode cc pc = .ok (.getfield index, 3)) (k : xX p l e R s m args below meth c A H0 D cy ad kd NP nL cells slots Q G (pc + 3) lv (.int (G q 13) :: rest)) : xX p l e R s m args below meth c A H0 D cy ad kd NP nL cells slots Q G pc lv (.ref (ad q) :: rest) :=
  xgetBN C (ci := 4) (T := TX4) ho rfl rfl inlX4 13 (by decide) rfl hlink d k
theorem xpN_4_planted (C : xC p s m args meth c cc own nL rt D cy) {q index : Nat} {v : Int32} (ho : xO kd NP 4 q) (hlink : (own, index, "HedgeChains$Land", "planted", "I") ∈ xNF) (d : decode cc pc = .ok (.putfield index, 3)) (k : xX p l e R s m args below meth c A H0 D cy ad kd NP nL cells slots Q (mset G q 13 v) (pc + 3) lv rest) : xX p l e R s m args below meth c A H0 D cy ad kd NP nL cells slots Q G pc lv (.int v :: .ref (ad q) :: rest) :=
  xputBN C (ci := 4) (T := TX4) (ty := .int) ho rfl rfl inlX4 tyX4 tyX4_ok nmX4 13 (by decide) (by exact Nat.le_of_ble_eq_true rfl) rfl (by decide +kernel) (by exact vp_nar_int v) rfl (by simp [kE, mset, mrow, upd]) hlink d k
theorem xg_5_weeks (C : xC p s m args meth c cc own nL rt D cy) {q index : Nat} (ho : xO kd NP 5 q) (hlink : Cond.fieldLink own index "HedgeChains$Orders" "weeks" "[I" ∈ xAllW) (d : decode cc pc = .ok (.getfield index, 3)) (k : xX p l e R s m args below meth c A H0 D cy ad kd NP nL cells slots Q G (pc + 3) lv (.ref (ad (q + 1)) :: rest)) : xX p l e R s m args below meth c A H0 D cy ad kd NP nL cells slots Q G pc lv (.ref (ad q) :: rest) :=
  xgetB C (ci := 5) (T := TX5) ho rfl rfl inlX5 0 (by decide) rfl hlink d k
theorem xgN_5_weeks (C : xC p s m args meth c cc own nL rt D cy) {q index : Nat} (ho : xO kd NP 5 q) (hlink : (own, index, "HedgeChains$Orders", "weeks", "[I") ∈ xNF) (d : decode cc pc = .ok (.getfield index, 3)) (k : xX p l e R s m args below meth c A H0 D cy ad kd NP nL cells slots Q G (pc + 3) lv (.ref (ad (q + 1)) :: rest)) : xX p l e R s m args below meth c A H0 D cy ad kd NP nL cells slots Q G pc lv (.ref (ad q) :: rest) :=
  xgetBN C (ci := 5) (T := TX5) ho rfl rfl inlX5 0 (by decide) rfl hlink d k
theorem xg_5_lastWeeks (C : xC p s m args meth c cc own nL rt D cy) {q index : Nat} (ho : xO kd NP 5 q) (hlink : Cond.fieldLink own index "HedgeChains$Orders" "lastWeeks" "[I" ∈ xAllW) (d : decode cc pc = .ok (.getfield index, 3)) (k : xX p l e R s m args below meth c A H0 D cy ad kd NP nL cells slots Q G (pc + 3) lv (.ref (ad (q + 2)) :: rest)) : xX p l e R s m args below meth c A H0 D cy ad kd NP nL cells slots Q G pc lv (.ref (ad q) :: rest) :=
  xgetB C (ci := 5) (T := TX5) ho rfl rfl inlX5 1 (by decide) rfl hlink d k
theorem xgN_5_lastWeeks (C : xC p s m args meth c cc own nL rt D cy) {q index : Nat} (ho : xO kd NP 5 q) (hlink : (own, index, "HedgeChains$Orders", "lastWeeks", "[I") ∈ xNF) (d : decode cc pc = .ok (.getfield index, 3)) (k : xX p l e R s m args below meth c A H0 D cy ad kd NP nL cells slots Q G (pc + 3) lv (.ref (ad (q + 2)) :: rest)) : xX p l e R s m args below meth c A H0 D cy ad kd NP nL cells slots Q G pc lv (.ref (ad q) :: rest) :=
  xgetBN C (ci := 5) (T := TX5) ho rfl rfl inlX5 1 (by decide) rfl hlink d k
theorem xg_5_finesPerWeek (C : xC p s m args meth c cc own nL rt D cy) {q index : Nat} (ho : xO kd NP 5 q) (hlink : Cond.fieldLink own index "HedgeChains$Orders" "finesPerWeek" "[I" ∈ xAllW) (d : decode cc pc = .ok (.getfield index, 3)) (k : xX p l e R s m args below meth c A H0 D cy ad kd NP nL cells slots Q G (pc + 3) lv (.ref (ad (q + 3)) :: rest)) : xX p l e R s m args below meth c A H0 D cy ad kd NP nL cells slots Q G pc lv (.ref (ad q) :: rest) :=
  xgetB C (ci := 5) (T := TX5) ho rfl rfl inlX5 2 (by decide) rfl hlink d k
theorem xgN_5_finesPerWeek (C : xC p s m args meth c cc own nL rt D cy) {q index : Nat} (ho : xO kd NP 5 q) (hlink : (own, index, "HedgeChains$Orders", "finesPerWeek", "[I") ∈ xNF) (d : decode cc pc = .ok (.getfield index, 3)) (k : xX p l e R s m args below meth c A H0 D cy ad kd NP nL cells slots Q G (pc + 3) lv (.ref (ad (q + 3)) :: rest)) : xX p l e R s m args below meth c A H0 D cy ad kd NP nL cells slots Q G pc lv (.ref (ad q) :: rest) :=
  xgetBN C (ci := 5) (T := TX5) ho rfl rfl inlX5 2 (by decide) rfl hlink d k
theorem xg_5_least (C : xC p s m args meth c cc own nL rt D cy) {q index : Nat} (ho : xO kd NP 5 q) (hlink : Cond.fieldLink own index "HedgeChains$Orders" "least" "[I" ∈ xAllW) (d : decode cc pc = .ok (.getfield index, 3)) (k : xX p l e R s m args below meth c A H0 D cy ad kd NP nL cells slots Q G (pc + 3) lv (.ref (ad (q + 4)) :: rest)) : xX p l e R s m args below meth c A H0 D cy ad kd NP nL cells slots Q G pc lv (.ref (ad q) :: rest) :=
  xgetB C (ci := 5) (T := TX5) ho rfl rfl inlX5 3 (by decide) rfl hlink d k
theorem xgN_5_least (C : xC p s m args meth c cc own nL rt D cy) {q index : Nat} (ho : xO kd NP 5 q) (hlink : (own, index, "HedgeChains$Orders", "least", "[I") ∈ xNF) (d : decode cc pc = .ok (.getfield index, 3)) (k : xX p l e R s m args below meth c A H0 D cy ad kd NP nL cells slots Q G (pc + 3) lv (.ref (ad (q + 4)) :: rest)) : xX p l e R s m args below meth c A H0 D cy ad kd NP nL cells slots Q G pc lv (.ref (ad q) :: rest) :=
  xgetBN C (ci := 5) (T := TX5) ho rfl rfl inlX5 3 (by decide) rfl hlink d k
theorem xg_5_all (C : xC p s m args meth c cc own nL rt D cy) {q index : Nat} (ho : xO kd NP 5 q) (hlink : Cond.fieldLink own index "HedgeChains$Orders" "all" "I" ∈ xAllW) (d : decode cc pc = .ok (.getfield index, 3)) (k : xX p l e R s m args below meth c A H0 D cy ad kd NP nL cells slots Q G (pc + 3) lv (.int (G q 4) :: rest)) : xX p l e R s m args below meth c A H0 D cy ad kd NP nL cells slots Q G pc lv (.ref (ad q) :: rest) :=
  xgetB C (ci := 5) (T := TX5) ho rfl rfl inlX5 4 (by decide) rfl hlink d k
theorem xp_5_all (C : xC p s m args meth c cc own nL rt D cy) {q index : Nat} {v : Int32} (ho : xO kd NP 5 q) (hlink : Cond.fieldLink own index "HedgeChains$Orders" "all" "I" ∈ xAllW) (d : decode cc pc = .ok (.putfield index, 3)) (k : xX p l e R s m args below meth c A H0 D cy ad kd NP nL cells slots Q (mset G q 4 v) (pc + 3) lv rest) : xX p l e R s m args below meth c A H0 D cy ad kd NP nL cells slots Q G pc lv (.int v :: .ref (ad q) :: rest) :=
  xputB C (ci := 5) (T := TX5) (ty := .int) ho rfl rfl inlX5 tyX5 tyX5_ok nmX5 4 (by decide) (by exact Nat.le_of_ble_eq_true rfl) rfl (by decide +kernel) (by exact vp_nar_int v) rfl (by simp [kE, mset, mrow, upd]) hlink d k
theorem xgN_5_all (C : xC p s m args meth c cc own nL rt D cy) {q index : Nat} (ho : xO kd NP 5 q) (hlink : (own, index, "HedgeChains$Orders", "all", "I") ∈ xNF) (d : decode cc pc = .ok (.getfield index, 3)) (k : xX p l e R s m args below meth c A H0 D cy ad kd NP nL cells slots Q G (pc + 3) lv (.int (G q 4) :: rest)) : xX p l e R s m args below meth c A H0 D cy ad kd NP nL cells slots Q G pc lv (.ref (ad q) :: rest) :=
  xgetBN C (ci := 5) (T := TX5) ho rfl rfl inlX5 4 (by decide) rfl hlink d k
theorem xpN_5_all (C : xC p s m args meth c cc own nL rt D cy) {q index : Nat} {v : Int32} (ho : xO kd NP 5 q) (hlink : (own, index, "HedgeChains$Orders", "all", "I") ∈ xNF) (d : decode cc pc = .ok (.putfield index, 3)) (k : xX p l e R s m args below meth c A H0 D cy ad kd NP nL cells slots Q (mset G q 4 v) (pc + 3) lv rest) : xX p l e R s m args below meth c A H0 D cy ad kd NP nL cells slots Q G pc lv (.int v :: .ref (ad q) :: rest) :=
  xputBN C (ci := 5) (T := TX5) (ty := .int) ho rfl rfl inlX5 tyX5 tyX5_ok nmX5 4 (by decide) (by exact Nat.le_of_ble_eq_true rfl) rfl (by decide +kernel) (by exact vp_nar_int v) rfl (by simp [kE, mset, mrow, upd]) hlink d k
theorem xg_5_presentWeek (C : xC p s m args meth c cc own nL rt D cy) {q index : Nat} (ho : xO kd NP 5 q) (hlink : Cond.fieldLink own index "HedgeChains$Orders" "presentWeek" "I" ∈ xAllW) (d : decode cc pc = .ok (.getfield index, 3)) (k : xX p l e R s m args below meth c A H0 D cy ad kd NP nL cells slots Q G (pc + 3) lv (.int (G q 5) :: rest)) : xX p l e R s m args below meth c A H0 D cy ad kd NP nL cells slots Q G pc lv (.ref (ad q) :: rest) :=
  xgetB C (ci := 5) (T := TX5) ho rfl rfl inlX5 5 (by decide) rfl hlink d k
theorem xp_5_presentWeek (C : xC p s m args meth c cc own nL rt D cy) {q index : Nat} {v : Int32} (ho : xO kd NP 5 q) (hlink : Cond.fieldLink own index "HedgeChains$Orders" "presentWeek" "I" ∈ xAllW) (d : decode cc pc = .ok (.putfield index, 3)) (k : xX p l e R s m args below meth c A H0 D cy ad kd NP nL cells slots Q (mset G q 5 v) (pc + 3) lv rest) : xX p l e R s m args below meth c A H0 D cy ad kd NP nL cells slots Q G pc lv (.int v :: .ref (ad q) :: rest) :=
  xputB C (ci := 5) (T := TX5) (ty := .int) ho rfl rfl inlX5 tyX5 tyX5_ok nmX5 5 (by decide) (by exact Nat.le_of_ble_eq_true rfl) rfl (by decide +kernel) (by exact vp_nar_int v) rfl (by simp [kE, mset, mrow, upd]) hlink d k
theorem xgN_5_presentWeek (C : xC p s m args meth c cc own nL rt D cy) {q index : Nat} (ho : xO kd NP 5 q) (hlink : (own, index, "HedgeChains$Orders", "presentWeek", "I") ∈ xNF) (d : decode cc pc = .ok (.getfield index, 3)) (k : xX p l e R s m args below meth c A H0 D cy ad kd NP nL cells slots Q G (pc + 3) lv (.int (G q 5) :: rest)) : xX p l e R s m args below meth c A H0 D cy ad kd NP nL cells slots Q G pc lv (.ref (ad q) :: rest) :=
  xgetBN C (ci := 5) (T := TX5) ho rfl rfl inlX5 5 (by decide) rfl hlink d k
theorem xpN_5_presentWeek (C : xC p s m args meth c cc own nL rt D cy) {q index : Nat} {v : Int32} (ho : xO kd NP 5 q) (hlink : (own, index, "HedgeChains$Orders", "presentWeek", "I") ∈ xNF) (d : decode cc pc = .ok (.putfield index, 3)) (k : xX p l e R s m args below meth c A H0 D cy ad kd NP nL cells slots Q (mset G q 5 v) (pc + 3) lv rest) : xX p l e R s m args below meth c A H0 D cy ad kd NP nL cells slots Q G pc lv (.int v :: .ref (ad q) :: rest) :=
  xputBN C (ci := 5) (T := TX5) (ty := .int) ho rfl rfl inlX5 tyX5 tyX5_ok nmX5 5 (by decide) (by exact Nat.le_of_ble_eq_true rfl) rfl (by decide +kernel) (by exact vp_nar_int v) rfl (by simp [kE, mset, mrow, upd]) hlink d k
theorem xg_6_land (C : xC p s m args meth c cc own nL rt D cy) {q index : Nat} (ho : xO kd NP 6 q) (hlink : Cond.fieldLink own index "HedgeChains$State" "land" "LHedgeChains$Land;" ∈ xAllW) (d : decode cc pc = .ok (.getfield index, 3)) (k : xX p l e R s m args below meth c A H0 D cy ad kd NP nL cells slots Q G (pc + 3) lv (.ref (ad (q + 1)) :: rest)) : xX p l e R s m args below meth c A H0 D cy ad kd NP nL cells slots Q G pc lv (.ref (ad q) :: rest) :=
  xgetB C (ci := 6) (T := TX6) ho rfl rfl inlX6 0 (by decide) rfl hlink d k
theorem xgN_6_land (C : xC p s m args meth c cc own nL rt D cy) {q index : Nat} (ho : xO kd NP 6 q) (hlink : (own, index, "HedgeChains$State", "land", "LHedgeChains$Land;") ∈ xNF) (d : decode cc pc = .ok (.getfield index, 3)) (k : xX p l e R s m args below meth c A H0 D cy ad kd NP nL cells slots Q G (pc + 3) lv (.ref (ad (q + 1)) :: rest)) : xX p l e R s m args below meth c A H0 D cy ad kd NP nL cells slots Q G pc lv (.ref (ad q) :: rest) :=
  xgetBN C (ci := 6) (T := TX6) ho rfl rfl inlX6 0 (by decide) rfl hlink d k
theorem xg_6_slots (C : xC p s m args meth c cc own nL rt D cy) {q index : Nat} (ho : xO kd NP 6 q) (hlink : Cond.fieldLink own index "HedgeChains$State" "slots" "[LHedgeChains$Land;" ∈ xAllW) (d : decode cc pc = .ok (.getfield index, 3)) (k : xX p l e R s m args below meth c A H0 D cy ad kd NP nL cells slots Q G (pc + 3) lv (.ref (ad (q + 34)) :: rest)) : xX p l e R s m args below meth c A H0 D cy ad kd NP nL cells slots Q G pc lv (.ref (ad q) :: rest) :=
  xgetB C (ci := 6) (T := TX6) ho rfl rfl inlX6 1 (by decide) rfl hlink d k
theorem xgN_6_slots (C : xC p s m args meth c cc own nL rt D cy) {q index : Nat} (ho : xO kd NP 6 q) (hlink : (own, index, "HedgeChains$State", "slots", "[LHedgeChains$Land;") ∈ xNF) (d : decode cc pc = .ok (.getfield index, 3)) (k : xX p l e R s m args below meth c A H0 D cy ad kd NP nL cells slots Q G (pc + 3) lv (.ref (ad (q + 34)) :: rest)) : xX p l e R s m args below meth c A H0 D cy ad kd NP nL cells slots Q G pc lv (.ref (ad q) :: rest) :=
  xgetBN C (ci := 6) (T := TX6) ho rfl rfl inlX6 1 (by decide) rfl hlink d k
theorem xg_6_filled (C : xC p s m args meth c cc own nL rt D cy) {q index : Nat} (ho : xO kd NP 6 q) (hlink : Cond.fieldLink own index "HedgeChains$State" "filled" "[Z" ∈ xAllW) (d : decode cc pc = .ok (.getfield index, 3)) (k : xX p l e R s m args below meth c A H0 D cy ad kd NP nL cells slots Q G (pc + 3) lv (.ref (ad (q + 35)) :: rest)) : xX p l e R s m args below meth c A H0 D cy ad kd NP nL cells slots Q G pc lv (.ref (ad q) :: rest) :=
  xgetB C (ci := 6) (T := TX6) ho rfl rfl inlX6 2 (by decide) rfl hlink d k
theorem xgN_6_filled (C : xC p s m args meth c cc own nL rt D cy) {q index : Nat} (ho : xO kd NP 6 q) (hlink : (own, index, "HedgeChains$State", "filled", "[Z") ∈ xNF) (d : decode cc pc = .ok (.getfield index, 3)) (k : xX p l e R s m args below meth c A H0 D cy ad kd NP nL cells slots Q G (pc + 3) lv (.ref (ad (q + 35)) :: rest)) : xX p l e R s m args below meth c A H0 D cy ad kd NP nL cells slots Q G pc lv (.ref (ad q) :: rest) :=
  xgetBN C (ci := 6) (T := TX6) ho rfl rfl inlX6 2 (by decide) rfl hlink d k
theorem xg_7_signs (C : xC p s m args meth c cc own nL rt D cy) {q index : Nat} (ho : xO kd NP 7 q) (hlink : Cond.fieldLink own index "HedgeChains$Text" "signs" "[C" ∈ xAllW) (d : decode cc pc = .ok (.getfield index, 3)) (k : xX p l e R s m args below meth c A H0 D cy ad kd NP nL cells slots Q G (pc + 3) lv (.ref (ad (q + 1)) :: rest)) : xX p l e R s m args below meth c A H0 D cy ad kd NP nL cells slots Q G pc lv (.ref (ad q) :: rest) :=
  xgetB C (ci := 7) (T := TX7) ho rfl rfl inlX7 0 (by decide) rfl hlink d k
theorem xgN_7_signs (C : xC p s m args meth c cc own nL rt D cy) {q index : Nat} (ho : xO kd NP 7 q) (hlink : (own, index, "HedgeChains$Text", "signs", "[C") ∈ xNF) (d : decode cc pc = .ok (.getfield index, 3)) (k : xX p l e R s m args below meth c A H0 D cy ad kd NP nL cells slots Q G (pc + 3) lv (.ref (ad (q + 1)) :: rest)) : xX p l e R s m args below meth c A H0 D cy ad kd NP nL cells slots Q G pc lv (.ref (ad q) :: rest) :=
  xgetBN C (ci := 7) (T := TX7) ho rfl rfl inlX7 0 (by decide) rfl hlink d k
theorem xg_7_length (C : xC p s m args meth c cc own nL rt D cy) {q index : Nat} (ho : xO kd NP 7 q) (hlink : Cond.fieldLink own index "HedgeChains$Text" "length" "I" ∈ xAllW) (d : decode cc pc = .ok (.getfield index, 3)) (k : xX p l e R s m args below meth c A H0 D cy ad kd NP nL cells slots Q G (pc + 3) lv (.int (G q 1) :: rest)) : xX p l e R s m args below meth c A H0 D cy ad kd NP nL cells slots Q G pc lv (.ref (ad q) :: rest) :=
  xgetB C (ci := 7) (T := TX7) ho rfl rfl inlX7 1 (by decide) rfl hlink d k
theorem xp_7_length (C : xC p s m args meth c cc own nL rt D cy) {q index : Nat} {v : Int32} (ho : xO kd NP 7 q) (hlink : Cond.fieldLink own index "HedgeChains$Text" "length" "I" ∈ xAllW) (d : decode cc pc = .ok (.putfield index, 3)) (k : xX p l e R s m args below meth c A H0 D cy ad kd NP nL cells slots Q (mset G q 1 v) (pc + 3) lv rest) : xX p l e R s m args below meth c A H0 D cy ad kd NP nL cells slots Q G pc lv (.int v :: .ref (ad q) :: rest) :=
  xputB C (ci := 7) (T := TX7) (ty := .int) ho rfl rfl inlX7 tyX7 tyX7_ok nmX7 1 (by decide) (by exact Nat.le_of_ble_eq_true rfl) rfl (by decide +kernel) (by exact vp_nar_int v) rfl (by simp [kE, mset, mrow, upd]) hlink d k
theorem xgN_7_length (C : xC p s m args meth c cc own nL rt D cy) {q index : Nat} (ho : xO kd NP 7 q) (hlink : (own, index, "HedgeChains$Text", "length", "I") ∈ xNF) (d : decode cc pc = .ok (.getfield index, 3)) (k : xX p l e R s m args below meth c A H0 D cy ad kd NP nL cells slots Q G (pc + 3) lv (.int (G q 1) :: rest)) : xX p l e R s m args below meth c A H0 D cy ad kd NP nL cells slots Q G pc lv (.ref (ad q) :: rest) :=
  xgetBN C (ci := 7) (T := TX7) ho rfl rfl inlX7 1 (by decide) rfl hlink d k
theorem xpN_7_length (C : xC p s m args meth c cc own nL rt D cy) {q index : Nat} {v : Int32} (ho : xO kd NP 7 q) (hlink : (own, index, "HedgeChains$Text", "length", "I") ∈ xNF) (d : decode cc pc = .ok (.putfield index, 3)) (k : xX p l e R s m args below meth c A H0 D cy ad kd NP nL cells slots Q (mset G q 1 v) (pc + 3) lv rest) : xX p l e R s m args below meth c A H0 D cy ad kd NP nL cells slots Q G pc lv (.int v :: .ref (ad q) :: rest) :=
  xputBN C (ci := 7) (T := TX7) (ty := .int) ho rfl rfl inlX7 tyX7 tyX7_ok nmX7 1 (by decide) (by exact Nat.le_of_ble_eq_true rfl) rfl (by decide +kernel) (by exact vp_nar_int v) rfl (by simp [kE, mset, mrow, upd]) hlink d k
theorem xg_8_state (C : xC p s m args meth c cc own nL rt D cy) {q index : Nat} (ho : xO kd NP 8 q) (hlink : Cond.fieldLink own index "HedgeChains" "state" "LHedgeChains$State;" ∈ xAllW) (d : decode cc pc = .ok (.getfield index, 3)) (k : xX p l e R s m args below meth c A H0 D cy ad kd NP nL cells slots Q G (pc + 3) lv (.ref (ad (q + 1)) :: rest)) : xX p l e R s m args below meth c A H0 D cy ad kd NP nL cells slots Q G pc lv (.ref (ad q) :: rest) :=
  xgetB C (ci := 8) (T := TX8) ho rfl rfl inlX8 0 (by decide) rfl hlink d k
theorem xg_8_land (C : xC p s m args meth c cc own nL rt D cy) {q index : Nat} (ho : xO kd NP 8 q) (hlink : Cond.fieldLink own index "HedgeChains" "land" "LHedgeChains$Land;" ∈ xAllW) (d : decode cc pc = .ok (.getfield index, 3)) (k : xX p l e R s m args below meth c A H0 D cy ad kd NP nL cells slots Q G (pc + 3) lv (.ref (ad (q + 2)) :: rest)) : xX p l e R s m args below meth c A H0 D cy ad kd NP nL cells slots Q G pc lv (.ref (ad q) :: rest) :=
  xgetB C (ci := 8) (T := TX8) ho rfl rfl inlX8 1 (by decide) rfl hlink d k
theorem xg_8_history (C : xC p s m args meth c cc own nL rt D cy) {q index : Nat} (ho : xO kd NP 8 q) (hlink : Cond.fieldLink own index "HedgeChains" "history" "LHedgeChains$History;" ∈ xAllW) (d : decode cc pc = .ok (.getfield index, 3)) (k : xX p l e R s m args below meth c A H0 D cy ad kd NP nL cells slots Q G (pc + 3) lv (.ref (ad (q + 103)) :: rest)) : xX p l e R s m args below meth c A H0 D cy ad kd NP nL cells slots Q G pc lv (.ref (ad q) :: rest) :=
  xgetB C (ci := 8) (T := TX8) ho rfl rfl inlX8 2 (by decide) rfl hlink d k
theorem xg_8_text (C : xC p s m args meth c cc own nL rt D cy) {q index : Nat} (ho : xO kd NP 8 q) (hlink : Cond.fieldLink own index "HedgeChains" "text" "LHedgeChains$Text;" ∈ xAllW) (d : decode cc pc = .ok (.getfield index, 3)) (k : xX p l e R s m args below meth c A H0 D cy ad kd NP nL cells slots Q G (pc + 3) lv (.ref (ad (q + 615)) :: rest)) : xX p l e R s m args below meth c A H0 D cy ad kd NP nL cells slots Q G pc lv (.ref (ad q) :: rest) :=
  xgetB C (ci := 8) (T := TX8) ho rfl rfl inlX8 3 (by decide) rfl hlink d k
theorem xg_8_reader (C : xC p s m args meth c cc own nL rt D cy) {q index : Nat} (ho : xO kd NP 8 q) (hlink : Cond.fieldLink own index "HedgeChains" "reader" "LHedgeChains$HedgeReader;" ∈ xAllW) (d : decode cc pc = .ok (.getfield index, 3)) (k : xX p l e R s m args below meth c A H0 D cy ad kd NP nL cells slots Q G (pc + 3) lv (.ref (ad (q + 617)) :: rest)) : xX p l e R s m args below meth c A H0 D cy ad kd NP nL cells slots Q G pc lv (.ref (ad q) :: rest) :=
  xgetB C (ci := 8) (T := TX8) ho rfl rfl inlX8 4 (by decide) rfl hlink d k
theorem xg_8_orders (C : xC p s m args meth c cc own nL rt D cy) {q index : Nat} (ho : xO kd NP 8 q) (hlink : Cond.fieldLink own index "HedgeChains" "orders" "LHedgeChains$Orders;" ∈ xAllW) (d : decode cc pc = .ok (.getfield index, 3)) (k : xX p l e R s m args below meth c A H0 D cy ad kd NP nL cells slots Q G (pc + 3) lv (.ref (ad (q + 622)) :: rest)) : xX p l e R s m args below meth c A H0 D cy ad kd NP nL cells slots Q G pc lv (.ref (ad q) :: rest) :=
  xgetB C (ci := 8) (T := TX8) ho rfl rfl inlX8 5 (by decide) rfl hlink d k
theorem xg_9_s (C : xC p s m args meth c cc own nL rt D cy) {q index : Nat} (ho : xO kd NP 9 q) (hlink : Cond.fieldLink own index "HedgeChainsModel" "s" "[I" ∈ xAllW) (d : decode cc pc = .ok (.getfield index, 3)) (k : xX p l e R s m args below meth c A H0 D cy ad kd NP nL cells slots Q G (pc + 3) lv (.ref (ad (q + 1)) :: rest)) : xX p l e R s m args below meth c A H0 D cy ad kd NP nL cells slots Q G pc lv (.ref (ad q) :: rest) :=
  xgetB C (ci := 9) (T := TX9) ho rfl rfl inlX9 0 (by decide) rfl hlink d k
theorem xg_9_was (C : xC p s m args meth c cc own nL rt D cy) {q index : Nat} (ho : xO kd NP 9 q) (hlink : Cond.fieldLink own index "HedgeChainsModel" "was" "[I" ∈ xAllW) (d : decode cc pc = .ok (.getfield index, 3)) (k : xX p l e R s m args below meth c A H0 D cy ad kd NP nL cells slots Q G (pc + 3) lv (.ref (ad (q + 2)) :: rest)) : xX p l e R s m args below meth c A H0 D cy ad kd NP nL cells slots Q G pc lv (.ref (ad q) :: rest) :=
  xgetB C (ci := 9) (T := TX9) ho rfl rfl inlX9 1 (by decide) rfl hlink d k
theorem xg_9_begun (C : xC p s m args meth c cc own nL rt D cy) {q index : Nat} (ho : xO kd NP 9 q) (hlink : Cond.fieldLink own index "HedgeChainsModel" "begun" "[I" ∈ xAllW) (d : decode cc pc = .ok (.getfield index, 3)) (k : xX p l e R s m args below meth c A H0 D cy ad kd NP nL cells slots Q G (pc + 3) lv (.ref (ad (q + 3)) :: rest)) : xX p l e R s m args below meth c A H0 D cy ad kd NP nL cells slots Q G pc lv (.ref (ad q) :: rest) :=
  xgetB C (ci := 9) (T := TX9) ho rfl rfl inlX9 2 (by decide) rfl hlink d k
theorem xg_9_least (C : xC p s m args meth c cc own nL rt D cy) {q index : Nat} (ho : xO kd NP 9 q) (hlink : Cond.fieldLink own index "HedgeChainsModel" "least" "[I" ∈ xAllW) (d : decode cc pc = .ok (.getfield index, 3)) (k : xX p l e R s m args below meth c A H0 D cy ad kd NP nL cells slots Q G (pc + 3) lv (.ref (ad (q + 4)) :: rest)) : xX p l e R s m args below meth c A H0 D cy ad kd NP nL cells slots Q G pc lv (.ref (ad q) :: rest) :=
  xgetB C (ci := 9) (T := TX9) ho rfl rfl inlX9 3 (by decide) rfl hlink d k
theorem xg_9_states (C : xC p s m args meth c cc own nL rt D cy) {q index : Nat} (ho : xO kd NP 9 q) (hlink : Cond.fieldLink own index "HedgeChainsModel" "states" "I" ∈ xAllW) (d : decode cc pc = .ok (.getfield index, 3)) (k : xX p l e R s m args below meth c A H0 D cy ad kd NP nL cells slots Q G (pc + 3) lv (.int (G q 4) :: rest)) : xX p l e R s m args below meth c A H0 D cy ad kd NP nL cells slots Q G pc lv (.ref (ad q) :: rest) :=
  xgetB C (ci := 9) (T := TX9) ho rfl rfl inlX9 4 (by decide) rfl hlink d k
theorem xp_9_states (C : xC p s m args meth c cc own nL rt D cy) {q index : Nat} {v : Int32} (ho : xO kd NP 9 q) (hlink : Cond.fieldLink own index "HedgeChainsModel" "states" "I" ∈ xAllW) (d : decode cc pc = .ok (.putfield index, 3)) (k : xX p l e R s m args below meth c A H0 D cy ad kd NP nL cells slots Q (mset G q 4 v) (pc + 3) lv rest) : xX p l e R s m args below meth c A H0 D cy ad kd NP nL cells slots Q G pc lv (.int v :: .ref (ad q) :: rest) :=
  xputB C (ci := 9) (T := TX9) (ty := .int) ho rfl rfl inlX9 tyX9 tyX9_ok nmX9 4 (by decide) (by exact Nat.le_of_ble_eq_true rfl) rfl (by decide +kernel) (by exact vp_nar_int v) rfl (by simp [kE, mset, mrow, upd]) hlink d k
theorem xg_9_text (C : xC p s m args meth c cc own nL rt D cy) {q index : Nat} (ho : xO kd NP 9 q) (hlink : Cond.fieldLink own index "HedgeChainsModel" "text" "[I" ∈ xAllW) (d : decode cc pc = .ok (.getfield index, 3)) (k : xX p l e R s m args below meth c A H0 D cy ad kd NP nL cells slots Q G (pc + 3) lv (.ref (ad (q + 5)) :: rest)) : xX p l e R s m args below meth c A H0 D cy ad kd NP nL cells slots Q G pc lv (.ref (ad q) :: rest) :=
  xgetB C (ci := 9) (T := TX9) ho rfl rfl inlX9 5 (by decide) rfl hlink d k
theorem xg_9_typed (C : xC p s m args meth c cc own nL rt D cy) {q index : Nat} (ho : xO kd NP 9 q) (hlink : Cond.fieldLink own index "HedgeChainsModel" "typed" "I" ∈ xAllW) (d : decode cc pc = .ok (.getfield index, 3)) (k : xX p l e R s m args below meth c A H0 D cy ad kd NP nL cells slots Q G (pc + 3) lv (.int (G q 6) :: rest)) : xX p l e R s m args below meth c A H0 D cy ad kd NP nL cells slots Q G pc lv (.ref (ad q) :: rest) :=
  xgetB C (ci := 9) (T := TX9) ho rfl rfl inlX9 6 (by decide) rfl hlink d k
theorem xp_9_typed (C : xC p s m args meth c cc own nL rt D cy) {q index : Nat} {v : Int32} (ho : xO kd NP 9 q) (hlink : Cond.fieldLink own index "HedgeChainsModel" "typed" "I" ∈ xAllW) (d : decode cc pc = .ok (.putfield index, 3)) (k : xX p l e R s m args below meth c A H0 D cy ad kd NP nL cells slots Q (mset G q 6 v) (pc + 3) lv rest) : xX p l e R s m args below meth c A H0 D cy ad kd NP nL cells slots Q G pc lv (.int v :: .ref (ad q) :: rest) :=
  xputB C (ci := 9) (T := TX9) (ty := .int) ho rfl rfl inlX9 tyX9 tyX9_ok nmX9 6 (by decide) (by exact Nat.le_of_ble_eq_true rfl) rfl (by decide +kernel) (by exact vp_nar_int v) rfl (by simp [kE, mset, mrow, upd]) hlink d k
theorem xg_9_at (C : xC p s m args meth c cc own nL rt D cy) {q index : Nat} (ho : xO kd NP 9 q) (hlink : Cond.fieldLink own index "HedgeChainsModel" "at" "I" ∈ xAllW) (d : decode cc pc = .ok (.getfield index, 3)) (k : xX p l e R s m args below meth c A H0 D cy ad kd NP nL cells slots Q G (pc + 3) lv (.int (G q 7) :: rest)) : xX p l e R s m args below meth c A H0 D cy ad kd NP nL cells slots Q G pc lv (.ref (ad q) :: rest) :=
  xgetB C (ci := 9) (T := TX9) ho rfl rfl inlX9 7 (by decide) rfl hlink d k
theorem xp_9_at (C : xC p s m args meth c cc own nL rt D cy) {q index : Nat} {v : Int32} (ho : xO kd NP 9 q) (hlink : Cond.fieldLink own index "HedgeChainsModel" "at" "I" ∈ xAllW) (d : decode cc pc = .ok (.putfield index, 3)) (k : xX p l e R s m args below meth c A H0 D cy ad kd NP nL cells slots Q (mset G q 7 v) (pc + 3) lv rest) : xX p l e R s m args below meth c A H0 D cy ad kd NP nL cells slots Q G pc lv (.int v :: .ref (ad q) :: rest) :=
  xputB C (ci := 9) (T := TX9) (ty := .int) ho rfl rfl inlX9 tyX9 tyX9_ok nmX9 7 (by decide) (by exact Nat.le_of_ble_eq_true rfl) rfl (by decide +kernel) (by exact vp_nar_int v) rfl (by simp [kE, mset, mrow, upd]) hlink d k
theorem xg_9_kind (C : xC p s m args meth c cc own nL rt D cy) {q index : Nat} (ho : xO kd NP 9 q) (hlink : Cond.fieldLink own index "HedgeChainsModel" "kind" "I" ∈ xAllW) (d : decode cc pc = .ok (.getfield index, 3)) (k : xX p l e R s m args below meth c A H0 D cy ad kd NP nL cells slots Q G (pc + 3) lv (.int (G q 8) :: rest)) : xX p l e R s m args below meth c A H0 D cy ad kd NP nL cells slots Q G pc lv (.ref (ad q) :: rest) :=
  xgetB C (ci := 9) (T := TX9) ho rfl rfl inlX9 8 (by decide) rfl hlink d k
theorem xp_9_kind (C : xC p s m args meth c cc own nL rt D cy) {q index : Nat} {v : Int32} (ho : xO kd NP 9 q) (hlink : Cond.fieldLink own index "HedgeChainsModel" "kind" "I" ∈ xAllW) (d : decode cc pc = .ok (.putfield index, 3)) (k : xX p l e R s m args below meth c A H0 D cy ad kd NP nL cells slots Q (mset G q 8 v) (pc + 3) lv rest) : xX p l e R s m args below meth c A H0 D cy ad kd NP nL cells slots Q G pc lv (.int v :: .ref (ad q) :: rest) :=
  xputB C (ci := 9) (T := TX9) (ty := .int) ho rfl rfl inlX9 tyX9 tyX9_ok nmX9 8 (by decide) (by exact Nat.le_of_ble_eq_true rfl) rfl (by decide +kernel) (by exact vp_nar_int v) rfl (by simp [kE, mset, mrow, upd]) hlink d k
theorem xg_9_thick (C : xC p s m args meth c cc own nL rt D cy) {q index : Nat} (ho : xO kd NP 9 q) (hlink : Cond.fieldLink own index "HedgeChainsModel" "thick" "I" ∈ xAllW) (d : decode cc pc = .ok (.getfield index, 3)) (k : xX p l e R s m args below meth c A H0 D cy ad kd NP nL cells slots Q G (pc + 3) lv (.int (G q 9) :: rest)) : xX p l e R s m args below meth c A H0 D cy ad kd NP nL cells slots Q G pc lv (.ref (ad q) :: rest) :=
  xgetB C (ci := 9) (T := TX9) ho rfl rfl inlX9 9 (by decide) rfl hlink d k
theorem xp_9_thick (C : xC p s m args meth c cc own nL rt D cy) {q index : Nat} {v : Int32} (ho : xO kd NP 9 q) (hlink : Cond.fieldLink own index "HedgeChainsModel" "thick" "I" ∈ xAllW) (d : decode cc pc = .ok (.putfield index, 3)) (k : xX p l e R s m args below meth c A H0 D cy ad kd NP nL cells slots Q (mset G q 9 v) (pc + 3) lv rest) : xX p l e R s m args below meth c A H0 D cy ad kd NP nL cells slots Q G pc lv (.int v :: .ref (ad q) :: rest) :=
  xputB C (ci := 9) (T := TX9) (ty := .int) ho rfl rfl inlX9 tyX9 tyX9_ok nmX9 9 (by decide) (by exact Nat.le_of_ble_eq_true rfl) rfl (by decide +kernel) (by exact vp_nar_int v) rfl (by simp [kE, mset, mrow, upd]) hlink d k
theorem xg_9_many (C : xC p s m args meth c cc own nL rt D cy) {q index : Nat} (ho : xO kd NP 9 q) (hlink : Cond.fieldLink own index "HedgeChainsModel" "many" "I" ∈ xAllW) (d : decode cc pc = .ok (.getfield index, 3)) (k : xX p l e R s m args below meth c A H0 D cy ad kd NP nL cells slots Q G (pc + 3) lv (.int (G q 10) :: rest)) : xX p l e R s m args below meth c A H0 D cy ad kd NP nL cells slots Q G pc lv (.ref (ad q) :: rest) :=
  xgetB C (ci := 9) (T := TX9) ho rfl rfl inlX9 10 (by decide) rfl hlink d k
theorem xp_9_many (C : xC p s m args meth c cc own nL rt D cy) {q index : Nat} {v : Int32} (ho : xO kd NP 9 q) (hlink : Cond.fieldLink own index "HedgeChainsModel" "many" "I" ∈ xAllW) (d : decode cc pc = .ok (.putfield index, 3)) (k : xX p l e R s m args below meth c A H0 D cy ad kd NP nL cells slots Q (mset G q 10 v) (pc + 3) lv rest) : xX p l e R s m args below meth c A H0 D cy ad kd NP nL cells slots Q G pc lv (.int v :: .ref (ad q) :: rest) :=
  xputB C (ci := 9) (T := TX9) (ty := .int) ho rfl rfl inlX9 tyX9 tyX9_ok nmX9 10 (by decide) (by exact Nat.le_of_ble_eq_true rfl) rfl (by decide +kernel) (by exact vp_nar_int v) rfl (by simp [kE, mset, mrow, upd]) hlink d k
theorem xia_10 (C : xC p s m args meth c cc own nL rt D cy) {q : Nat} {i : Int32} (j : Nat) (hj : i.toNatClampNeg = j) (ho : xO kd NP 10 q) (hin : vp_in i 30) (d : decode cc pc = .ok (.iaload, 1)) (k : xX p l e R s m args below meth c A H0 D cy ad kd NP nL cells slots Q G (pc + 1) lv (.int (G q j) :: rest)) : xX p l e R s m args below meth c A H0 D cy ad kd NP nL cells slots Q G pc lv (.int i :: .ref (ad q) :: rest) := by
  obtain ⟨hx, hb, hml, hown, hts, hK, hN, hr, hlk⟩ := C
  intro H locs ls hP hD hS hl
  subst hj
  exact va_iald hx hb hK hP q 0 (wo_at ho) rfl hin d (k H locs ls hP hD hS hl)
theorem xis_10 (C : xC p s m args meth c cc own nL rt D cy) {q : Nat} {i v : Int32} (j : Nat) (hj : i.toNatClampNeg = j) (ho : xO kd NP 10 q) (hin : vp_in i 30) (d : decode cc pc = .ok (.iastore, 1)) (k : xX p l e R s m args below meth c A H0 D cy ad kd NP nL cells slots Q (mset G q j v) (pc + 1) lv rest) : xX p l e R s m args below meth c A H0 D cy ad kd NP nL cells slots Q G pc lv (.int v :: .int i :: .ref (ad q) :: rest) := by
  obtain ⟨hx, hb, hml, hown, hts, hK, hN, hr, hlk⟩ := C
  intro H locs ls hP hD hS hl
  subst hj
  refine va_iast hx hb hK hP hD hS q 0 (wo_at ho) rfl hin d (fun H1 locs1 hP1 hD1 hS1 => ?_)
  rw [wo_set (f := upd (G q) i.toNatClampNeg v) ho (by simp [kE, mrow])] at hP1 hD1
  exact k H1 locs1 ls hP1 hD1 hS1 hl
theorem xal_10 (C : xC p s m args meth c cc own nL rt D cy) {q : Nat} (ho : xO kd NP 10 q) (d : decode cc pc = .ok (.arraylength, 1)) (k : xX p l e R s m args below meth c A H0 D cy ad kd NP nL cells slots Q G (pc + 1) lv (.int 30 :: rest)) : xX p l e R s m args below meth c A H0 D cy ad kd NP nL cells slots Q G pc lv (.ref (ad q) :: rest) := by
  obtain ⟨hx, hb, hml, hown, hts, hK, hN, hr, hlk⟩ := C
  intro H locs ls hP hD hS hl
  exact va_alen hx hb hK hP q 0 (wo_at ho) rfl rfl d (k H locs ls hP hD hS hl)
theorem xia_11 (C : xC p s m args meth c cc own nL rt D cy) {q : Nat} {i : Int32} (j : Nat) (hj : i.toNatClampNeg = j) (ho : xO kd NP 11 q) (hin : vp_in i 6) (d : decode cc pc = .ok (.iaload, 1)) (k : xX p l e R s m args below meth c A H0 D cy ad kd NP nL cells slots Q G (pc + 1) lv (.int (G q j) :: rest)) : xX p l e R s m args below meth c A H0 D cy ad kd NP nL cells slots Q G pc lv (.int i :: .ref (ad q) :: rest) := by
  obtain ⟨hx, hb, hml, hown, hts, hK, hN, hr, hlk⟩ := C
  intro H locs ls hP hD hS hl
  subst hj
  exact va_iald hx hb hK hP q 0 (wo_at ho) rfl hin d (k H locs ls hP hD hS hl)
theorem xis_11 (C : xC p s m args meth c cc own nL rt D cy) {q : Nat} {i v : Int32} (j : Nat) (hj : i.toNatClampNeg = j) (ho : xO kd NP 11 q) (hin : vp_in i 6) (d : decode cc pc = .ok (.iastore, 1)) (k : xX p l e R s m args below meth c A H0 D cy ad kd NP nL cells slots Q (mset G q j v) (pc + 1) lv rest) : xX p l e R s m args below meth c A H0 D cy ad kd NP nL cells slots Q G pc lv (.int v :: .int i :: .ref (ad q) :: rest) := by
  obtain ⟨hx, hb, hml, hown, hts, hK, hN, hr, hlk⟩ := C
  intro H locs ls hP hD hS hl
  subst hj
  refine va_iast hx hb hK hP hD hS q 0 (wo_at ho) rfl hin d (fun H1 locs1 hP1 hD1 hS1 => ?_)
  rw [wo_set (f := upd (G q) i.toNatClampNeg v) ho (by simp [kE, mrow])] at hP1 hD1
  exact k H1 locs1 ls hP1 hD1 hS1 hl
theorem xal_11 (C : xC p s m args meth c cc own nL rt D cy) {q : Nat} (ho : xO kd NP 11 q) (d : decode cc pc = .ok (.arraylength, 1)) (k : xX p l e R s m args below meth c A H0 D cy ad kd NP nL cells slots Q G (pc + 1) lv (.int 6 :: rest)) : xX p l e R s m args below meth c A H0 D cy ad kd NP nL cells slots Q G pc lv (.ref (ad q) :: rest) := by
  obtain ⟨hx, hb, hml, hown, hts, hK, hN, hr, hlk⟩ := C
  intro H locs ls hP hD hS hl
  exact va_alen hx hb hK hP q 0 (wo_at ho) rfl rfl d (k H locs ls hP hD hS hl)
theorem xia_12 (C : xC p s m args meth c cc own nL rt D cy) {q : Nat} {i : Int32} (j : Nat) (hj : i.toNatClampNeg = j) (ho : xO kd NP 12 q) (hin : vp_in i 64) (d : decode cc pc = .ok (.iaload, 1)) (k : xX p l e R s m args below meth c A H0 D cy ad kd NP nL cells slots Q G (pc + 1) lv (.int (G q j) :: rest)) : xX p l e R s m args below meth c A H0 D cy ad kd NP nL cells slots Q G pc lv (.int i :: .ref (ad q) :: rest) := by
  obtain ⟨hx, hb, hml, hown, hts, hK, hN, hr, hlk⟩ := C
  intro H locs ls hP hD hS hl
  subst hj
  exact va_iald hx hb hK hP q 0 (wo_at ho) rfl hin d (k H locs ls hP hD hS hl)
theorem xis_12 (C : xC p s m args meth c cc own nL rt D cy) {q : Nat} {i v : Int32} (j : Nat) (hj : i.toNatClampNeg = j) (ho : xO kd NP 12 q) (hin : vp_in i 64) (d : decode cc pc = .ok (.iastore, 1)) (k : xX p l e R s m args below meth c A H0 D cy ad kd NP nL cells slots Q (mset G q j v) (pc + 1) lv rest) : xX p l e R s m args below meth c A H0 D cy ad kd NP nL cells slots Q G pc lv (.int v :: .int i :: .ref (ad q) :: rest) := by
  obtain ⟨hx, hb, hml, hown, hts, hK, hN, hr, hlk⟩ := C
  intro H locs ls hP hD hS hl
  subst hj
  refine va_iast hx hb hK hP hD hS q 0 (wo_at ho) rfl hin d (fun H1 locs1 hP1 hD1 hS1 => ?_)
  rw [wo_set (f := upd (G q) i.toNatClampNeg v) ho (by simp [kE, mrow])] at hP1 hD1
  exact k H1 locs1 ls hP1 hD1 hS1 hl
theorem xal_12 (C : xC p s m args meth c cc own nL rt D cy) {q : Nat} (ho : xO kd NP 12 q) (d : decode cc pc = .ok (.arraylength, 1)) (k : xX p l e R s m args below meth c A H0 D cy ad kd NP nL cells slots Q G (pc + 1) lv (.int 64 :: rest)) : xX p l e R s m args below meth c A H0 D cy ad kd NP nL cells slots Q G pc lv (.ref (ad q) :: rest) := by
  obtain ⟨hx, hb, hml, hown, hts, hK, hN, hr, hlk⟩ := C
  intro H locs ls hP hD hS hl
  exact va_alen hx hb hK hP q 0 (wo_at ho) rfl rfl d (k H locs ls hP hD hS hl)
theorem xia_13 (C : xC p s m args meth c cc own nL rt D cy) {q : Nat} {i : Int32} (j : Nat) (hj : i.toNatClampNeg = j) (ho : xO kd NP 13 q) (hin : vp_in i 80) (d : decode cc pc = .ok (.iaload, 1)) (k : xX p l e R s m args below meth c A H0 D cy ad kd NP nL cells slots Q G (pc + 1) lv (.int (G q j) :: rest)) : xX p l e R s m args below meth c A H0 D cy ad kd NP nL cells slots Q G pc lv (.int i :: .ref (ad q) :: rest) := by
  obtain ⟨hx, hb, hml, hown, hts, hK, hN, hr, hlk⟩ := C
  intro H locs ls hP hD hS hl
  subst hj
  exact va_iald hx hb hK hP q 0 (wo_at ho) rfl hin d (k H locs ls hP hD hS hl)
theorem xis_13 (C : xC p s m args meth c cc own nL rt D cy) {q : Nat} {i v : Int32} (j : Nat) (hj : i.toNatClampNeg = j) (ho : xO kd NP 13 q) (hin : vp_in i 80) (d : decode cc pc = .ok (.iastore, 1)) (k : xX p l e R s m args below meth c A H0 D cy ad kd NP nL cells slots Q (mset G q j v) (pc + 1) lv rest) : xX p l e R s m args below meth c A H0 D cy ad kd NP nL cells slots Q G pc lv (.int v :: .int i :: .ref (ad q) :: rest) := by
  obtain ⟨hx, hb, hml, hown, hts, hK, hN, hr, hlk⟩ := C
  intro H locs ls hP hD hS hl
  subst hj
  refine va_iast hx hb hK hP hD hS q 0 (wo_at ho) rfl hin d (fun H1 locs1 hP1 hD1 hS1 => ?_)
  rw [wo_set (f := upd (G q) i.toNatClampNeg v) ho (by simp [kE, mrow])] at hP1 hD1
  exact k H1 locs1 ls hP1 hD1 hS1 hl
theorem xal_13 (C : xC p s m args meth c cc own nL rt D cy) {q : Nat} (ho : xO kd NP 13 q) (d : decode cc pc = .ok (.arraylength, 1)) (k : xX p l e R s m args below meth c A H0 D cy ad kd NP nL cells slots Q G (pc + 1) lv (.int 80 :: rest)) : xX p l e R s m args below meth c A H0 D cy ad kd NP nL cells slots Q G pc lv (.ref (ad q) :: rest) := by
  obtain ⟨hx, hb, hml, hown, hts, hK, hN, hr, hlk⟩ := C
  intro H locs ls hP hD hS hl
  exact va_alen hx hb hK hP q 0 (wo_at ho) rfl rfl d (k H locs ls hP hD hS hl)
theorem xia_14 (C : xC p s m args meth c cc own nL rt D cy) {q : Nat} {i : Int32} (j : Nat) (hj : i.toNatClampNeg = j) (ho : xO kd NP 14 q) (hin : vp_in i 668) (d : decode cc pc = .ok (.iaload, 1)) (k : xX p l e R s m args below meth c A H0 D cy ad kd NP nL cells slots Q G (pc + 1) lv (.int (G q j) :: rest)) : xX p l e R s m args below meth c A H0 D cy ad kd NP nL cells slots Q G pc lv (.int i :: .ref (ad q) :: rest) := by
  obtain ⟨hx, hb, hml, hown, hts, hK, hN, hr, hlk⟩ := C
  intro H locs ls hP hD hS hl
  subst hj
  exact va_iald hx hb hK hP q 0 (wo_at ho) rfl hin d (k H locs ls hP hD hS hl)
theorem xis_14 (C : xC p s m args meth c cc own nL rt D cy) {q : Nat} {i v : Int32} (j : Nat) (hj : i.toNatClampNeg = j) (ho : xO kd NP 14 q) (hin : vp_in i 668) (d : decode cc pc = .ok (.iastore, 1)) (k : xX p l e R s m args below meth c A H0 D cy ad kd NP nL cells slots Q (mset G q j v) (pc + 1) lv rest) : xX p l e R s m args below meth c A H0 D cy ad kd NP nL cells slots Q G pc lv (.int v :: .int i :: .ref (ad q) :: rest) := by
  obtain ⟨hx, hb, hml, hown, hts, hK, hN, hr, hlk⟩ := C
  intro H locs ls hP hD hS hl
  subst hj
  refine va_iast hx hb hK hP hD hS q 0 (wo_at ho) rfl hin d (fun H1 locs1 hP1 hD1 hS1 => ?_)
  rw [wo_set (f := upd (G q) i.toNatClampNeg v) ho (by simp [kE, mrow])] at hP1 hD1
  exact k H1 locs1 ls hP1 hD1 hS1 hl
theorem xal_14 (C : xC p s m args meth c cc own nL rt D cy) {q : Nat} (ho : xO kd NP 14 q) (d : decode cc pc = .ok (.arraylength, 1)) (k : xX p l e R s m args below meth c A H0 D cy ad kd NP nL cells slots Q G (pc + 1) lv (.int 668 :: rest)) : xX p l e R s m args below meth c A H0 D cy ad kd NP nL cells slots Q G pc lv (.ref (ad q) :: rest) := by
  obtain ⟨hx, hb, hml, hown, hts, hK, hN, hr, hlk⟩ := C
  intro H locs ls hP hD hS hl
  exact va_alen hx hb hK hP q 0 (wo_at ho) rfl rfl d (k H locs ls hP hD hS hl)
theorem xia_15 (C : xC p s m args meth c cc own nL rt D cy) {q : Nat} {i : Int32} (j : Nat) (hj : i.toNatClampNeg = j) (ho : xO kd NP 15 q) (hin : vp_in i 3340) (d : decode cc pc = .ok (.iaload, 1)) (k : xX p l e R s m args below meth c A H0 D cy ad kd NP nL cells slots Q G (pc + 1) lv (.int (G q j) :: rest)) : xX p l e R s m args below meth c A H0 D cy ad kd NP nL cells slots Q G pc lv (.int i :: .ref (ad q) :: rest) := by
  obtain ⟨hx, hb, hml, hown, hts, hK, hN, hr, hlk⟩ := C
  intro H locs ls hP hD hS hl
  subst hj
  exact va_iald hx hb hK hP q 0 (wo_at ho) rfl hin d (k H locs ls hP hD hS hl)
theorem xis_15 (C : xC p s m args meth c cc own nL rt D cy) {q : Nat} {i v : Int32} (j : Nat) (hj : i.toNatClampNeg = j) (ho : xO kd NP 15 q) (hin : vp_in i 3340) (d : decode cc pc = .ok (.iastore, 1)) (k : xX p l e R s m args below meth c A H0 D cy ad kd NP nL cells slots Q (mset G q j v) (pc + 1) lv rest) : xX p l e R s m args below meth c A H0 D cy ad kd NP nL cells slots Q G pc lv (.int v :: .int i :: .ref (ad q) :: rest) := by
  obtain ⟨hx, hb, hml, hown, hts, hK, hN, hr, hlk⟩ := C
  intro H locs ls hP hD hS hl
  subst hj
  refine va_iast hx hb hK hP hD hS q 0 (wo_at ho) rfl hin d (fun H1 locs1 hP1 hD1 hS1 => ?_)
  rw [wo_set (f := upd (G q) i.toNatClampNeg v) ho (by simp [kE, mrow])] at hP1 hD1
  exact k H1 locs1 ls hP1 hD1 hS1 hl
theorem xal_15 (C : xC p s m args meth c cc own nL rt D cy) {q : Nat} (ho : xO kd NP 15 q) (d : decode cc pc = .ok (.arraylength, 1)) (k : xX p l e R s m args below meth c A H0 D cy ad kd NP nL cells slots Q G (pc + 1) lv (.int 3340 :: rest)) : xX p l e R s m args below meth c A H0 D cy ad kd NP nL cells slots Q G pc lv (.ref (ad q) :: rest) := by
  obtain ⟨hx, hb, hml, hown, hts, hK, hN, hr, hlk⟩ := C
  intro H locs ls hP hD hS hl
  exact va_alen hx hb hK hP q 0 (wo_at ho) rfl rfl d (k H locs ls hP hD hS hl)
theorem xza (C : xC p s m args meth c cc own nL rt D cy) {q : Nat} {i : Int32} (ho : xO kd NP 16 q) (hin : vp_in i 2) (d : decode cc pc = .ok (.baload, 1)) (k : xX p l e R s m args below meth c A H0 D cy ad kd NP nL cells slots Q G (pc + 1) lv (.int (G q i.toNatClampNeg) :: rest)) : xX p l e R s m args below meth c A H0 D cy ad kd NP nL cells slots Q G pc lv (.int i :: .ref (ad q) :: rest) := by
  obtain ⟨hx, hb, hml, hown, hts, hK, hN, hr, hlk⟩ := C
  intro H locs ls hP hD hS hl
  exact va_zald hx hb hK hP q 1 (wo_at ho) rfl hin d (k H locs ls hP hD hS hl)
theorem xzs (C : xC p s m args meth c cc own nL rt D cy) {q : Nat} {i v : Int32} (ho : xO kd NP 16 q) (hin : vp_in i 2) (d : decode cc pc = .ok (.bastore, 1)) (k : xX p l e R s m args below meth c A H0 D cy ad kd NP nL cells slots Q (mset G q i.toNatClampNeg (vp_nar .boolean v)) (pc + 1) lv rest) : xX p l e R s m args below meth c A H0 D cy ad kd NP nL cells slots Q G pc lv (.int v :: .int i :: .ref (ad q) :: rest) := by
  obtain ⟨hx, hb, hml, hown, hts, hK, hN, hr, hlk⟩ := C
  intro H locs ls hP hD hS hl
  refine va_zast hx hb hK hP hD hS q 1 (wo_at ho) rfl hin d (fun H1 locs1 hP1 hD1 hS1 => ?_)
  rw [wo_set (f := upd (G q) i.toNatClampNeg (vp_nar .boolean v)) ho (by simp [kE, mrow])] at hP1 hD1
  exact k H1 locs1 ls hP1 hD1 hS1 hl
theorem xca (C : xC p s m args meth c cc own nL rt D cy) {q : Nat} {i : Int32} (ho : xO kd NP 17 q) (hin : vp_in i 80) (d : decode cc pc = .ok (.caload, 1)) (k : xX p l e R s m args below meth c A H0 D cy ad kd NP nL cells slots Q G (pc + 1) lv (.int (G q i.toNatClampNeg) :: rest)) : xX p l e R s m args below meth c A H0 D cy ad kd NP nL cells slots Q G pc lv (.int i :: .ref (ad q) :: rest) := by
  obtain ⟨hx, hb, hml, hown, hts, hK, hN, hr, hlk⟩ := C
  intro H locs ls hP hD hS hl
  exact va_cald hx hb hK hP q 2 (wo_at ho) rfl hin d (k H locs ls hP hD hS hl)
theorem xcs (C : xC p s m args meth c cc own nL rt D cy) {q : Nat} {i v : Int32} (ho : xO kd NP 17 q) (hin : vp_in i 80) (d : decode cc pc = .ok (.castore, 1)) (k : xX p l e R s m args below meth c A H0 D cy ad kd NP nL cells slots Q (mset G q i.toNatClampNeg (vp_nar .char v)) (pc + 1) lv rest) : xX p l e R s m args below meth c A H0 D cy ad kd NP nL cells slots Q G pc lv (.int v :: .int i :: .ref (ad q) :: rest) := by
  obtain ⟨hx, hb, hml, hown, hts, hK, hN, hr, hlk⟩ := C
  intro H locs ls hP hD hS hl
  refine va_cast hx hb hK hP hD hS q 2 (wo_at ho) rfl hin d (fun H1 locs1 hP1 hD1 hS1 => ?_)
  rw [wo_set (f := upd (G q) i.toNatClampNeg (vp_nar .char v)) ho (by simp [kE, mrow])] at hP1 hD1
  exact k H1 locs1 ls hP1 hD1 hS1 hl
theorem xaa_18 (C : xC p s m args meth c cc own nL rt D cy) {q : Nat} {i : Int32} (j : Nat) (hj : i.toNatClampNeg = j) (q' : Nat) (hq : q + 2 + 5 * j = q') (ho : xO kd NP 18 q) (hin : vp_in i 6) (d : decode cc pc = .ok (.aaload, 1)) (k : xX p l e R s m args below meth c A H0 D cy ad kd NP nL cells slots Q G (pc + 1) lv (.ref (ad q') :: rest)) : xX p l e R s m args below meth c A H0 D cy ad kd NP nL cells slots Q G pc lv (.int i :: .ref (ad q) :: rest) := by
  obtain ⟨hx, hb, hml, hown, hts, hK, hN, hr, hlk⟩ := C
  intro H locs ls hP hD hS hl
  subst hq; subst hj
  refine va_aldq hx hb hK hP q 3 (f := fun i => if i < 6 then some (ad (q + 2 + 5 * i)) else none) (wo_at ho) rfl hin d ?_
  rw [if_pos (vp_lt hin)]
  exact (k H locs ls hP hD hS hl)
theorem xaa_19 (C : xC p s m args meth c cc own nL rt D cy) {q : Nat} {i : Int32} (j : Nat) (hj : i.toNatClampNeg = j) (q' : Nat) (hq : q + 5 + 5 * j = q') (ho : xO kd NP 19 q) (hin : vp_in i 6) (d : decode cc pc = .ok (.aaload, 1)) (k : xX p l e R s m args below meth c A H0 D cy ad kd NP nL cells slots Q G (pc + 1) lv (.ref (ad q') :: rest)) : xX p l e R s m args below meth c A H0 D cy ad kd NP nL cells slots Q G pc lv (.int i :: .ref (ad q) :: rest) := by
  obtain ⟨hx, hb, hml, hown, hts, hK, hN, hr, hlk⟩ := C
  intro H locs ls hP hD hS hl
  subst hq; subst hj
  refine va_aldq hx hb hK hP q 4 (f := fun i => if i < 6 then some (ad (q + 5 + 5 * i)) else none) (wo_at ho) rfl hin d ?_
  rw [if_pos (vp_lt hin)]
  exact (k H locs ls hP hD hS hl)
theorem xaa_20 (C : xC p s m args meth c cc own nL rt D cy) {q : Nat} {i : Int32} (j : Nat) (hj : i.toNatClampNeg = j) (q' : Nat) (hq : q + 2 + 33 * j = q') (ho : xO kd NP 20 q) (hin : vp_in i 2) (d : decode cc pc = .ok (.aaload, 1)) (k : xX p l e R s m args below meth c A H0 D cy ad kd NP nL cells slots Q G (pc + 1) lv (.ref (ad q') :: rest)) : xX p l e R s m args below meth c A H0 D cy ad kd NP nL cells slots Q G pc lv (.int i :: .ref (ad q) :: rest) := by
  obtain ⟨hx, hb, hml, hown, hts, hK, hN, hr, hlk⟩ := C
  intro H locs ls hP hD hS hl
  subst hq; subst hj
  refine va_aldq hx hb hK hP q 5 (f := fun i => if i < 2 then some (ad (q + 2 + 33 * i)) else none) (wo_at ho) rfl hin d ?_
  rw [if_pos (vp_lt hin)]
  exact (k H locs ls hP hD hS hl)
theorem xaa_21 (C : xC p s m args meth c cc own nL rt D cy) {q : Nat} {i : Int32} (j : Nat) (hj : i.toNatClampNeg = j) (q' : Nat) (hq : q + 1 + 102 * j = q') (ho : xO kd NP 21 q) (hin : vp_in i 5) (d : decode cc pc = .ok (.aaload, 1)) (k : xX p l e R s m args below meth c A H0 D cy ad kd NP nL cells slots Q G (pc + 1) lv (.ref (ad q') :: rest)) : xX p l e R s m args below meth c A H0 D cy ad kd NP nL cells slots Q G pc lv (.int i :: .ref (ad q) :: rest) := by
  obtain ⟨hx, hb, hml, hown, hts, hK, hN, hr, hlk⟩ := C
  intro H locs ls hP hD hS hl
  subst hq; subst hj
  refine va_aldq hx hb hK hP q 6 (f := fun i => if i < 5 then some (ad (q + 1 + 102 * i)) else none) (wo_at ho) rfl hin d ?_
  rw [if_pos (vp_lt hin)]
  exact (k H locs ls hP hD hS hl)
theorem xcopy30 (C : xC p s m args meth c cc own nL rt D cy) {q q1 index : Nat} (ho : xO kd NP 10 q) (ho1 : xO kd NP 10 q1) (hlink : Cond.methodLink own index arraycopyName ∈ xAllW) (hnat : Cond.native arraycopyName ∈ xAllW) (hstat : Cond.static arraycopyName ∈ xAllW) (hini : Cond.initialized "java/lang/System" ∈ xAllW) (hR : 1 ≤ R.frames ∧ (rest.map fun v => v.category).sum + (nativeFrameWords "java/lang/System" "arraycopy" 5 + 11) ≤ R.locals) (d : decode cc pc = .ok (.invokestatic index, 3)) (k : xX p l e R s m args below meth c A H0 D cy ad kd NP nL cells slots Q (mrow G q1 (va_cpy (G q) (G q1) 0 0 30)) (pc + 3) lv rest) : xX p l e R s m args below meth c A H0 D cy ad kd NP nL cells slots Q G pc lv (.int (nI 30) :: .int (nI 0) :: .ref (ad q1) :: .int (nI 0) :: .ref (ad q) :: rest) := by
  obtain ⟨hx, hb, hml, hown, hts, hK, hN, hr, hlk⟩ := C
  intro H locs ls hP hD hS hl
  refine va_copyi hx hb (hml.trans hl.1.symm) hown (hts _ hlink) (hts _ hnat) (hts _ hstat) (hts _ hini) hK hP hD hS q q1 0 0 (wo_at ho) (wo_at ho1) rfl rfl rfl (by decide) (by decide) (by decide) (by decide) (by decide) (fun _ _ => rfl) hR.1 hR.2 d (fun H1 locs1 hP1 hD1 hS1 => ?_)
  rw [wo_set (f := va_cpy (G q) (G q1) 0 0 30) ho1 (by simp [kE, mrow]; rfl)] at hP1 hD1
  exact k H1 locs1 ls hP1 hD1 hS1 hl
theorem xmmin (C : xC p s m args meth c cc own nL rt D cy) {x y : Int32} {index : Nat} (hlink : Cond.methodLink own index Lib.Math.min.name ∈ xAllW) (hstat : Cond.static Lib.Math.min.name ∈ xAllW) (hini : Cond.initialized "java/lang/Math" ∈ xAllW) (hcode : Cond.code Lib.Math.min.name Lib.Math.min.code 2 (some .int) ∈ xAllW) (hR : 1 ≤ R.frames ∧ (rest.map fun v => v.category).sum + 13 ≤ R.locals) (hcs : cells ≤ R.cells ∧ slots ≤ R.slots) (d : decode cc pc = .ok (.invokestatic index, 3)) (k : xX p l e R s m args below meth c A H0 D cy ad kd NP nL cells slots Q G (pc + 3) lv (.int (if y < x then y else x) :: rest)) : xX p l e R s m args below meth c A H0 D cy ad kd NP nL cells slots Q G pc lv (.int y :: .int x :: rest) := by
  obtain ⟨hx, hb, hml, hown, hts, hK, hN, hr, hlk⟩ := C
  intro H locs ls hP hD hS hl
  exact va_mmin hx hb (hml.trans hl.1.symm) hown (hts _ hlink) (hts _ hstat) (hts _ hini) (hts _ hcode) hR.1 hR.2 hcs.1 hcs.2 d (k H locs ls hP hD hS hl)
theorem xmmax (C : xC p s m args meth c cc own nL rt D cy) {x y : Int32} {index : Nat} (hlink : Cond.methodLink own index Lib.Math.max.name ∈ xAllW) (hstat : Cond.static Lib.Math.max.name ∈ xAllW) (hini : Cond.initialized "java/lang/Math" ∈ xAllW) (hcode : Cond.code Lib.Math.max.name Lib.Math.max.code 2 (some .int) ∈ xAllW) (hR : 1 ≤ R.frames ∧ (rest.map fun v => v.category).sum + 13 ≤ R.locals) (hcs : cells ≤ R.cells ∧ slots ≤ R.slots) (d : decode cc pc = .ok (.invokestatic index, 3)) (k : xX p l e R s m args below meth c A H0 D cy ad kd NP nL cells slots Q G (pc + 3) lv (.int (if x < y then y else x) :: rest)) : xX p l e R s m args below meth c A H0 D cy ad kd NP nL cells slots Q G pc lv (.int y :: .int x :: rest) := by
  obtain ⟨hx, hb, hml, hown, hts, hK, hN, hr, hlk⟩ := C
  intro H locs ls hP hD hS hl
  exact va_mmax hx hb (hml.trans hl.1.symm) hown (hts _ hlink) (hts _ hstat) (hts _ hini) (hts _ hcode) hR.1 hR.2 hcs.1 hcs.2 d (k H locs ls hP hD hS hl)
theorem xiret (C : xC p s m args meth c cc own nL rt D cy) {v : Int32}  (hrt : rt = some .int) (d : decode cc pc = .ok (.ireturn, 1)) : xX p l e R s m args below meth c A s.heap D cy ad kd NP nL 0 0 (xQi below D cy ad kd NP A args s v G) G pc lv [.int v] := by
  obtain ⟨hx, hb, hml, hown, hts, hK, hN, hr, hlk⟩ := C
  intro H locs ls hP hD hS hl
  exact W.iret hx hb (hr.trans hrt) (fun t ht hW => ⟨⟨v, (), rfl, rfl, by show va_P D vwCl (wo cy ad kd G NP) t.heap; rw [ht]; exact hP⟩, hS.F ht⟩) hS.2.2 d hlk
theorem xzret (C : xC p s m args meth c cc own nL rt D cy) {v : Int32} (hz : v = 0 ∨ v = 1) (hrt : rt = some .boolean) (d : decode cc pc = .ok (.ireturn, 1)) : xX p l e R s m args below meth c A s.heap D cy ad kd NP nL 0 0 (xQi below D cy ad kd NP A args s v G) G pc lv [.int v] := by
  obtain ⟨hx, hb, hml, hown, hts, hK, hN, hr, hlk⟩ := C
  intro H locs ls hP hD hS hl
  exact W.zret hx hb (hr.trans hrt) (xz_nar hz) (fun t ht hW => ⟨⟨v, (), rfl, rfl, by show va_P D vwCl (wo cy ad kd G NP) t.heap; rw [ht]; exact hP⟩, hS.F ht⟩) hS.2.2 d hlk
theorem xc_nar {v : Int32} (h : vp_nar .char v = v) : narrow .char (.int v) = .int v := by
  have h1 : narrow .char (.int v) = .int (vp_nar .char v) := rfl
  rw [h1, h]
theorem xcret (C : xC p s m args meth c cc own nL rt D cy) {v : Int32} (hz : vp_nar .char v = v) (hrt : rt = some .char) (d : decode cc pc = .ok (.ireturn, 1)) : xX p l e R s m args below meth c A s.heap D cy ad kd NP nL 0 0 (xQi below D cy ad kd NP A args s v G) G pc lv [.int v] := by
  obtain ⟨hx, hb, hml, hown, hts, hK, hN, hr, hlk⟩ := C
  intro H locs ls hP hD hS hl
  exact W.zret hx hb (hr.trans hrt) (xc_nar hz) (fun t ht hW => ⟨⟨v, (), rfl, rfl, by show va_P D vwCl (wo cy ad kd G NP) t.heap; rw [ht]; exact hP⟩, hS.F ht⟩) hS.2.2 d hlk
theorem xvret (C : xC p s m args meth c cc own nL rt D cy) (hrt : rt = none) (d : decode cc pc = .ok (.return_, 1)) : xX p l e R s m args below meth c A s.heap D cy ad kd NP nL 0 0 (xQv below D cy ad kd NP A args s G) G pc lv [] := by
  obtain ⟨hx, hb, hml, hown, hts, hK, hN, hr, hlk⟩ := C
  intro H locs ls hP hD hS hl
  exact W.vret hx hb (hr.trans hrt) (fun t ht hW => ⟨⟨(), rfl, trivial, by show va_P D vwCl (wo cy ad kd G NP) t.heap; rw [ht]; exact hP⟩, hS.F ht⟩) hS.2.2 d hlk
/-- a method's words: its receiver's class, its descriptor; where they stand among the law's words -/
def xW (y : MethodName) (b : ByteArray) (n : Nat) (ret : Option FieldType) (k : Nat) : Prop := Cond.initialized y.cls ∈ xAllW ∧ Cond.code y b n ret ∈ xAllW ∧ y.cls ≠ "java/lang/invoke/MethodHandle" ∧ y.cls ≠ "java/lang/invoke/VarHandle" ∧ (parseMethodDescriptor y.desc).map (fun d => d.parameters.length) = some k
def xWv (y : MethodName) : Prop := Cond.instanceMethod y ∈ xAllW ∧ Cond.selects y.cls y y ∈ xAllW
theorem xWs_good {y : MethodName} {b : ByteArray} {n : Nat} {ret : Option FieldType} (h : Cond.code y b n ret ∈ xAllW) : GoodIn xAllW (xWs y b n ret) := fun w hw => by
  rcases List.mem_cons.mp hw with rfl | hw
  · exact xAll _ h
  · exact xAll _ hw
theorem xblind (as : List Value) : FrameBlind (va_Pc as (xPre D cy ad kd NP A G)) := fun a U g mk q => by
  obtain ⟨q0, qP, qD, qK, qN⟩ := q
  exact ⟨q0, qP, qD, va_K.moved (u := U) (U := U.calling g mk a) (Vm.Alike.refl U.vm) qK, xNs.same (s := U) (U := U.calling g mk a) rfl qN⟩
theorem xrecv {H : Heap} {ci q : Nat} {fs : List Value} {CN : String} {T : u_T} {N : Nat} (hK : va_K D vwCl (xT cy) s) (hP : va_P D vwCl (wo cy ad kd G NP) H) (ho : xO kd NP ci q) (he : kE cy ad G ci q = .inr (ci, fs)) (hc : vwCl[ci]? = some (CN, T, N)) : ∃ cell : Cell, H[ad q]? = some cell ∧ cell.vm.isStatics = false ∧ s.vm.findClass CN = some cell.cls :=
  va_recv hK hP hc (q0 := q) (by rw [wo_at ho, he])
theorem xVi (C : xC p s m args meth c cc own nL rt D cy) {y : MethodName} {b : ByteArray} {n : Nat} {ret : Option FieldType} {fr lo index : Nat} {As st : List Value} {G' : Mem} {r : Int32} {q ci : Nat} {fs : List Value} {T : u_T} {N : Nat} (hM : xMi l D cy ad kd NP A y b n ret fr lo (.ref (ad q) :: As) G r G') (ho : xO kd NP ci q) (he : kE cy ad G ci q = .inr (ci, fs)) (hcl : vwCl[ci]? = some (y.cls, T, N)) (hlink : Cond.methodLink own index y ∈ xAllW) (hwv : xWv y) (hw : xW y b n ret As.length) (hstk : st = As.reverse ++ .ref (ad q) :: rest) (hR : fr + 1 ≤ R.frames ∧ 8 + (n + 11) + lo ≤ R.locals) (hcs : cells ≤ R.cells ∧ slots ≤ R.slots) (hrs : (rest.map fun v => v.category).sum ≤ 8) (d : decode cc pc = .ok (.invokevirtual index, 3)) (k : xX p l e R s m args below meth c A H0 D cy ad kd NP nL cells slots Q G' (pc + 3) lv (.int r :: rest)) : xX p l e R s m args below meth c A H0 D cy ad kd NP nL cells slots Q G pc lv st := by
  obtain ⟨hx, hb, hml, hown, hts, hK, hN, hr, hlk⟩ := C
  intro H locs ls hP hD hS hl
  subst hstk
  refine va_calli (va_runV (C := y.cls) (As := As) (rest := rest) ⟨hx, hb, hml, hown, hts⟩ hM ⟨callB_of _ hts (xWs_good hw.2.1) rfl rfl rfl (hts _ hw.1) (hts _ hlink) hw.2.2 hR, hts _ hwv.1, hts _ hwv.2⟩ ⟨xblind _, xrecv hK hP ho he hcl, fun U hU hW => ⟨rfl, by rw [hU]; exact hP, hD, va_K.moved hW.alike hK, hN.warm hW⟩⟩ rfl rfl hl.1 rfl (lv_room hrs) d hcs) hS (fun _ _ h => h) (fun _ h => h) (fun r1 u t H1 locs1 ht hvm hw1 hB hz1 hk1 hS1 => ?_)
  rw [ht] at hB
  subst hw1
  exact k H1 locs1 ls hB (wo_D G' hD) hS1 hl
theorem xVv (C : xC p s m args meth c cc own nL rt D cy) {y : MethodName} {b : ByteArray} {n : Nat} {ret : Option FieldType} {fr lo index : Nat} {As st : List Value} {G' : Mem} {q ci : Nat} {fs : List Value} {T : u_T} {N : Nat} (hM : xMv l D cy ad kd NP A y b n ret fr lo (.ref (ad q) :: As) G G') (ho : xO kd NP ci q) (he : kE cy ad G ci q = .inr (ci, fs)) (hcl : vwCl[ci]? = some (y.cls, T, N)) (hlink : Cond.methodLink own index y ∈ xAllW) (hwv : xWv y) (hw : xW y b n ret As.length) (hstk : st = As.reverse ++ .ref (ad q) :: rest) (hR : fr + 1 ≤ R.frames ∧ 8 + (n + 11) + lo ≤ R.locals) (hcs : cells ≤ R.cells ∧ slots ≤ R.slots) (hrs : (rest.map fun v => v.category).sum ≤ 8) (d : decode cc pc = .ok (.invokevirtual index, 3)) (k : xX p l e R s m args below meth c A H0 D cy ad kd NP nL cells slots Q G' (pc + 3) lv rest) : xX p l e R s m args below meth c A H0 D cy ad kd NP nL cells slots Q G pc lv st := by
  obtain ⟨hx, hb, hml, hown, hts, hK, hN, hr, hlk⟩ := C
  intro H locs ls hP hD hS hl
  subst hstk
  refine va_callv (va_runV (C := y.cls) (As := As) (rest := rest) ⟨hx, hb, hml, hown, hts⟩ hM ⟨callB_of _ hts (xWs_good hw.2.1) rfl rfl rfl (hts _ hw.1) (hts _ hlink) hw.2.2 hR, hts _ hwv.1, hts _ hwv.2⟩ ⟨xblind _, xrecv hK hP ho he hcl, fun U hU hW => ⟨rfl, by rw [hU]; exact hP, hD, va_K.moved hW.alike hK, hN.warm hW⟩⟩ rfl rfl hl.1 rfl (lv_room hrs) d hcs) hS (fun _ _ h => h) (fun _ h => h) (fun u t H1 locs1 ht hvm hw1 hB hz1 hk1 hS1 => ?_)
  rw [ht] at hB
  exact k H1 locs1 ls hB (wo_D G' hD) hS1 hl
theorem xNi (C : xC p s m args meth c cc own nL rt D cy) {y : MethodName} {b : ByteArray} {n : Nat} {ret : Option FieldType} {fr lo index : Nat} {As st : List Value} {G' : Mem} {r : Int32} {q ci : Nat} {fs : List Value} {T : u_T} {N : Nat} (hM : xMi l D cy ad kd NP A y b n ret fr lo (.ref (ad q) :: As) G r G') (ho : xO kd NP ci q) (he : kE cy ad G ci q = .inr (ci, fs)) (hcl : vwCl[ci]? = some (y.cls, T, N)) (hlink : (own, index, y) ∈ xNM) (hwv : xWv y) (hw : xW y b n ret As.length) (hstk : st = As.reverse ++ .ref (ad q) :: rest) (hR : fr + 1 ≤ R.frames ∧ 8 + (n + 11) + lo ≤ R.locals) (hcs : cells ≤ R.cells ∧ slots ≤ R.slots) (hrs : (rest.map fun v => v.category).sum ≤ 8) (d : decode cc pc = .ok (.invokevirtual index, 3)) (k : xX p l e R s m args below meth c A H0 D cy ad kd NP nL cells slots Q G' (pc + 3) lv (.int r :: rest)) : xX p l e R s m args below meth c A H0 D cy ad kd NP nL cells slots Q G pc lv st := by
  obtain ⟨hx, hb, hml, hown, hts, hK, hN, hr, hlk⟩ := C
  intro H locs ls hP hD hS hl
  subst hstk
  refine va_calli (va_runVN (C := y.cls) (As := As) (rest := rest) ⟨hx, hb, hml, hown, hts⟩ hM ⟨va_cnB _ hts (xWs_good hw.2.1) rfl rfl rfl (hN.2.1 _ hlink) (hts _ hw.1) hw.2.2 hR, hts _ hwv.1, hts _ hwv.2⟩ ⟨xblind _, xrecv hK hP ho he hcl, fun U hU hW => ⟨rfl, by rw [hU]; exact hP, hD, va_K.moved hW.alike hK, hN.warm hW⟩⟩ rfl rfl hl.1 rfl (lv_room hrs) d hcs) hS (fun _ _ h => h) (fun _ h => h) (fun r1 u t H1 locs1 ht hvm hw1 hB hz1 hk1 hS1 => ?_)
  rw [ht] at hB
  subst hw1
  exact k H1 locs1 ls hB (wo_D G' hD) hS1 hl
theorem xNv (C : xC p s m args meth c cc own nL rt D cy) {y : MethodName} {b : ByteArray} {n : Nat} {ret : Option FieldType} {fr lo index : Nat} {As st : List Value} {G' : Mem} {q ci : Nat} {fs : List Value} {T : u_T} {N : Nat} (hM : xMv l D cy ad kd NP A y b n ret fr lo (.ref (ad q) :: As) G G') (ho : xO kd NP ci q) (he : kE cy ad G ci q = .inr (ci, fs)) (hcl : vwCl[ci]? = some (y.cls, T, N)) (hlink : (own, index, y) ∈ xNM) (hwv : xWv y) (hw : xW y b n ret As.length) (hstk : st = As.reverse ++ .ref (ad q) :: rest) (hR : fr + 1 ≤ R.frames ∧ 8 + (n + 11) + lo ≤ R.locals) (hcs : cells ≤ R.cells ∧ slots ≤ R.slots) (hrs : (rest.map fun v => v.category).sum ≤ 8) (d : decode cc pc = .ok (.invokevirtual index, 3)) (k : xX p l e R s m args below meth c A H0 D cy ad kd NP nL cells slots Q G' (pc + 3) lv rest) : xX p l e R s m args below meth c A H0 D cy ad kd NP nL cells slots Q G pc lv st := by
  obtain ⟨hx, hb, hml, hown, hts, hK, hN, hr, hlk⟩ := C
  intro H locs ls hP hD hS hl
  subst hstk
  refine va_callv (va_runVN (C := y.cls) (As := As) (rest := rest) ⟨hx, hb, hml, hown, hts⟩ hM ⟨va_cnB _ hts (xWs_good hw.2.1) rfl rfl rfl (hN.2.1 _ hlink) (hts _ hw.1) hw.2.2 hR, hts _ hwv.1, hts _ hwv.2⟩ ⟨xblind _, xrecv hK hP ho he hcl, fun U hU hW => ⟨rfl, by rw [hU]; exact hP, hD, va_K.moved hW.alike hK, hN.warm hW⟩⟩ rfl rfl hl.1 rfl (lv_room hrs) d hcs) hS (fun _ _ h => h) (fun _ h => h) (fun u t H1 locs1 ht hvm hw1 hB hz1 hk1 hS1 => ?_)
  rw [ht] at hB
  exact k H1 locs1 ls hB (wo_D G' hD) hS1 hl
theorem xSi (C : xC p s m args meth c cc own nL rt D cy) {y : MethodName} {b : ByteArray} {n : Nat} {ret : Option FieldType} {fr lo index : Nat} {As st : List Value} {G' : Mem} {r : Int32} (hM : xMi l D cy ad kd NP A y b n ret fr lo As G r G') (hlink : Cond.methodLink own index y ∈ xAllW) (hst : Cond.static y ∈ xAllW) (hw : xW y b n ret As.length) (hstk : st = As.reverse ++ rest) (hR : fr + 1 ≤ R.frames ∧ 8 + (n + 11) + lo ≤ R.locals) (hcs : cells ≤ R.cells ∧ slots ≤ R.slots) (hrs : (rest.map fun v => v.category).sum ≤ 8) (d : decode cc pc = .ok (.invokestatic index, 3)) (k : xX p l e R s m args below meth c A H0 D cy ad kd NP nL cells slots Q G' (pc + 3) lv (.int r :: rest)) : xX p l e R s m args below meth c A H0 D cy ad kd NP nL cells slots Q G pc lv st := by
  obtain ⟨hx, hb, hml, hown, hts, hK, hN, hr, hlk⟩ := C
  intro H locs ls hP hD hS hl
  subst hstk
  refine va_calli (va_runS (As := As) (rest := rest) ⟨hx, hb, hml, hown, hts⟩ hM ⟨callB_of _ hts (xWs_good hw.2.1) rfl rfl rfl (hts _ hw.1) (hts _ hlink) hw.2.2 hR, hts _ hst⟩ ⟨xblind _, fun U hU hW => ⟨rfl, by rw [hU]; exact hP, hD, va_K.moved hW.alike hK, hN.warm hW⟩⟩ rfl rfl hl.1 rfl (lv_room hrs) d hcs) hS (fun _ _ h => h) (fun _ h => h) (fun r1 u t H1 locs1 ht hvm hw1 hB hz1 hk1 hS1 => ?_)
  rw [ht] at hB
  subst hw1
  exact k H1 locs1 ls hB (wo_D G' hD) hS1 hl
theorem xSv (C : xC p s m args meth c cc own nL rt D cy) {y : MethodName} {b : ByteArray} {n : Nat} {ret : Option FieldType} {fr lo index : Nat} {As st : List Value} {G' : Mem} (hM : xMv l D cy ad kd NP A y b n ret fr lo As G G') (hlink : Cond.methodLink own index y ∈ xAllW) (hst : Cond.static y ∈ xAllW) (hw : xW y b n ret As.length) (hstk : st = As.reverse ++ rest) (hR : fr + 1 ≤ R.frames ∧ 8 + (n + 11) + lo ≤ R.locals) (hcs : cells ≤ R.cells ∧ slots ≤ R.slots) (hrs : (rest.map fun v => v.category).sum ≤ 8) (d : decode cc pc = .ok (.invokestatic index, 3)) (k : xX p l e R s m args below meth c A H0 D cy ad kd NP nL cells slots Q G' (pc + 3) lv rest) : xX p l e R s m args below meth c A H0 D cy ad kd NP nL cells slots Q G pc lv st := by
  obtain ⟨hx, hb, hml, hown, hts, hK, hN, hr, hlk⟩ := C
  intro H locs ls hP hD hS hl
  subst hstk
  refine va_callv (va_runS (As := As) (rest := rest) ⟨hx, hb, hml, hown, hts⟩ hM ⟨callB_of _ hts (xWs_good hw.2.1) rfl rfl rfl (hts _ hw.1) (hts _ hlink) hw.2.2 hR, hts _ hst⟩ ⟨xblind _, fun U hU hW => ⟨rfl, by rw [hU]; exact hP, hD, va_K.moved hW.alike hK, hN.warm hW⟩⟩ rfl rfl hl.1 rfl (lv_room hrs) d hcs) hS (fun _ _ h => h) (fun _ h => h) (fun u t H1 locs1 ht hvm hw1 hB hz1 hk1 hS1 => ?_)
  rw [ht] at hB
  exact k H1 locs1 ls hB (wo_D G' hD) hS1 hl
theorem xMi_of {y : MethodName} {b : ByteArray} {n fr lo : Nat} {ret : Option FieldType} {as : List Value} {r : Int32} {G' : Mem} (hA : True) (hy : plainName y.cls = true) (hn : (lg_sl as).length ≤ n)
    (body : ∀ (p : Program) (e : Env) (s : State) (m : MethodId) (args : Array Value) (below : List Frame) (meth : Method) (c : Code), xC p s m args meth c b y.cls n ret D cy → xX p l e (xR fr lo) s m args below meth c A s.heap D cy ad kd NP n 0 0 (xQi below D cy ad kd NP A args s r G') G 0 (lv_args 0 as) []) : xMi l D cy ad kd NP A y b n ret fr lo as G r G' := by
  refine Met.ofW (cc := b) (maxL := n) (ret := ret) hy rfl ?_
  intro p e s m args below meth c s₁ B hml hv
  obtain ⟨rfl, hP, hD, hK, hN⟩ := hv
  have hts := atoms_spec (ws := xWs y b n ret) B.pre
  have hl := lv_entry as hn
  rw [lg_entry_eq]
  exact body p e s m as.toArray below meth c ⟨B.exec, B.bytes, hml, findClass_of_methodNamed B.named, fun w hw => hts w (List.mem_cons_of_mem _ hw), hK, hN, B.returns, B.notSynchronized⟩ s.heap [] _ hP hD va_S.rf hl
theorem xMv_of {y : MethodName} {b : ByteArray} {n fr lo : Nat} {ret : Option FieldType} {as : List Value} {G' : Mem} (hA : True) (hy : plainName y.cls = true) (hn : (lg_sl as).length ≤ n)
    (body : ∀ (p : Program) (e : Env) (s : State) (m : MethodId) (args : Array Value) (below : List Frame) (meth : Method) (c : Code), xC p s m args meth c b y.cls n ret D cy → xX p l e (xR fr lo) s m args below meth c A s.heap D cy ad kd NP n 0 0 (xQv below D cy ad kd NP A args s G') G 0 (lv_args 0 as) []) : xMv l D cy ad kd NP A y b n ret fr lo as G G' := by
  refine Met.ofW (cc := b) (maxL := n) (ret := ret) hy rfl ?_
  intro p e s m args below meth c s₁ B hml hv
  obtain ⟨rfl, hP, hD, hK, hN⟩ := hv
  have hts := atoms_spec (ws := xWs y b n ret) B.pre
  have hl := lv_entry as hn
  rw [lg_entry_eq]
  exact body p e s m as.toArray below meth c ⟨B.exec, B.bytes, hml, findClass_of_methodNamed B.named, fun w hw => hts w (List.mem_cons_of_mem _ hw), hK, hN, B.returns, B.notSynchronized⟩ s.heap [] _ hP hD va_S.rf hl
end
