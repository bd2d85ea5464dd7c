theorem itr_inv {σ ρ : Type} {F : (σ → Option ρ) → σ → Option ρ} (I : Nat → σ → Prop) (L : Nat) (hs : ∀ i s, i < L → I i s → ∃ s', I (i + 1) s' ∧ ∀ rec, F rec s = rec s') (s0 : σ) (h0 : I 0 s0) (hL : L < 10000) : ∃ s', I L s' ∧ ∃ rec', itr FU F s0 = F rec' s' := by
  have key : ∀ (d i n : Nat) (s : σ), i + d = L → d < n → I i s → ∃ s', I L s' ∧ ∃ rec', itr n F s = F rec' s' := by
    intro d
    induction d with
    | zero =>
      intro i n s hi hn hI
      obtain ⟨k, rfl⟩ : ∃ k, n = k + 1 := ⟨n - 1, by omega⟩
      obtain rfl : i = L := by omega
      exact ⟨s, hI, itr k F, rfl⟩
    | succ d ih =>
      intro i n s hi hn hI
      obtain ⟨k, rfl⟩ : ∃ k, n = k + 1 := ⟨n - 1, by omega⟩
      obtain ⟨s1, h1, h2⟩ := hs i s (by omega) hI
      obtain ⟨s', h3, r, h4⟩ := ih (i + 1) k s1 (by omega) (by omega) h1
      exact ⟨s', h3, r, by show F (itr k F) s = _; rw [h2, h4]⟩
  exact key L 0 FU s0 (by omega) (by show L < 10000; omega) h0
/-- a chain grows by a week -/
def growc (w x : Nat) : Nat := if x % 4 = 3 then (if x / 64 = 5 then 4 else x + 64) else if x % 4 = 0 ∧ w % 4 = 0 then 4 * (if x / 4 % 16 < 9 then x / 4 % 16 + 1 else 9) else if x % 4 = 1 ∧ w % 52 = 0 then (if 7 < x / 4 % 16 then 36 else 1 + 4 * (x / 4 % 16 + 2)) else x
theorem okc_x {x : Nat} (h : x < 1024) : x = x % 4 + 4 * (x / 4 % 16) + 64 * (x / 64) := by omega
theorem okc_grow {w x : Nat} (h : okc x) : okc (growc w x) := by
  obtain ⟨h0, h⟩ := h
  unfold growc okc
  rcases h with ⟨h1, h2, h3, h4⟩ | ⟨h1, h2, h3, h4⟩ | ⟨h1, h2, h3⟩ | ⟨h1, h2, h3⟩
  · rw [if_neg (by omega)]
    by_cases hw : w % 4 = 0
    · rw [if_pos ⟨h1, hw⟩]; split <;> omega
    · rw [if_neg (by omega), if_neg (by omega)]; omega
  · rw [if_neg (by omega), if_neg (by omega)]
    by_cases hw : w % 52 = 0
    · rw [if_pos ⟨h1, hw⟩]; split <;> omega
    · rw [if_neg (by omega)]; omega
  · rw [if_neg (by omega), if_neg (by omega), if_neg (by omega)]; omega
  · rw [if_pos h1]; split <;> omega
section
variable {q n : Nat} {ch : Nat → Nat} {G : Mem}
theorem chg_c {c k t : Nat} (h : HR q n ch G) (hn : n ≤ 30) (hc : c < n) (hk : k < 4) (ht : t < 16) : ∃ G', fX1_changeChain q (nI c) (nI k) (nI t) G = some G' ∧ HR q n (fun j => if j = c then k + 4 * t else ch j) G' ∧ Fr q G G' := ⟨_, changeChain_eq h.1 hn hc, hSet_HR h hc hk ht, hSet_Fr⟩
theorem growOlder_c {c : Nat} (h : HR q n ch G) (hn : n ≤ 30) (hc : c < n) (hx : okc (ch c)) (h3 : ch c % 4 = 3) : ∃ G', fX1_growOlder q (nI c) G = some G' ∧ HR q n (fun j => if j = c then (if ch c / 64 = 5 then 4 else ch c + 64) else ch j) G' ∧ Fr q G G' := by
  unfold fX1_growOlder
  obtain ⟨hx0, hx⟩ := hx
  rw [age_c h hn hc, bd_some', nI_add]
  by_cases h5 : ch c / 64 = 5
  · rw [if_neg (by rw [nI_ltI (by omega) (by omega)]; omega), if_pos h5]
    obtain ⟨G', e1, e2, e3⟩ := chg_c (k := 0) (t := 1) h hn hc (by omega) (by omega)
    rw [e1, bv_some']
    exact ⟨G', rfl, e2, e3⟩
  · rw [if_pos (by rw [nI_ltI (by omega) (by omega)]; omega), if_neg h5, has_c h hn hc, bd_some', if_neg (by decide), nI_ix (by omega) (by omega), nI_ix (by omega) (by omega), nI_clamp (by omega), lt_def, (h.2 c hc).2.2, nI_add]
    refine ⟨_, rfl, ⟨?_, fun j hj => ?_⟩, fun a ha => mset_ne (by omega)⟩
    · rw [mset_at, if_neg (by omega)]; exact h.1
    · rw [mset_at, mset_at, mset_at, if_neg (by omega), if_neg (by omega)]
      by_cases hjc : j = c
      · subst hjc
        simp only [if_pos rfl, if_pos (show q + 3 = q + 3 ∧ j = j from ⟨rfl, rfl⟩), reduceIte]
        have := h.2 j hj
        rw [this.1, this.2.1, show (ch j + 64) % 4 = ch j % 4 by omega, show (ch j + 64) / 4 % 16 = ch j / 4 % 16 by omega, show (ch j + 64) / 64 = ch j / 64 + 1 by omega]
        exact ⟨rfl, rfl, rfl⟩
      · simp only [if_neg hjc, if_neg (show ¬ (q + 3 = q + 3 ∧ j = c) from fun z => hjc z.2), hjc, and_false, if_false]
        exact h.2 j hj
theorem growLaid_c {c : Nat} (h : HR q n ch G) (hn : n ≤ 30) (hc : c < n) (hx : okc (ch c)) (h1 : ch c % 4 = 1) : ∃ G', fX1_growLaid q (nI c) G = some G' ∧ HR q n (fun j => if j = c then (if 7 < ch c / 4 % 16 then 36 else 1 + 4 * (ch c / 4 % 16 + 2)) else ch j) G' ∧ Fr q G G' := by
  unfold fX1_growLaid
  obtain ⟨hx0, hx⟩ := hx
  rw [thick_c h hn hc, bd_some', nI_add]
  by_cases h7 : 7 < ch c / 4 % 16
  · rw [if_neg (by rw [nI_leI (by omega) (by omega)]; omega), if_pos h7]
    obtain ⟨G', e1, e2, e3⟩ := chg_c (k := 0) (t := 9) h hn hc (by omega) (by omega)
    rw [e1, bv_some']
    exact ⟨G', rfl, e2, e3⟩
  · rw [if_pos (by rw [nI_leI (by omega) (by omega)]; omega), if_neg h7]
    obtain ⟨G', e1, e2, e3⟩ := chg_c (k := 1) (t := ch c / 4 % 16 + 2) h hn hc (by omega) (by omega)
    rw [e1, bv_some']
    exact ⟨G', rfl, e2, e3⟩
theorem nI_rem {a d : Nat} (ha : a < 2 ^ 31) (h0 : 0 < d) (hd : d < 2 ^ 31) : nI a - nI a / nI d * nI d = nI (a % d) := pk_rem ha h0 hd
theorem grow_eq {w : Nat} (h : HR q n ch G) (hn : n ≤ 30) (hx : ∀ c, c < n → okc (ch c)) (hw : w < 100000) : ∃ G', fX1_grow q (nI w) G = some G' ∧ HR q n (fun c => growc w (ch c)) G' ∧ Fr q G G' := by
  unfold fX1_grow
  have step : ∀ i (s : Int32 × Mem), i < n → (s.1 = nI i ∧ HR q n (fun c => if c < i then growc w (ch c) else ch c) s.2 ∧ Fr q G s.2) → ∃ s' : Int32 × Mem, (s'.1 = nI (i + 1) ∧ HR q n (fun c => if c < i + 1 then growc w (ch c) else ch c) s'.2 ∧ Fr q G s'.2) ∧ ∀ rec, FX1_grow_2 q (nI w) rec s = rec s' := by
    intro i s hi hI
    obtain ⟨i', Gi⟩ := s
    obtain ⟨h1, h2, h3⟩ := hI
    dsimp only at h1 h2 h3
    subst h1
    have hci : (if i < i then growc w (ch i) else ch i) = ch i := if_neg (by omega)
    have hok := hx i hi
    have hk4 : ch i % 4 < 4 := by omega
    have key : ∃ G1 : Mem, (∀ rec, bX1_grow_2 q (nI w) rec (nI i) Gi = rec (nI (i + 1), G1)) ∧ HR q n (fun j => if j = i then growc w (ch i) else (fun c => if c < i then growc w (ch c) else ch c) j) G1 ∧ Fr q Gi G1 := by
      unfold bX1_grow_2
      have r4 : nI w - nI w / nI 4 * nI 4 = nI (w % 4) := nI_rem (by omega) (by omega) (by omega)
      have r52 : nI w - nI w / nI 52 * nI 52 = nI (w % 52) := nI_rem (by omega) (by omega) (by omega)
      have nle : ¬ nI n ≤ nI i := by rw [nI_leI (by omega) (by omega)]; omega
      simp only [h2.1, if_neg nle, kindOf_c h2 hn hi, bd_some', hci, nI_add, jX1_grow_60, r4, r52]
      unfold growc
      by_cases k3 : ch i % 4 = 3
      · obtain ⟨G1, a1, a2, a3⟩ := growOlder_c h2 hn hi (by rw [hci]; exact hok) (by rw [hci]; exact k3)
        rw [hci] at a2
        refine ⟨G1, fun rec => ?_, ?_, a3⟩
        · rw [if_pos (by rw [k3]), a1, bv_some']
        · rw [if_pos k3]; exact a2
      · rw [if_neg k3]
        have n3 : ¬ nI (ch i % 4) = nI 3 := by rw [nI_eq (by omega) (by omega)]; exact k3
        simp only [if_neg n3]
        by_cases k0 : ch i % 4 = 0
        · have n0 : nI (ch i % 4) = nI 0 := by rw [k0]
          have n1 : ¬ nI (ch i % 4) = nI 1 := by rw [nI_eq (by omega) (by omega)]; omega
          by_cases w4 : w % 4 = 0
          · rw [if_pos ⟨k0, w4⟩]
            have e4 : nI (w % 4) = nI 0 := by rw [w4]
            have m9 : (if nI 9 < nI (ch i / 4 % 16 + 1) then nI 9 else nI (ch i / 4 % 16 + 1)) = nI (if ch i / 4 % 16 < 9 then ch i / 4 % 16 + 1 else 9) := by
              by_cases h9 : ch i / 4 % 16 < 9
              · rw [if_neg (by rw [nI_ltI (by omega) (by omega)]; omega), if_pos h9]
              · rw [if_pos (by rw [nI_ltI (by omega) (by omega)]; omega), if_neg h9]
            obtain ⟨G1, a1, a2, a3⟩ := chg_c (k := 0) (t := if ch i / 4 % 16 < 9 then ch i / 4 % 16 + 1 else 9) h2 hn hi (by omega) (by split <;> omega)
            refine ⟨G1, fun rec => ?_, ?_, a3⟩
            · rw [if_pos n0, if_pos e4, thick_c h2 hn hi, bd_some', hci, nI_add, m9, a1, bv_some']
            · rw [Nat.zero_add] at a2; exact a2
          · rw [if_neg (fun z => w4 z.2), if_neg (fun z => by omega)]
            have e4 : ¬ nI (w % 4) = nI 0 := by rw [nI_eq (by omega) (by omega)]; exact w4
            refine ⟨Gi, fun rec => ?_, h2.ext (fun c hc => ?_), Fr.rf⟩
            · rw [if_pos n0, if_neg e4, if_neg n1]
            · by_cases hci' : c = i
              · subst hci'; rw [if_pos rfl]; exact hci.symm
              · rw [if_neg hci']; rfl
        · have n0 : ¬ nI (ch i % 4) = nI 0 := by rw [nI_eq (by omega) (by omega)]; exact k0
          rw [if_neg (fun z => k0 z.1)]
          by_cases k1 : ch i % 4 = 1
          · have n1 : nI (ch i % 4) = nI 1 := by rw [k1]
            by_cases w52 : w % 52 = 0
            · rw [if_pos ⟨k1, w52⟩]
              have e5 : nI (w % 52) = nI 0 := by rw [w52]
              obtain ⟨G1, a1, a2, a3⟩ := growLaid_c h2 hn hi (by rw [hci]; exact hok) (by rw [hci]; exact k1)
              rw [hci] at a2
              refine ⟨G1, fun rec => ?_, a2, a3⟩
              rw [if_neg n0, if_pos n1, if_pos e5, a1, bv_some']
            · rw [if_neg (fun z => w52 z.2)]
              have e5 : ¬ nI (w % 52) = nI 0 := by rw [nI_eq (by omega) (by omega)]; exact w52
              refine ⟨Gi, fun rec => ?_, h2.ext (fun c hc => ?_), Fr.rf⟩
              · rw [if_neg n0, if_pos n1, if_neg e5]
              · by_cases hci' : c = i
                · subst hci'; rw [if_pos rfl]; exact hci.symm
                · rw [if_neg hci']; rfl
          · have n1 : ¬ nI (ch i % 4) = nI 1 := by rw [nI_eq (by omega) (by omega)]; exact k1
            rw [if_neg (fun z => k1 z.1)]
            refine ⟨Gi, fun rec => ?_, h2.ext (fun c hc => ?_), Fr.rf⟩
            · rw [if_neg n0, if_neg n1]
            · by_cases hci' : c = i
              · subst hci'; rw [if_pos rfl]; exact hci.symm
              · rw [if_neg hci']; rfl
    obtain ⟨G1, a1, a2, a3⟩ := key
    refine ⟨(nI (i + 1), G1), ⟨rfl, a2.ext (fun c hc => ?_), h3.tr a3⟩, fun rec => a1 rec⟩
    by_cases hci' : c = i
    · subst hci'
      rw [if_pos rfl, if_pos (by omega)]
    · rw [if_neg hci']
      show _ = (if c < i then growc w (ch c) else ch c)
      by_cases hlt : c < i
      · rw [if_pos hlt, if_pos (by omega)]
      · rw [if_neg hlt, if_neg (by omega)]
  obtain ⟨s', ⟨e1, e2, e3⟩, r, e4⟩ := itr_inv (F := FX1_grow_2 q (nI w)) (fun i s => s.1 = nI i ∧ HR q n (fun c => if c < i then growc w (ch c) else ch c) s.2 ∧ Fr q G s.2) n step (nI 0, G) ⟨rfl, h.ext (fun c _ => if_neg (by omega)), Fr.rf⟩ (by omega)
  refine ⟨s'.2, ?_, e2.ext (fun c hc => (if_pos hc).symm), e3⟩
  rw [e4]
  show bX1_grow_2 q (nI w) r s'.1 s'.2 = _
  unfold bX1_grow_2
  rw [e1, e2.1, if_pos (by rw [nI_leI (by omega) (by omega)]; omega)]
/-- the work, the stakes, the stakes that can be cut -/
def tk (x : Nat) : Nat := if x % 4 = 0 ∧ 2 ≤ x / 4 % 16 then x / 4 % 16 else 0
def stk (t : Nat) : Nat := if t < 3 then 0 else if t = 3 then 3 else if t = 4 then 4 else if t = 5 then 8 else if t = 6 then 10 else if t = 7 then 15 else if t = 8 then 18 else 24
def sm (f : Nat → Nat) (ch : Nat → Nat) : Nat → Nat
  | 0 => 0
  | n + 1 => sm f ch n + f (ch n)
theorem sm_le {f : Nat → Nat} {m : Nat} (h : ∀ c, c < n → f (ch c) ≤ m) : sm f ch n ≤ m * n := by
  induction n with
  | zero => exact Nat.le_refl 0
  | succ n ih =>
    show sm f ch n + f (ch n) ≤ m * (n + 1)
    have := ih (fun c hc => h c (by omega))
    have := h n (by omega)
    rw [Nat.mul_add]
    omega
theorem tk_le (x : Nat) : tk x ≤ 15 := by unfold tk; split <;> omega
theorem stk_le (x : Nat) : stk x ≤ 24 := by unfold stk; repeat' (first | omega | split)
theorem workToLay_eq (h : HR q n ch G) (hn : n ≤ 30) : fX1_workToLay q G = some (nI (sm tk ch n), G) := by
  unfold fX1_workToLay
  refine itr_run (fun i : Nat => (nI (sm tk ch i), nI i, G)) n (fun i hi rec => ?_) (by omega) (fun rec => ?_)
  · show bX1_workToLay_4 q rec (nI (sm tk ch i)) (nI i) G = rec (nI (sm tk ch i + tk (ch i)), nI (i + 1), G)
    unfold bX1_workToLay_4
    rw [h.1, if_neg (by rw [nI_leI (by omega) (by omega)]; omega), isToLay_c h hn hi, bd_some', nI_add]
    unfold tk
    by_cases h1 : ch i % 4 = 0 ∧ 2 ≤ ch i / 4 % 16
    · rw [if_pos h1, if_neg (by decide), thick_c h hn hi, bd_some', nI_add, if_pos h1]
    · rw [if_neg h1, if_pos rfl, if_neg h1]; rfl
  · show bX1_workToLay_4 q rec _ (nI n) G = _
    unfold bX1_workToLay_4
    rw [h.1, if_pos (by rw [nI_leI (by omega) (by omega)]; omega)]
theorem stakesToLay_eq (h : HR q n ch G) (hn : n ≤ 30) : fX1_stakesToLay q G = some (nI (sm (fun x => if 0 < tk x then 2 else 0) ch n), G) := by
  unfold fX1_stakesToLay
  refine itr_run (fun i : Nat => (nI (sm (fun x => if 0 < tk x then 2 else 0) ch i), nI i, G)) n (fun i hi rec => ?_) (by omega) (fun rec => ?_)
  · show bX1_stakesToLay_4 q rec (nI _) (nI i) G = rec (nI (sm (fun x => if 0 < tk x then 2 else 0) ch i + (if 0 < tk (ch i) then 2 else 0)), nI (i + 1), G)
    unfold bX1_stakesToLay_4
    rw [h.1, if_neg (by rw [nI_leI (by omega) (by omega)]; omega), isToLay_c h hn hi, bd_some', nI_add, nI_add]
    unfold tk
    by_cases h1 : ch i % 4 = 0 ∧ 2 ≤ ch i / 4 % 16
    · rw [if_pos h1, if_neg (by decide), if_pos h1, if_pos (by omega)]
    · rw [if_neg h1, if_pos rfl, if_neg h1, if_neg (by omega)]; rfl
  · show bX1_stakesToLay_4 q rec _ (nI n) G = _
    unfold bX1_stakesToLay_4
    rw [h.1, if_pos (by rw [nI_leI (by omega) (by omega)]; omega)]
theorem nI_m2 {b : Nat} (h : 2 ≤ b) : nI b + Int32.ofInt (-2) = nI (b - 2) := by
  have h1 : nI b = nI (b - 2) + nI 2 := by rw [nI_add]; congr 1; omega
  rw [h1, Int32.add_assoc, show nI 2 + Int32.ofInt (-2) = 0 from by decide, Int32.add_zero]
theorem stk_step : ∀ t, t < 10 → ∀ i, i < 4 → i < (t - 1) / 2 → stk t - stk (t - 2 * i) + (t - 2 * i) = stk t - stk (t - 2 * (i + 1)) ∧ 3 ≤ t - 2 * i := by decide
theorem stk_last : ∀ t, t < 10 → stk t - stk (t - 2 * ((t - 1) / 2)) = stk t ∧ t - 2 * ((t - 1) / 2) < 3 := by decide
theorem stakesOf_eq {t : Nat} (ht : t ≤ 9) : fX1_stakesOf (nI t) G = some (nI (stk t), G) := by
  unfold fX1_stakesOf
  have h0 : ((nI 0, nI t, G) : Int32 × Int32 × Mem) = (fun i : Nat => (nI (stk t - stk (t - 2 * i)), nI (t - 2 * i), G)) 0 := by
    show _ = (nI (stk t - stk (t - 2 * 0)), nI (t - 2 * 0), G)
    rw [Nat.mul_zero, Nat.sub_zero, Nat.sub_self]
  rw [h0]
  refine itr_run (fun i : Nat => (nI (stk t - stk (t - 2 * i)), nI (t - 2 * i), G)) ((t - 1) / 2) (fun i hi rec => ?_) (by omega) (fun rec => ?_)
  · show bX1_stakesOf_4 rec (nI _) (nI (t - 2 * i)) G = _
    obtain ⟨h1, h2⟩ := stk_step t (by omega) i (by omega) hi
    unfold bX1_stakesOf_4
    rw [if_neg (by rw [nI_ltI (by omega) (by omega)]; omega), nI_add, nI_m2 (by omega), h1]
    congr 4
  · show bX1_stakesOf_4 rec (nI _) (nI (t - 2 * ((t - 1) / 2))) G = _
    obtain ⟨h1, h2⟩ := stk_last t (by omega)
    unfold bX1_stakesOf_4
    rw [if_pos (by rw [nI_ltI (by omega) (by omega)]; omega), h1]
def sc (x : Nat) : Nat := if x % 4 = 0 then stk (x / 4 % 16) else 0
theorem stakesToCut_eq (h : HR q n ch G) (hn : n ≤ 30) (hx : ∀ c, c < n → okc (ch c)) : fX1_stakesToCut q G = some (nI (sm sc ch n), G) := by
  unfold fX1_stakesToCut
  refine itr_run (fun i : Nat => (nI (sm sc ch i), nI i, G)) n (fun i hi rec => ?_) (by omega) (fun rec => ?_)
  · show bX1_stakesToCut_4 q rec (nI _) (nI i) G = rec (nI (sm sc ch i + sc (ch i)), nI (i + 1), G)
    unfold bX1_stakesToCut_4
    obtain ⟨-, hok⟩ := hx i hi
    rw [h.1, if_neg (by rw [nI_leI (by omega) (by omega)]; omega), kindOf_c h hn hi, bd_some', nI_add]
    unfold sc
    by_cases h1 : ch i % 4 = 0
    · rw [if_pos (by rw [h1]), thick_c h hn hi, bd_some', stakesOf_eq (by omega), bd_some', nI_add, if_pos h1]
    · rw [if_neg (by rw [nI_eq (by omega) (by omega)]; exact h1), if_neg h1]; rfl
  · show bX1_stakesToCut_4 q rec _ (nI n) G = _
    unfold bX1_stakesToCut_4
    rw [h.1, if_pos (by rw [nI_leI (by omega) (by omega)]; omega)]
end
