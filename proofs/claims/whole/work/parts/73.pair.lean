/-! THE CLASS AND THE REFERENCE, side by side -/
def StP (b : Nat) (G : Mem) : Prop := ∃ (nx : Nat) (S W Tx : Nat → Nat) (h n : Nat), CRel nx S W Tx h n G ∧ MR S W Tx h n G ∧ CInv b S W h
def Pair (b : Nat) (f g : Mem → Option (Int32 × Mem)) : Prop := ∀ G, StP b G → ∃ (r : Int32) (G1 G2 : Mem), f G = some (r, G1) ∧ g G1 = some (r, G2) ∧ StP (b + 100000) G2
section
variable {G G' : Mem} {S W Tx : Nat → Nat} {nx h n b : Nat}
theorem MR.x (hM : MR S W Tx h n G) (hf : FrX G G') : MR S W Tx h n G' := ⟨hM.1, hM.2.1, fun k hk => by rw [hf 628 (by omega)]; exact hM.2.2.1 k hk, fun k hk => by rw [hf 629 (by omega)]; exact hM.2.2.2.1 k hk, by rw [hf 627 (by omega)]; exact hM.2.2.2.2.1, by rw [hf 627 (by omega)]; exact hM.2.2.2.2.2.1, fun j hj => by rw [hf 632 (by omega)]; exact hM.2.2.2.2.2.2 j hj⟩
theorem CRel.m (hC : CRel nx S W Tx h n G) (hf : FrM G G') : CRel nx S W Tx h n G' := by
  obtain ⟨hS, ⟨h3, h4, h5, h6, h7⟩, h8⟩ := hC
  exact ⟨hS.cg (fun a h1 h2 => hf a (by omega)), ⟨h3, h4, by rw [hf 103 (by omega)]; exact h5, by rw [hf 103 (by omega)]; exact h6, fun i hi => (h7 i hi).cg (fun a ha hb => hf a (by omega))⟩, h8.cg (hf 615 (by omega)) (hf 616 (by omega))⟩
theorem CRel.okT (hC : CRel nx S W Tx h n G) : okT Tx n := fun j hj => (hC.2.2.2.2 j hj).2
theorem act_pair {f g : Mem → Option (Int32 × Mem)} {o : (Nat → Nat) → Oc} (hc : ActC b f o) (hm : ∀ (S W Tx : Nat → Nat) (h n : Nat) (G : Mem), MR S W Tx h n G → SI b S → ∃ G' : Mem, g G = some (oR (o S), G') ∧ MR (oS (o S) S) (oW (o S) W S h) Tx (oH (o S) h) n G' ∧ FrM G G') (hk : Kp b o) : Pair b f g := by
  rintro G ⟨nx, S, W, Tx, h, n, hC, hM, hI⟩
  obtain ⟨G1, nx', a1, a2, a3⟩ := hc nx S W Tx h n G hC hI
  obtain ⟨G2, b1, b2, b3⟩ := hm S W Tx h n G1 (hM.x a3) hI.1
  refine ⟨_, G1, G2, a1, b1, nx', _, _, _, _, _, a2.m b3, b2, ?_⟩
  have hS := hk S hI.1
  cases ho : o S with
  | inl e => exact hI.mono (by omega)
  | inr p =>
    rw [ho] at hS
    exact CInv_push hI hC.2.1.2.1 hS (by omega)
theorem actm {g : Mem → Option (Int32 × Mem)} {o : (Nat → Nat) → Oc} (hm : ActM b g o) : ∀ (S W Tx : Nat → Nat) (h n : Nat) (G : Mem), MR S W Tx h n G → SI b S → ∃ G' : Mem, g G = some (oR (o S), G') ∧ MR (oS (o S) S) (oW (o S) W S h) Tx (oH (o S) h) n G' ∧ FrM G G' := fun S W Tx h n G hM hI => hm S W Tx h n G hM hI.1
theorem que_pair {f g : Mem → Option (Int32 × Mem)} {q : (Nat → Nat) → Nat → Nat → Int32} (hc : ∀ (nx : Nat) (S W Tx : Nat → Nat) (h n : Nat) (G : Mem), CRel nx S W Tx h n G → CInv b S W h → f G = some (q S h n, G)) (hm : ∀ (S W Tx : Nat → Nat) (h n : Nat) (G : Mem), MR S W Tx h n G → LI b S → g G = some (q S h n, G)) : Pair b f g := by
  rintro G ⟨nx, S, W, Tx, h, n, hC, hM, hI⟩
  exact ⟨_, G, G, hc nx S W Tx h n G hC hI, hm S W Tx h n G hM hI.1.1, nx, S, W, Tx, h, n, hC, hM, hI.mono (by omega)⟩
theorem pr_lay (hb : b < 89000000) (x1 x2 x3 : Int32) : Pair b (fX8_lay 0 x1 x2 x3) (fX9_lay 627 x1 x2 x3) := act_pair (c_lay hb x1 x2 x3) (actm (m_lay hb x1 x2 x3)) (k_lay x1 x2 x3)
theorem pr_cut (hb : b < 89000000) (x1 x2 : Int32) : Pair b (fX8_cut 0 x1 x2) (fX9_cut 627 x1 x2) := act_pair (c_cut (by omega) x1 x2) (actm (m_cut (by omega) x1 x2)) (k_cut x1 x2)
theorem pr_plant (hb : b < 89000000) (x1 x2 : Int32) : Pair b (fX8_plant 0 x1 x2) (fX9_plant 627 x1 x2) := act_pair (c_plant (by omega) x1 x2) (actm (m_plant (by omega) x1 x2)) (k_plant x1 x2)
theorem pr_grub (x1 x2 : Int32) : Pair b (fX8_grub 0 x1 x2) (fX9_grub 627 x1 x2) := act_pair (c_grub x1 x2) (actm (m_grub x1 x2)) (k_grub x1 x2)
theorem pr_pass (hb : b < 89000000) (x1 : Int32) : Pair b (fX8_pass 0 x1) (fX9_pass 627 x1) := act_pair (c_pass hb x1) (actm (m_pass hb x1)) (k_pass x1)
theorem pr_set (x1 x2 : Int32) : Pair b (fX8_set 0 x1 x2) (fX9_set 627 x1 x2) := act_pair (c_set x1 x2) (actm (m_set x1 x2)) (k_set x1 x2)
theorem pr_contract (x1 x2 x3 x4 : Int32) : Pair b (fX8_contract 0 x1 x2 x3 x4) (fX9_contract 627 x1 x2 x3 x4) := act_pair (c_contract x1 x2 x3 x4) (actm (m_contract x1 x2 x3 x4)) (k_contract x1 x2 x3 x4)
theorem pr_give (hb : b < 89000000) (x1 : Int32) : Pair b (fX8_giveBack 0 x1) (fX9_giveBack 627 x1) := act_pair (c_give hb x1) (actm (m_give (by omega) x1)) (k_give x1)
theorem pr_pay (hb : b < 89000000) : Pair b (fX8_payDebt 0) (fX9_payDebt 627) := act_pair (c_pay hb) (actm (m_pay (by omega))) k_pay
theorem pr_take (x1 : Int32) : Pair b (fX8_take 0 x1) (fX9_take 627 x1) := act_pair (c_take x1) (actm (m_take x1)) (k_take x1)
theorem pr_rest (x1 : Int32) : Pair b (fX8_restore 0 x1) (fX9_restore 627 x1) := act_pair (c_rest x1) (fun S W Tx h n G hM hI => m_rest x1 hM hI) (k_rest x1)
theorem pr_undo : Pair b (fX8_undo 0) (fX9_undo 627) := by
  rintro G ⟨nx, S, W, Tx, h, n, hC, hM, hI⟩
  obtain ⟨G1, nx', a1, a2, a3⟩ := c_undo hC hI
  obtain ⟨G2, b1, b2, b3⟩ := m_undo (hM.x a3)
  refine ⟨_, G1, G2, a1, b1, nx', _, _, _, _, _, a2.m b3, b2, ?_⟩
  refine CInv.mono (b := b) ⟨?_, fun i hi => hI.2 i (by omega)⟩ (by omega)
  by_cases h0 : h = 0
  · rw [if_pos h0]; exact hI.1
  · rw [if_neg h0]; exact hI.2 _ (by omega)
theorem pr_append (x1 : Int32) : Pair b (fX8_append 0 x1) (fX9_append 627 x1) := by
  rintro G ⟨nx, S, W, Tx, h, n, hC, hM, hI⟩
  obtain ⟨G1, a1, a2, a3⟩ := c_append x1 hC
  obtain ⟨G2, b1, b2, b3⟩ := m_append x1 (hM.x a3)
  exact ⟨_, G1, G2, a1, b1, nx, _, _, _, _, _, a2.m b3, b2, hI.mono (by omega)⟩
theorem pr_clear : Pair b (fX8_clearText 0) (fX9_clearText 627) := by
  rintro G ⟨nx, S, W, Tx, h, n, hC, hM, hI⟩
  obtain ⟨G1, a1, a2, a3⟩ := c_clear hC
  obtain ⟨G2, b1, b2, b3⟩ := m_clear (hM.x a3)
  exact ⟨_, G1, G2, a1, b1, nx, _, _, _, _, _, a2.m b3, b2, hI.mono (by omega)⟩
theorem pr_read (hb : b < 89000000) (x1 : Int32) : Pair b (fX8_read 0 x1) (fX9_read 627 x1) := by
  rintro G ⟨nx, S, W, Tx, h, n, hC, hM, hI⟩
  obtain ⟨G1, nx', a1, a2, a3⟩ := c_read hb x1 hC hI
  obtain ⟨G2, b1, b2, b3⟩ := m_read x1 hC.okT (hM.x a3) hI.1.1
  refine ⟨_, G1, G2, a1, b1, nx', _, _, _, _, _, a2.m b3, b2, ?_⟩
  by_cases hok : okR x1 Tx n
  · rw [if_pos hok, if_pos hok, if_pos hok]
    obtain ⟨q1, l1⟩ := nat_in (hi := 5) (show inW 0 5 x1 from hok.1)
    exact CInv_push hI hC.2.1.2.1 (k_read hI.1 (by omega) hM.2.1 hok.2.1 hok.2.2) (by omega)
  · rw [if_neg hok, if_neg hok, if_neg hok]
    exact hI.mono (by omega)
theorem pr_count (x1 : Int32) : Pair b (fX8_count 0 x1) (fX9_count 627 x1) := que_pair (q := fun S h n => qCount x1 S h n) (fun nx S W Tx h n G hC hI => c_count x1 hC hI) (fun S W Tx h n G hM hI => m_count x1 hM hI)
theorem pr_field (x1 x2 : Int32) : Pair b (fX8_field 0 x1 x2) (fX9_field 627 x1 x2) := que_pair (q := fun S _ _ => qField x1 x2 S) (fun nx S W Tx h n G hC hI => c_field x1 x2 hC hI) (fun S W Tx h n G hM hI => m_field x1 x2 hM hI)
theorem pr_chain (x1 x2 x3 : Int32) : Pair b (fX8_chain 0 x1 x2 x3) (fX9_chain 627 x1 x2 x3) := que_pair (q := fun S _ _ => qChain x1 x2 x3 S) (fun nx S W Tx h n G hC hI => c_chain x1 x2 x3 hC hI) (fun S W Tx h n G hM hI => m_chain x1 x2 x3 hM hI)
theorem pr_toLay (x1 x2 : Int32) : Pair b (fX8_toLay 0 x1 x2) (fX9_toLay 627 x1 x2) := que_pair (q := fun S _ _ => qToLay x1 x2 S) (fun nx S W Tx h n G hC hI => c_toLay x1 x2 hC hI) (fun S W Tx h n G hM hI => m_toLay x1 x2 hM hI)
theorem pr_stakes (x1 : Int32) : Pair b (fX8_stakesIn 0 x1) (fX9_stakesIn 627 x1) := que_pair (q := fun S _ _ => qStakes x1 S) (fun nx S W Tx h n G hC hI => c_stakes x1 hC hI) (fun S W Tx h n G hM hI => m_stakes x1 hM hI)
theorem pr_done (x1 : Int32) : Pair b (fX8_doneIn 0 x1) (fX9_doneIn 627 x1) := que_pair (q := fun S _ _ => qDone x1 S) (fun nx S W Tx h n G hC hI => c_done x1 hC hI) (fun S W Tx h n G hM hI => m_done x1 hM hI)
theorem pr_best (x1 : Int32) : Pair b (fX8_bestOrder 0 x1) (fX9_bestOrder 627 x1) := by
  rintro G ⟨nx, S, W, Tx, h, n, hC, hM, hI⟩
  obtain ⟨G1, a1, a2, a3⟩ := c_best x1 hC hI
  obtain ⟨G2, b1, b2, b3⟩ := m_best x1 (hM.x a3) hI.1.1
  exact ⟨_, G1, G2, a1, b1, nx, _, _, _, _, _, a2.m b3, b2, hI.mono (by omega)⟩
/-- one row of the law -/
theorem fin_p {f g : Mem → Option (Int32 × Mem)} {rec18 : (Int32 × Mem) → Option Mem} {x : Int32} (hp : Pair b f g) (hS : StP b G) : ∃ G2, StP (b + 100000) G2 ∧ bd (f G) (fun r G1 => bd (g G1) (fun r2 G2 => if r = r2 then rec18 (x, G2) else none)) = rec18 (x, G2) := by
  obtain ⟨r, G1, G2, a1, a2, a3⟩ := hp G hS
  exact ⟨G2, a3, by rw [a1, bd_some', a2, bd_some', if_pos rfl]⟩
end
