/-! ===== count, roofs, cells ===== -/
def dsum (S : zS) : Nat → Int32
  | 0 => 0
  | n + 1 => dsum S n + nI (dpS S n)
theorem lp_G_depths {d : Nat} {w : zW} {Q : zQ} {S : zS} (hG : GC w 1 S) (h : Q (some (.int (dsum S 36))) w) : ∀ (n j : Nat), j + n = 36 → WP d m_G_depths 1 [none, some (.int (dsum S j)), some (.ref 11), some (.int (nI 36)), some (.int (nI j)), none] [] w Q
  | 0, j, hj => by
    have e : j = 36 := by omega
    subst e
    exact t_G_depths_1 (fun _ => t_G_depths_3 h) (fun g => absurd (Int32.le_refl _) g)
  | n + 1, j, hj => by
    refine t_G_depths_1 (fun g => absurd g (nI_ge (show j < 36 by omega) (by decide))) (fun _ => t_G_depths_2 (vp_in_lt (by omega) (by decide)) ?_)
    have e : dsum S j + gI w 11 (nI j).toNatClampNeg = dsum S (j + 1) := by rw [nI_clamp (by omega)]; exact congrArg (dsum S j + ·) (hG.1 j (by omega))
    rw [e, n1]
    exact lp_G_depths hG h n (j + 1) (by omega)
theorem lp_N_count {d : Nat} {w : zW} {Q : zQ} {S : zS} {x : Int32} (hG : GN w S) (h : WP d m_N_count 4 [some (.ref 10), some (.int x), some (.int (dsum S 36)), none] [] w Q) : ∀ (n j : Nat), j + n = 36 → WP d m_N_count 2 [some (.ref 10), some (.int x), some (.int (dsum S j)), some (.int (nI j))] [] w Q
  | 0, j, hj => by
    have e : j = 36 := by omega
    subst e
    exact t_N_count_2 (fun _ => h) (fun g => absurd (Int32.le_refl _) g)
  | n + 1, j, hj => by
    refine t_N_count_2 (fun g => absurd g (nI_ge (show j < 36 by omega) (by decide))) (fun _ => t_N_count_3 (vp_in_lt (by omega) (by decide)) ?_)
    have e : dsum S j + gI w 28 (nI j).toNatClampNeg = dsum S (j + 1) := by rw [nI_clamp (by omega)]; exact congrArg (dsum S j + ·) (hG.1 j (by omega))
    rw [e, n1]
    exact lp_N_count hG h n (j + 1) (by omega)
def txT (S : zS) (op : Int64) : Int32 := txA (nI (raS S)) (roS S) (niS S) op
def countA (S : zS) (x : Int32) : Int32 := if x = 0 then nI (hls (opS S)).length else if x = 1 then nI (cn (opS S)) else if x = 2 then txT S (opS S) else if x = 3 then nI (unS S).length else if x = 4 then nI (raS S) else if x = 5 then nI (cn (roS S)) else if x = 6 then dsum S 36 else -1
theorem op_count {d : Nat} {w : zW} {x : Int32} (h : RW w) : OPP (d + 5) m_C_count 2 m_N_count 4 [.ref 0, .int x] [.ref 10, .int x] w := by
  refine opQ (f := fun S => .int (countA S x)) (fun S Q hG hk q => ?_) (fun S w Q hG hk q => ?_) h
  · have e2 : gL w 1 2 = opS S := hG.2.2.1
    have e3 : gL w 1 3 = niS S := hG.2.2.2.1
    have e4 : gL w 1 4 = roS S := hG.2.2.2.2.1
    have e5 : gI w 1 5 = nI (raS S) := hG.2.2.2.2.2.1
    have e8 : gI w 1 8 = nI (unS S).length := hG.2.2.2.2.2.2.2.1
    refine n_C_count (t_C_count_0 (fun e => t_C_count_1 (s_P_holesOf (t_C_count_2 (q _ w ?_ EQX.rf)))) (fun e => t_C_count_3 (s_J_bitCount (t_C_count_4 (q _ w ?_ EQX.rf)))) (fun e => t_C_count_5 (s_G_taxOfAll (t_C_count_6 (q _ w ?_ EQX.rf)))) (fun e => t_C_count_7 (q _ w ?_ EQX.rf)) (fun e => t_C_count_8 (q _ w ?_ EQX.rf)) (fun e => t_C_count_9 (s_J_bitCount (t_C_count_10 (q _ w ?_ EQX.rf)))) (fun e => t_C_count_11 (n_G_depths (t_G_depths_0 (lp_G_depths hG (t_C_count_12 (q _ w ?_ EQX.rf)) 36 0 rfl)))) (fun a0 a1 a2 a3 a4 a5 a6 => t_C_count_13 (q _ w ?_ EQX.rf)))
    · rw [e, e2]; rfl
    · rw [e, e2]; rfl
    · rw [e, e2, e3, e4, e5]; rfl
    · rw [e, e8]; rfl
    · rw [e, e5]; rfl
    · rw [e, e4]; rfl
    · rw [e]; rfl
    · simp only [countA, a0, a1, a2, a3, a4, a5, a6, if_false]
  · refine n_N_count (t_N_count_0 (s_N_look hG hk (fun w1 hw => t_N_count_1 (lp_N_count (hw.gn hG) (t_N_count_4 (s_N_findHoles (by rw [hw.1]; exact SET_op S) (fun w2 hf => ?_))) 36 0 rfl))))
    have hx := hw.eqx.tr hf.eqx
    have hG2 : GN w2 S := hf.eqx.gnR (hw.gn hG)
    have e7 : gL w2 10 7 = opS S := (hf.2.2.2.2 10 7 (by decide)).trans hw.1
    have e10 : gI w2 10 10 = nI (hls (opS S)).length := by rw [hf.1, hw.1]
    have e8 : gL w2 10 8 = niS S := (hf.2.2.2.2 10 8 (by decide)).trans hw.2.1
    have e4 : gL w2 10 2 = roS S := hG2.2.2.1
    have e3 : gI w2 10 3 = nI (raS S) := hG2.2.2.2.1
    have e5 : gI w2 10 5 = nI (unS S).length := hG2.2.2.2.2.2.1
    refine t_N_count_5 (fun e => t_N_count_6 (q _ w2 ?_ hx)) (fun e => t_N_count_7 (s_N_ones (t_N_count_8 (q _ w2 ?_ hx)))) (fun e => t_N_count_9 (s_N_taxOfAll (by rw [e7]; exact SET_op S) (fun w3 hf3 => t_N_count_10 (q _ w3 ?_ (hx.tr hf3.eqx))))) (fun e => t_N_count_11 (q _ w2 ?_ hx)) (fun e => t_N_count_12 (q _ w2 ?_ hx)) (fun e => t_N_count_13 (s_N_ones (t_N_count_14 (q _ w2 ?_ hx)))) (fun e => t_N_count_15 (q _ w2 ?_ hx)) (fun a0 a1 a2 a3 a4 a5 a6 => t_N_count_16 (q _ w2 ?_ hx))
    · rw [e, e10]; rfl
    · rw [e, e7]; rfl
    · rw [e, e3, e4, e8, e7]; rfl
    · rw [e, e5]; rfl
    · rw [e, e3]; rfl
    · rw [e, e4]; rfl
    · rw [e]; rfl
    · simp only [countA, a0, a1, a2, a3, a4, a5, a6, if_false]
/-! a hole told by a cell -/
abbrev hoS (S : zS) (c : Nat) : Int64 := cl (b1 c) (opS S)
theorem ho_0 {S : zS} {c : Nat} (hc : c < 36) : hoS S c = 0 ↔ bt6 (opS S) c = false := by
  rw [bx_op hc]
  constructor
  · intro e
    cases q : decide (0 < dpS S c) with
    | false => rfl
    | true => exact absurd e (hole_ne hc (by simp at q; omega))
  · intro e
    exact hole_0 hc (by simp at e; exact e)
theorem rim_eq {t s : Int64} (ht : SET t) : besF (cl s t) &&& (t ^^^ (-1)) = rimF (cl s t) := by
  have hi := cl_is (s := s) ht
  have hs : SET (cl s t) := SET.cl s ht
  refine (SET.and (SET.bes _) _).ext (SET.and (SET.bes _) _) (fun i h36 => ?_)
  unfold rimF
  rw [bx_diff, bx_diff]
  cases hb : bt6 (besF (cl s t)) i with
  | false => rfl
  | true =>
    obtain ⟨j, ha, hj⟩ := (bes_adj hs h36).mp hb
    cases ht2 : bt6 t i with
    | true => rw [hi.closed ht hj ha ht2]
    | false =>
      cases hc : bt6 (cl s t) i with
      | false => rfl
      | true => rw [hi.1.2.1 i hc] at ht2; cases ht2
theorem s_N_rimOf {d : Nat} {w : zW} {Q : zQ} {s t : Int64} (ht : SET t) (e : gL w 10 7 = t) (h : Q (some (.long (rimF (cl s t)))) w) : WM (d + 1) m_N_rimOf 3 [.ref 10, .long (cl s t)] w Q := by
  refine n_N_rimOf (t_N_rimOf_0 (s_N_beside (SET.cl s ht) (t_N_rimOf_1 ?_)))
  rw [e, rim_eq ht]
  exact h
def roofsA (S : zS) (x : Int32) : Int32 := if isC x = true then (if bt6 (opS S) x.toNatClampNeg = true then nI (cn (hoS S x.toNatClampNeg &&& (roS S ^^^ (-1)))) else -2) else -1
theorem op_roofs {d : Nat} {w : zW} {x : Int32} (h : RW w) : OPP (d + 3) m_C_roofs 4 m_N_roofs 2 [.ref 0, .int x] [.ref 10, .int x] w := by
  refine opQ (f := fun S => .int (roofsA S x)) (fun S Q hG hk q => ?_) (fun S w Q hG hk q => ?_) h
  · have e2 : gL w 1 2 = opS S := hG.2.2.1
    have e4 : gL w 1 4 = roS S := hG.2.2.2.2.1
    refine n_C_roofs (t_C_roofs_0 (s_C_isCell (t_C_roofs_1 (fun g => ?_) (fun g => t_C_roofs_2 (q _ w ?_ EQX.rf)))))
    · have g := zb_f.mp g
      obtain ⟨c, hc, rfl⟩ := isC_of g
      have hcl : (nI c).toNatClampNeg = c := nI_clamp (by omega)
      refine t_C_roofs_3 (s_G_holeAt (t_C_roofs_4 (fun g2 => t_C_roofs_6 (s_J_bitCount (t_C_roofs_7 (q _ w ?_ EQX.rf)))) (fun g2 => t_C_roofs_5 (t_C_roofs_7 (q _ w ?_ EQX.rf)))))
      · rw [e2, ho_0 hc, Bool.not_eq_false] at g2
        simp only [roofsA, g, if_true, hcl, g2, e2, e4]
      · rw [e2, ho_0 hc] at g2
        simp only [roofsA, g, if_true, hcl, g2]; rfl
    · simp only [roofsA, zb_t.mp g]; rfl
  · refine n_N_roofs (t_N_roofs_0 (s_N_isCell (t_N_roofs_1 (fun g => t_N_roofs_3 (s_N_look hG hk (fun w1 hw => ?_))) (fun g => t_N_roofs_2 (q _ w ?_ EQX.rf)))))
    · have g := zb_f.mp g
      obtain ⟨c, hc, rfl⟩ := isC_of g
      have hcl : (nI c).toNatClampNeg = c := nI_clamp (by omega)
      have hx := hw.eqx
      have e4 : gL w1 10 2 = roS S := (hw.gn hG).2.2.1
      have e7 : gL w1 10 7 = opS S := hw.1
      refine t_N_roofs_4 (s_N_has (by omega) (t_N_roofs_5 (fun g2 => t_N_roofs_9 (t_N_roofs_10 (q _ w1 ?_ hx))) (fun g2 => t_N_roofs_6 (s_N_holeAt (by rw [e7]; exact SET_op S) (t_N_roofs_7 (s_N_ones (t_N_roofs_8 (t_N_roofs_10 (q _ w1 ?_ hx)))))))))
      · rw [e7, zb_t] at g2
        simp only [roofsA, g, if_true, hcl, g2]; rfl
      · rw [e7, zb_f] at g2
        simp only [roofsA, g, if_true, hcl, g2, e7, e4]
    · simp only [roofsA, zb_t.mp g]; rfl
def cellsA (S : zS) (x k : Int32) : Int64 := if isC x = true ∧ inI k 0 2 = true then (if bt6 (opS S) x.toNatClampNeg = true then (if k = 0 then hoS S x.toNatClampNeg else if k = 1 then rimF (hoS S x.toNatClampNeg) else witF (hoS S x.toNatClampNeg)) else -2) else -1
theorem op_cells {d : Nat} {w : zW} {x k : Int32} (h : RW w) : OPP (d + 3) m_C_cells 5 m_N_cells 5 [.ref 0, .int x, .int k] [.ref 10, .int x, .int k] w := by
  refine opQ (f := fun S => .long (cellsA S x k)) (fun S Q hG hk q => ?_) (fun S w Q hG hk q => ?_) h
  · have e2 : gL w 1 2 = opS S := hG.2.2.1
    have bad : (¬ (isC x = true ∧ inI k 0 2 = true)) → (Value.long (-1) : Value) = .long (cellsA S x k) := fun g => by unfold cellsA; rw [if_neg g]
    refine n_C_cells (t_C_cells_0 (s_C_isCell (t_C_cells_1 (fun g => t_C_cells_4 (q _ w (bad (fun e => by rw [zb_t.mp g] at e; cases e.1)) EQX.rf)) (fun g => t_C_cells_2 (fun g1 => t_C_cells_4 (q _ w (bad (fun e => by rw [inI_f.mpr (Or.inl g1)] at e; cases e.2)) EQX.rf)) (fun g1 => t_C_cells_3 (fun g2 => ?_) (fun g2 => t_C_cells_4 (q _ w (bad (fun e => by rw [inI_f.mpr (Or.inr g2)] at e; cases e.2)) EQX.rf)))))))
    have g := zb_f.mp g
    have g3 := inI_t g1 g2
    obtain ⟨c, hc, rfl⟩ := isC_of g
    have hcl : (nI c).toNatClampNeg = c := nI_clamp (by omega)
    refine t_C_cells_5 (s_G_holeAt (t_C_cells_6 (fun g4 => t_C_cells_8 (fun g5 => t_C_cells_10 (fun g6 => t_C_cells_13 (s_P_withinOf (t_C_cells_14 (q _ w ?_ EQX.rf)))) (fun g6 => t_C_cells_11 (s_P_rimOf (t_C_cells_12 (t_C_cells_14 (q _ w ?_ EQX.rf)))))) (fun g5 => t_C_cells_9 (q _ w ?_ EQX.rf))) (fun g4 => t_C_cells_7 (q _ w ?_ EQX.rf))))
    all_goals rw [e2, ho_0 hc] at g4
    · simp only [cellsA, g, g3, hcl, e2, g4, g5, g6, and_self, if_true, if_false, Bool.not_eq_false] at g4 ⊢
    · rw [Bool.not_eq_false] at g4
      subst g6
      simp only [cellsA, g, g3, hcl, e2, g4, and_self, if_true]; rfl
    · rw [Bool.not_eq_false] at g4
      subst g5
      simp only [cellsA, g, g3, hcl, e2, g4, and_self, if_true]
    · simp only [cellsA, g, g3, hcl, g4, and_self, if_true]; rfl
  · have bad : (¬ (isC x = true ∧ inI k 0 2 = true)) → (Value.long (-1) : Value) = .long (cellsA S x k) := fun g => by unfold cellsA; rw [if_neg g]
    refine n_N_cells (t_N_cells_0 (s_N_isCell (t_N_cells_1 (fun g => t_N_cells_4 (q _ w (bad (fun e => by rw [zb_t.mp g] at e; cases e.1)) EQX.rf)) (fun g => t_N_cells_2 (s_N_inI (a := 0) (b := 2) rfl rfl (t_N_cells_3 (fun g1 => t_N_cells_5 (s_N_look hG hk (fun w1 hw => ?_))) (fun g1 => t_N_cells_4 (q _ w (bad (fun e => by rw [zb_t.mp g1] at e; cases e.2)) EQX.rf))))))))
    have g := zb_f.mp g
    have g3 := zb_f.mp g1
    obtain ⟨c, hc, rfl⟩ := isC_of g
    have hcl : (nI c).toNatClampNeg = c := nI_clamp (by omega)
    have hx := hw.eqx
    have e7 : gL w1 10 7 = opS S := hw.1
    refine t_N_cells_6 (s_N_has (by omega) (t_N_cells_7 (fun g4 => t_N_cells_9 (s_N_holeAt (by rw [e7]; exact SET_op S) (t_N_cells_10 (fun g5 => t_N_cells_12 (fun g6 => t_N_cells_15 (s_N_withinOf (t_N_cells_16 (q _ w1 ?_ hx)))) (fun g6 => t_N_cells_13 (s_N_rimOf (by rw [e7]; exact SET_op S) rfl (t_N_cells_14 (t_N_cells_16 (q _ w1 ?_ hx)))))) (fun g5 => t_N_cells_11 (t_N_cells_16 (q _ w1 ?_ hx)))))) (fun g4 => t_N_cells_8 (q _ w1 ?_ hx))))
    · rw [e7, zb_f] at g4
      simp only [cellsA, g, g3, hcl, e7, g4, g5, g6, and_self, if_true, if_false]
    · rw [e7, zb_f] at g4
      subst g6
      simp only [cellsA, g, g3, hcl, e7, g4, and_self, if_true]; rfl
    · rw [e7, zb_f] at g4
      subst g5
      simp only [cellsA, g, g3, hcl, e7, g4, and_self, if_true]
    · rw [e7, zb_t] at g4
      simp only [cellsA, g, g3, hcl, g4, and_self, if_true]; rfl
