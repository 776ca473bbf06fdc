/-! ===== filled, split ===== -/
theorem lf_3 {d : Nat} {w : zW} {Q : zQ} {S : zS} {tax : Int32} {R : Option (List Nat)} (hG : GC w 1 S) (h : Q (some (.long (setR R))) w) :
    ∀ (n b a : Nat) (r : Option (List Nat)), b + n = 36 → a < b → fw3 (DFil S tax) (opS S) a r n b = R → (r = R → WP (d + 4) m_G_leastFilled 23 [some (.ref 1), some (.int tax), some (.int (nI a)), none, none, none] [] w Q) → WP (d + 4) m_G_leastFilled 14 [some (.ref 1), some (.int tax), some (.int (nI a)), some (.int (nI b)), none, none] [] w Q
  | 0, b, a, r, hb, hab, hr, k => by
    have e : b = 36 := by omega
    subst e
    exact t_G_leastFilled_14 (s_P_has (by omega) (t_G_leastFilled_15 (fun _ => k hr) (fun _ => t_G_leastFilled_16 (fun _ => k hr) (fun g => absurd (Int32.le_refl _) g))))
  | n + 1, b, a, r, hb, hab, hr, k => by
    have e2 : gL w 1 2 = opS S := hG.2.2.1
    have e3 : gL w 1 3 = niS S := hG.2.2.2.1
    have e4 : gL w 1 4 = roS S := hG.2.2.2.2.1
    have e5 : gI w 1 5 = nI (raS S) := hG.2.2.2.2.2.1
    refine t_G_leastFilled_14 (s_P_has (by omega) (t_G_leastFilled_15 (fun g => k ?_) (fun g => t_G_leastFilled_16 (fun g => absurd g (nI_ge (show b < 36 by omega) (by decide))) (fun _ => t_G_leastFilled_17 (s_P_has (by omega) (t_G_leastFilled_18 (fun g2 => t_G_leastFilled_22 ?_) (fun g2 => t_G_leastFilled_19 (s_G_taxOfAll (t_G_leastFilled_20 (fun g3 => t_G_leastFilled_22 ?_) (fun g3 => t_G_leastFilled_21 ?_))))))))))
    · rw [e2] at g
      rw [fw3_no (zb_t.mp g)] at hr; exact hr
    all_goals have hr' : (if bt6 (opS S) a = true ∧ bt6 (opS S) b = true ∧ DFil S tax (b1 a ||| b1 b) = true then some [a, b] else fw3 (DFil S tax) (opS S) a r n (b + 1)) = R := hr
    all_goals rw [e2] at g g2
    · rw [if_neg (fun q => by rw [zb_t.mp g2] at q; cases q.2.1)] at hr'
      rw [n1]
      exact lf_3 hG h n (b + 1) a r (by omega) (by omega) hr' k
    · rw [e2, e3, e4, e5] at g3
      rw [if_neg (fun q => absurd g3 (of_decide_eq_true q.2.2))] at hr'
      rw [n1]
      exact lf_3 hG h n (b + 1) a r (by omega) (by omega) hr' k
    · rw [e2, e3, e4, e5] at g3
      rw [if_pos ⟨zb_f.mp g, zb_f.mp g2, decide_eq_true g3⟩] at hr'
      subst hr'
      rw [show setR (some [a, b]) = b1 a ||| b1 b from SL_two (by omega) (by omega)] at h
      exact h
theorem lf_2 {d : Nat} {w : zW} {Q : zQ} {S : zS} {tax : Int32} {R : Option (List Nat)} (hG : GC w 1 S) (h : Q (some (.long (setR R))) w) :
    ∀ (n a : Nat), a + n = 36 → fw2 (DFil S tax) (opS S) n a = R → WP (d + 4) m_G_leastFilled 12 [some (.ref 1), some (.int tax), some (.int (nI a)), none, none, none] [] w Q
  | 0, a, ha, hr => by
    have e : a = 36 := by omega
    subst e
    subst hr
    exact t_G_leastFilled_12 (fun _ => t_G_leastFilled_24 h) (fun g => absurd (Int32.le_refl _) g)
  | n + 1, a, ha, hr => by
    refine t_G_leastFilled_12 (fun g => absurd g (nI_ge (show a < 36 by omega) (by decide))) (fun _ => t_G_leastFilled_13 ?_)
    rw [n1]
    refine lf_3 hG h (35 - a) (a + 1) a _ (by omega) (by omega) hr (fun hr' => t_G_leastFilled_23 ?_)
    rw [n1]
    exact lf_2 hG h n (a + 1) (by omega) hr'
theorem lf_1 {d : Nat} {w : zW} {Q : zQ} {S : zS} {tax : Int32} {R : Option (List Nat)} (hG : GC w 1 S) (h : Q (some (.long (setR R))) w) :
    ∀ (n a : Nat), a + n = 36 → fw1 (DFil S tax) (opS S) n a = R → WP (d + 4) m_G_leastFilled 4 [some (.ref 1), some (.int tax), some (.int (nI a)), none, none, none] [] w Q
  | 0, a, ha, hr => by
    have e : a = 36 := by omega
    subst e
    exact t_G_leastFilled_4 (fun _ => t_G_leastFilled_11 (lf_2 hG h 36 0 rfl hr)) (fun g => absurd (Int32.le_refl _) g)
  | n + 1, a, ha, hr => by
    have e2 : gL w 1 2 = opS S := hG.2.2.1
    have e3 : gL w 1 3 = niS S := hG.2.2.2.1
    have e4 : gL w 1 4 = roS S := hG.2.2.2.2.1
    have e5 : gI w 1 5 = nI (raS S) := hG.2.2.2.2.2.1
    have hr' : (if bt6 (opS S) a = true ∧ DFil S tax (b1 a) = true then some [a] else fw1 (DFil S tax) (opS S) n (a + 1)) = R := hr
    refine t_G_leastFilled_4 (fun g => absurd g (nI_ge (show a < 36 by omega) (by decide))) (fun _ => t_G_leastFilled_5 (s_P_has (by omega) (t_G_leastFilled_6 (fun g => t_G_leastFilled_10 ?_) (fun g => t_G_leastFilled_7 (s_G_taxOfAll (t_G_leastFilled_8 (fun g3 => t_G_leastFilled_10 ?_) (fun g3 => t_G_leastFilled_9 ?_)))))))
    all_goals rw [e2] at g
    · rw [if_neg (fun q => by rw [zb_t.mp g] at q; cases q.1)] at hr'
      rw [n1]
      exact lf_1 hG h n (a + 1) (by omega) hr'
    · rw [e2, e3, e4, e5] at g3
      rw [if_neg (fun q => absurd g3 (of_decide_eq_true q.2))] at hr'
      rw [n1]
      exact lf_1 hG h n (a + 1) (by omega) hr'
    · rw [e2, e3, e4, e5] at g3
      rw [if_pos ⟨zb_f.mp g, decide_eq_true g3⟩] at hr'
      subst hr'
      rw [show setR (some [a]) = b1 a from SL_one (by omega)] at h
      exact h
theorem s_G_leastFilled {d : Nat} {w : zW} {Q : zQ} {S : zS} {tax : Int32} (hG : GC w 1 S) (h : Q (some (.long (setR (fwF (DFil S tax) (opS S))))) w) : WM (d + 4) m_G_leastFilled 6 [.ref 1, .int tax] w Q := by
  have e2 : gL w 1 2 = opS S := hG.2.2.1
  have e3 : gL w 1 3 = niS S := hG.2.2.2.1
  have e4 : gL w 1 4 = roS S := hG.2.2.2.2.1
  have e5 : gI w 1 5 = nI (raS S) := hG.2.2.2.2.2.1
  have ez : opS S &&& ((0 : Int64) ^^^ (-1)) = opS S := bx_ext fun i _ => by rw [bx_diff, bx_0]; simp
  have e0 : DFil S tax 0 = decide (¬ tax < txT S (opS S)) := by unfold DFil; rw [ez]
  refine n_G_leastFilled (t_G_leastFilled_0 (s_G_taxOfAll (t_G_leastFilled_1 (fun g => t_G_leastFilled_3 (lf_1 hG h 36 0 rfl ?_)) (fun g => t_G_leastFilled_2 ?_))))
  · rw [e2, e3, e4, e5] at g
    have g : tax < txT S (opS S) := g
    unfold fwF
    rw [e0, if_neg (fun q => absurd g (of_decide_eq_true q))]
  · rw [e2, e3, e4, e5] at g
    have g : ¬ tax < txT S (opS S) := g
    unfold fwF at h
    rw [e0, if_pos (decide_eq_true g)] at h
    rw [show setR (some []) = 0 from SL_nil] at h
    exact h
/-! split -/
theorem s_P_isInPieces {d : Nat} {w : zW} {Q : zQ} {ho s : Int64} (h : Q (some (.int (zb (DSpl ho s)))) w) : WM (d + 3) m_P_isInPieces 2 [.long (ho &&& (s ^^^ (-1)))] w Q := by
  unfold DSpl at h
  refine n_P_isInPieces (t_P_isInPieces_0 (fun g => t_P_isInPieces_4 (t_P_isInPieces_5 (Or.inl rfl) ?_)) (fun g => t_P_isInPieces_1 (s_P_firstHole (t_P_isInPieces_2 (fun g2 => t_P_isInPieces_4 (t_P_isInPieces_5 (Or.inl rfl) ?_)) (fun g2 => t_P_isInPieces_3 (t_P_isInPieces_5 (Or.inr rfl) ?_))))))
  · rw [decide_eq_false (fun q => q g)] at h; exact h
  · rw [decide_eq_true (show ¬ _ from g), decide_eq_false (fun q => q g2)] at h; exact h
  · rw [decide_eq_true (show ¬ _ from g), decide_eq_true (show ¬ _ from g2)] at h; exact h
theorem sp_3 {d : Nat} {w : zW} {Q : zQ} {ho : Int64} {R : Option (List Nat)} (h : Q (some (.long (setR R))) w) :
    ∀ (n b a : Nat) (r : Option (List Nat)), b + n = 36 → a < b → fw3 (DSpl ho) ho a r n b = R → (r = R → WP (d + 4) m_P_leastSplit 20 [some (.long ho), none, some (.int (nI a)), none, none, none] [] w Q) → WP (d + 4) m_P_leastSplit 11 [some (.long ho), none, some (.int (nI a)), some (.int (nI b)), none, none] [] w Q
  | 0, b, a, r, hb, hab, hr, k => by
    have e : b = 36 := by omega
    subst e
    exact t_P_leastSplit_11 (s_P_has (by omega) (t_P_leastSplit_12 (fun _ => k hr) (fun _ => t_P_leastSplit_13 (fun _ => k hr) (fun g => absurd (Int32.le_refl _) g))))
  | n + 1, b, a, r, hb, hab, hr, k => by
    refine t_P_leastSplit_11 (s_P_has (by omega) (t_P_leastSplit_12 (fun g => k ?_) (fun g => t_P_leastSplit_13 (fun g => absurd g (nI_ge (show b < 36 by omega) (by decide))) (fun _ => t_P_leastSplit_14 (s_P_has (by omega) (t_P_leastSplit_15 (fun g2 => t_P_leastSplit_19 ?_) (fun g2 => t_P_leastSplit_16 (s_P_isInPieces (t_P_leastSplit_17 (fun g3 => t_P_leastSplit_19 ?_) (fun g3 => t_P_leastSplit_18 ?_))))))))))
    · rw [fw3_no (zb_t.mp g)] at hr; exact hr
    all_goals have hr' : (if bt6 ho a = true ∧ bt6 ho b = true ∧ DSpl ho (b1 a ||| b1 b) = true then some [a, b] else fw3 (DSpl ho) ho a r n (b + 1)) = R := hr
    · rw [if_neg (fun q => by rw [zb_t.mp g2] at q; cases q.2.1)] at hr'
      rw [n1]
      exact sp_3 h n (b + 1) a r (by omega) (by omega) hr' k
    · rw [if_neg (fun q => by
        have := zb_t.mp g3
        rw [show DSpl ho (zsl 1 (nI a) ||| zsl 1 (nI b)) = DSpl ho (b1 a ||| b1 b) from rfl, q.2.2] at this; cases this)] at hr'
      rw [n1]
      exact sp_3 h n (b + 1) a r (by omega) (by omega) hr' k
    · rw [if_pos ⟨zb_f.mp g, zb_f.mp g2, zb_f.mp g3⟩] at hr'
      subst hr'
      rw [show setR (some [a, b]) = b1 a ||| b1 b from SL_two (by omega) (by omega)] at h
      exact h
theorem sp_2 {d : Nat} {w : zW} {Q : zQ} {ho : Int64} {R : Option (List Nat)} (h : Q (some (.long (setR R))) w) :
    ∀ (n a : Nat), a + n = 36 → fw2 (DSpl ho) ho n a = R → WP (d + 4) m_P_leastSplit 9 [some (.long ho), none, some (.int (nI a)), none, none, none] [] w Q
  | 0, a, ha, hr => by
    have e : a = 36 := by omega
    subst e
    subst hr
    exact t_P_leastSplit_9 (fun _ => t_P_leastSplit_21 h) (fun g => absurd (Int32.le_refl _) g)
  | n + 1, a, ha, hr => by
    refine t_P_leastSplit_9 (fun g => absurd g (nI_ge (show a < 36 by omega) (by decide))) (fun _ => t_P_leastSplit_10 ?_)
    rw [n1]
    refine sp_3 h (35 - a) (a + 1) a _ (by omega) (by omega) hr (fun hr' => t_P_leastSplit_20 ?_)
    rw [n1]
    exact sp_2 h n (a + 1) (by omega) hr'
theorem sp_1 {d : Nat} {w : zW} {Q : zQ} {ho : Int64} {R : Option (List Nat)} (h : Q (some (.long (setR R))) w) :
    ∀ (n a : Nat), a + n = 36 → fw1 (DSpl ho) ho n a = R → WP (d + 4) m_P_leastSplit 1 [some (.long ho), none, some (.int (nI a)), none, none, none] [] w Q
  | 0, a, ha, hr => by
    have e : a = 36 := by omega
    subst e
    exact t_P_leastSplit_1 (fun _ => t_P_leastSplit_8 (sp_2 h 36 0 rfl hr)) (fun g => absurd (Int32.le_refl _) g)
  | n + 1, a, ha, hr => by
    have hr' : (if bt6 ho a = true ∧ DSpl ho (b1 a) = true then some [a] else fw1 (DSpl ho) ho n (a + 1)) = R := hr
    refine t_P_leastSplit_1 (fun g => absurd g (nI_ge (show a < 36 by omega) (by decide))) (fun _ => t_P_leastSplit_2 (s_P_has (by omega) (t_P_leastSplit_3 (fun g => t_P_leastSplit_7 ?_) (fun g => t_P_leastSplit_4 (s_P_isInPieces (t_P_leastSplit_5 (fun g3 => t_P_leastSplit_7 ?_) (fun g3 => t_P_leastSplit_6 ?_)))))))
    · rw [if_neg (fun q => by rw [zb_t.mp g] at q; cases q.1)] at hr'
      rw [n1]
      exact sp_1 h n (a + 1) (by omega) hr'
    · rw [if_neg (fun q => by
        have := zb_t.mp g3
        rw [show DSpl ho (zsl 1 (nI a)) = DSpl ho (b1 a) from rfl, q.2] at this; cases this)] at hr'
      rw [n1]
      exact sp_1 h n (a + 1) (by omega) hr'
    · rw [if_pos ⟨zb_f.mp g, zb_f.mp g3⟩] at hr'
      subst hr'
      rw [show setR (some [a]) = b1 a from SL_one (by omega)] at h
      exact h
theorem CLO_hole {t s : Int64} (ht : SET t) : CLO (cl s t) t := ⟨cl_sub ht, fun _ _ hi ha hj => cl1_step ht hi ha hj⟩
theorem hole_whole {t : Int64} (ht : SET t) {c : Nat} (hc : c < 64) (h : ¬ cl (b1 c) t = 0) : cl (cl (b1 c) t &&& -(cl (b1 c) t)) (cl (b1 c) t) = cl (b1 c) t := by
  have hl := (lo6_spec h).2.1
  rw [first_eq h, CLO_cl ht (CLO_hole ht) (b1_and_sub hl), cl_root ht hc hl]
theorem DSpl_0 {t : Int64} (ht : SET t) {c : Nat} (hc : c < 64) (h : ¬ cl (b1 c) t = 0) : DSpl (cl (b1 c) t) 0 = false := by
  have ez : cl (b1 c) t &&& ((0 : Int64) ^^^ (-1)) = cl (b1 c) t := bx_ext fun i _ => by rw [bx_diff, bx_0]; simp
  unfold DSpl
  rw [ez, hole_whole ht hc h]
  simp
theorem pick_i {i : Int32} (h : 0 ≤ i) : i = nI i.toNatClampNeg ∧ i.toNatClampNeg < 2 ^ 31 := by
  have e0 : (0 : Int) ≤ i.toInt := by rw [Int32.le_iff_toInt_le] at h; exact h
  have e1 : i.toInt < 2 ^ 31 := i.toInt_lt
  have e2 : i.toNatClampNeg = i.toInt.toNat := rfl
  refine ⟨?_, by omega⟩
  apply Int32.toInt_inj.mp
  rw [nI_toInt (by omega)]
  omega
theorem pick_row {w : zW} {l : List Nat} {i : Int32} (h : ROWS w (some l)) (h0 : 0 ≤ i) (hl : l.length < 2 ^ 31) (h2 : ¬ nI l.length ≤ i) : gI w 34 i.toNatClampNeg = pickA (some l) i ∧ i.toNatClampNeg < l.length := by
  obtain ⟨e, hk⟩ := pick_i h0
  have hlt : i.toNatClampNeg < l.length := Nat.lt_of_not_le fun q => h2 (by rw [e]; exact nI_le q hk)
  have ej := List.getElem?_eq_getElem hlt
  refine ⟨?_, hlt⟩
  simp only [pickA, if_pos h0, ej]
  exact h l rfl _ _ ej
theorem pick_off {l : List Nat} {i : Int32} (h0 : 0 ≤ i) (hl : l.length < 2 ^ 31) (h2 : nI l.length ≤ i) : (-4 : Int32) = pickA (some l) i := by
  obtain ⟨e, hk⟩ := pick_i h0
  have hge : l.length ≤ i.toNatClampNeg := Nat.le_of_not_lt fun q => absurd h2 (by rw [e]; exact nI_ge q (by omega))
  simp only [pickA, if_pos h0, List.getElem?_eq_none hge]
theorem not_neg {k : Nat} (hk : k < 2 ^ 31) : ¬ nI k < 0 := by rw [Int32.not_lt]; exact nI_le (a := 0) (Nat.zero_le _) hk
def filledA (S : zS) (tax i : Int32) : Int32 := if inI tax 0 9999 = true ∧ inI i (-1) 1 = true then pickA (fwF (DFil S tax) (opS S)) i else -1
theorem op_filled {d : Nat} {w : zW} {x k : Int32} (h : RW w) : OPP (d + 7) m_C_filled 3 m_N_filled 4 [.ref 0, .int x, .int k] [.ref 10, .int x, .int k] w := by
  refine opQ (f := fun S => .int (filledA S x k)) (fun S Q hG hk q => ?_) (fun S w Q hG hk q => ?_) h
  · have bad : (¬ (inI x 0 9999 = true ∧ inI k (-1) 1 = true)) → (Value.int (-1) : Value) = .int (filledA S x k) := fun g => by unfold filledA; rw [if_neg g]
    refine n_C_filled (t_C_filled_0 (fun g => t_C_filled_4 (q _ w (bad (fun e => by rw [inI_f.mpr (Or.inl g)] at e; cases e.1)) EQX.rf)) (fun g1 => t_C_filled_1 (fun g => t_C_filled_4 (q _ w (bad (fun e => by rw [inI_f.mpr (Or.inr (Int32.not_le.mpr g))] at e; cases e.1)) EQX.rf)) (fun g2 => t_C_filled_2 (fun g => t_C_filled_4 (q _ w (bad (fun e => by rw [inI_f.mpr (Or.inl g)] at e; cases e.2)) EQX.rf)) (fun g3 => t_C_filled_3 (fun g4 => t_C_filled_5 (s_G_leastFilled hG (t_C_filled_6 (s_C_pick (fun l hl => (fwF_ok l hl).1) (t_C_filled_7 (q _ w ?_ EQX.rf)))))) (fun g => t_C_filled_4 (q _ w (bad (fun e => by rw [inI_f.mpr (Or.inr g)] at e; cases e.2)) EQX.rf))))))
    simp only [filledA, inI_t g1 (Int32.not_lt.mp g2), inI_t g3 g4, and_self, if_true]
  · have bad : (¬ (inI x 0 9999 = true ∧ inI k (-1) 1 = true)) → (Value.int (-1) : Value) = .int (filledA S x k) := fun g => by unfold filledA; rw [if_neg g]
    refine n_N_filled (t_N_filled_0 (s_N_inI (a := 0) (b := 9999) rfl rfl (t_N_filled_1 (fun g => t_N_filled_4 (q _ w (bad (fun e => by rw [zb_t.mp g] at e; cases e.1)) EQX.rf)) (fun g => t_N_filled_2 (s_N_inI (a := -1) (b := 1) rfl rfl (t_N_filled_3 (fun g1 => t_N_filled_5 (s_N_look hG hk (fun w1 hw => t_N_filled_6 (s_N_fewestFilled (D := DFil S x) s_N_does_f ⟨hw.gn hG, hw.1, hw.2.1⟩ (fun w2 hp hx hR => ?_))))) (fun g1 => t_N_filled_4 (q _ w (bad (fun e => by rw [zb_t.mp g1] at e; cases e.2)) EQX.rf))))))))
    have hx := hw.eqx.tr hx
    rw [if_pos rfl] at hR ⊢
    have hok : ROK (fwF (DFil S x) (opS S)) := fwF_ok
    have ea : filledA S x k = pickA (fwF (DFil S x) (opS S)) k := by simp only [filledA, zb_f.mp g, zb_f.mp g1, and_self, if_true]
    rw [ea] at q
    generalize fwF (DFil S x) (opS S) = R at hR hok q
    cases R with
    | none => exact t_N_filled_7 (fun _ => t_N_filled_9 (t_N_filled_13 (q _ w2 rfl hx))) (fun g => absurd (by decide) g)
    | some l =>
      have hl := (hok l rfl).2
      refine t_N_filled_7 (fun g => absurd g (not_neg (by omega))) (fun _ => t_N_filled_8 (fun g => t_N_filled_10 (fun g2 => t_N_filled_12 (t_N_filled_13 (q _ w2 ?_ hx))) (fun g2 => t_N_filled_11 ?_ (t_N_filled_13 (q _ w2 ?_ hx)))) (fun g => t_N_filled_9 (t_N_filled_13 (q _ w2 ?_ hx))))
      · rw [pick_off g (by omega) g2]
      · have := pick_row hR g (by omega) g2
        rw [(pick_i g).1]; exact vp_in_lt (by omega) (by decide)
      · rw [(pick_row hR g (by omega) g2).1]
      · simp only [pickA, if_neg g]; rfl
def splitA (S : zS) (x i : Int32) : Int32 := if isC x = true ∧ inI i (-1) 1 = true then (if bt6 (opS S) x.toNatClampNeg = true then pickA (fwF (DSpl (hoS S x.toNatClampNeg)) (hoS S x.toNatClampNeg)) i else -2) else -1
theorem op_split {d : Nat} {w : zW} {x k : Int32} (h : RW w) : OPP (d + 5) m_C_split 5 m_N_split 4 [.ref 0, .int x, .int k] [.ref 10, .int x, .int k] w := by
  refine opQ (f := fun S => .int (splitA S x k)) (fun S Q hG hk q => ?_) (fun S w Q hG hk q => ?_) h
  · have e2 : gL w 1 2 = opS S := hG.2.2.1
    have bad : (¬ (isC x = true ∧ inI k (-1) 1 = true)) → (Value.int (-1) : Value) = .int (splitA S x k) := fun g => by unfold splitA; rw [if_neg g]
    refine n_C_split (t_C_split_0 (s_C_isCell (t_C_split_1 (fun g => t_C_split_4 (q _ w (bad (fun e => by rw [zb_t.mp g] at e; cases e.1)) EQX.rf)) (fun g => t_C_split_2 (fun g1 => t_C_split_4 (q _ w (bad (fun e => by rw [inI_f.mpr (Or.inl g1)] at e; cases e.2)) EQX.rf)) (fun g1 => t_C_split_3 (fun g2 => ?_) (fun g2 => t_C_split_4 (q _ w (bad (fun e => by rw [inI_f.mpr (Or.inr g2)] at e; cases e.2)) EQX.rf)))))))
    have g := zb_f.mp g
    have g3 := inI_t g1 g2
    obtain ⟨c, hc, rfl⟩ := isC_of g
    have hcl : (nI c).toNatClampNeg = c := nI_clamp (by omega)
    refine t_C_split_5 (s_G_holeAt (t_C_split_6 (fun g4 => t_C_split_8 ?_) (fun g4 => t_C_split_7 (t_C_split_10 (q _ w ?_ EQX.rf)))))
    · rw [e2] at g4 ⊢
      have e0 : fw1 (DSpl (hoS S c)) (hoS S c) 36 0 = fwF (DSpl (hoS S c)) (hoS S c) := by
        unfold fwF; rw [DSpl_0 (SET_op S) (by omega) g4]; rfl
      rw [ho_0 hc, Bool.not_eq_false] at g4
      refine n_P_leastSplit (t_P_leastSplit_0 (sp_1 (t_C_split_9 (s_C_pick (fun l hl => (fwF_ok l hl).1) (t_C_split_10 (q _ w ?_ EQX.rf)))) 36 0 rfl e0))
      simp only [splitA, g, g3, hcl, g4, and_self, if_true]
    · rw [e2, ho_0 hc] at g4
      simp only [splitA, g, g3, hcl, g4, and_self, if_true]; rfl
  · have bad : (¬ (isC x = true ∧ inI k (-1) 1 = true)) → (Value.int (-1) : Value) = .int (splitA S x k) := fun g => by unfold splitA; rw [if_neg g]
    refine n_N_split (t_N_split_0 (s_N_isCell (t_N_split_1 (fun g => t_N_split_4 (q _ w (bad (fun e => by rw [zb_t.mp g] at e; cases e.1)) EQX.rf)) (fun g => t_N_split_2 (s_N_inI (a := -1) (b := 1) rfl rfl (t_N_split_3 (fun g1 => t_N_split_5 (s_N_look hG hk (fun w1 hw => ?_))) (fun g1 => t_N_split_4 (q _ w (bad (fun e => by rw [zb_t.mp g1] at e; cases e.2)) EQX.rf))))))))
    have g := zb_f.mp g
    have g3 := zb_f.mp g1
    obtain ⟨c, hc, rfl⟩ := isC_of g
    have hcl : (nI c).toNatClampNeg = c := nI_clamp (by omega)
    have e7 : gL w1 10 7 = opS S := hw.1
    have hS : SET (hoS S c) := SET.cl _ (SET_op S)
    refine t_N_split_6 (s_N_has (by omega) (t_N_split_7 (fun g4 => t_N_split_9 (s_N_holeAt (by rw [e7]; exact SET_op S) (t_N_split_10 ?_))) (fun g4 => t_N_split_8 (q _ w1 ?_ hw.eqx))))
    · rw [e7, zb_f] at g4
      rw [e7]
      have hn : ¬ hoS S c = 0 := fun e => by rw [ho_0 hc, g4] at e; cases e
      refine s_N_fewestFilled (D := DSpl (hoS S c)) (s_N_does_s hS hn) ⟨hw.gn hG, hw.1, hw.2.1⟩ (fun w2 hp hx hR => ?_)
      have hx := hw.eqx.tr hx
      rw [if_neg hn] at hR ⊢
      have hok : ROK (fwF (DSpl (hoS S c)) (hoS S c)) := fwF_ok
      have ea : splitA S (nI c) k = pickA (fwF (DSpl (hoS S c)) (hoS S c)) k := by simp only [splitA, g, g3, hcl, g4, and_self, if_true]
      rw [ea] at q
      generalize fwF (DSpl (hoS S c)) (hoS S c) = R at hR hok q
      cases R with
      | none => exact t_N_split_11 (fun _ => t_N_split_13 (t_N_split_17 (q _ w2 rfl hx))) (fun g => absurd (by decide) g)
      | some l =>
        have hl := (hok l rfl).2
        refine t_N_split_11 (fun g => absurd g (not_neg (by omega))) (fun _ => t_N_split_12 (fun g => t_N_split_14 (fun g2 => t_N_split_16 (t_N_split_17 (q _ w2 ?_ hx))) (fun g2 => t_N_split_15 ?_ (t_N_split_17 (q _ w2 ?_ hx)))) (fun g => t_N_split_13 (t_N_split_17 (q _ w2 ?_ hx))))
        · rw [pick_off g (by omega) g2]
        · have := pick_row hR g (by omega) g2
          rw [(pick_i g).1]; exact vp_in_lt (by omega) (by decide)
        · rw [(pick_row hR g (by omega) g2).1]
        · simp only [pickA, if_neg g]; rfl
    · rw [e7, zb_t] at g4
      simp only [splitA, g, g3, hcl, g4, and_self, if_true]; rfl
