/-! ===== asking: look, told, count, roofs, cells ===== -/
def LKD (w w' : zW) (S : zS) : Prop := gL w' 10 7 = opS S ∧ gL w' 10 8 = niS S ∧ (∀ o k, gI w' o k = gI w o k) ∧ ∀ o k, ¬ (o = 10 ∧ (k = 7 ∨ k = 8)) → gL w' o k = gL w o k
theorem bx_op {S : zS} {c : Nat} (hc : c < 36) : bt6 (opS S) c = decide (0 < dpS S c) := by
  unfold opS; rw [bx_mk]; simp [hc]
theorem LKD.eqx {w w' : zW} {S : zS} (h : LKD w w' S) : EQX mRI mRL w w' := ⟨fun o k _ => h.2.2.1 o k, fun o k q => h.2.2.2 o k (fun e => by
  obtain ⟨rfl, e | e⟩ := e <;> rw [e] at q <;> cases q)⟩
theorem LKD.gn {w w' : zW} {S S' : zS} (h : LKD w w' S) (hG : GN w S') : GN w' S' := h.eqx.gnR hG
theorem mkn_or (p : Nat → Bool) (n : Nat) (v : Int64) (hv : v = if p n then b1 n else 0) : mkn p n ||| v = mkn p (n + 1) := by
  subst hv
  show _ = if p n = true then mkn p n ||| b1 n else mkn p n
  by_cases h : p n = true
  · rw [if_pos h, if_pos h]
  · rw [if_neg h, if_neg h]
    apply bx_ext
    intro i _
    rw [bx_or, bx_0]; simp
theorem lp_N_look {d : Nat} {w0 : zW} {Q : zQ} {S : zS} (hG : GN w0 S) (hk : okS S) (h : ∀ w', LKD w0 w' S → Q none w') : ∀ (n j : Nat) (w : zW), j + n = 36 → gL w 10 7 = mkn (fun c => decide (0 < dpS S c)) j → gL w 10 8 = mkn (fun c => decide (dpS S c = 9)) j → (∀ o k, gI w o k = gI w0 o k) → (∀ o k, ¬ (o = 10 ∧ (k = 7 ∨ k = 8)) → gL w o k = gL w0 o k) → WP d m_N_look 1 [some (.ref 10), some (.int (nI j))] [] w Q
  | 0, j, w, hj, h7, h8, hI, hL => by
    have e : j = 36 := by omega
    subst e
    exact t_N_look_1 (fun _ => t_N_look_9 (h w ⟨h7, h8, hI, hL⟩)) (fun g => absurd (Int32.le_refl _) g)
  | n + 1, j, w, hj, h7, h8, hI, hL => by
    have hjl : j < 36 := by omega
    have hd : gI w 28 (nI j).toNatClampNeg = nI (dpS S j) := by rw [nI_clamp (by omega), hI]; exact hG.1 j hjl
    have h9 := hk.1 j hjl
    have a0 : nI (dpS S j) ≤ 0 ↔ dpS S j = 0 := nI_le0 (by omega)
    have a9 : nI (dpS S j) = 9 ↔ dpS S j = 9 := nI_eqk (k := 9) (by omega) (by decide)
    have key8 : ∀ (w1 : zW) (u1 u2 : Int64), gL w1 10 7 = mkn (fun c => decide (0 < dpS S c)) (j + 1) → u1 = mkn (fun c => decide (dpS S c = 9)) j → u2 = (if decide (dpS S j = 9) then b1 j else 0) → (∀ o k, gI w1 o k = gI w0 o k) → (∀ o k, ¬ (o = 10 ∧ (k = 7 ∨ k = 8)) → gL w1 o k = gL w0 o k) → WP d m_N_look 8 [some (.ref 10), some (.int (nI j))] [.long u2, .long u1, .ref 10] w1 Q := by
      intro w1 u1 u2 g1 g2 g3 g4 g5
      refine t_N_look_8 ?_
      rw [n1]
      refine lp_N_look hG hk h n (j + 1) _ (by omega) ?_ ?_ g4 (fun o k q => ?_)
      · rw [gL_sL, if_neg (by decide)]; exact g1
      · rw [gL_sL, if_pos ⟨rfl, rfl⟩, g2]; exact mkn_or _ j u2 g3
      · rw [gL_sL, if_neg (fun e => q ⟨e.1, Or.inr e.2⟩)]; exact g5 o k q
    have key5 : ∀ (u1 u2 : Int64), u1 = mkn (fun c => decide (0 < dpS S c)) j → u2 = (if decide (0 < dpS S j) then b1 j else 0) → WP d m_N_look 5 [some (.ref 10), some (.int (nI j))] [.long u2, .long u1, .ref 10] w Q := by
      intro u1 u2 g1 g2
      have e7 : gL (sL w 10 7 (u1 ||| u2)) 10 7 = mkn (fun c => decide (0 < dpS S c)) (j + 1) := by
        rw [gL_sL, if_pos ⟨rfl, rfl⟩, g1]; exact mkn_or _ j u2 g2
      have eL : ∀ o k, ¬ (o = 10 ∧ (k = 7 ∨ k = 8)) → gL (sL w 10 7 (u1 ||| u2)) o k = gL w0 o k := fun o k q => by
        rw [gL_sL, if_neg (fun e => q ⟨e.1, Or.inl e.2⟩)]; exact hL o k q
      refine t_N_look_5 (vp_in_lt hjl (by decide)) (fun g => t_N_look_7 (key8 _ _ _ e7 h8 ?_ hI eL)) (fun g => t_N_look_6 (key8 _ _ _ e7 h8 ?_ hI eL))
      · rw [hd, a9] at g; simp [g]
      · rw [hd, a9] at g; simp only [g, decide_true, if_true]; rfl
    refine t_N_look_1 (fun g => absurd g (nI_ge (show j < 36 by omega) (by decide))) (fun _ => t_N_look_2 (vp_in_lt hjl (by decide)) (fun g => t_N_look_4 (key5 _ _ h7 ?_)) (fun g => t_N_look_3 (key5 _ _ h7 ?_)))
    · rw [hd, a0] at g; simp [g]
    · rw [hd, a0] at g
      rw [decide_eq_true (show 0 < dpS S j by omega), if_pos rfl]; rfl
theorem s_N_look {d : Nat} {w : zW} {Q : zQ} {S : zS} (hG : GN w S) (hk : okS S) (h : ∀ w', LKD w w' S → Q none w') : WM d m_N_look 2 [.ref 10] w Q := by
  refine n_N_look (t_N_look_0 (lp_N_look hG hk h 36 0 _ rfl rfl rfl (fun _ _ => rfl) (fun o k q => ?_)))
  rw [gL_sL, if_neg (fun e => q ⟨e.1, Or.inr e.2⟩), gL_sL, if_neg (fun e => q ⟨e.1, Or.inl e.2⟩)]
theorem SET_op (S : zS) : SET (opS S) := SET.mk _
theorem FH.eqx {w w' : zW} {l : List Int64} (h : FH w w' l) : EQX mRI mRL w w' := ⟨fun o k q => h.2.2.2.1 o k (fun e => by obtain ⟨rfl, rfl⟩ := e; cases q), fun o k q => h.2.2.2.2 o k (fun e => by subst e; cases q)⟩
/-- a question -/
theorem opQ {d mc nc mn nn : Nat} {vc vn : List Value} {w : zW} {f : zS → Value}
    (hC : ∀ (S : zS) (Q : zQ), GC w 1 S → okS S → (∀ v w', v = f S → EQX mDI mDL w w' → Q (some v) w') → WM d mc nc vc w Q)
    (hN : ∀ (S : zS) (w : zW) (Q : zQ), GN w S → okS S → (∀ v w', v = f S → EQX mRI mRL w w' → Q (some v) w') → WM d mn nn vn w Q) (h : RW w) : OPP d mc nc mn nn vc vn w := by
  obtain ⟨S, K, T, H, h1, h2, h3, h4, h5, h6⟩ := h
  refine hC S _ h2 h1 (fun v1 w1 e1 x1 => hN S w1 _ (x1.gnD h3) h1 (fun v2 w2 e2 x2 => ⟨by rw [e1, e2], ?_, x1.dA.scr.tr x2.rN.nA.scr⟩))
  have hx := x1.dA.tr x2.rN.nA
  exact ⟨S, K, T, H, h1, x2.rN.gcN (x1.gcD h2), x2.gnR (x1.gnD h3), hx.kim.img h4, hx.ktp.tap h5, hx.ksh.sht h6⟩
def toldA (S : zS) (x k : Int32) : Int32 := if isC x = true then (if k = 0 then nI (dpS S x.toNatClampNeg) else if k = 1 then zb (bt6 (roS S) x.toNatClampNeg) else if k = 2 then nI (owS S x.toNatClampNeg) else if k = 3 then (if dpS S x.toNatClampNeg = 0 then -4 else nI (lo6 (cl (b1 x.toNatClampNeg) (opS S)))) else -1) else -1
theorem hole_ne {S : zS} {c : Nat} (hc : c < 36) (h : ¬ dpS S c = 0) : ¬ cl (b1 c) (opS S) = 0 := fun e => by
  have := cl1_mem (SET_op S) (i := c) (by rw [bx_op hc]; simp; omega)
  rw [e, bx_0] at this
  cases this
theorem hole_0 {S : zS} {c : Nat} (hc : c < 36) (h : dpS S c = 0) : cl (b1 c) (opS S) = 0 := by
  apply bx_ext
  intro i _
  rw [bx_0]
  cases e : bt6 (cl (b1 c) (opS S)) i with
  | false => rfl
  | true =>
    refine absurd ((cl_is (s := b1 c) (SET_op S)).1.2.2 (fun _ => False) (fun i hi => ?_) (fun _ _ q _ _ _ => q) i e) id
    rw [bx_and, bx_b1 (by omega), Bool.and_eq_true, decide_eq_true_eq] at hi
    rw [hi.1, bx_op hc, h] at hi
    cases hi.2
theorem op_told {d : Nat} {w : zW} {x k : Int32} (h : RW w) : OPP (d + 3) m_C_told 3 m_N_told 3 [.ref 0, .int x, .int k] [.ref 10, .int x, .int k] w := by
  refine opQ (f := fun S => .int (toldA S x k)) (fun S Q hG hk q => ?_) (fun S w Q hG hk q => ?_) h
  · refine n_C_told (t_C_told_0 (s_C_isCell (t_C_told_1 (fun g => ?_) (fun g => t_C_told_2 (q _ w ?_ EQX.rf)))))
    · have g := zb_f.mp g
      obtain ⟨c, hc, rfl⟩ := isC_of g
      have hcl : (nI c).toNatClampNeg = c := nI_clamp (by omega)
      have e5 : gL w 1 4 = roS S := hG.2.2.2.2.1
      have e3 : gL w 1 2 = opS S := hG.2.2.1
      refine t_C_told_3 (fun e => t_C_told_4 (vp_in_lt hc (by decide)) (q _ w ?_ EQX.rf)) (fun e => t_C_told_5 (s_P_has (by omega) (t_C_told_6 (fun g2 => t_C_told_8 (t_C_told_9 (q _ w ?_ EQX.rf))) (fun g2 => t_C_told_7 (t_C_told_9 (q _ w ?_ EQX.rf)))))) (fun e => t_C_told_10 (vp_in_lt hc (by decide)) (q _ w ?_ EQX.rf)) (fun e => t_C_told_11 (s_P_has (by omega) (t_C_told_12 (fun g2 => t_C_told_16 (t_C_told_17 (q _ w ?_ EQX.rf))) (fun g2 => t_C_told_13 (s_G_holeAt (t_C_told_14 ?_)))))) (fun e0 e1 e2 e3 => t_C_told_18 (q _ w ?_ EQX.rf))
      · simp only [toldA, g, if_true, e, hcl, hG.1 c hc]
      · rw [e5] at g2; simp only [toldA, g, if_true, e, hcl, g2]; rfl
      · rw [e5] at g2; simp only [toldA, g, if_true, e, hcl, zb_f.mp g2]; rfl
      · simp only [toldA, g, if_true, e, hcl, hG.2.1 c hc]; rfl
      · rw [e3, zb_t, bx_op hc, decide_eq_false_iff_not] at g2
        simp only [toldA, g, if_true, e, hcl, show dpS S c = 0 by omega]; rfl
      · rw [e3, zb_f, bx_op hc, decide_eq_true_eq] at g2
        rw [e3]
        refine s_P_least (hole_ne hc (by omega)) (t_C_told_15 (t_C_told_17 (q _ w ?_ EQX.rf)))
        simp only [toldA, g, if_true, e, hcl, show ¬ dpS S c = 0 by omega]; rfl
      · simp only [toldA, g, if_true, e0, e1, e2, e3, if_false]
    · simp only [toldA, zb_t.mp g]; rfl
  · refine n_N_told (t_N_told_0 (s_N_isCell (t_N_told_1 (fun g => t_N_told_3 (s_N_look hG hk (fun w1 hw => ?_))) (fun g => t_N_told_2 (q _ w ?_ EQX.rf)))))
    · have g := zb_f.mp g
      obtain ⟨c, hc, rfl⟩ := isC_of g
      have hcl : (nI c).toNatClampNeg = c := nI_clamp (by omega)
      have hG1 := hw.gn hG
      have hx := hw.eqx
      have e5 : gL w1 10 2 = roS S := hG1.2.2.1
      have e3 : gL w1 10 7 = opS S := hw.1
      refine t_N_told_4 (fun e => t_N_told_5 (vp_in_lt hc (by decide)) (q _ w1 ?_ hx)) (fun e => t_N_told_6 (s_N_has (by omega) (t_N_told_7 (fun g2 => t_N_told_9 (t_N_told_10 (q _ w1 ?_ hx))) (fun g2 => t_N_told_8 (t_N_told_10 (q _ w1 ?_ hx)))))) (fun e => t_N_told_11 (vp_in_lt hc (by decide)) (q _ w1 ?_ hx)) (fun e => t_N_told_12 (s_N_has (by omega) (t_N_told_13 (fun g2 => t_N_told_17 (t_N_told_18 (q _ w1 ?_ hx))) (fun g2 => t_N_told_14 (s_N_holeAt (by rw [e3]; exact SET_op S) (t_N_told_15 ?_)))))) (fun e0 e1 e2 e3 => t_N_told_19 (q _ w1 ?_ hx))
      · simp only [toldA, g, if_true, e, hcl, hG1.1 c hc]
      · rw [e5] at g2; simp only [toldA, g, if_true, e, hcl, g2]; rfl
      · rw [e5] at g2; simp only [toldA, g, if_true, e, hcl, zb_f.mp g2]; rfl
      · simp only [toldA, g, if_true, e, hcl, hG1.2.1 c hc]; rfl
      · rw [e3, zb_t, bx_op hc, decide_eq_false_iff_not] at g2
        simp only [toldA, g, if_true, e, hcl, show dpS S c = 0 by omega]; rfl
      · rw [e3, zb_f, bx_op hc, decide_eq_true_eq] at g2
        rw [e3]
        refine s_N_least (hole_ne hc (by omega)) (SET.cl _ (SET_op S)) (t_N_told_16 (t_N_told_18 (q _ w1 ?_ hx)))
        simp only [toldA, g, if_true, e, hcl, show ¬ dpS S c = 0 by omega]; rfl
      · simp only [toldA, g, if_true, e0, e1, e2, e3, if_false]
    · simp only [toldA, zb_t.mp g]; rfl
