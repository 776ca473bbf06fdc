/-! ===== image, restore ===== -/
def cLo (k : Nat) : Nat × Nat := if k < 36 then (28, k) else if k < 72 then (29, k - 36) else if k < 102 then (30, k - 72) else if k = 102 then (10, 3) else if k = 103 then (10, 5) else (10, 6)
def CAR (w w' : zW) (k : Nat) (b : Bool) (v : Int32) : Prop := (∀ o j, gI w' o j = if b = true ∧ o = (cLo k).1 ∧ j = (cLo k).2 then v else gI w o j) ∧ ∀ o j, gL w' o j = gL w o j
theorem nI_hi {a b : Nat} (ha : a < 2 ^ 31) (hb : b < 2 ^ 31) : nI a ≤ nI b ↔ a ≤ b := nI_leI ha hb
theorem nI_ltN {a b : Nat} (ha : a < 2 ^ 31) (hb : b < 2 ^ 31) : nI a < nI b ↔ a < b := by
  rw [← Int32.not_le, nI_hi hb ha]; omega
theorem s_N_carried {d : Nat} {w : zW} {Q : zQ} {k : Nat} {v : Int32} {b : Bool} (hk : k < 105) (h : ∀ w', CAR w w' k b v → Q (some (.int (if b = true then v else gI w (cLo k).1 (cLo k).2))) w') : WM d m_N_carried 5 [.ref 10, .int (nI k), .int v, .int (zb b)] w Q := by
  have l36 : (36 : Int32) ≤ nI k ↔ 36 ≤ k := nI_hi (a := 36) (by decide) (by omega)
  have l72 : (72 : Int32) ≤ nI k ↔ 72 ≤ k := nI_hi (a := 72) (by decide) (by omega)
  have l102 : (102 : Int32) ≤ nI k ↔ 102 ≤ k := nI_hi (a := 102) (by decide) (by omega)
  have m36 : nI k < (36 : Int32) ↔ k < 36 := nI_ltN (b := 36) (by omega) (by decide)
  have q102 : nI k = (102 : Int32) ↔ k = 102 := nI_eqk (k := 102) (by omega) (by decide)
  have q103 : nI k = (103 : Int32) ↔ k = 103 := nI_eqk (k := 103) (by omega) (by decide)
  have q104 : nI k = (104 : Int32) ↔ k = 104 := nI_eqk (k := 104) (by omega) (by decide)
  refine n_N_carried (t_N_carried_0 (fun g => ?_) (fun g => ?_))
  · rw [l72] at g
    refine t_N_carried_13 (fun g2 => ?_) (fun g2 => ?_)
    · rw [l102] at g2
      have k26 : ∀ (x1 x2 x3 : Int32), x1 = (if b = true ∧ k = 102 then v else gI w 10 3) → x2 = (if b = true ∧ k = 103 then v else gI w 10 5) → x3 = (if b = true ∧ k = 104 then v else gI w 10 6) → WP d m_N_carried 30 [some (.ref 10), some (.int (nI k)), none, none, none] [.int x3, .ref 10] (sI (sI w 10 3 x1) 10 5 x2) Q := fun x1 x2 x3 e1 e2 e3 => by
        have hc : CAR w (sI (sI (sI w 10 3 x1) 10 5 x2) 10 6 x3) k b v := by
          refine ⟨fun o j => ?_, fun o j => rfl⟩
          rw [gI_sI, gI_sI, gI_sI, e1, e2, e3]
          have hcc : k = 102 ∨ k = 103 ∨ k = 104 := by omega
          rcases hcc with rfl | rfl | rfl <;> cases b <;> simp [cLo]
          all_goals
            by_cases a1 : o = 10
            · subst a1
              by_cases a2 : j = 3
              · subst a2; simp
              · by_cases a3 : j = 5
                · subst a3; simp
                · by_cases a4 : j = 6
                  · subst a4; simp
                  · simp [a2, a3, a4]
            · simp [a1]
        have hQ := h _ hc
        have g3 : gI (sI (sI (sI w 10 3 x1) 10 5 x2) 10 6 x3) 10 3 = x1 := by simp [gI_sI]
        have g5 : gI (sI (sI (sI w 10 3 x1) 10 5 x2) 10 6 x3) 10 5 = x2 := by simp [gI_sI]
        have g6 : gI (sI (sI (sI w 10 3 x1) 10 5 x2) 10 6 x3) 10 6 = x3 := by simp [gI_sI]
        refine t_N_carried_30 (fun a => t_N_carried_32 (fun a2 => t_N_carried_34 (t_N_carried_35 ?_)) (fun a2 => t_N_carried_33 (t_N_carried_35 ?_))) (fun a => t_N_carried_31 (t_N_carried_35 ?_))
        · rw [q102] at a
          rw [q103] at a2
          have : k = 104 := by omega
          subst this
          rw [g6]
          have ev : (if b = true then v else gI w (cLo 104).1 (cLo 104).2) = x3 := by rw [e3]; cases b <;> simp [cLo]
          rw [ev] at hQ; exact hQ
        · rw [q103] at a2
          subst a2
          rw [g5]
          have ev : (if b = true then v else gI w (cLo 103).1 (cLo 103).2) = x2 := by rw [e2]; cases b <;> simp [cLo]
          rw [ev] at hQ; exact hQ
        · rw [q102] at a
          subst a
          rw [g3]
          have ev : (if b = true then v else gI w (cLo 102).1 (cLo 102).2) = x1 := by rw [e1]; cases b <;> simp [cLo]
          rw [ev] at hQ; exact hQ
      have k22 : ∀ (x1 x2 : Int32), x1 = (if b = true ∧ k = 102 then v else gI w 10 3) → x2 = (if b = true ∧ k = 103 then v else gI w 10 5) → WP d m_N_carried 26 [some (.ref 10), some (.int (nI k)), some (.int v), some (.int (zb b)), none] [.int x2, .ref 10] (sI w 10 3 x1) Q := fun x1 x2 e1 e2 => by
        refine t_N_carried_26 (fun a => t_N_carried_29 (k26 x1 x2 _ e1 e2 ?_)) (fun a => t_N_carried_27 (fun a2 => t_N_carried_29 (k26 x1 x2 _ e1 e2 ?_)) (fun a2 => t_N_carried_28 (k26 x1 x2 _ e1 e2 ?_)))
        · rw [if_neg (fun q => by rw [zb_t.mp a] at q; cases q.1)]; simp [gI_sI]
        · rw [q104] at a2; rw [if_neg (fun q => a2 q.2)]; simp [gI_sI]
        · rw [q104] at a2; rw [if_pos ⟨zb_f.mp a, a2⟩]
      have k18 : ∀ (x1 : Int32), x1 = (if b = true ∧ k = 102 then v else gI w 10 3) → WP d m_N_carried 22 [some (.ref 10), some (.int (nI k)), some (.int v), some (.int (zb b)), none] [.int x1, .ref 10] w Q := fun x1 e1 => by
        refine t_N_carried_22 (fun a => t_N_carried_25 (k22 x1 _ e1 ?_)) (fun a => t_N_carried_23 (fun a2 => t_N_carried_25 (k22 x1 _ e1 ?_)) (fun a2 => t_N_carried_24 (k22 x1 _ e1 ?_)))
        · rw [if_neg (fun q => by rw [zb_t.mp a] at q; cases q.1)]; simp [gI_sI]
        · rw [q103] at a2; rw [if_neg (fun q => a2 q.2)]; simp [gI_sI]
        · rw [q103] at a2; rw [if_pos ⟨zb_f.mp a, a2⟩]
      refine t_N_carried_18 (fun a => t_N_carried_21 (k18 _ ?_)) (fun a => t_N_carried_19 (fun a2 => t_N_carried_21 (k18 _ ?_)) (fun a2 => t_N_carried_20 (k18 _ ?_)))
      · rw [if_neg (fun q => by rw [zb_t.mp a] at q; cases q.1)]
      · rw [q102] at a2; rw [if_neg (fun q => a2 q.2)]
      · rw [q102] at a2; rw [if_pos ⟨zb_f.mp a, a2⟩]
    · rw [l102] at g2
      have e72 : nI k - (72 : Int32) = nI (k - 72) := by
        have : k = k - 72 + 72 := by omega
        rw [this, ← nI_add (k - 72) 72, show k - 72 + 72 - 72 = k - 72 by omega]
        exact Int32.add_sub_cancel _ _
      have hin : vp_in (nI (k - 72)) 30 := vp_in_lt (by omega) (by decide)
      have hcl : (nI (k - 72)).toNatClampNeg = k - 72 := nI_clamp (by omega)
      have ec : cLo k = (30, k - 72) := by unfold cLo; rw [if_neg (by omega), if_neg (by omega), if_pos (by omega)]
      have key : ∀ x, x = (if b = true then v else gI w 30 (k - 72)) → WP d m_N_carried 17 [some (.ref 10), some (.int (nI k)), none, none, none] [.int x, .int (nI (k - 72)), .ref 30] w Q := fun x ex => by
        refine t_N_carried_17 hin (by rw [e72]; exact hin) ?_
        rw [e72, hcl, gI_sI, if_pos ⟨rfl, rfl⟩]
        have := h (sI w 30 (k - 72) x) ⟨fun o j => ?_, fun o j => rfl⟩
        · rw [ec] at this
          rw [ex] at this ⊢; exact this
        · rw [gI_sI, ec, ex]
          cases b
          · by_cases a : o = 30 ∧ j = k - 72
            · rw [if_pos a, a.1, a.2]; simp
            · rw [if_neg a]; simp
          · by_cases a : o = 30 ∧ j = k - 72
            · rw [if_pos a, if_pos rfl, if_pos ⟨rfl, a.1, a.2⟩]
            · rw [if_neg a, if_neg (fun q => a q.2)]
      refine t_N_carried_14 (fun a => ?_) (fun a => ?_)
      · rw [e72]
        refine t_N_carried_16 (by rw [e72]; exact hin) ?_
        rw [e72, hcl]
        exact key _ (by rw [zb_t.mp a]; rfl)
      · rw [e72]
        exact t_N_carried_15 (key _ (by rw [zb_f.mp a]; rfl))
  · rw [l72] at g
    have er : zrm (nI k) 36 = nI (k % 36) := zrm_n (by omega) (k := 36) (by decide) (by decide)
    have hin : vp_in (nI (k % 36)) 36 := vp_in_lt (by omega) (by decide)
    have hcl : (nI (k % 36)).toNatClampNeg = k % 36 := nI_clamp (by omega)
    have key2 : ∀ x y, x = (if b = true ∧ k < 36 then v else gI w 28 (k % 36)) → y = (if b = true ∧ ¬ k < 36 then v else gI w 29 (k % 36)) → WP d m_N_carried 9 [some (.ref 10), some (.int (nI k)), none, none, some (.int (nI (k % 36)))] [.int y, .int (nI (k % 36)), .ref 29] (sI w 28 (k % 36) x) Q := fun x y ex ey => by
      have hc : CAR w (sI (sI w 28 (k % 36) x) 29 (k % 36) y) k b v := by
        refine ⟨fun o j => ?_, fun o j => rfl⟩
        rw [gI_sI, gI_sI, ex, ey]
        by_cases a : k < 36
        · have ec : cLo k = (28, k) := by unfold cLo; rw [if_pos a]
          have em : k % 36 = k := by omega
          rw [ec, em]
          by_cases o1 : o = 29 ∧ j = k
          · obtain ⟨rfl, rfl⟩ := o1
            simp [a]
          · rw [if_neg o1]
            by_cases o2 : o = 28 ∧ j = k
            · obtain ⟨rfl, rfl⟩ := o2
              cases b <;> simp [a]
            · rw [if_neg o2, if_neg (fun q => o2 q.2)]
        · have ec : cLo k = (29, k - 36) := by unfold cLo; rw [if_neg a, if_pos (by omega)]
          have em : k % 36 = k - 36 := by omega
          rw [ec, em]
          by_cases o1 : o = 29 ∧ j = k - 36
          · obtain ⟨rfl, rfl⟩ := o1
            cases b <;> simp [a]
          · rw [if_neg o1]
            by_cases o2 : o = 28 ∧ j = k - 36
            · obtain ⟨rfl, rfl⟩ := o2
              simp [a]
            · rw [if_neg o2, if_neg (fun q => o1 q.2)]
      have hQ := h _ hc
      refine t_N_carried_9 hin (fun a => t_N_carried_11 hin (t_N_carried_12 ?_)) (fun a => t_N_carried_10 hin (t_N_carried_12 ?_))
      · rw [l36] at a
        have ec : cLo k = (29, k % 36) := by unfold cLo; rw [if_neg (by omega), if_pos (by omega), show k % 36 = k - 36 by omega]
        rw [hcl, gI_sI, if_pos ⟨rfl, rfl⟩]
        rw [ec] at hQ
        have ev : (if b = true then v else gI w (29, k % 36).1 (29, k % 36).2) = y := by rw [ey]; cases b <;> simp [show ¬ k < 36 by omega]
        rw [ev] at hQ; exact hQ
      · rw [l36] at a
        have ec : cLo k = (28, k % 36) := by unfold cLo; rw [if_pos (by omega), show k % 36 = k by omega]
        rw [hcl, gI_sI, if_neg (by omega), gI_sI, if_pos ⟨rfl, rfl⟩]
        rw [ec] at hQ
        have ev : (if b = true then v else gI w (28, k % 36).1 (28, k % 36).2) = x := by rw [ex]; cases b <;> simp [show k < 36 by omega]
        rw [ev] at hQ; exact hQ
    have key1 : ∀ x, x = (if b = true ∧ k < 36 then v else gI w 28 (k % 36)) → WP d m_N_carried 5 [some (.ref 10), some (.int (nI k)), some (.int v), some (.int (zb b)), some (.int (nI (k % 36)))] [.int x, .int (nI (k % 36)), .ref 28] w Q := fun x ex => by
      refine t_N_carried_5 hin (fun a => t_N_carried_8 hin ?_) (fun a => t_N_carried_6 (fun a2 => t_N_carried_8 hin ?_) (fun a2 => t_N_carried_7 ?_))
      · rw [hcl, gI_sI, if_neg (by omega)]
        exact key2 x _ ex (by rw [if_neg (fun q => by rw [zb_t.mp a] at q; cases q.1)])
      · rw [hcl, gI_sI, if_neg (by omega)]
        rw [m36] at a2
        exact key2 x _ ex (by rw [if_neg (fun q => q.2 a2)])
      · rw [hcl]
        rw [m36] at a2
        exact key2 x _ ex (by rw [if_pos ⟨zb_f.mp a, a2⟩])
    refine t_N_carried_1 (fun a => ?_) (fun a => ?_)
    · rw [er]
      refine t_N_carried_4 hin ?_
      rw [hcl]
      exact key1 _ (by rw [if_neg (fun q => by rw [zb_t.mp a] at q; cases q.1)])
    · rw [er]
      refine t_N_carried_2 (fun a2 => t_N_carried_4 hin ?_) (fun a2 => t_N_carried_3 ?_)
      · rw [hcl]
        rw [l36] at a2
        exact key1 _ (by rw [if_neg (fun q => absurd q.2 (by omega))])
      · rw [l36] at a2
        exact key1 _ (by rw [if_pos ⟨zb_f.mp a, by omega⟩])
/-! the county's image -/
def mKI (o k : Nat) : Bool := (o == 0 && k == 2) || o == 2 || o == 14 || o == 15 || o == 16
def mKL (o _ : Nat) : Bool := o == 2
def mMI (o k : Nat) : Bool := o == 38 || (o == 10 && k == 20)
def mML (o k : Nat) : Bool := o == 10 && k == 21
theorem s_G_take21 {d : Nat} {w : zW} {Q : zQ} {S : zS} (hG : GC w 1 S) (hk : okS S) (h : ∀ w', GC w' 2 S → EQX mKI mKL w w' → Q none w') : WM (d + 1) m_G_takeAll 2 [.ref 2, .ref 1] w Q := by
  obtain ⟨a1, a2, a3, a4, a5, a6, a7, a8, a9⟩ := hG
  have hl := hk.2.2.2.2.2.2.1
  refine n_G_takeAll (t_G_takeAll_0 rfl rfl rfl rfl (by decide) (t_G_takeAll_1 rfl rfl rfl rfl (by decide) (t_G_takeAll_2 rfl rfl rfl rfl rfl rfl rfl rfl rfl rfl rfl rfl rfl rfl (by decide) (t_G_takeAll_3 rfl rfl (h _ ⟨fun c hc => ?_, fun c hc => ?_, ?_, ?_, ?_, ?_, ?_, ?_, fun j e he => ?_⟩ ?_)))))
  · rw [← a1 c hc]
    simp [gI_sI, gI_cI, gI_sL, zrf, zrfL, hc]
  · rw [← a2 c hc]
    simp [gI_sI, gI_cI, gI_sL, zrf, zrfL, hc]
  · rw [← a3]; simp [gL_sI, gL_cI, gL_sL]
  · rw [← a4]; simp [gL_sI, gL_cI, gL_sL]
  · rw [← a5]; simp [gL_sI, gL_cI, gL_sL]
  · rw [← a6]; simp [gI_sI, gI_cI, gI_sL, zrf, zrfL]
  · rw [← a7]; simp [gI_sI, gI_cI, gI_sL, zrf, zrfL]
  · rw [← a8]; simp [gI_sI, gI_cI, gI_sL, zrf, zrfL]
  · have hj : j < 10 := by have := (List.getElem?_eq_some_iff.mp he).1; omega
    rw [← a9 j e he]
    simp [gI_sI, gI_cI, gI_sL, zrf, zrfL, hj]
  · exact (((((((((EQX.rf.xI (fun _ => rfl)).xI (fun _ => rfl)).pL _ rfl).pL _ rfl).pL _ rfl).pI _ rfl).pI _ rfl).xI (fun _ => rfl)).pI _ rfl)
theorem s_G_take12 {d : Nat} {w : zW} {Q : zQ} {S : zS} (hG : GC w 2 S) (hk : okS S) (h : ∀ w', GC w' 1 S → EQX mCI mCL w w' → Q none w') : WM (d + 1) m_G_takeAll 2 [.ref 1, .ref 2] w Q := by
  obtain ⟨a1, a2, a3, a4, a5, a6, a7, a8, a9⟩ := hG
  have hl := hk.2.2.2.2.2.2.1
  refine n_G_takeAll (t_G_takeAll_0 rfl rfl rfl rfl (by decide) (t_G_takeAll_1 rfl rfl rfl rfl (by decide) (t_G_takeAll_2 rfl rfl rfl rfl rfl rfl rfl rfl rfl rfl rfl rfl rfl rfl (by decide) (t_G_takeAll_3 rfl rfl (h _ ⟨fun c hc => ?_, fun c hc => ?_, ?_, ?_, ?_, ?_, ?_, ?_, fun j e he => ?_⟩ ?_)))))
  · rw [← a1 c hc]
    simp [gI_sI, gI_cI, gI_sL, zrf, zrfL, hc]
  · rw [← a2 c hc]
    simp [gI_sI, gI_cI, gI_sL, zrf, zrfL, hc]
  · rw [← a3]; simp [gL_sI, gL_cI, gL_sL]
  · rw [← a4]; simp [gL_sI, gL_cI, gL_sL]
  · rw [← a5]; simp [gL_sI, gL_cI, gL_sL]
  · rw [← a6]; simp [gI_sI, gI_cI, gI_sL, zrf, zrfL]
  · rw [← a7]; simp [gI_sI, gI_cI, gI_sL, zrf, zrfL]
  · rw [← a8]; simp [gI_sI, gI_cI, gI_sL, zrf, zrfL]
  · have hj : j < 10 := by have := (List.getElem?_eq_some_iff.mp he).1; omega
    rw [← a9 j e he]
    simp [gI_sI, gI_cI, gI_sL, zrf, zrfL, hj]
  · exact (((((((((EQX.rf.xI (fun _ => rfl)).xI (fun _ => rfl)).pL _ rfl).pL _ rfl).pL _ rfl).pI _ rfl).pI _ rfl).xI (fun _ => rfl)).pI _ rfl)
/-! the reference's -/
theorem cLo_inj : ∀ i, i < 105 → ∀ j, j < 105 → cLo i = cLo j → i = j := by decide +kernel
theorem cLo_N : ∀ j, j < 105 → mNI (cLo j).1 (cLo j).2 = true ∧ mMI (cLo j).1 (cLo j).2 = false := by decide +kernel
theorem lp_N_image {d : Nat} {w0 : zW} {Q : zQ} (h : ∀ w', (∀ i, i < 105 → gI w' 38 i = gI w0 (cLo i).1 (cLo i).2) → EQX mMI mML w0 w' → WP (d + 1) m_N_image 4 [some (.ref 10), none] [] w' Q) : ∀ (n j : Nat) (w : zW), j + n = 105 → (∀ i, i < j → gI w 38 i = gI w0 (cLo i).1 (cLo i).2) → EQX mMI mML w0 w → WP (d + 1) m_N_image 1 [some (.ref 10), some (.int (nI j))] [] w Q
  | 0, j, w, hj, hi, hx => by
    have e : j = 105 := by omega
    subst e
    exact t_N_image_1 (fun _ => h w hi hx) (fun g => absurd (Int32.le_refl _) g)
  | n + 1, j, w, hj, hi, hx => by
    have hj5 : j < 105 := by omega
    refine t_N_image_1 (fun g => absurd g (nI_ge hj5 (by decide))) (fun _ => t_N_image_2 (s_N_carried (b := false) hj5 (fun w1 hc => t_N_image_3 (vp_in_lt (by omega) (by decide)) ?_)))
    rw [n1, nI_clamp (by omega)]
    have hv : (if false = true then (0 : Int32) else gI w (cLo j).1 (cLo j).2) = gI w0 (cLo j).1 (cLo j).2 := hx.1 _ _ (cLo_N j hj5).2
    rw [hv]
    have hw1 : ∀ o k, gI w1 o k = gI w o k := fun o k => by rw [hc.1 o k, if_neg (fun q => by cases q.1)]
    refine lp_N_image h n (j + 1) _ (by omega) (fun i hij => ?_) (EQX.pI ⟨fun o k q => by rw [hw1]; exact hx.1 o k q, fun o k q => by rw [hc.2]; exact hx.2 o k q⟩ (o := 38) (k := j) _ rfl)
    rw [gI_sI]
    by_cases e : i = j
    · subst e; rw [if_pos ⟨rfl, rfl⟩]
    · rw [if_neg (fun q => e q.2), hw1]; exact hi i (by omega)
theorem lp_N_restore {d : Nat} {w0 : zW} {Q : zQ} (h : ∀ w', (∀ i, i < 105 → gI w' (cLo i).1 (cLo i).2 = gI w0 38 i) → EQX mNI mNL w0 w' → (∀ o k, gL w' o k = gL w0 o k) → WP (d + 1) m_N_restore 6 [some (.ref 10), none] [] w' Q) : ∀ (n j : Nat) (w : zW), j + n = 105 → (∀ i, i < j → gI w (cLo i).1 (cLo i).2 = gI w0 38 i) → EQX mNI mNL w0 w → (∀ o k, gL w o k = gL w0 o k) → WP (d + 1) m_N_restore 3 [some (.ref 10), some (.int (nI j))] [] w Q
  | 0, j, w, hj, hi, hx, hl => by
    have e : j = 105 := by omega
    subst e
    exact t_N_restore_3 (fun _ => h w hi hx hl) (fun g => absurd (Int32.le_refl _) g)
  | n + 1, j, w, hj, hi, hx, hl => by
    have hj5 : j < 105 := by omega
    refine t_N_restore_3 (fun g => absurd g (nI_ge hj5 (by decide))) (fun _ => t_N_restore_4 (vp_in_lt (by omega) (by decide)) ?_)
    rw [nI_clamp (by omega), hx.1 38 j rfl]
    refine s_N_carried (b := true) hj5 (fun w1 hc => t_N_restore_5 ?_)
    rw [n1]
    refine lp_N_restore h n (j + 1) w1 (by omega) (fun i hij => ?_) ⟨fun o k q => ?_, fun o k q => by rw [hc.2]; exact hx.2 o k q⟩ (fun o k => by rw [hc.2]; exact hl o k)
    · rw [hc.1]
      by_cases e : i = j
      · subst e; rw [if_pos ⟨rfl, rfl, rfl⟩]
      · rw [if_neg (fun q => e (cLo_inj i (by omega) j hj5 (Prod.ext q.2.1 q.2.2)))]; exact hi i (by omega)
    · rw [hc.1, if_neg (fun e => by rw [e.2.1, e.2.2, (cLo_N j hj5).1] at q; cases q)]
      exact hx.1 o k q
theorem cLo_1 {c : Nat} (h : c < 36) : cLo c = (28, c) := by unfold cLo; rw [if_pos h]
theorem cLo_2 {c : Nat} (h : c < 36) : cLo (36 + c) = (29, c) := by unfold cLo; rw [if_neg (by omega), if_pos (by omega), show 36 + c - 36 = c by omega]
theorem cLo_3 {c : Nat} (h : c < 30) : cLo (72 + c) = (30, c) := by unfold cLo; rw [if_neg (by omega), if_neg (by omega), if_pos (by omega), show 72 + c - 72 = c by omega]
theorem op_image {d : Nat} {w : zW} (h : RW w) : OPP (d + 2) m_C_image 1 m_N_image 2 [.ref 0] [.ref 10] w := by
  obtain ⟨S, K, T, H, h1, h2, h3, h4, h5, h6⟩ := h
  have hl := h1.2.2.2.2.2.2.1
  refine n_C_image (t_C_image_0 (s_G_take21 h2 h1 (fun w1 g1 x1 => t_C_image_1 ?_)))
  have x2 : EQX mKI mKL w (sI w1 0 2 1) := x1.pI (o := 0) (k := 2) _ rfl
  refine n_N_image (t_N_image_0 (lp_N_image (w0 := sI w1 0 2 1) (fun w3 hi x3 => t_N_image_4 ⟨rfl, ?_, ?_⟩) 105 0 _ rfl (fun i hi => by omega) EQX.rf))
  · have x4 : EQX mMI mML (sI w1 0 2 1) (sI (sL w3 10 21 (gL w3 10 2)) 10 20 1) := (x3.pL (o := 10) (k := 21) _ rfl).pI (o := 10) (k := 20) _ rfl
    have hGN : GN (sI w1 0 2 1) S := GN_keep h3 ⟨x2.1 10 3 rfl, x2.1 10 5 rfl, x2.1 10 6 rfl⟩ (fun k => x2.1 28 k rfl) (fun k => x2.1 29 k rfl) (fun k => x2.1 30 k rfl) (x2.2 10 2 rfl)
    obtain ⟨b1', b2, b3, b4, b5, b6, b7⟩ := hGN
    have k38 : ∀ k, gI (sI (sL w3 10 21 (gL w3 10 2)) 10 20 1) 38 k = gI w3 38 k := fun k => by rw [gI_sI, if_neg (by omega), gI_sL]
    refine ⟨S, some S, T, H, h1, ?_, ?_, ⟨?_, ?_, fun s hs => ?_⟩, ?_, ?_⟩
    · exact GC_keep h2 (fun k => (x4.1 1 k rfl).trans (x2.1 1 k rfl)) (fun k => (x4.1 11 k rfl).trans (x2.1 11 k rfl)) (fun k => (x4.1 12 k rfl).trans (x2.1 12 k rfl)) (fun k => (x4.1 13 k rfl).trans (x2.1 13 k rfl)) (fun k => (x4.2 1 k rfl).trans (x2.2 1 k rfl))
    · exact GN_keep ⟨b1', b2, b3, b4, b5, b6, b7⟩ ⟨x4.1 10 3 rfl, x4.1 10 5 rfl, x4.1 10 6 rfl⟩ (fun k => x4.1 28 k rfl) (fun k => x4.1 29 k rfl) (fun k => x4.1 30 k rfl) (x4.2 10 2 rfl)
    · rw [x4.1 0 2 rfl, gI_sI, if_pos ⟨rfl, rfl⟩]; rfl
    · rw [gI_sI, if_pos ⟨rfl, rfl⟩]; rfl
    · cases hs
      refine ⟨h1, ?_, ⟨fun c hc => ?_, fun c hc => ?_, ?_, ?_, ?_, ?_, fun j e he => ?_⟩⟩
      · have g2 : GC (sI w1 0 2 1) 2 S := GC_keep g1 (fun k => by rw [gI_sI, if_neg (by omega)]) (fun k => by rw [gI_sI, if_neg (by omega)]) (fun k => by rw [gI_sI, if_neg (by omega)]) (fun k => by rw [gI_sI, if_neg (by omega)]) (fun k => rfl)
        exact GC_keep g2 (fun k => x4.1 2 k rfl) (fun k => x4.1 14 k rfl) (fun k => x4.1 15 k rfl) (fun k => x4.1 16 k rfl) (fun k => x4.2 2 k rfl)
      · rw [k38, hi c (by omega), cLo_1 hc]; exact b1' c hc
      · rw [k38, hi _ (by omega), cLo_2 hc]; exact b2 c hc
      · rw [gL_sI, gL_sL, if_pos ⟨rfl, rfl⟩, x3.2 10 2 rfl]; exact b3
      · rw [k38, hi _ (by omega)]; exact b4
      · rw [k38, hi _ (by omega)]; exact b5
      · rw [k38, hi _ (by omega)]; exact b6
      · have hj : j < 10 := by have := (List.getElem?_eq_some_iff.mp he).1; omega
        rw [k38, k38, k38, hi _ (by omega), hi _ (by omega), hi _ (by omega), Nat.add_assoc, Nat.add_assoc, cLo_3 (by omega), cLo_3 (by omega), cLo_3 (by omega)]
        exact b7 j e he
    · exact KTP.tap ⟨(x4.1 3 1 rfl).trans (x2.1 3 1 rfl), (x4.1 10 12 rfl).trans (x2.1 10 12 rfl), fun k => (x4.1 17 k rfl).trans (x2.1 17 k rfl), fun k => (x4.1 32 k rfl).trans (x2.1 32 k rfl)⟩ h5
    · exact KSH.sht ⟨lt4 (fun k => (x4.1 5 k rfl).trans (x2.1 5 k rfl)) (fun k => (x4.1 6 k rfl).trans (x2.1 6 k rfl)) (fun k => (x4.1 7 k rfl).trans (x2.1 7 k rfl)) (fun k => (x4.1 8 k rfl).trans (x2.1 8 k rfl)), fun k => (x4.1 39 k rfl).trans (x2.1 39 k rfl), fun k => (x4.1 40 k rfl).trans (x2.1 40 k rfl), lt4 (fun k => (x4.2 19 k rfl).trans (x2.2 19 k rfl)) (fun k => (x4.2 20 k rfl).trans (x2.2 20 k rfl)) (fun k => (x4.2 21 k rfl).trans (x2.2 21 k rfl)) (fun k => (x4.2 22 k rfl).trans (x2.2 22 k rfl)), fun k => (x4.2 41 k rfl).trans (x2.2 41 k rfl)⟩ h6
  · have x4 : EQX mMI mML (sI w1 0 2 1) (sI (sL w3 10 21 (gL w3 10 2)) 10 20 1) := (x3.pL (o := 10) (k := 21) _ rfl).pI (o := 10) (k := 20) _ rfl
    exact ⟨fun k => (x4.1 43 k rfl).trans (x2.1 43 k rfl), fun k => (x4.1 44 k rfl).trans (x2.1 44 k rfl)⟩
theorem op_restore {d : Nat} {w : zW} (h : RW w) : OPP (d + 2) m_C_restore 1 m_N_restore 2 [.ref 0] [.ref 10] w := by
  obtain ⟨S, K, T, H, h1, h2, h3, h4, h5, h6⟩ := h
  cases K with
  | none =>
    refine n_C_restore (t_C_restore_0 (fun g => absurd h4.1 g) (fun _ => t_C_restore_1 ?_))
    exact n_N_restore (t_N_restore_0 (fun g => absurd h4.2.1 g) (fun _ => t_N_restore_1 ⟨rfl, ⟨S, none, T, H, h1, h2, h3, h4, h5, h6⟩, SCR.rf⟩))
  | some s =>
    obtain ⟨k1, k2, k3⟩ := h4.2.2 s rfl
    have hl := k1.2.2.2.2.2.2.1
    have ne1 : ¬ (zb (some s).isSome = 0) := by simp [zb]
    refine n_C_restore (t_C_restore_0 (fun _ => t_C_restore_2 (s_G_take12 k2 k1 (fun w1 g1 x1 => t_C_restore_3 ?_))) (fun g => absurd (h4.1.symm.trans g) ne1))
    refine n_N_restore (t_N_restore_0 (fun _ => t_N_restore_2 (lp_N_restore (w0 := w1) (fun w3 hi x3 hL => t_N_restore_6 ⟨rfl, ?_, ?_⟩) 105 0 _ rfl (fun i hi => by omega) EQX.rf (fun _ _ => rfl))) (fun g => absurd ((h4.2.1.symm.trans (x1.1 10 20 rfl).symm).trans g) ne1))
    · have x4 : EQX mNI mNL w1 (sL w3 10 2 (gL w3 10 21)) := x3.pL (o := 10) (k := 2) _ rfl
      have hGK : GK w1 s := GK_keep k3 (fun k => x1.1 38 k rfl) (x1.2 10 21 rfl)
      obtain ⟨b1', b2, b3, b4, b5, b6, b7⟩ := hGK
      have hx := x1.cA.tr x4.nA
      refine ⟨s, some s, T, H, k1, x4.gcN g1, ⟨fun c hc => ?_, fun c hc => ?_, ?_, ?_, ?_, ?_, fun j e he => ?_⟩, hx.kim.img h4, hx.ktp.tap h5, hx.ksh.sht h6⟩
      · have := hi c (by omega)
        rw [cLo_1 hc] at this
        rw [gI_sL]; exact this.trans (b1' c hc)
      · have := hi (36 + c) (by omega)
        rw [cLo_2 hc] at this
        rw [gI_sL]; exact this.trans (b2 c hc)
      · rw [gL_sL, if_pos ⟨rfl, rfl⟩, hL]; exact b3
      · exact (hi 102 (by omega)).trans b4
      · exact (hi 104 (by omega)).trans b5
      · exact (hi 103 (by omega)).trans b6
      · have hj : j < 10 := by have := (List.getElem?_eq_some_iff.mp he).1; omega
        have i0 := hi (72 + 3 * j) (by omega)
        have i1 := hi (72 + (3 * j + 1)) (by omega)
        have i2 := hi (72 + (3 * j + 2)) (by omega)
        rw [cLo_3 (by omega)] at i0 i1 i2
        have := b7 j e he
        exact ⟨i0.trans this.1, i1.trans this.2.1, i2.trans this.2.2⟩
    · exact x1.cA.scr.tr (x3.pL (o := 10) (k := 2) _ rfl : EQX mNI mNL w1 (sL w3 10 2 (gL w3 10 21))).nA.scr
