/-! ===== lots, the reference's and both ===== -/
theorem lp_N_lots {d : Nat} {w0 : zW} {Q : zQ} {k : Nat} (hk1 : k < 2 ^ 31) {R : Int32 × zS} (h : ∀ w', GN w' R.2 → EQX mNI mNL w0 w' → Q (some (.int R.1)) w') : ∀ (n j : Nat) (S : zS) (s : Int32) (w : zW), j + n = k → GN w S → okS S → EQX mNI mNL w0 w → itA yrS n S s = R → WP (d + 1) m_N_lots 4 [some (.ref 10), some (.int (nI k)), some (.int s), some (.int (nI j)), none, none] [] w Q
  | 0, j, S, s, w, hj, hG, hk, hx, hr => by
    have e : j = k := by omega
    subst e
    rw [itA_0] at hr
    subst hr
    refine t_N_lots_4 (fun _ => t_N_lots_18 (h _ ?_ (hx.pI (o := 10) (k := 5) _ rfl))) (fun g => absurd (Int32.le_refl _) g)
    obtain ⟨a1, a2, a3, a4, a5, a6, a7⟩ := hG
    refine ⟨a1, a2, a3, ?_, ?_, ?_, fun k e he => by cases he⟩
    · rw [gI_sI, if_neg (by omega)]; exact a4
    · rw [gI_sI, if_neg (by omega)]; exact a5
    · rw [gI_sI, if_pos ⟨rfl, rfl⟩]; rfl
  | n + 1, j, S, s, w, hj, hG, hk, hx, hr => by
    refine t_N_lots_4 (fun g => absurd g (nI_ge (show j < k by omega) hk1)) (fun _ => s_N_year rfl rfl rfl rfl hG hk (fun w3 s3 g3 x3 e3 => t_N_lots_17 ?_))
    rw [n1, e3]
    rw [itA_s] at hr
    exact lp_N_lots hk1 h n (j + 1) _ _ w3 (by omega) g3 (yr_ok hk) (hx.tr x3) hr
def lotsA (S : zS) (x : Int32) : Int32 × zS := if inI x 1 99 = true then itA yrS x.toNatClampNeg S 0 else (-1, S)
theorem yrs_ok : ∀ (n : Nat) (S : zS) (s : Int32), okS S → okS (itA yrS n S s).2
  | 0, S, s, h => by rw [itA_0]; exact okS_U (S := S) (u := unS S) h ⟨by simp, by simp⟩
  | n + 1, S, s, h => by rw [itA_s]; exact yrs_ok n _ _ (yr_ok h)
theorem inI_of1 {x : Int32} (h : inI x 1 99 = true) : ∃ j : Nat, j ≤ 99 ∧ x = nI j := by
  unfold inI at h
  simp only [Bool.and_eq_true, decide_eq_true_eq] at h
  refine nI_of2 (M := 99) (n := 99) rfl ?_ h.2
  have h1 := h.1
  rw [Int32.le_iff_toInt_le] at h1
  rw [Int32.lt_iff_toInt_lt]
  have e0 : (0 : Int32).toInt = 0 := by decide
  have e1 : (1 : Int32).toInt = 1 := by decide
  omega
theorem op_lots {d : Nat} {w : zW} {x : Int32} (h : RW w) : OPP (d + 4) m_C_lots 4 m_N_lots 6 [.ref 0, .int x] [.ref 10, .int x] w := by
  refine opG (f := fun S => lotsA S x) (fun S hk => ?_) (fun S Q hG hk q => ?_) (fun S w Q hG hk q => ?_) h
  · show okS (lotsA S x).2
    unfold lotsA
    split
    · exact yrs_ok _ _ _ hk
    · exact hk
  · unfold lotsA at q
    refine n_C_lots (t_C_lots_0 (fun g => t_C_lots_2 ?_) (fun g => t_C_lots_1 (fun g2 => t_C_lots_3 ?_) (fun g2 => t_C_lots_2 ?_)))
    · rw [inI_f.mpr (Or.inl g)] at q
      exact q w hG EQX.rf
    · have g3 := inI_t g g2
      rw [g3] at q
      obtain ⟨j, hj, rfl⟩ := inI_of1 g3
      rw [nI_clamp (by omega)] at q
      exact lp_C_lots (k := j) (by omega) (fun w' a _ b => q w' a b) j 0 S (unS S) 0 w (by omega) hG hk EQX.rf rfl
    · rw [inI_f.mpr (Or.inr g2)] at q
      exact q w hG EQX.rf
  · unfold lotsA at q
    refine n_N_lots (t_N_lots_0 (s_N_inI (a := 1) (b := 99) rfl rfl (t_N_lots_1 (fun g => t_N_lots_3 ?_) (fun g => t_N_lots_2 ?_))))
    · have g3 := zb_f.mp g
      rw [g3] at q
      obtain ⟨j, hj, rfl⟩ := inI_of1 g3
      rw [nI_clamp (by omega)] at q
      exact lp_N_lots (k := j) (by omega) (fun w' a b => q w' a b) j 0 S 0 w (by omega) hG hk EQX.rf rfl
    · rw [zb_t.mp g] at q
      exact q w hG EQX.rf
