/-! ===== lots ===== -/
def nxD (n : Nat) : Nat := (nI n * 1103515245 + 12345 : Int32).toBitVec.toNat % 2 ^ 31
theorem nxD_lt (n : Nat) : nxD n < 2 ^ 31 := Nat.mod_lt _ (by decide)
theorem nxD_C (n : Nat) : (nI n * 1103515245 + 12345) &&& 2147483647 = nI (nxD n) := pk_and _ 31 (by decide)
theorem nxD_N (n : Nat) : (((nI n).toInt64 * 1103515245 + 12345) &&& 2147483647).toInt32 = nI (nxD n) := by
  rw [← nxD_C, Int64.toInt32_and, Int64.toInt32_add, Int64.toInt32_mul, Int32.toInt32_toInt64]
  rfl
def wU (S : zS) (u : List (Nat × Nat × Bool)) : zS := (dpS S, owS S, roS S, raS S, drS S, u)
def wD (S : zS) (v : Nat) : zS := (dpS S, owS S, roS S, raS S, v, unS S)
theorem GC_dr {w : zW} {S : zS} {v : Nat} (h : GC w 1 S) : GC (sI w 1 6 (nI v)) 1 (wD S v) := by
  obtain ⟨a1, a2, a3, a4, a5, a6, a7, a8, a9⟩ := h
  refine ⟨fun x hx => ?_, fun x hx => ?_, a3, a4, a5, ?_, ?_, ?_, fun k e he => ?_⟩
  · rw [gI_sI, if_neg (by omega)]; exact a1 x hx
  · rw [gI_sI, if_neg (by omega)]; exact a2 x hx
  · rw [gI_sI, if_neg (by omega)]; exact a6
  · rw [gI_sI, if_pos ⟨rfl, rfl⟩]; rfl
  · rw [gI_sI, if_neg (by omega)]; exact a8
  · rw [gI_sI, if_neg (by omega)]; exact a9 k e he
theorem GN_dr {w : zW} {S : zS} {v : Nat} (h : GN w S) : GN (sI w 10 6 (nI v)) (wD S v) := by
  obtain ⟨a1, a2, a3, a4, a5, a6, a7⟩ := h
  refine ⟨a1, a2, a3, ?_, ?_, ?_, a7⟩
  · rw [gI_sI, if_neg (by omega)]; exact a4
  · rw [gI_sI, if_pos ⟨rfl, rfl⟩]; rfl
  · rw [gI_sI, if_neg (by omega)]; exact a6
theorem okS_dr {S : zS} {v : Nat} (h : okS S) (hv : v < 2 ^ 31) : okS (wD S v) := by
  obtain ⟨h1, h2, h3, h4, h5, h6, h7, h8⟩ := h
  exact ⟨h1, h2, h3, h4, h5, hv, h7, h8⟩
/-- a year by lot, nothing noted -/
def lotC (S : zS) : Nat := nxD (drS S) / 65536 % 36
def lotF (S : zS) : Nat := nxD (nxD (drS S)) / 65536 % 4
def yrV (S : zS) (v c f : Nat) : Int32 × zS := if f = 0 then (if dpS S c = 0 then (0, wD S v) else (100, putS (wD S v) c 0 (roS S &&& (b1 c ^^^ (-1))))) else (if dpS S c < 9 then (1, putS (wD S v) c (dpS S c + 1) (roS S)) else (0, wD S v))
def yrS (S : zS) : Int32 × zS := yrV S (nxD (nxD (drS S))) (lotC S) (lotF S)
theorem lotC_lt (S : zS) : lotC S < 36 := Nat.mod_lt _ (by decide)
theorem okS_U {S : zS} {u v : List (Nat × Nat × Bool)} (h : okS (wU S u)) (hv : v.length ≤ 10 ∧ ∀ e ∈ v, e.1 < 36 ∧ e.2.1 ≤ 9 ∧ (e.2.2 = true → 0 < e.2.1)) : okS (wU S v) := by
  obtain ⟨h1, h2, h3, h4, h5, h6, h7, h8⟩ := h
  exact ⟨h1, h2, h3, h4, h5, h6, hv.1, hv.2⟩
theorem s_G_drawn {d : Nat} {w : zW} {Q : zQ} {S : zS} {v : Nat} (hv : nxD (drS S) = v) (hG : GC w 1 S) (h : ∀ w', GC w' 1 (wD S v) → EQX mCI mCL w w' → Q (some (.int (nI (v / 65536)))) w') : WM d m_G_drawn 1 [.ref 1] w Q := by
  subst hv
  refine n_G_drawn (t_G_drawn_0 ?_)
  rw [show gI w 1 6 = nI (drS S) from hG.2.2.2.2.2.2.1, nxD_C, show nI (nxD (drS S)) / 65536 = nI (nxD (drS S) / 65536) from pk_div (d := 65536) (nxD_lt _) (by decide) (by decide)]
  exact h _ (GC_dr hG) (EQX.rf.pI _ rfl)
theorem s_N_nextDraw {d : Nat} {w : zW} {Q : zQ} {S : zS} {k v : Nat} (hv : nxD (drS S) = v) (hk : 0 < k) (hk2 : k < 2 ^ 31) (hG : GN w S) (h : ∀ w', GN w' (wD S v) → EQX mNI mNL w w' → Q (some (.int (nI (v / 65536 % k)))) w') : WM d m_N_nextDraw 2 [.ref 10, .int (nI k)] w Q := by
  subst hv
  refine n_N_nextDraw (t_N_nextDraw_0 (fun e => ?_) ?_)
  · have := (nI_eqk (k := 0) hk2 (by decide)).mp e
    omega
  · have hlt := nxD_lt (drS S)
    rw [show gI w 10 6 = nI (drS S) from hG.2.2.2.2.1, nxD_N, show nI (nxD (drS S)) / 65536 = nI (nxD (drS S) / 65536) from pk_div (d := 65536) (nxD_lt _) (by decide) (by decide), zrm_n (by omega) hk hk2]
    exact h _ (GN_dr hG) (EQX.rf.pI _ rfl)
theorem s_G_year {d : Nat} {w : zW} {Q : zQ} {S : zS} {u : List (Nat × Nat × Bool)} {v1 v2 c f : Nat} (h1 : nxD (drS S) = v1) (h2 : nxD v1 = v2) (hc1 : v1 / 65536 % 36 = c) (hf1 : v2 / 65536 % 4 = f) (hG : GC w 1 (wU S u)) (hk : okS (wU S u)) (h : ∀ w' u', GC w' 1 (wU (yrV S v2 c f).2 u') → okS (wU (yrV S v2 c f).2 u') → EQX mCI mCL w w' → Q (some (.int (yrV S v2 c f).1)) w') : WM (d + 3) m_G_yearByLot 2 [.ref 1] w Q := by
  have l1 : v1 < 2 ^ 31 := h1 ▸ nxD_lt _
  have l2 : v2 < 2 ^ 31 := h2 ▸ nxD_lt _
  have hc : c < 36 := hc1 ▸ Nat.mod_lt _ (by decide)
  have hf4 : f < 4 := hf1 ▸ Nat.mod_lt _ (by decide)
  have er1 : zrm (nI (v1 / 65536)) 36 = nI c := by rw [← hc1]; exact zrm_n (k := 36) (by omega) (by decide) (by decide)
  have er2 : zrm (nI (v2 / 65536)) 4 = nI f := by rw [← hf1]; exact zrm_n (k := 4) (by omega) (by decide) (by decide)
  refine n_G_yearByLot (t_G_yearByLot_0 (s_G_drawn (S := wU S u) (v := v1) h1 hG (fun w1 g1 x1 => t_G_yearByLot_1 (s_G_drawn (S := wD (wU S u) v1) (v := v2) h2 g1 (fun w2 g2 x2 => ?_)))))
  have x12 := x1.tr x2
  have k1 : okS (wD (wD (wU S u) v1) v2) := okS_dr (okS_dr hk l1) l2
  have ed : dpS (wD (wD (wU S u) v1) v2) c = dpS S c := rfl
  rw [er1]
  unfold yrV at h
  refine t_G_yearByLot_2 (fun g => ?_) (fun g => ?_)
  · rw [er2, nI_c0 (by omega)] at g
    rw [if_neg g] at h
    refine t_G_yearByLot_8 (s_G_toDig g2 k1 hc (fun q => t_G_yearByLot_9 (fun _ => t_G_yearByLot_11 (t_G_yearByLot_12 ?_)) (fun q2 => absurd (by decide) q2)) (fun q w3 g3 x3 => t_G_yearByLot_9 (fun q2 => absurd q2 (not_neg (by rw [ed] at q ⊢; omega))) (fun _ => t_G_yearByLot_10 (t_G_yearByLot_12 ?_))))
    · rw [ed] at q
      rw [if_neg q] at h
      exact h w2 u g2 k1 x12
    · have kd := okS_dig k1 hc q
      rw [ed] at q
      rw [if_pos q] at h
      exact h w3 _ g3 kd (x12.tr x3)
  · rw [er2, nI_c0 (by omega)] at g
    rw [if_pos g] at h
    have h9 : dpS S c ≤ 9 := hk.1 c hc
    refine t_G_yearByLot_3 (s_G_toFill g2 k1 hc (fun q => t_G_yearByLot_4 (fun _ => t_G_yearByLot_6 (t_G_yearByLot_7 ?_)) (fun q2 => absurd (by decide) q2)) (fun q w3 g3 x3 => t_G_yearByLot_4 (fun q2 => absurd q2 (not_neg (by rw [ed]; omega))) (fun _ => t_G_yearByLot_5 (t_G_yearByLot_7 ?_))))
    · rw [ed] at q
      rw [if_pos q] at h
      exact h w2 u g2 k1 x12
    · have kf := okS_fil k1 hc
      rw [ed] at q
      rw [if_neg q] at h
      exact h w3 _ g3 kf (x12.tr x3)
theorem s_G_yearByLot {d : Nat} {w : zW} {Q : zQ} {S : zS} {u : List (Nat × Nat × Bool)} (hG : GC w 1 (wU S u)) (hk : okS (wU S u)) (h : ∀ w' u', GC w' 1 (wU (yrS S).2 u') → okS (wU (yrS S).2 u') → EQX mCI mCL w w' → Q (some (.int (yrS S).1)) w') : WM (d + 3) m_G_yearByLot 2 [.ref 1] w Q :=
  s_G_year rfl rfl rfl rfl hG hk h
def itA (f : zS → Int32 × zS) : Nat → zS → Int32 → Int32 × zS
  | 0, S, s => (s, wU S [])
  | n + 1, S, s => itA f n (f S).2 (s + (f S).1)
theorem itA_0 (f : zS → Int32 × zS) (S : zS) (s : Int32) : itA f 0 S s = (s, wU S []) := rfl
theorem itA_s (f : zS → Int32 × zS) (n : Nat) (S : zS) (s : Int32) : itA f (n + 1) S s = itA f n (f S).2 (s + (f S).1) := rfl
theorem lp_C_lots {d : Nat} {w0 : zW} {Q : zQ} {k : Nat} (hk1 : k < 2 ^ 31) {R : Int32 × zS} (h : ∀ w', GC w' 1 R.2 → okS R.2 → EQX mCI mCL w0 w' → Q (some (.int R.1)) w') : ∀ (n j : Nat) (S : zS) (u : List (Nat × Nat × Bool)) (s : Int32) (w : zW), j + n = k → GC w 1 (wU S u) → okS (wU S u) → EQX mCI mCL w0 w → itA yrS n S s = R → WP (d + 4) m_C_lots 4 [some (.ref 0), some (.int (nI k)), some (.int s), some (.int (nI j))] [] w Q
  | 0, j, S, u, s, w, hj, hG, hk, hx, hr => by
    have e : j = k := by omega
    subst e
    rw [itA_0] at hr
    subst hr
    refine t_C_lots_4 (fun _ => t_C_lots_7 (n_G_forget (t_G_forget_0 (t_C_lots_8 (h _ ?_ (okS_U hk ⟨by simp, by simp⟩) (hx.pI (o := 1) (k := 8) _ rfl)))))) (fun g => absurd (Int32.le_refl _) g)
    obtain ⟨a1, a2, a3, a4, a5, a6, a7, a8, a9⟩ := hG
    refine ⟨fun x hx => ?_, fun x hx => ?_, a3, a4, a5, ?_, ?_, ?_, fun k e he => by cases he⟩
    · rw [gI_sI, if_neg (by omega)]; exact a1 x hx
    · rw [gI_sI, if_neg (by omega)]; exact a2 x hx
    · rw [gI_sI, if_neg (by omega)]; exact a6
    · rw [gI_sI, if_neg (by omega)]; exact a7
    · rw [gI_sI, if_pos ⟨rfl, rfl⟩]; rfl
  | n + 1, j, S, u, s, w, hj, hG, hk, hx, hr => by
    refine t_C_lots_4 (fun g => absurd g (nI_ge (show j < k by omega) hk1)) (fun _ => t_C_lots_5 (s_G_yearByLot hG hk (fun w1 u1 g1 k1 x1 => t_C_lots_6 ?_)))
    rw [n1]
    rw [itA_s] at hr
    exact lp_C_lots hk1 h n (j + 1) _ u1 _ w1 (by omega) g1 k1 (hx.tr x1) hr
theorem dp_le {S : zS} {u : List (Nat × Nat × Bool)} (h : okS (wU S u)) {c : Nat} (hc : c < 36) : dpS S c ≤ 9 := h.1 c hc
theorem yrV_ok {S : zS} {v c f : Nat} (h : okS S) (l2 : v < 2 ^ 31) (hc : c < 36) : okS (yrV S v c f).2 := by
  have hd : okS (wD S v) := okS_dr h l2
  unfold yrV
  split
  · split
    · exact hd
    · have h2 := roP_ok (S := wD S v) (n := 0) hd hc
      exact okS_put hd hc (by omega) h2.1 h2.2
  · split
    · rename_i q
      have h2 := roP_ok (S := wD S v) (n := dpS S c + 1) hd hc
      have e : roP (wD S v) c (dpS S c + 1) = roS S := by unfold roP; rw [if_neg (by omega)]; rfl
      rw [e] at h2
      exact okS_put hd hc (by omega) h2.1 h2.2
    · exact hd
theorem yr_ok {S : zS} (h : okS S) : okS (yrS S).2 := yrV_ok h (nxD_lt _) (lotC_lt S)
theorem s_N_year {d : Nat} {w : zW} {Q : zQ} {S : zS} {x i s : Int32} {v1 v2 c f : Nat} (h1 : nxD (drS S) = v1) (h2 : nxD v1 = v2) (hc1 : v1 / 65536 % 36 = c) (hf1 : v2 / 65536 % 4 = f) (hG : GN w S) (hk : okS S)
    (go : ∀ (w3 : zW) (s3 : Int32), GN w3 (yrV S v2 c f).2 → EQX mNI mNL w w3 → s3 = s + (yrV S v2 c f).1 → WP (d + 1) m_N_lots 17 [some (.ref 10), some (.int x), some (.int s3), some (.int i), none, none] [] w3 Q) : WP (d + 1) m_N_lots 5 [some (.ref 10), some (.int x), some (.int s), some (.int i), none, none] [] w Q := by
  have hc : c < 36 := hc1 ▸ Nat.mod_lt _ (by decide)
  have hf4 : f < 4 := hf1 ▸ Nat.mod_lt _ (by decide)
  have h9 := hk.1 c hc
  refine t_N_lots_5 (s_N_nextDraw (S := S) (k := 36) (v := v1) h1 (by decide) (by decide) hG (fun w1 g1 x1 => t_N_lots_6 (s_N_nextDraw (S := wD S v1) (k := 4) (v := v2) h2 (by decide) (by decide) g1 (fun w2 g2 x2 => ?_))))
  have x12 := x1.tr x2
  have g2 : GN w2 (wD S v2) := g2
  have hin : vp_in (nI c) 36 := vp_in_lt hc (by decide)
  have hcl : (nI c).toNatClampNeg = c := nI_clamp (by omega)
  have hd : gI w2 28 c = nI (dpS S c) := g2.1 _ hc
  rw [hc1, hf1]
  unfold yrV at go
  refine t_N_lots_7 (fun g => t_N_lots_9 (t_N_lots_10 (fun _ => t_N_lots_14 (fun q => absurd rfl q) (fun _ => t_N_lots_15 hin (fun q => go _ _ ?_ x12 ?_) (fun q => t_N_lots_16 hin hin (go _ _ ?_ (x12.pI (o := 28) _ rfl) ?_)))) (fun q => absurd rfl q))) (fun g => t_N_lots_8 (t_N_lots_10 (fun q => absurd q (by decide)) (fun _ => t_N_lots_11 hin (fun q => t_N_lots_14 (fun _ => go _ _ ?_ x12 ?_) (fun q => absurd q (by decide))) (fun q => t_N_lots_12 (s_N_put (n := 0) (b := false) g2 hc (fun w3 g3 x3 => t_N_lots_13 (t_N_lots_14 (fun _ => go _ _ ?_ (x12.tr x3) ?_) (fun q => absurd q (by decide)))))))))
  all_goals rw [nI_c0 (by omega)] at g
  · rw [hcl, hd, show (9 : Int32) ≤ _ ↔ _ from nI_hi (a := 9) (by decide) (by omega)] at q
    rw [if_neg g, if_neg (by omega)]; exact g2
  · rw [hcl, hd, show (9 : Int32) ≤ _ ↔ _ from nI_hi (a := 9) (by decide) (by omega)] at q
    rw [if_neg g, if_neg (by omega)]; exact (Int32.add_zero _).symm
  · rw [hcl, hd, show (9 : Int32) ≤ _ ↔ _ from nI_hi (a := 9) (by decide) (by omega)] at q
    rw [if_neg g, if_pos (by omega), hcl, hd, n1]; exact GN_dep g2
  · rw [hcl, hd, show (9 : Int32) ≤ _ ↔ _ from nI_hi (a := 9) (by decide) (by omega)] at q
    rw [if_neg g, if_pos (by omega)]
  · rw [hcl, hd, nI_le0 (by omega)] at q
    rw [if_pos g, if_pos q]; exact g2
  · rw [hcl, hd, nI_le0 (by omega)] at q
    rw [if_pos g, if_pos q]; exact (Int32.add_zero _).symm
  · rw [hcl, hd, nI_le0 (by omega)] at q
    rw [if_pos g, if_neg q]; exact g3
  · rw [hcl, hd, nI_le0 (by omega)] at q
    rw [if_pos g, if_neg q]
