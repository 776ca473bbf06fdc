/-! ===== sheet, drop, item, copy ===== -/
theorem lp_R_begin {d : Nat} {w0 : zW} {Q : zQ} {s : Nat} (hs : s < 4) (h : ∀ w', (∀ o k, gI w' o k = gI w0 o k) → (∀ o k, gL w' o k = if o = 19 + s ∧ k < 36 then 0 else gL w0 o k) → Q none w') : ∀ (n j : Nat) (w : zW), j + n = 36 → (∀ o k, gI w o k = gI w0 o k) → (∀ o k, gL w o k = if o = 19 + s ∧ k < j then 0 else gL w0 o k) → WP d m_R_begin 1 [some (.ref (5 + s)), none, none, some (.int (nI j))] [] w Q
  | 0, j, w, hj, hI, hL => by
    have e : j = 36 := by omega
    subst e
    exact t_R_begin_1 (fun _ => t_R_begin_3 (h w hI hL)) (fun g => absurd (Int32.le_refl _) g)
  | n + 1, j, w, hj, hI, hL => by
    refine t_R_begin_1 (fun g => absurd g (nI_ge (show j < 36 by omega) (by decide))) (fun _ => t_R_begin_2 (zis_row hs) (zrf_ar hs) (zrf_in hs (vp_in_lt (by omega) (by decide))) ?_)
    rw [n1, zrf_row hs, nI_clamp (by omega)]
    refine lp_R_begin hs h n (j + 1) _ (by omega) hI (fun o k => ?_)
    rw [gL_sL, hL]
    by_cases e : o = 19 + s
    · by_cases e2 : k = j
      · rw [if_pos ⟨e, e2⟩, if_pos ⟨e, by omega⟩]
      · rw [if_neg (fun q => e2 q.2)]
        by_cases e3 : k < j
        · rw [if_pos ⟨e, e3⟩, if_pos ⟨e, by omega⟩]
        · rw [if_neg (fun q => e3 q.2), if_neg (fun q => e3 (by omega))]
    · rw [if_neg (fun q => e q.1), if_neg (fun q => e q.1), if_neg (fun q => e q.1)]
theorem lp_N_sheet {d : Nat} {w0 : zW} {Q : zQ} {s : Nat} {m : Int32} (hs : s < 4) (h : ∀ w', (∀ o k, gI w' o k = gI w0 o k) → (∀ o k, gL w' o k = if o = 41 ∧ 36 * s ≤ k ∧ k < 36 * s + 36 then 0 else gL w0 o k) → Q (some (.int m)) w') : ∀ (n j : Nat) (w : zW), j + n = 36 → (∀ o k, gI w o k = gI w0 o k) → (∀ o k, gL w o k = if o = 41 ∧ 36 * s ≤ k ∧ k < 36 * s + j then 0 else gL w0 o k) → WP d m_N_sheet 7 [some (.ref 10), some (.int (nI s)), none, some (.int m), some (.int (nI j))] [] w Q
  | 0, j, w, hj, hI, hL => by
    have e : j = 36 := by omega
    subst e
    exact t_N_sheet_7 (fun _ => t_N_sheet_9 (h w hI hL)) (fun g => absurd (Int32.le_refl _) g)
  | n + 1, j, w, hj, hI, hL => by
    have ea : (36 : Int32) * nI s + nI j = nI (36 * s + j) := by rw [show (36 : Int32) = nI 36 from rfl, pk_mul, nI_add]
    refine t_N_sheet_7 (fun g => absurd g (nI_ge (show j < 36 by omega) (by decide))) (fun _ => t_N_sheet_8 (by rw [ea]; exact vp_in_lt (by omega) (by decide)) ?_)
    rw [n1, ea, nI_clamp (by omega)]
    refine lp_N_sheet hs h n (j + 1) _ (by omega) hI (fun o k => ?_)
    rw [gL_sL, hL]
    by_cases e : o = 41
    · by_cases e2 : k = 36 * s + j
      · rw [if_pos ⟨e, e2⟩, if_pos ⟨e, by omega, by omega⟩]
      · rw [if_neg (fun q => e2 q.2)]
        by_cases e3 : 36 * s ≤ k ∧ k < 36 * s + j
        · rw [if_pos ⟨e, e3⟩, if_pos ⟨e, by omega, by omega⟩]
        · rw [if_neg (fun q => e3 q.2), if_neg (fun q => e3 ⟨q.2.1, by omega⟩)]
    · rw [if_neg (fun q => e q.1), if_neg (fun q => e q.1), if_neg (fun q => e q.1)]
theorem n_sheet_bad {d : Nat} {w : zW} {Q : zQ} {x l n : Int32} (hb : (isS x && isS l) = false ∨ ¬ n ≤ 36) (hq : Q (some (.int (-1))) w) : WM (d + 2) m_N_sheet 5 [.ref 10, .int x, .int l, .int n] w Q := by
  refine n_N_sheet (t_N_sheet_0 (s_N_isSheet (t_N_sheet_1 (fun g => t_N_sheet_3 hq) (fun g => t_N_sheet_2 (fun g2 => ?_) (fun g2 => t_N_sheet_3 hq)))))
  rcases hb with hb | hb
  · rw [zb_f.mp g] at hb; cases hb
  · exact absurd g2 hb
theorem op_sheet {d : Nat} {w : zW} {x l n : Int32} (h : RW w) : OPP (d + 2) m_C_sheet 4 m_N_sheet 5 [.ref 0, .int x, .int l, .int n] [.ref 10, .int x, .int l, .int n] w := by
  have hR := h
  obtain ⟨S, K, T, H, h1, h2, h3, h4, h5, h6⟩ := h
  have bad : ((isS x && isS l) = false ∨ ¬ n ≤ 36) → WM (d + 2) m_N_sheet 5 [.ref 10, .int x, .int l, .int n] w (fun r2 w2 => some (.int (-1)) = r2 ∧ RW w2 ∧ SCR w w2) := fun hb => n_sheet_bad hb ⟨rfl, hR, SCR.rf⟩
  refine n_C_sheet (t_C_sheet_0 (s_C_isSheet (t_C_sheet_1 (fun g => t_C_sheet_5 (bad (Or.inl (by rw [zb_t.mp g]; rfl)))) (fun g => t_C_sheet_2 (s_C_isLane (t_C_sheet_3 (fun g2 => t_C_sheet_5 (bad (Or.inl (by rw [zb_t.mp g2, Bool.and_false])))) (fun g2 => t_C_sheet_4 (fun g3 => t_C_sheet_6 (fun g4 => ?_) (fun g4 => t_C_sheet_7 ?_)) (fun g3 => t_C_sheet_5 (bad (Or.inr g3))))))))))
  all_goals have hx := zb_f.mp g
  all_goals have hl := zb_f.mp g2
  all_goals have hb : (isS x && isS l) = true := by rw [hx, hl]; rfl
  · obtain ⟨s, hs, rfl⟩ := isS_of hx
    obtain ⟨lk, hlk, rfl⟩ := isS_of hl
    obtain ⟨nk, hnk, rfl⟩ := nI_of2 (x := n) (M := 36) (n := 36) rfl (by rw [Int32.not_lt]; exact g4) g3
    have hcl : (nI s).toNatClampNeg = s := nI_clamp (by omega)
    refine t_C_sheet_8 (vp_in_lt hs (by decide)) (zre_is hs) ?_
    rw [zre_row hs]
    refine n_R_begin (t_R_begin_0 (zis_row hs) (zis_row hs) (zis_row hs) (lp_R_begin hs (fun w1 i1 l1 => t_C_sheet_9 ?_) 36 0 _ rfl (fun _ _ => rfl) (fun o k => by rw [if_neg (fun q => by omega)])))
    refine n_N_sheet (t_N_sheet_0 (s_N_isSheet (t_N_sheet_1 (fun q => ?_) (fun _ => t_N_sheet_2 (fun _ => t_N_sheet_4 (fun _ => t_N_sheet_6 (vp_in_lt hs (by decide)) (vp_in_lt hs (by decide)) (lp_N_sheet hs (fun w2 i2 l2 => ⟨rfl, ?_⟩) 36 0 _ rfl (fun _ _ => rfl) (fun o k => by rw [if_neg (fun q => by omega)]))) (fun q => absurd g4 q)) (fun q => absurd g3 q)))))
    · rw [hb] at q; cases q
    · rw [hcl] at i2 l2
      have x1 : EQX mSI mSL w w2 := by
        have y1 : EQX mSI mSL w (sI (sI (sI w (5 + s) 1 1) (5 + s) 2 (nI lk)) (5 + s) 3 (nI nk)) := ((EQX.rf.pI _ (mS_row hs _)).pI _ (mS_row hs _)).pI _ (mS_row hs _)
        have y2 : EQX mSI mSL (sI (sI (sI w (5 + s) 1 1) (5 + s) 2 (nI lk)) (5 + s) 3 (nI nk)) w1 := ⟨fun o k _ => i1 o k, fun o k q => by rw [l1, if_neg (fun e => by rw [e.1, mS_it hs] at q; cases q)]⟩
        have y3 : EQX mSI mSL w1 (sI (sI w1 39 s (nI lk)) 40 s (nI nk)) := (EQX.rf.pI _ rfl).pI _ rfl
        have y4 : EQX mSI mSL (sI (sI w1 39 s (nI lk)) 40 s (nI nk)) w2 := ⟨fun o k _ => i2 o k, fun o k q => by rw [l2, if_neg (fun e => by rw [e.1] at q; cases q)]⟩
        exact ((y1.tr y2).tr y3).tr y4
      refine shG (H := upH H s (some (lk, nk))) x1 h1 h2 h3 h4 h5 (fun t ht => ?_)
      have row : ∀ k, gI w2 (5 + t) k = gI (sI (sI (sI w (5 + s) 1 1) (5 + s) 2 (nI lk)) (5 + s) 3 (nI nk)) (5 + t) k := fun k => by
        rw [i2, gI_sI, if_neg (by omega), gI_sI, if_neg (by omega), i1]
      have r39 : gI w2 39 t = if t = s then nI lk else gI w 39 t := by
        rw [i2, gI_sI, if_neg (by omega), gI_sI]
        by_cases e : t = s
        · rw [if_pos ⟨rfl, e⟩, if_pos e]
        · rw [if_neg (fun q => e q.2), if_neg e, i1, gI_sI, if_neg (by omega), gI_sI, if_neg (by omega), gI_sI, if_neg (by omega)]
      have r40 : gI w2 40 t = if t = s then nI nk else gI w 40 t := by
        rw [i2, gI_sI]
        by_cases e : t = s
        · rw [if_pos ⟨rfl, e⟩, if_pos e]
        · rw [if_neg (fun q => e q.2), if_neg e, gI_sI, if_neg (by omega), i1, gI_sI, if_neg (by omega), gI_sI, if_neg (by omega), gI_sI, if_neg (by omega)]
      have rit : ∀ j, j < 36 → gL w2 (19 + t) j = if t = s then 0 else gL w (19 + t) j := fun j hj => by
        rw [l2, if_neg (by omega), gL_sI, gL_sI, l1]
        by_cases e : t = s
        · rw [if_pos ⟨by omega, hj⟩, if_pos e]
        · rw [if_neg (by omega), if_neg e]; rfl
      have r41 : ∀ j, j < 36 → gL w2 41 (36 * t + j) = if t = s then 0 else gL w 41 (36 * t + j) := fun j hj => by
        rw [l2]
        by_cases e : t = s
        · rw [if_pos ⟨rfl, by omega, by omega⟩, if_pos e]
        · rw [if_neg (fun q => e (by omega)), if_neg e, gL_sI, gL_sI, l1, if_neg (by omega)]; rfl
      obtain ⟨a1, a2⟩ := h6 t ht
      by_cases e : t = s
      · subst e
        refine ⟨?_, fun j hj => by rw [rit j hj, r41 j hj, if_pos rfl, if_pos rfl]⟩
        unfold upH
        rw [if_pos rfl]
        refine ⟨?_, ?_, ?_, ?_, ?_, hlk, hnk⟩
        · rw [row, gI_sI, if_neg (by omega), gI_sI, if_neg (by omega), gI_sI, if_pos ⟨rfl, rfl⟩]
        · rw [r39, if_pos rfl]
        · rw [row, gI_sI, if_neg (by omega), gI_sI, if_pos ⟨rfl, rfl⟩]
        · rw [row, gI_sI, if_pos ⟨rfl, rfl⟩]
        · rw [r40, if_pos rfl]
      · refine ⟨?_, fun j hj => by rw [rit j hj, r41 j hj, if_neg e, if_neg e]; exact a2 j hj⟩
        unfold upH
        rw [if_neg e]
        exact SH1_keep a1 (fun k => by rw [row, gI_sI, if_neg (by omega), gI_sI, if_neg (by omega), gI_sI, if_neg (by omega)]) (by rw [r39, if_neg e]) (by rw [r40, if_neg e])
  · refine n_N_sheet (t_N_sheet_0 (s_N_isSheet (t_N_sheet_1 (fun q => ?_) (fun _ => t_N_sheet_2 (fun _ => t_N_sheet_4 (fun q => absurd q g4) (fun _ => t_N_sheet_5 ⟨rfl, hR, SCR.rf⟩)) (fun q => absurd g3 q)))))
    rw [hb] at q; cases q
theorem op_drop {d : Nat} {w : zW} {x : Int32} (h : RW w) : OPP (d + 1) m_C_drop 3 m_N_drop 2 [.ref 0, .int x] [.ref 10, .int x] w := by
  have hR := h
  obtain ⟨S, K, T, H, h1, h2, h3, h4, h5, h6⟩ := h
  refine n_C_drop (t_C_drop_0 (s_C_isSheet (t_C_drop_1 (fun g => ?_) (fun g => t_C_drop_2 ?_))))
  · have hx := zb_f.mp g
    obtain ⟨s, hs, rfl⟩ := isS_of hx
    have hcl : (nI s).toNatClampNeg = s := nI_clamp (by omega)
    have hin : vp_in (nI s) 4 := vp_in_lt hs (by decide)
    refine t_C_drop_3 hin (zre_is hs) (fun g2 => ?_) (fun g2 => t_C_drop_4 ?_)
    · rw [zre_row hs] at g2 ⊢
      refine t_C_drop_5 (zis_row hs) (zis_row hs) ?_
      cases e : H s with
      | none => have := (h6 s hs).1; rw [e] at this; exact absurd this.1 g2
      | some q =>
        have hh := (h6 s hs).1
        rw [e] at hh
        obtain ⟨a1, a2, a3, a4, a5, a6, a7⟩ := hh
        have e39 : gI (sI w (5 + s) 1 0) 39 s = nI q.1 := by rw [gI_sI, if_neg (by omega)]; exact a2
        refine n_N_drop (t_N_drop_0 (s_N_inI (a := 0) (b := 3) rfl rfl (t_N_drop_1 (fun _ => t_N_drop_3 hin (fun g3 => t_N_drop_5 hin hin ⟨?_, ?_⟩) (fun g3 => ?_)) (fun q => ?_))))
        · rw [hcl, gI_sI, if_neg (by omega), gI_sI, if_neg (by omega), a4, a5]
        · rw [hcl]
          refine shG (H := upH H s none) ((EQX.rf.pI _ (mS_row hs _)).pI _ rfl) h1 h2 h3 h4 h5 (fun t ht => ?_)
          obtain ⟨b1', b2⟩ := h6 t ht
          refine ⟨?_, b2⟩
          by_cases e2 : t = s
          · subst e2
            unfold upH
            rw [if_pos rfl]
            exact ⟨by rw [gI_sI, if_neg (by omega), gI_sI, if_pos ⟨rfl, rfl⟩], by rw [gI_sI, if_pos ⟨rfl, rfl⟩]⟩
          · unfold upH
            rw [if_neg e2]
            exact SH1_keep b1' (fun k => by rw [gI_sI, if_neg (by omega), gI_sI, if_neg (by omega)]) (by rw [gI_sI, if_neg (by omega), gI_sI, if_neg (by omega)]) (by rw [gI_sI, if_neg (by omega), gI_sI, if_neg (by omega)])
        · rw [hcl, e39] at g3
          exact absurd (nI_le (a := 0) (Nat.zero_le _) (by omega)) g3
        · have : isS (nI s) = false := zb_t.mp q
          rw [hx] at this; cases this
    · rw [zre_row hs] at g2
      refine n_N_drop (t_N_drop_0 (s_N_inI (a := 0) (b := 3) rfl rfl (t_N_drop_1 (fun _ => t_N_drop_3 hin (fun g3 => ?_) (fun g3 => t_N_drop_4 ⟨rfl, hR, SCR.rf⟩)) (fun q => ?_))))
      · rw [hcl] at g3
        have hh := (h6 s hs).1
        cases e : H s with
        | none => rw [e] at hh; rw [hh.2] at g3; exact absurd g3 (by decide)
        | some q => rw [e] at hh; rw [hh.1] at g2; exact absurd g2 (by decide)
      · have : isS (nI s) = false := zb_t.mp q
        rw [hx] at this; cases this
  · refine n_N_drop (t_N_drop_0 (s_N_inI (a := 0) (b := 3) rfl rfl (t_N_drop_1 (fun q => ?_) (fun _ => t_N_drop_2 ⟨rfl, hR, SCR.rf⟩))))
    have h1 : isS x = true := zb_f.mp q
    rw [zb_t.mp g] at h1; cases h1
/-! lanes -/
def asL (l : Int32) (v : Int64) : Int64 := if l = 0 then zsr (zsl v 56) 56 else if l = 1 then zsr (zsl v 48) 48 else if l = 2 then zsr (zsl v 32) 32 else v
theorem bx_nar {k : Nat} (hk : k < 64) (v : Int64) {i : Nat} (hi : i < 64) : bt6 (zsr (zsl v (nI k)) (nI k)) i = if i < 64 - k then bt6 v i else bt6 v (63 - k) := by
  rw [bx_sr hk, bx_sl hk, bx_sl hk]
  by_cases h : i < 64 - k
  · rw [if_pos h, if_pos (by omega), show k + i - k = i by omega]
    simp [hi, show k + i < 64 by omega]
  · rw [if_neg h, if_neg (by omega)]
    simp [hi, show k ≤ 63 by omega]
theorem nar32 (v : Int64) : v.toInt32.toInt64 = zsr (zsl v 32) 32 := by
  apply bx_ext
  intro i hi
  rw [show (32 : Int32) = nI 32 from rfl, bx_nar (by decide) v hi]
  unfold bt6
  rw [Int32.toBitVec_toInt64, BitVec.getLsbD_signExtend, BitVec.msb_eq_getLsbD_last, Int64.toBitVec_toInt32]
  rw [BitVec.getLsbD_signExtend, BitVec.getLsbD_signExtend]
  by_cases h : i < 32
  · simp [h, hi]
  · simp [h, hi]
theorem nar16 (v : Int64) : v.toInt32.toInt16.toInt32.toInt64 = zsr (zsl v 48) 48 := by
  apply bx_ext
  intro i hi
  rw [show (48 : Int32) = nI 48 from rfl, bx_nar (by decide) v hi]
  unfold bt6
  simp only [Int32.toBitVec_toInt64, Int16.toBitVec_toInt32, Int32.toBitVec_toInt16, Int64.toBitVec_toInt32, BitVec.getLsbD_signExtend, BitVec.msb_eq_getLsbD_last]
  by_cases h : i < 16
  · simp [h, hi, show i < 32 by omega]
  · by_cases h2 : i < 32
    · simp [h, hi, h2]
    · simp [h, hi, h2]
theorem nar8 (v : Int64) : v.toInt32.toInt8.toInt32.toInt64 = zsr (zsl v 56) 56 := by
  apply bx_ext
  intro i hi
  rw [show (56 : Int32) = nI 56 from rfl, bx_nar (by decide) v hi]
  unfold bt6
  simp only [Int32.toBitVec_toInt64, Int8.toBitVec_toInt32, Int32.toBitVec_toInt8, Int64.toBitVec_toInt32, BitVec.getLsbD_signExtend, BitVec.msb_eq_getLsbD_last]
  by_cases h : i < 8
  · simp [h, hi, show i < 32 by omega]
  · by_cases h2 : i < 32
    · simp [h, hi, h2]
    · simp [h, hi, h2]
theorem s_N_asLane {d : Nat} {w : zW} {Q : zQ} {l : Int32} {v : Int64} (h : Q (some (.long (asL l v))) w) : WM d m_N_asLane 3 [.int l, .long v] w Q := by
  unfold asL at h
  refine n_N_asLane (t_N_asLane_0 (fun g => t_N_asLane_2 (fun g2 => t_N_asLane_4 (fun g3 => t_N_asLane_6 (t_N_asLane_7 ?_)) (fun g3 => t_N_asLane_5 (t_N_asLane_7 ?_))) (fun g2 => t_N_asLane_3 (t_N_asLane_7 ?_))) (fun g => t_N_asLane_1 (t_N_asLane_7 ?_)))
  · rw [if_neg g, if_neg g2, if_neg g3] at h; exact h
  · rw [if_neg g, if_neg g2, if_pos g3] at h; exact h
  · rw [if_neg g, if_pos g2] at h; exact h
  · rw [if_pos g] at h; exact h
theorem s_R_put {d : Nat} {w : zW} {Q : zQ} {s a : Nat} {v : Int64} {q : Nat × Nat} (hs : s < 4) (hH : SH1 w s (some q)) (ha : a < q.2) (h : Q none (sL w (19 + s) a (asL (nI q.1) v))) : WM (d + 1) m_R_put 4 [.ref (5 + s), .int (nI a), .long v] w Q := by
  obtain ⟨a1, a2, a3, a4, a5, a6, a7⟩ := hH
  have hcl : (nI a).toNatClampNeg = a := nI_clamp (by omega)
  have hin := zrf_in hs (vp_in_lt (j := a) (n := 36) (by omega) (by decide))
  unfold asL at h
  refine n_R_put (t_R_put_0 (zis_row hs) (s_R_spans hs (t_R_put_1 (fun g => t_R_put_3 (zis_row hs) (fun e => t_R_put_4 (zis_row hs) (zrf_ar hs) hin (t_R_put_8 ?_)) (fun e => t_R_put_5 (zis_row hs) (zrf_ar hs) hin (t_R_put_8 ?_)) (fun e => t_R_put_6 (zis_row hs) (zrf_ar hs) hin (t_R_put_8 ?_)) (fun e0 e1 e2 => t_R_put_7 (zis_row hs) (zrf_ar hs) hin (t_R_put_8 ?_))) (fun g => ?_))))
  · rw [a3] at e
    rw [if_pos e] at h
    rw [zrf_row hs, hcl, nar8]; exact h
  · rw [a3] at e
    rw [if_neg (by rw [e]; decide), if_pos e] at h
    rw [zrf_row hs, hcl, nar16]; exact h
  · rw [a3] at e
    rw [if_neg (by rw [e]; decide), if_neg (by rw [e]; decide), if_pos e] at h
    rw [zrf_row hs, hcl, nar32]; exact h
  · rw [a3] at e0 e1 e2
    rw [if_neg e0, if_neg e1, if_neg e2] at h
    rw [zrf_row hs, hcl]; exact h
  · rw [zb_t, a4] at g
    unfold spn at g
    rw [decide_eq_true (not_neg (show a < 2 ^ 31 by omega)), decide_eq_true (show ¬ (1 : Int32) < 0 by decide), show (1 : Int32) = nI 1 from rfl, decide_eq_true (nI_nlt (a := q.2) (b := 1) (by omega) (by omega)), pk_sub (by omega), decide_eq_true (nI_nlt (a := q.2 - 1) (b := a) (by omega) (by omega))] at g
    cases g
theorem refA_0 {h : Option (Nat × Nat)} {l f n : Int32} (e : refA h l f n = 0) : ∃ q, h = some q ∧ nI q.1 = l ∧ spn f n (nI q.2) = true := by
  unfold refA at e
  cases h with
  | none => exact absurd (show (-11 : Int32) = 0 from e) (by decide)
  | some q =>
    refine ⟨q, rfl, ?_⟩
    dsimp only at e
    split at e
    · rename_i e1
      split at e
      · rename_i e2; exact ⟨e1, e2⟩
      · exact absurd e (by decide)
    · exact absurd e (by decide)
theorem refA_nn {h : Option (Nat × Nat)} {l f n : Int32} : 0 ≤ refA h l f n ↔ refA h l f n = 0 := by
  constructor
  · intro e
    unfold refA at e ⊢
    cases h with
    | none => exact absurd (show (0 : Int32) ≤ -11 from e) (by decide)
    | some q =>
      dsimp only at e ⊢
      split at e
      · split at e
        · rename_i a b; rw [if_pos a, if_pos b]
        · exact absurd e (by decide)
      · exact absurd e (by decide)
  · intro e; rw [e]; decide
theorem spn_of {f n : Int32} {len : Nat} (hl : len ≤ 36) (h : spn f n (nI len) = true) : ∃ a b : Nat, f = nI a ∧ n = nI b ∧ a + b ≤ len := by
  unfold spn at h
  simp only [Bool.and_eq_true, decide_eq_true_eq] at h
  obtain ⟨⟨⟨q1, q2⟩, q3⟩, q4⟩ := h
  obtain ⟨a, ha, rfl⟩ := nI_of q1
  obtain ⟨b, hb, rfl⟩ := nI_of q2
  have hbl : b ≤ len := Nat.le_of_not_lt fun q => q3 (nI_lt q hb)
  rw [pk_sub hbl] at q4
  have : a ≤ len - b := Nat.le_of_not_lt fun q => q4 (nI_lt q ha)
  exact ⟨a, b, rfl, rfl, by omega⟩
theorem op_item {d : Nat} {w : zW} {x l i : Int32} {v : Int64} (h : RW w) : OPP (d + 2) m_C_item 7 m_N_item 7 [.ref 0, .int x, .int l, .int i, .long v] [.ref 10, .int x, .int l, .int i, .long v] w := by
  have hR := h
  obtain ⟨S, K, T, H, h1, h2, h3, h4, h5, h6⟩ := h
  cases hb : (isS x && isS l) with
  | false =>
    refine n_C_item (t_C_item_0 (s_C_refusalB hb (t_C_item_1 (fun g => absurd g (by decide)) (fun _ => t_C_item_2 ?_))))
    refine n_N_item (t_N_item_0 (s_N_isSheet (t_N_item_1 (fun g => ?_) (fun _ => t_N_item_2 ⟨rfl, hR, SCR.rf⟩))))
    rw [hb] at g; exact absurd rfl g
  | true =>
    have hb2 := hb
    rw [Bool.and_eq_true] at hb2
    obtain ⟨hx, hl⟩ := hb2
    obtain ⟨s, hs, rfl⟩ := isS_of hx
    have hcl : (nI s).toNatClampNeg = s := nI_clamp (by omega)
    have hin : vp_in (nI s) 4 := vp_in_lt hs (by decide)
    refine n_C_item (t_C_item_0 (s_C_refusal rfl hs hl (h6 s hs).1 (t_C_item_1 (fun g => ?_) (fun g => t_C_item_2 ?_))))
    · obtain ⟨q, e1, e2, e3⟩ := refA_0 g
      have hh := (h6 s hs).1
      rw [e1] at hh
      have hq2 : q.2 ≤ 36 := hh.2.2.2.2.2.2
      obtain ⟨a, b, rfl, eb, hab⟩ := spn_of hq2 e3
      have hb1 : b = 1 := by
        have hb9 : b < 2 ^ 31 := by omega
        exact ((nI_eqk (n := 1) (k := b) (by decide) hb9).mp eb).symm
      subst hb1
      refine t_C_item_3 hin (zre_is hs) ?_
      rw [zre_row hs]
      refine s_R_put hs hh (by omega) (t_C_item_4 ?_)
      have hh2 : SH1 (sL w (19 + s) a (asL (nI q.1) v)) s (H s) := by rw [e1]; exact hh
      refine n_N_item (t_N_item_0 (s_N_isSheet (t_N_item_1 (fun _ => t_N_item_3 (s_N_lacksRow rfl hs hl (by decide) (by decide) hh2 (t_N_item_4 (fun _ => t_N_item_6 (s_N_asLane (t_N_item_7 ?_ ⟨rfl, ?_⟩))) (fun q => absurd (refA_nn.mpr g) q)))) (fun q => ?_))))
      · rw [show (36 : Int32) = nI 36 from rfl, pk_mul, nI_add]; exact vp_in_lt (by omega) (by decide)
      · rw [show (36 : Int32) = nI 36 from rfl, pk_mul, nI_add, nI_clamp (by omega), ← e2]
        refine shG (H := H) ((EQX.rf.pL _ (mS_it hs _)).pL _ rfl) h1 h2 h3 h4 h5 (fun t ht => ?_)
        obtain ⟨b1', b2⟩ := h6 t ht
        refine ⟨b1', fun j hj => ?_⟩
        rw [gL_sL, if_neg (by omega), gL_sL, gL_sL]
        by_cases e : t = s ∧ j = a
        · rw [if_pos ⟨by omega, e.2⟩, if_pos ⟨rfl, by omega⟩]
        · rw [if_neg (by omega), if_neg (fun q => e (by omega)), gL_sL, if_neg (by omega)]
          exact b2 j hj
      · rw [hb] at q; cases q
    · refine n_N_item (t_N_item_0 (s_N_isSheet (t_N_item_1 (fun _ => t_N_item_3 (s_N_lacksRow rfl hs hl (by decide) (by decide) (h6 s hs).1 (t_N_item_4 (fun q => absurd (refA_nn.mp q) g) (fun q => t_N_item_5 ⟨rfl, hR, SCR.rf⟩)))) (fun q => ?_))))
      rw [hb] at q; cases q
