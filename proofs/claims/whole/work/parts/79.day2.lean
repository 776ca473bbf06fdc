/-! ===== a day is done ===== -/
def actA (S : zS) (e : Nat × Nat) : Int32 × zS := if e.1 = 0 then digA S (nI e.2) else if e.1 = 1 then filA S (nI e.2) else rofA S (nI e.2)
theorem actA_ok {S : zS} (hk : okS S) (e : Nat × Nat) : okS (actA S e).2 := by
  unfold actA
  split
  · exact ok_digA hk _
  · split
    · exact ok_filA hk _
    · exact ok_rofA hk _
theorem digA_n (S : zS) {c : Nat} (hc : c < 36) : digA S (nI c) = if dpS S c < 9 then (nI (dpS S c + 1), digS S c) else (-3, S) := by
  unfold digA; rw [if_pos (isC_nI hc), nI_clamp (by omega)]
theorem filA_n (S : zS) {c : Nat} (hc : c < 36) : filA S (nI c) = if dpS S c = 0 then (-2, S) else (nI (dpS S c), filS S c) := by
  unfold filA; rw [if_pos (isC_nI hc), nI_clamp (by omega)]
theorem rofA_n (S : zS) {c : Nat} (hc : c < 36) : rofA S (nI c) = if dpS S c = 0 then (-2, S) else (zb (!bt6 (roS S) c), rofS S c) := by
  unfold rofA; rw [if_pos (isC_nI hc), nI_clamp (by omega)]
theorem zb_nn (b : Bool) : ¬ zb b < 0 := by cases b <;> decide
theorem s_G_repaired {d : Nat} {w : zW} {Q : zQ} {S : zS} {e : Nat × Nat} {x : Int32} (hx : x = nI (e.1 * 36 + e.2)) (he : e.1 < 3 ∧ e.2 < 36) (hG : GC w 1 S) (hk : okS S) (h : ∀ w', GC w' 1 (actA S e).2 → EQX mCI mCL w w' → Q (some (.int (zb (decide (¬ (actA S e).1 < 0))))) w') : WM (d + 3) m_G_repaired 3 [.ref 1, .int x] w Q := by
  subst hx
  obtain ⟨k, c⟩ := e
  obtain ⟨hk3, hc⟩ := he
  dsimp only at hk3 hc h ⊢
  have h9 := hk.1 c hc
  have ed : nI (k * 36 + c) / 36 = nI k := by
    have := pk_div (a := k * 36 + c) (d := 36) (by omega) (by decide) (by decide)
    rw [show (k * 36 + c) / 36 = k by omega] at this
    exact this
  have em : zrm (nI (k * 36 + c)) 36 = nI c := by
    have := zrm_n (a := k * 36 + c) (k := 36) (by omega) (by decide) (by decide)
    rw [show (k * 36 + c) % 36 = c by omega] at this
    exact this
  unfold actA at h
  dsimp only at h
  refine n_G_repaired (t_G_repaired_0 (fun g => t_G_repaired_1 ?_) (fun g => t_G_repaired_6 ?_) (fun g1 g2 => t_G_repaired_11 ?_))
  · rw [ed, nI_c0 (by omega)] at g
    rw [em]
    rw [if_pos g, digA_n S hc] at h
    refine s_G_toDig hG hk hc (fun q => t_G_repaired_2 (fun _ => t_G_repaired_4 (t_G_repaired_5 (Or.inl rfl) ?_)) (fun z => absurd (by decide) z)) (fun q wa ga xa => t_G_repaired_2 (fun z => absurd z (not_neg (by omega))) (fun z => t_G_repaired_3 (t_G_repaired_5 (Or.inr rfl) ?_)))
    · rw [if_neg q] at h; exact h w hG EQX.rf
    · rw [if_pos q] at h
      have := h wa ga xa
      rw [decide_eq_true z] at this
      exact this
  · rw [ed, show (1 : Int32) = nI 1 from rfl, nI_eqk (by omega) (by decide)] at g
    rw [em]
    rw [if_neg (by omega), if_pos g, filA_n S hc] at h
    refine s_G_toFill hG hk hc (fun q => t_G_repaired_7 (fun _ => t_G_repaired_9 (t_G_repaired_10 (Or.inl rfl) ?_)) (fun z => absurd (by decide) z)) (fun q wa ga xa => t_G_repaired_7 (fun z => absurd z (not_neg (by omega))) (fun z => t_G_repaired_8 (t_G_repaired_10 (Or.inr rfl) ?_)))
    · rw [if_pos q] at h; exact h w hG EQX.rf
    · rw [if_neg q] at h
      have := h wa ga xa
      rw [decide_eq_true z] at this
      exact this
  · rw [ed, nI_c0 (by omega)] at g1
    rw [ed, show (1 : Int32) = nI 1 from rfl, nI_eqk (by omega) (by decide)] at g2
    rw [em]
    rw [if_neg g1, if_neg g2, rofA_n S hc] at h
    refine s_G_toRoof hG hk hc (fun q => t_G_repaired_12 (fun _ => t_G_repaired_14 (t_G_repaired_15 (Or.inl rfl) ?_)) (fun z => absurd (by decide) z)) (fun q wa ga xa => t_G_repaired_12 (fun z => absurd z (zb_nn _)) (fun z => t_G_repaired_13 (t_G_repaired_15 (Or.inr rfl) ?_)))
    · rw [if_pos q] at h; exact h w hG EQX.rf
    · rw [if_neg q] at h
      have := h wa ga xa
      rw [decide_eq_true z] at this
      exact this
def dyX : List (Nat × Nat) → zS → Nat → Int32 × zS
  | [], S, k => (nI k, S)
  | e :: r, S, k => if (actA S e).1 < 0 then (nI k, (actA S e).2) else dyX r (actA S e).2 (k + 1)
theorem dyX_ok : ∀ (l : List (Nat × Nat)) (S : zS) (k : Nat), okS S → okS (dyX l S k).2
  | [], S, k, h => h
  | e :: r, S, k, h => by
    unfold dyX
    split
    · exact actA_ok h e
    · exact dyX_ok r _ _ (actA_ok h e)
theorem lp_C_day {d : Nat} {w0 : zW} {Q : zQ} {l : List (Nat × Nat)} {R : Int32 × zS} (hl : l.length ≤ 40) (ho : okD l) (hA : DA w0 l) (h : ∀ w', GC w' 1 R.2 → EQX mCI mCL w0 w' → Q (some (.int R.1)) w') : ∀ (m k : Nat) (S : zS) (w : zW), k + m = l.length → GC w 1 S → okS S → EQX mCI mCL w0 w → dyX (l.drop k) S k = R → WP (d + 4) m_C_day 5 [some (.ref 0), none, some (.int (nI k))] [] w Q
  | 0, k, S, w, hk, hG, hS, hy, hr => by
    have e : k = l.length := by omega
    subst e
    rw [List.drop_length] at hr
    subst hr
    exact t_C_day_5 (fun _ => t_C_day_9 (h w hG hy)) (fun g => absurd (by rw [hy.1 3 5 rfl, hA.1]; exact Int32.le_refl _) g)
  | m + 1, k, S, w, hk, hG, hS, hy, hr => by
    have hkl : k < l.length := by omega
    have e := List.getElem?_eq_getElem hkl
    have he := ho _ (List.getElem_mem hkl)
    rw [List.drop_eq_getElem_cons hkl] at hr
    unfold dyX at hr
    refine t_C_day_5 (fun g => absurd g (by rw [hy.1 3 5 rfl, hA.1]; exact nI_ge hkl (by omega))) (fun _ => t_C_day_6 (vp_in_lt (by omega) (by decide)) ?_)
    rw [nI_clamp (by omega), hy.1 18 k rfl, hA.2 k _ e]
    refine s_G_repaired rfl he hG hS (fun wa ga xa => t_C_day_7 (fun u => t_C_day_9 ?_) (fun u => t_C_day_8 ?_))
    · have u := Classical.not_not.mp (of_decide_eq_false (zb_t.mp u))
      rw [if_pos u] at hr
      subst hr
      exact h wa ga (hy.tr xa)
    · have u := of_decide_eq_true (zb_f.mp u)
      rw [if_neg u] at hr
      rw [n1]
      exact lp_C_day hl ho hA h m (k + 1) _ wa (by omega) ga (actA_ok hS _) (hy.tr xa) hr
theorem lp_N_dayX {d : Nat} {w0 : zW} {Q : zQ} {l : List (Nat × Nat)} {R : Int32 × zS} (hl : l.length ≤ 40) (ho : okD l) (hA : DE w0 l) (h : ∀ w', GN w' R.2 → EQX mGI mGL w0 w' → Q (some (.int R.1)) w') : ∀ (m k : Nat) (S : zS) (w : zW), k + m = l.length → GN w S → okS S → EQX mGI mGL w0 w → dyX (l.drop k) S k = R → WP (d + 3) m_N_day 5 [some (.ref 10), none, some (.int (nI k)), none, none, none] [] w Q
  | 0, k, S, w, hk, hG, hS, hy, hr => by
    have e : k = l.length := by omega
    subst e
    rw [List.drop_length] at hr
    subst hr
    refine t_N_day_5 (fun _ => t_N_day_16 ?_) (fun g => absurd (by rw [hy.1 10 14 rfl, hA.1]; exact Int32.le_refl _) g)
    rw [hy.1 10 14 rfl, hA.1]
    exact h w hG hy
  | m + 1, k, S, w, hk, hG, hS, hy, hr => by
    have hkl : k < l.length := by omega
    have e := List.getElem?_eq_getElem hkl
    obtain ⟨he1, he2⟩ := ho _ (List.getElem_mem hkl)
    rw [List.drop_eq_getElem_cons hkl] at hr
    unfold dyX at hr
    have hv : gI w 33 (nI k).toNatClampNeg = nI (100 * chK l[k].1 + l[k].2) := by rw [nI_clamp (by omega), hy.1 33 k rfl, hA.2 k _ e]
    have hch : chK l[k].1 ≤ 114 := by unfold chK; split; · omega
                                      · split <;> omega
    have ed : nI (100 * chK l[k].1 + l[k].2) / 100 = nI (chK l[k].1) := by
      have := pk_div (a := 100 * chK l[k].1 + l[k].2) (d := 100) (by omega) (by decide) (by decide)
      rw [show (100 * chK l[k].1 + l[k].2) / 100 = chK l[k].1 by omega] at this
      exact this
    have em : zrm (nI (100 * chK l[k].1 + l[k].2)) 100 = nI l[k].2 := by
      have := zrm_n (a := 100 * chK l[k].1 + l[k].2) (k := 100) (by omega) (by decide) (by decide)
      rw [show (100 * chK l[k].1 + l[k].2) % 100 = l[k].2 by omega] at this
      exact this
    have fin : ∀ (A : Int32 × zS) (wa : zW), actA S l[k] = A → GN wa A.2 → EQX mGI mGL w wa → WP (d + 3) m_N_day 13 [some (.ref 10), none, some (.int (nI k)), none, none, none] [.int A.1] wa Q := by
      rintro A wa rfl ga xa
      refine t_N_day_13 (fun u => t_N_day_15 ?_) (fun u => t_N_day_14 ?_)
      · rw [if_neg (by rw [Int32.not_lt]; exact u)] at hr
        rw [n1]
        exact lp_N_dayX hl ho hA h m (k + 1) _ wa (by omega) ga (actA_ok hS _) (hy.tr xa) hr
      · rw [if_pos (by rw [← Int32.not_le]; exact u)] at hr
        subst hr
        exact h wa ga (hy.tr xa)
    have c100 : nI (chK l[k].1) = 100 ↔ l[k].1 = 0 := by
      rw [show (100 : Int32) = nI 100 from rfl, nI_eqk (by omega) (by decide)]
      unfold chK
      constructor
      · intro q
        by_cases z : l[k].1 = 0
        · exact z
        · rw [if_neg z] at q
          split at q <;> omega
      · intro z; rw [if_pos z]
    have c102 : ¬ l[k].1 = 0 → (nI (chK l[k].1) = 102 ↔ l[k].1 = 1) := fun z => by
      rw [show (102 : Int32) = nI 102 from rfl, nI_eqk (by omega) (by decide)]
      unfold chK
      rw [if_neg z]
      constructor
      · intro q
        by_cases y : l[k].1 = 1
        · exact y
        · rw [if_neg y] at q; omega
      · intro y; rw [if_pos y]
    have hin : vp_in (nI k) 80 := vp_in_lt (by omega) (by decide)
    refine t_N_day_5 (fun g => absurd g (by rw [hy.1 10 14 rfl, hA.1]; exact nI_ge hkl (by omega))) (fun _ => t_N_day_6 hin hin (fun u => t_N_day_9 (fun u2 => t_N_day_12 ?_) (fun u2 => t_N_day_10 ?_)) (fun u => t_N_day_7 ?_))
    · rw [hv, ed, c100] at u
      rw [hv, ed, c102 u] at u2
      rw [hv, em]
      exact u_N_roof hG hS (fun wa ga xa => fin _ wa (by unfold actA; rw [if_neg u, if_neg u2]) ga xa)
    · rw [hv, ed, c100] at u
      rw [hv, ed, c102 u] at u2
      rw [hv, em]
      exact u_N_fill hG hS (fun wa ga xa => t_N_day_11 (fin _ wa (by unfold actA; rw [if_neg u, if_pos u2]) ga xa))
    · rw [hv, ed, c100] at u
      rw [hv, em]
      exact u_N_dig hG hS (fun wa ga xa => t_N_day_8 (fin _ wa (by unfold actA; rw [if_pos u]) ga xa))
theorem op_day {d : Nat} {w : zW} (h : RW w) : OPP (d + 4) m_C_day 3 m_N_day 6 [.ref 0] [.ref 10] w := by
  obtain ⟨S, K, T, H, h1, h2, h3, h4, h5, h6⟩ := h
  have hT := h5.ok
  have hlT := hT.1
  obtain ⟨hle, hok⟩ := dyL_ok (T := T) hlT 41 0 [] (Nat.zero_le _) (Nat.le_refl _) (fun e he => by cases he)
  have tn5 : ∀ {wx : zW}, TN wx T 0 → TN (sI wx 10 14 0) T 0 := fun t => ⟨by rw [gI_sI, if_neg (by omega)]; exact t.1, fun j c hc => by rw [gI_sI, if_neg (by omega)]; exact t.2.1 j c hc, by rw [gI_sI, if_neg (by omega)]; exact t.2.2⟩
  have tc5 : TC (sI (sI w 3 2 0) 3 5 0) T 0 := by
    have t := h5.tc 0
    exact ⟨by rw [gI_sI, if_neg (by omega)]; exact t.1, fun j c hc => by rw [gI_sI, if_neg (by omega)]; exact t.2.1 j c hc, by rw [gI_sI, if_neg (by omega)]; exact t.2.2⟩
  refine n_C_day (t_C_day_0 (n_T_readDay (t_T_readDay_0 (lp_T_day (w0 := w) (T := T) (R := dyL T 41 0 []) hT (fun q wa hr xa => ?_) (fun l wa hr ga xa => ?_) 41 0 [] _ rfl (Nat.zero_le _) (Nat.le_refl _) tc5 ⟨by rw [gI_sI, if_pos ⟨rfl, rfl⟩]; rfl, fun i e he => (by cases he)⟩ ((EQX.rf.pI (o := 3) (k := 2) _ rfl).pI (o := 3) (k := 5) _ rfl) rfl))))
  · have hq := hle q hr
    refine t_C_day_1 (n_T_wipe (t_T_wipe_0 (t_C_day_2 (fun e => absurd e (flt_ne (by omega)).1) (fun _ => t_C_day_3 ?_))))
    refine n_N_day (t_N_day_0 (n_N_readDay (t_N_readDay_0 (lp_N_day (w0 := sI wa 3 1 0) (T := T) (R := dyL T 41 0 []) hT (fun q' wb hr' hq' hs' tb xb => ?_) (fun l q' wb hr' => ?_) 41 0 [] _ rfl (Nat.zero_le _) (Nat.le_refl _) (tn5 (tape_tn h5 xa EQX.rf 0)) ⟨by rw [gI_sI, if_pos ⟨rfl, rfl⟩]; rfl, fun i e he => (by cases he)⟩ ((EQX.rf.pI (o := 10) (k := 13) _ rfl).pI (o := 10) (k := 14) _ rfl) rfl))))
    · rw [hr] at hr'
      injection hr' with hr'
      subst hr'
      refine t_N_day_1 (s_N_end (b := false) rfl hT hq' tb (fun wc tc xc => t_N_day_2 (fun e => absurd e ?_) (fun _ => t_N_day_3 ⟨?_, ?_⟩)))
      · rw [if_neg (by decide), hs']; exact (flt_ne (by omega)).2
      · rw [if_neg (by decide), hs']
      · exact tape_off h1 h2 h3 h4 h6 xa (xb.tr xc.qR) rfl
    · rw [hr] at hr'; cases hr'
  · obtain ⟨hl, ho⟩ := hok l hr
    have g2 : GC (sI wa 3 1 0) 1 S := GC_i (xa.gcD h2) (by decide)
    have hDA : DA (sI wa 3 1 0) l := ⟨by rw [gI_sI, if_neg (by omega)]; exact ga.1, fun i e he => by rw [gI_sI, if_neg (by omega)]; exact ga.2 i e he⟩
    refine t_C_day_1 (n_T_wipe (t_T_wipe_0 (t_C_day_2 (fun _ => t_C_day_4 (lp_C_day (R := dyX l S 0) hl ho hDA (fun wb gB xb => ?_) l.length 0 S _ (by omega) g2 h1 EQX.rf rfl)) (fun e => absurd rfl e))))
    have hk := dyX_ok l S 0 h1
    refine n_N_day (t_N_day_0 (n_N_readDay (t_N_readDay_0 (lp_N_day (w0 := wb) (T := T) (R := dyL T 41 0 []) hT (fun q' wc hr' => ?_) (fun l' q' wc hr' hq' tc gc xc => ?_) 41 0 [] _ rfl (Nat.zero_le _) (Nat.le_refl _) (tn5 (tape_tn h5 xa xb 0)) ⟨by rw [gI_sI, if_pos ⟨rfl, rfl⟩]; rfl, fun i e he => (by cases he)⟩ ((EQX.rf.pI (o := 10) (k := 13) _ rfl).pI (o := 10) (k := 14) _ rfl) rfl))))
    · rw [hr] at hr'; cases hr'
    · rw [hr] at hr'
      injection hr' with hr'
      subst hr'
      refine t_N_day_1 (s_N_end (b := true) rfl hT hq' tc (fun wd td xd => t_N_day_2 (fun _ => t_N_day_4 ?_) (fun e => absurd (by rw [if_pos rfl]; decide) e)))
      have xcd := xc.tr xd.qR
      have hDE : DE (sI wd 10 12 0) l := ⟨by rw [gI_sI, if_neg (by omega)]; exact (gc.qm xd).1, fun i e he => by rw [gI_sI, if_neg (by omega)]; exact (gc.qm xd).2 i e he⟩
      refine lp_N_dayX (R := dyX l S 0) hl ho hDE (fun we gE xe => ⟨rfl, ?_⟩) l.length 0 S _ (by omega) (tape_gn h3 xa xb xcd) h1 EQX.rf rfl
      exact tape_on h4 h6 hk xa xb gB xcd xe.gN gE
