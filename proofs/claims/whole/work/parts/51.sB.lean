/-! ===== specs: fences, kinds, taxes, holes ===== -/
theorem s_P_rimOf {d : Nat} {w : zW} {Q : zQ} {x : Int64} (h : Q (some (.long (rimF x))) w) : WM (d + 1) m_P_rimOf 2 [.long x] w Q := n_P_rimOf (t_P_rimOf_0 (s_P_beside (t_P_rimOf_1 h)))
theorem s_P_fenceOf {d : Nat} {w : zW} {Q : zQ} {x : Int64} (h : Q (some (.int (fenF x))) w) : WM (d + 1) m_P_fenceOf 4 [.long x] w Q :=
  n_P_fenceOf (t_P_fenceOf_0 (s_J_bitCount (t_P_fenceOf_1 (s_J_bitCount (t_P_fenceOf_2 (s_J_bitCount (t_P_fenceOf_3 h)))))))
theorem s_P_withinOf {d : Nat} {w : zW} {Q : zQ} {x : Int64} (h : Q (some (.long (witF x))) w) : WM (d + 2) m_P_withinOf 4 [.long x] w Q := n_P_withinOf (t_P_withinOf_0 (s_P_spread (t_P_withinOf_1 h)))
theorem lp_P_holesOf {d : Nat} {w : zW} {Q : zQ} : ∀ (n : Nat) (x : Int64) (j : Nat), j + n = 36 → Q (some (.int (nI (j + (comps n x).length)))) w → WP (d + 3) m_P_holesOf 1 [none, none, some (.int (nI j)), some (.long x), none] [] w Q
  | 0, x, j, hj, h => by
    have e : j = 36 := by omega
    subst e
    exact t_P_holesOf_1 (fun _ => t_P_holesOf_5 h) (fun _ => t_P_holesOf_2 (fun _ => t_P_holesOf_5 h) (fun g => absurd (Int32.le_refl _) g))
  | n + 1, x, j, hj, h => by
    refine t_P_holesOf_1 (fun g => t_P_holesOf_5 ?_) (fun g => t_P_holesOf_2 (fun g2 => absurd g2 (nI_ge (show j < 36 by omega) (by decide))) (fun _ => t_P_holesOf_3 (s_P_firstHole (t_P_holesOf_4 ?_))))
    · rw [g, comps_0] at h
      exact h
    · rw [comps_s g, List.length_cons] at h
      rw [nI_1]
      exact lp_P_holesOf n _ (j + 1) (by omega) (by rw [show j + 1 + (comps n (x &&& (cl (x &&& -x) x ^^^ -1))).length = j + ((comps n (x &&& (cl (x &&& -x) x ^^^ -1))).length + 1) by omega]; exact h)
theorem s_P_holesOf {d : Nat} {w : zW} {Q : zQ} {x : Int64} (h : Q (some (.int (nI (hls x).length))) w) : WM (d + 3) m_P_holesOf 5 [.long x] w Q :=
  n_P_holesOf (t_P_holesOf_0 (lp_P_holesOf 36 x 0 rfl (by rw [Nat.zero_add]; exact h)))
theorem pas_a {h : Int64} (a : ¬ h &&& 63 = 0) (b : ¬ h &&& 67645734912 = 0) : pasF h = true := by simp [pasF, a, b]
theorem pas_b {h : Int64} (a : ¬ h &&& 1090785345 = 0) (b : ¬ h &&& 34905131040 = 0) : pasF h = true := by simp [pasF, a, b]
theorem pas_n {h : Int64} (a : h &&& 63 = 0 ∨ h &&& 67645734912 = 0) (b : h &&& 1090785345 = 0 ∨ h &&& 34905131040 = 0) : pasF h = false := by
  rcases a with a | a <;> rcases b with b | b <;> simp [pasF, a, b]
set_option maxHeartbeats 1000000 in
theorem s_G_kindOf {d : Nat} {w : zW} {Q : zQ} {x de : Int64} (h : Q (some (.int (kdF (gL w 1 4) de x))) w) : WM d m_G_kindOf 7 [.ref 1, .long x, .long de] w Q := by
  unfold kdF at h
  refine n_G_kindOf ?_
  repeat' (first
    | refine t_G_kindOf_0 (fun h0 => ?_) (fun h0 => ?_)
    | refine t_G_kindOf_1 ?_
    | refine t_G_kindOf_2 (fun h2 => ?_) (fun h2 => ?_)
    | refine t_G_kindOf_3 (fun h3 => ?_) (fun h3 => ?_)
    | refine t_G_kindOf_4 ?_
    | refine t_G_kindOf_5 ?_
    | refine t_G_kindOf_6 (fun h6 => ?_) (fun h6 => ?_)
    | refine t_G_kindOf_7 (fun h7 => ?_) (fun h7 => ?_)
    | refine t_G_kindOf_8 ?_
    | refine t_G_kindOf_9 ?_
    | refine t_G_kindOf_10 (fun h10 => ?_) (fun h10 => ?_)
    | refine t_G_kindOf_11 (fun h11 => ?_) (fun h11 => ?_)
    | refine t_G_kindOf_12 ?_
    | refine t_G_kindOf_13 (fun h13 => ?_) (fun h13 => ?_)
    | refine t_G_kindOf_14 ?_
    | refine t_G_kindOf_15 (fun h15 => ?_) (fun h15 => ?_)
    | refine t_G_kindOf_16 ?_
    | refine t_G_kindOf_17 ?_
    | refine t_G_kindOf_18 ?_)
  all_goals simp_all [pasF]
theorem s_N_edge {d : Nat} {w : zW} {Q : zQ} (h : Q (some (.long 68208171135)) w) : WM d m_N_edge 0 [] w Q := n_N_edge (t_N_edge_0 h)
set_option maxHeartbeats 1000000 in
theorem s_N_kindOf {d : Nat} {w : zW} {Q : zQ} {x : Int64} (h : Q (some (.int (kdF (gL w 10 2) (gL w 10 8) x))) w) : WM (d + 1) m_N_kindOf 5 [.ref 10, .long x] w Q := by
  unfold kdF at h
  refine n_N_kindOf ?_
  repeat' (first
    | refine t_N_kindOf_0 (fun h0 => ?_) (fun h0 => ?_)
    | refine t_N_kindOf_1 (fun h1 => ?_) (fun h1 => ?_)
    | refine t_N_kindOf_2 (fun h2 => ?_) (fun h2 => ?_)
    | refine t_N_kindOf_3 (fun h3 => ?_) (fun h3 => ?_)
    | refine t_N_kindOf_4 ?_
    | refine t_N_kindOf_5 ?_
    | refine t_N_kindOf_6 ?_
    | refine t_N_kindOf_7 (fun h7 => ?_) (fun h7 => ?_)
    | refine t_N_kindOf_8 ?_
    | refine t_N_kindOf_9 ?_
    | refine t_N_kindOf_10 (fun h10 => ?_) (fun h10 => ?_)
    | refine t_N_kindOf_11 ?_
    | refine t_N_kindOf_12 (fun h12 => ?_) (fun h12 => ?_)
    | refine t_N_kindOf_13 ?_
    | refine t_N_kindOf_14 (fun h14 => ?_) (fun h14 => ?_)
    | refine t_N_kindOf_15 (fun h15 => ?_) (fun h15 => ?_)
    | refine t_N_kindOf_16 ?_
    | refine t_N_kindOf_17 (fun h17 => ?_) (fun h17 => ?_)
    | refine t_N_kindOf_18 ?_
    | refine t_N_kindOf_19 ?_
    | refine t_N_kindOf_20 ?_
    | refine s_N_edge ?_)
  all_goals simp_all [pasF]

theorem s_G_taxOf {d : Nat} {w : zW} {Q : zQ} {x de : Int64} (h : Q (some (.int (txF (gI w 1 5) (gL w 1 4) de x))) w) : WM (d + 2) m_G_taxOf 7 [.ref 1, .long x, .long de] w Q := by
  refine n_G_taxOf (t_G_taxOf_0 (s_J_bitCount (t_G_taxOf_1 (t_G_taxOf_2 (s_G_kindOf (t_G_taxOf_3 (fun g => t_G_taxOf_4 ?_) (fun g => t_G_taxOf_5 ?_) (fun g => t_G_taxOf_6 (s_P_fenceOf (t_G_taxOf_7 ?_))) (fun g => t_G_taxOf_8 (t_G_taxOf_9 ?_)) (fun g1 g2 g3 g4 => t_G_taxOf_10 ?_)))))))
  · unfold txF at h
    rw [if_pos g] at h
    exact h
  · unfold txF at h
    rw [if_neg (by rw [g]; decide), if_pos g] at h
    exact h
  · unfold txF at h
    rw [if_neg (by rw [g]; decide), if_neg (by rw [g]; decide), if_pos g] at h
    exact h
  · unfold txF at h
    rw [if_neg (by rw [g]; decide), if_neg (by rw [g]; decide), if_neg (by rw [g]; decide), if_pos g] at h
    exact h
  · unfold txF at h
    rw [if_neg g1, if_neg g2, if_neg g3, if_neg g4] at h
    exact h
theorem s_N_fenceOf {d : Nat} {w : zW} {Q : zQ} {x : Int64} (hx : SET x) (h : Q (some (.int (fenF x))) w) : WM (d + 1) m_N_fenceOf 3 [.long x] w Q := by
  have e1 : zsr (x &&& -1090785346) 1 = zus (x &&& -1090785346) 1 := zsr_us (k := 1) (hx.and _) (by decide)
  have e2 : zsr x 6 = zus x 6 := zsr_us (k := 6) hx (by decide)
  unfold fenF at h
  rw [← e1, ← e2, Int32.add_comm (nI (cn (x &&& zsr x 6)))] at h
  exact n_N_fenceOf (t_N_fenceOf_0 (s_N_ones (t_N_fenceOf_1 (s_N_ones (t_N_fenceOf_2 (s_N_ones (t_N_fenceOf_3 h)))))))
theorem max0 {x : Int32} : (if 0 < x then x else 0) = if 0 ≤ x then x else 0 := by
  by_cases h : 0 < x
  · rw [if_pos h, if_pos (Int32.le_of_lt h)]
  · rw [if_neg h]
    by_cases h2 : 0 ≤ x
    · rw [if_pos h2]
      have : x ≤ 0 := Int32.not_lt.mp h
      exact Int32.le_antisymm h2 this
    · rw [if_neg h2]
theorem s_N_taxOf {d : Nat} {w : zW} {Q : zQ} {x : Int64} (hx : SET x) (h : Q (some (.int (txF (gI w 10 3) (gL w 10 2) (gL w 10 8) x))) w) : WM (d + 2) m_N_taxOf 7 [.ref 10, .long x] w Q := by
  have key : ∀ p : Int32, p = pitF (gI w 10 3) (nI (cn x)) → WP (d + 2) m_N_taxOf 5 [none, some (.long x), none, some (.int (nI (cn x))), some (.int p), none, none] [.int (kdF (gL w 10 2) (gL w 10 8) x)] w Q := by
    rintro p rfl
    rw [show txF (gI w 10 3) (gL w 10 2) (gL w 10 8) x = if kdF (gL w 10 2) (gL w 10 8) x = 1 then pitF (gI w 10 3) (nI (cn x)) / 2 else if kdF (gL w 10 2) (gL w 10 8) x = 2 then pitF (gI w 10 3) (nI (cn x)) + 10 else if kdF (gL w 10 2) (gL w 10 8) x = 3 then pitF (gI w 10 3) (nI (cn x)) / 2 + fenF x else if kdF (gL w 10 2) (gL w 10 8) x = 4 then (if 0 ≤ pitF (gI w 10 3) (nI (cn x)) + 10 - 3 * nI (cn x) then pitF (gI w 10 3) (nI (cn x)) + 10 - 3 * nI (cn x) else 0) else pitF (gI w 10 3) (nI (cn x)) by unfold txF; rw [max0]] at h
    have hk := kdF_cases (gL w 10 2) (gL w 10 8) x
    generalize kdF (gL w 10 2) (gL w 10 8) x = k at *
    refine t_N_taxOf_5 (fun g0 => t_N_taxOf_7 (fun g1 => t_N_taxOf_9 (fun g2 => t_N_taxOf_11 (fun g3 => t_N_taxOf_14 (fun g4 => t_N_taxOf_16 (t_N_taxOf_17 ?_)) (fun g4 => t_N_taxOf_15 (t_N_taxOf_17 ?_))) (fun g3 => t_N_taxOf_12 (s_N_fenceOf hx (t_N_taxOf_13 (t_N_taxOf_17 ?_))))) (fun g2 => t_N_taxOf_10 (t_N_taxOf_17 ?_))) (fun g1 => t_N_taxOf_8 (t_N_taxOf_17 ?_))) (fun g0 => t_N_taxOf_6 (t_N_taxOf_17 ?_))
    · have e4 : k = 4 := by rcases hk with e | e | e | e | e <;> first | exact e | exact absurd e (by assumption)
      rw [if_neg g1, if_neg g2, if_neg g3, if_pos e4, if_pos g4] at h
      exact h
    · have e4 : k = 4 := by rcases hk with e | e | e | e | e <;> first | exact e | exact absurd e (by assumption)
      rw [if_neg g1, if_neg g2, if_neg g3, if_pos e4, if_neg g4] at h
      exact h
    · rw [if_neg g1, if_neg g2, if_pos g3] at h
      exact h
    · rw [if_neg g1, if_pos g2] at h
      exact h
    · rw [if_pos g1] at h
      exact h
    · subst g0
      rw [if_neg (by decide), if_neg (by decide), if_neg (by decide), if_neg (by decide)] at h
      exact h
  have hc := cn_set hx
  have e := pit_eq (gI w 10 3) (k := cn x) (by omega)
  refine n_N_taxOf (t_N_taxOf_0 (s_N_ones (t_N_taxOf_1 (fun g => t_N_taxOf_3 (t_N_taxOf_4 (s_N_kindOf (key _ ?_)))) (fun g => t_N_taxOf_2 (t_N_taxOf_4 (s_N_kindOf (key _ ?_)))))))
  · rw [← e, if_pos g]
  · rw [← e, if_neg g]
theorem lp_G_taxOfAll {d : Nat} {w : zW} {Q : zQ} {de : Int64} : ∀ (n : Nat) (x : Int64) (j : Nat) (s : Int32), j + n = 36 → Q (some (.int (txS (gI w 1 5) (gL w 1 4) de (comps n x) s))) w → WP (d + 3) m_G_taxOfAll 1 [some (.ref 1), none, none, some (.long de), none, some (.int s), some (.long x), none, some (.int (nI j)), none, none] [] w Q
  | 0, x, j, s, hj, h => by
    have e : j = 36 := by omega
    subst e
    exact t_G_taxOfAll_1 (fun _ => t_G_taxOfAll_6 h) (fun g => absurd (Int32.le_refl _) g)
  | n + 1, x, j, s, hj, h => by
    refine t_G_taxOfAll_1 (fun g => absurd g (nI_ge (show j < 36 by omega) (by decide))) (fun _ => t_G_taxOfAll_2 (fun g => t_G_taxOfAll_6 ?_) (fun g => t_G_taxOfAll_3 (s_P_firstHole (t_G_taxOfAll_4 (s_G_taxOf (t_G_taxOfAll_5 ?_))))))
    · rw [g, comps_0] at h
      exact h
    · rw [comps_s g] at h
      rw [nI_1]
      exact lp_G_taxOfAll n _ (j + 1) _ (by omega) h
theorem s_G_taxOfAll {d : Nat} {w : zW} {Q : zQ} {x de : Int64} (h : Q (some (.int (txA (gI w 1 5) (gL w 1 4) de x))) w) : WM (d + 3) m_G_taxOfAll 11 [.ref 1, .long x, .long de] w Q :=
  n_G_taxOfAll (t_G_taxOfAll_0 (lp_G_taxOfAll 36 x 0 0 rfl h))
theorem vp_in_lt {j n : Nat} (h : j < n) (hn : n < 2 ^ 31) : vp_in (nI j) n := vp_in_nI h hn
theorem lp_N_findHoles {d : Nat} {w : zW} {Q : zQ} (ht : SET (gL w 10 7)) : ∀ (n : Nat) (x : Int64) (pre : List Int64) (w1 : zW), CLO x (gL w 10 7) → cn x ≤ n → pre.length + cn x ≤ 36 → FH w w1 pre → (∀ w', FH w w' (pre ++ comps n x) → Q none w') → WP (d + 3) m_N_findHoles 1 [some (.ref 10), some (.long x), none] [] w1 Q
  | n, x, pre, w1, hc, hn, hp, hf, h => by
    obtain ⟨f1, f2, f3, f4, f5⟩ := hf
    have hx : SET x := hc.1.toSET ht
    refine t_N_findHoles_1 (fun g => t_N_findHoles_5 ?_) (fun g => t_N_findHoles_2 (s_N_least g hx ?_))
    · rw [g, comps_0, List.append_nil] at h
      exact h w1 ⟨f1, f2, f3, f4, f5⟩
    · have h1 := comps_lt hx g
      have h2 := cn_pos g
      obtain ⟨l1, l2, l3⟩ := lo6_spec g
      have hg7 : gL w1 10 7 = gL w 10 7 := f5 10 7 (by decide)
      have hcl : cl (b1 (lo6 x)) (gL w 10 7) = cl (x &&& -x) x := by rw [first_eq g, CLO_cl ht hc (b1_and_sub l2)]
      have hk : pre.length < 36 := by omega
      have hcnt : gI w1 10 10 + 1 - 1 = nI pre.length := by rw [f1, nI_1, nI_pred]
      refine t_N_findHoles_3 (s_N_holeAt (by rw [hg7]; exact ht) (t_N_findHoles_4 ?_ ?_ ?_))
      · rw [f1]; exact vp_in_lt hk (by decide)
      · rw [hcnt]; exact vp_in_lt hk (by decide)
      · rw [hcnt, f1, nI_clamp (by omega), hg7, hcl, gL_sL, if_pos ⟨rfl, rfl⟩, nI_1]
        obtain ⟨n', rfl⟩ : ∃ k, n = k + 1 := ⟨n - 1, by omega⟩
        rw [comps_s g] at h
        refine lp_N_findHoles ht n' _ (pre ++ [cl (x &&& -x) x]) _ ?_ (by omega) (by rw [List.length_append, List.length_singleton]; omega) ⟨?_, by rw [List.length_append, List.length_singleton]; omega, fun k q hq => ?_, fun o k hk => ?_, fun o k ho => ?_⟩ (fun w' hw => h w' (by simpa using hw))
        · rw [← hcl]; exact hc.diff ht _
        · rw [gI_sI, if_pos ⟨rfl, rfl⟩]; simp
        · rw [gL_sI, gL_sL]
          by_cases e : k < pre.length
          · rw [List.getElem?_append_left e] at hq
            rw [if_neg (by omega)]
            exact f3 k q hq
          · rw [List.getElem?_append_right (by omega)] at hq
            have hk0 : k - pre.length < 1 := (List.getElem?_eq_some_iff.mp hq).1
            have : k = pre.length := by omega
            subst this
            rw [if_pos ⟨rfl, rfl⟩]
            simpa using hq
        · rw [gI_sI, if_neg hk]; exact f4 o k hk
        · rw [gL_sI, gL_sL, if_neg (by omega)]; exact f5 o k ho
theorem s_N_findHoles {d : Nat} {w : zW} {Q : zQ} (ht : SET (gL w 10 7)) (h : ∀ w', FH w w' (hls (gL w 10 7)) → Q none w') : WM (d + 3) m_N_findHoles 3 [.ref 10] w Q := by
  have hc := cn_set ht
  refine n_N_findHoles (t_N_findHoles_0 (lp_N_findHoles (w := w) ht 36 (gL w 10 7) [] _ CLO.rf hc (by simpa using hc) ⟨rfl, by simp, fun k q hq => by simp at hq, fun o k hk => ?_, fun o k _ => rfl⟩ h))
  rw [gI_sI, if_neg hk]
theorem lp_N_taxOfAll {d : Nat} {w w0 : zW} {Q : zQ} {l : List Int64} (hl : ∀ h ∈ l, SET h) (hf : FH w0 w l) : ∀ (n j : Nat) (s : Int32), j + n = l.length → Q (some (.int (txS (gI w 10 3) (gL w 10 2) (gL w 10 8) (l.drop j) s))) w → WP (d + 3) m_N_taxOfAll 2 [some (.ref 10), some (.int s), some (.int (nI j))] [] w Q
  | 0, j, s, hj, h => by
    have hle := hf.2.1
    refine t_N_taxOfAll_2 (fun _ => t_N_taxOfAll_5 ?_) (fun g => absurd ?_ g)
    · rw [List.drop_eq_nil_of_le (by omega)] at h
      exact h
    · rw [hf.1, show j = l.length by omega]; exact Int32.le_refl _
  | n + 1, j, s, hj, h => by
    have hle := hf.2.1
    have hjl : j < l.length := by omega
    refine t_N_taxOfAll_2 (fun g => absurd g (by rw [hf.1]; exact nI_ge hjl (by omega))) (fun _ => t_N_taxOfAll_3 (vp_in_lt (by omega) (by decide)) ?_)
    rw [nI_clamp (by omega), hf.2.2.1 j _ (List.getElem?_eq_getElem hjl)]
    refine s_N_taxOf (hl _ (List.getElem_mem hjl)) (t_N_taxOfAll_4 ?_)
    rw [nI_1]
    refine lp_N_taxOfAll hl hf n (j + 1) _ (by omega) ?_
    rw [List.drop_eq_getElem_cons hjl] at h
    exact h
theorem comps_SET : ∀ (n : Nat) (x : Int64), SET x → ∀ h ∈ comps n x, SET h
  | 0, x, _, h, hh => by simp [comps] at hh
  | n + 1, x, hx, h, hh => by
    by_cases g : x = 0
    · rw [g, comps_0] at hh
      simp at hh
    · rw [comps_s g] at hh
      rcases List.mem_cons.mp hh with rfl | hh
      · exact SET.cl _ hx
      · exact comps_SET n _ (hx.diff _) h hh
theorem s_N_taxOfAll {d : Nat} {w : zW} {Q : zQ} (ht : SET (gL w 10 7)) (h : ∀ w', FH w w' (hls (gL w 10 7)) → Q (some (.int (txA (gI w 10 3) (gL w 10 2) (gL w 10 8) (gL w 10 7)))) w') : WM (d + 4) m_N_taxOfAll 3 [.ref 10] w Q := by
  refine n_N_taxOfAll (t_N_taxOfAll_0 (s_N_findHoles ht (fun w' hf => t_N_taxOfAll_1 (lp_N_taxOfAll (comps_SET 36 _ ht) hf (hls (gL w 10 7)).length 0 0 (Nat.zero_add _) ?_))))
  have h2 := h w' hf
  unfold txA at h2
  rw [← hf.2.2.2.1 10 3 (by decide), ← hf.2.2.2.2 10 2 (by decide), ← hf.2.2.2.2 10 8 (by decide)] at h2
  exact h2
theorem s_N_withinOf {d : Nat} {w : zW} {Q : zQ} {x : Int64} (h : Q (some (.long (witF x))) w) : WM (d + 2) m_N_withinOf 4 [.long x] w Q :=
  n_N_withinOf (t_N_withinOf_0 (s_N_edge (t_N_withinOf_1 (s_N_grown (SET.all.and _) (t_N_withinOf_2 h)))))
theorem s_G_holeAt {d : Nat} {w : zW} {Q : zQ} {k : Nat} (h : Q (some (.long (cl (b1 k) (gL w 1 2)))) w) : WM (d + 2) m_G_holeAt 2 [.ref 1, .int (nI k)] w Q :=
  n_G_holeAt (t_G_holeAt_0 (s_P_spread (t_G_holeAt_1 h)))
