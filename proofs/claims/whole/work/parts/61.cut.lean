/-! ===== border, cut ===== -/
def mcF (l : List Int64) (m : Int64) : Int64 := l.foldl (fun m h => if nI (cn h) ≤ nI (cn m) then m else h) m
theorem lp_P_mostCells {d : Nat} {w : zW} {Q : zQ} : ∀ (n j : Nat) (r m : Int64), j + n = 36 → Q (some (.long (mcF (comps n r) m))) w → WP (d + 3) m_P_mostCells 1 [none, none, some (.long m), none, some (.long r), none, some (.int (nI j)), none, none] [] w Q
  | 0, j, r, m, hj, h => by
    have e : j = 36 := by omega
    subst e
    exact t_P_mostCells_1 (fun _ => t_P_mostCells_9 h) (fun g => absurd (Int32.le_refl _) g)
  | n + 1, j, r, m, hj, h => by
    refine t_P_mostCells_1 (fun g => absurd g (nI_ge (show j < 36 by omega) (by decide))) (fun _ => t_P_mostCells_2 (fun g => t_P_mostCells_9 ?_) (fun g => t_P_mostCells_3 (s_P_firstHole (t_P_mostCells_4 (s_J_bitCount (t_P_mostCells_5 (s_J_bitCount (t_P_mostCells_6 (fun g2 => t_P_mostCells_8 ?_) (fun g2 => t_P_mostCells_7 (t_P_mostCells_8 ?_))))))))))
    · rw [g, comps_0] at h; exact h
    · rw [comps_s g, show mcF (_ :: _) m = mcF _ (if nI (cn (cl (r &&& -r) r)) ≤ nI (cn m) then m else _) from rfl, if_pos g2] at h
      rw [n1]
      exact lp_P_mostCells n (j + 1) _ _ (by omega) h
    · rw [comps_s g, show mcF (_ :: _) m = mcF _ (if nI (cn (cl (r &&& -r) r)) ≤ nI (cn m) then m else _) from rfl, if_neg g2] at h
      rw [n1]
      exact lp_P_mostCells n (j + 1) _ _ (by omega) h
theorem mc_mem : ∀ (l : List Int64) (m : Int64), mcF l m = m ∨ mcF l m ∈ l
  | [], m => Or.inl rfl
  | h :: t, m => by
    rw [show mcF (h :: t) m = mcF t (if nI (cn h) ≤ nI (cn m) then m else h) from rfl]
    rcases mc_mem t (if nI (cn h) ≤ nI (cn m) then m else h) with e | e
    · rw [e]
      split
      · exact Or.inl rfl
      · exact Or.inr (List.mem_cons_self ..)
    · exact Or.inr (List.mem_cons_of_mem _ e)
theorem mc_first {h : Int64} {t : List Int64} (hh : ¬ h = 0) : mcF (h :: t) 0 = mcF t h := by
  rw [show mcF (h :: t) 0 = mcF t (if nI (cn h) ≤ nI (cn 0) then 0 else h) from rfl, if_neg]
  rw [cn_0]
  have := cn_pos hh
  have := cn_64 h
  exact nI_ge (by omega) (by omega)
theorem hls_0 : hls 0 = [] := comps_0 36
theorem hls_s {t : Int64} (h : ¬ t = 0) : hls t = cl (t &&& -t) t :: comps 35 (t &&& (cl (t &&& -t) t ^^^ (-1))) := comps_s h
theorem hls_ne {t h : Int64} (ht : SET t) (hh : h ∈ hls t) : ¬ h = 0 := fun e => by
  obtain ⟨i, hi, q⟩ := hls_mem ht hh
  have := cl1_mem ht hi
  rw [← q, e, bx_0] at this
  cases this
theorem mc_hls {t : Int64} (ht : SET t) (h : ¬ t = 0) : mcF (hls t) 0 ∈ hls t := by
  have hs := hls_s h
  have hm : cl (t &&& -t) t ∈ hls t := by rw [hs]; exact List.mem_cons_self ..
  rw [hs, mc_first (hls_ne ht hm)]
  rcases mc_mem (comps 35 (t &&& (cl (t &&& -t) t ^^^ (-1)))) (cl (t &&& -t) t) with e | e
  · rw [e]; exact List.mem_cons_self ..
  · exact List.mem_cons_of_mem _ e
/-- the reference's best so far -/
def BST (l : List Int64) (j : Nat) (i : Int32) (m : Int64) : Prop := (j = 0 ∧ i = -1 ∧ m = 0) ∨ ∃ b, l[b]? = some m ∧ i = nI b
theorem lp_N_border {d : Nat} {w w0 : zW} {Q : zQ} {x : Int32} {l : List Int64} (hl : ∀ h ∈ l, ¬ h = 0) (hf : FH w0 w l) (h : ∀ i, BST l l.length i (mcF l 0) → WP (d + 1) m_N_border 14 [some (.ref 10), some (.int x), some (.int i), none] [] w Q) : ∀ (n j : Nat) (i : Int32) (m : Int64), j + n = l.length → BST l j i m → mcF (l.drop j) m = mcF l 0 → WP (d + 1) m_N_border 6 [some (.ref 10), some (.int x), some (.int i), some (.int (nI j))] [] w Q
  | 0, j, i, m, hj, hb, he => by
    have hle := hf.2.1
    have e : j = l.length := by omega
    subst e
    refine t_N_border_6 (fun _ => h i ?_) (fun g => absurd ?_ g)
    · rw [← he, List.drop_length]; exact hb
    · rw [hf.1]; exact Int32.le_refl _
  | n + 1, j, i, m, hj, hb, he => by
    have hle := hf.2.1
    have hjl : j < l.length := by omega
    rw [List.drop_eq_getElem_cons hjl] at he
    have ej : l[j]? = some l[j] := List.getElem?_eq_getElem hjl
    refine t_N_border_6 (fun g => absurd g (by rw [hf.1]; exact nI_ge hjl (by omega))) (fun _ => t_N_border_7 (fun g => t_N_border_11 (t_N_border_13 ?_)) (fun g => t_N_border_8 (vp_in_lt (by omega) (by decide)) (s_N_ones ?_)))
    · rcases hb with ⟨rfl, _, rfl⟩ | ⟨b, hb, rfl⟩
      · rw [n1]
        rw [mc_first (hl _ (List.getElem_mem hjl))] at he
        exact lp_N_border hl hf h n 1 _ _ (by omega) (Or.inr ⟨0, ej, rfl⟩) he
      · exact absurd g (by
          have : b < l.length := (List.getElem?_eq_some_iff.mp hb).1
          rw [Int32.not_lt]; exact nI_le (a := 0) (Nat.zero_le _) (by omega))
    · rcases hb with ⟨_, rfl, _⟩ | ⟨b, hb, rfl⟩
      · exact absurd (by decide) g
      · have hbl : b < l.length := (List.getElem?_eq_some_iff.mp hb).1
        rw [nI_clamp (by omega), hf.2.2.1 j _ ej]
        refine t_N_border_9 (vp_in_lt (by omega) (by decide)) (s_N_ones ?_)
        rw [nI_clamp (by omega), hf.2.2.1 b _ hb]
        rw [show mcF (l[j] :: _) m = mcF _ (if nI (cn l[j]) ≤ nI (cn m) then m else l[j]) from rfl] at he
        refine t_N_border_10 (fun g2 => t_N_border_12 (t_N_border_13 ?_)) (fun g2 => t_N_border_11 (t_N_border_13 ?_))
        · rw [if_pos g2] at he
          rw [n1]
          exact lp_N_border hl hf h n (j + 1) _ _ (by omega) (Or.inr ⟨b, hb, rfl⟩) he
        · rw [if_neg g2] at he
          rw [n1]
          exact lp_N_border hl hf h n (j + 1) _ _ (by omega) (Or.inr ⟨j, ej, rfl⟩) he
def bordA (S : zS) (k : Int32) : Int32 := if inI k 0 1 = true then (if opS S = 0 then -4 else if k = 0 then nI (lo6 (mcF (hls (opS S)) 0)) else fenF (mcF (hls (opS S)) 0)) else -1
theorem op_border {d : Nat} {w : zW} {k : Int32} (h : RW w) : OPP (d + 4) m_C_border 4 m_N_border 4 [.ref 0, .int k] [.ref 10, .int k] w := by
  refine opQ (f := fun S => .int (bordA S k)) (fun S Q hG hk q => ?_) (fun S w Q hG hk q => ?_) h
  · have e2 : gL w 1 2 = opS S := hG.2.2.1
    have bad : inI k 0 1 = false → (Value.int (-1) : Value) = .int (bordA S k) := fun g => by unfold bordA; rw [g]; rfl
    refine n_C_border (t_C_border_0 (fun g => t_C_border_2 (q _ w (bad (inI_f.mpr (Or.inl g))) EQX.rf)) (fun g => t_C_border_1 (fun g2 => t_C_border_3 (fun g4 => t_C_border_5 (n_P_mostCells (t_P_mostCells_0 (lp_P_mostCells 36 0 _ 0 rfl ?_)))) (fun g4 => t_C_border_4 (q _ w ?_ EQX.rf))) (fun g2 => t_C_border_2 (q _ w (bad (inI_f.mpr (Or.inr g2))) EQX.rf))))
    · rw [e2] at g4 ⊢
      have g3 := inI_t g g2
      refine t_C_border_6 (fun g5 => t_C_border_9 (s_P_fenceOf (t_C_border_10 (q _ w ?_ EQX.rf)))) (fun g5 => t_C_border_7 (s_P_least (hls_ne (SET_op S) (mc_hls (SET_op S) g4)) (t_C_border_8 (t_C_border_10 (q _ w ?_ EQX.rf)))))
      · simp only [bordA, g3, if_true, if_neg g4, if_neg g5]; rfl
      · simp only [bordA, g3, if_true, if_neg g4, if_pos g5]; rfl
    · rw [e2] at g4
      simp only [bordA, inI_t g g2, if_true, if_pos g4]
  · refine n_N_border (t_N_border_0 (s_N_inI (a := 0) (b := 1) rfl rfl (t_N_border_1 (fun g => t_N_border_3 (s_N_look hG hk (fun w1 hw => ?_))) (fun g => t_N_border_2 (q _ w ?_ EQX.rf)))))
    · have g := zb_f.mp g
      have e7 : gL w1 10 7 = opS S := hw.1
      refine t_N_border_4 (s_N_findHoles (by rw [e7]; exact SET_op S) (fun w2 hf => t_N_border_5 ?_))
      rw [e7] at hf
      have hx := hw.eqx.tr hf.eqx
      have hle := hf.2.1
      refine lp_N_border (fun h hh => hls_ne (SET_op S) hh) hf (fun i hi => ?_) (hls (opS S)).length 0 (-1) 0 (Nat.zero_add _) (Or.inl ⟨rfl, rfl, rfl⟩) rfl
      by_cases g4 : opS S = 0
      · rcases hi with ⟨_, rfl, _⟩ | ⟨b, hb, _⟩
        · refine t_N_border_14 (fun g5 => absurd g5 (by decide)) (fun g5 => t_N_border_15 (t_N_border_20 (q _ w2 ?_ hx)))
          simp only [bordA, g, if_true, if_pos g4]
        · rw [g4, hls_0] at hb; cases hb
      · rcases hi with ⟨e, _, _⟩ | ⟨b, hb, rfl⟩
        · rw [hls_s g4] at e; cases e
        · have hbl : b < (hls (opS S)).length := (List.getElem?_eq_some_iff.mp hb).1
          have hm := mc_hls (SET_op S) g4
          refine t_N_border_14 (fun _ => t_N_border_16 (fun g5 => t_N_border_19 (vp_in_lt (by omega) (by decide)) ?_) (fun g5 => t_N_border_17 (vp_in_lt (by omega) (by decide)) ?_)) (fun g5 => absurd (nI_le (a := 0) (Nat.zero_le _) (by omega)) g5)
          · rw [nI_clamp (by omega), hf.2.2.1 b _ hb]
            refine s_N_fenceOf (comps_SET 36 _ (SET_op S) _ hm) (t_N_border_20 (q _ w2 ?_ hx))
            simp only [bordA, g, if_true, if_neg g4, if_neg g5]
          · rw [nI_clamp (by omega), hf.2.2.1 b _ hb]
            refine s_N_least (hls_ne (SET_op S) hm) (comps_SET 36 _ (SET_op S) _ hm) (t_N_border_18 (t_N_border_20 (q _ w2 ?_ hx)))
            simp only [bordA, g, if_true, if_neg g4, if_pos g5]
    · simp only [bordA, zb_t.mp g]; rfl
/-! cut -/
theorem sub6.and {s t u : Int64} (h : sub6 t u) : sub6 (s &&& t) (s &&& u) := fun i hi => by
  rw [bx_and, Bool.and_eq_true] at hi ⊢
  exact ⟨hi.1, h i hi.2⟩
theorem cl_mono {s t u : Int64} (ht : SET t) (hu : SET u) (h : sub6 t u) : sub6 (cl s t) (cl s u) := fun i hi =>
  (cl_is (s := s) ht).1.2.2 (fun k => bt6 (cl s u) k = true) (fun k hk => (cl_is (s := s) hu).1.1 k (h.and k hk)) (fun a b q _ hab hb => cl1_step hu q hab (h b hb)) i hi
theorem cl_least {s t X : Int64} (ht : SET t) (h0 : sub6 (s &&& t) X) (hs : ∀ i j, bt6 X i = true → bt6 t i = true → adj i j = true → bt6 t j = true → bt6 X j = true) : sub6 (cl s t) X := fun i hi =>
  (cl_is (s := s) ht).1.2.2 (fun k => bt6 X k = true) h0 hs i hi
theorem sub_or (x y : Int64) : sub6 x (x ||| y) := fun i h => by rw [bx_or, h]; rfl
theorem rim_cl {t : Int64} (ht : SET t) {a c : Nat} (ha : a < 64) (hc : c < 36) (hr : bt6 (rimF (cl (b1 a) t)) c = true) : cl (cl (b1 a) t) (t ||| b1 c) = cl (b1 c) (t ||| b1 c) := by
  have hu : SET (t ||| b1 c) := ht.or (SET.one hc)
  have htu : sub6 t (t ||| b1 c) := sub_or _ _
  have hcu : bt6 (t ||| b1 c) c = true := by rw [bx_or, bx_b1 (by omega)]; simp
  unfold rimF at hr
  rw [bx_diff, Bool.and_eq_true] at hr
  obtain ⟨j, hj, hjh⟩ := (bes_adj (SET.cl _ ht) hc).mp hr.1
  have hjt : bt6 t j = true := cl_sub ht j hjh
  refine sub6.eq (cl_least hu (fun i hi => ?_) (fun i k q _ hab hb => cl1_step hu q hab hb)) (cl_least hu (fun i hi => ?_) (fun i k q _ hab hb => cl1_step hu q hab hb))
  · rw [bx_and, Bool.and_eq_true, ← cl_root ht ha hjh] at hi
    have h1 : bt6 (cl (b1 c) (t ||| b1 c)) j = true := cl1_step hu (cl1_mem hu hcu) (by rw [adj_symm]; exact hj) (htu j hjt)
    exact cl1_sub hu h1 i (cl_mono ht hu htu i hi.1)
  · rw [bx_and, bx_b1 (by omega), Bool.and_eq_true, decide_eq_true_eq] at hi
    obtain ⟨e, _⟩ := hi
    subst e
    exact cl1_step hu (cl_mem hu hjh (htu j hjt)) hj hcu
def cutF (S : zS) (h : Int64) : Nat → Nat → Int32
  | 0, _ => -4
  | n + 1, j => if bt6 (rimF h) j = true ∧ ¬ nI (brd 6 (cl (b1 j) (opS S ||| b1 j))) ≤ nI (brd 6 h) then nI j else cutF S h n (j + 1)
theorem lp_P_leastCut {d : Nat} {w : zW} {Q : zQ} {S : zS} {a : Nat} (ha : a < 64) : ∀ (n j : Nat), j + n = 36 → Q (some (.int (cutF S (hoS S a) n j))) w → WP (d + 2) m_P_leastCut 3 [some (.long (hoS S a)), none, some (.long (opS S)), none, some (.int (nI (brd 6 (hoS S a)))), some (.long (rimF (hoS S a))), none, some (.int (nI j))] [] w Q
  | 0, j, hj, h => by
    have e : j = 36 := by omega
    subst e
    exact t_P_leastCut_3 (fun _ => t_P_leastCut_11 h) (fun g => absurd (Int32.le_refl _) g)
  | n + 1, j, hj, h => by
    have hjl : j < 36 := by omega
    have e : cutF S (hoS S a) (n + 1) j = if bt6 (rimF (hoS S a)) j = true ∧ ¬ nI (brd 6 (cl (b1 j) (opS S ||| b1 j))) ≤ nI (brd 6 (hoS S a)) then nI j else cutF S (hoS S a) n (j + 1) := rfl
    rw [e] at h
    refine t_P_leastCut_3 (fun g => absurd g (nI_ge hjl (by decide))) (fun _ => t_P_leastCut_4 (s_P_has (by omega) (t_P_leastCut_5 (fun g => t_P_leastCut_10 ?_) (fun g => t_P_leastCut_6 (s_P_spread (t_P_leastCut_7 ?_))))))
    · rw [if_neg (fun q => by rw [zb_t.mp g] at q; cases q.1)] at h
      rw [n1]
      exact lp_P_leastCut ha n (j + 1) (by omega) h
    · have g := zb_f.mp g
      have eb : zsl 1 (nI j) = b1 j := rfl
      rw [eb, rim_cl (SET_op S) ha hjl g]
      refine s_P_broadestIn (SET.cl _ ((SET_op S).or (SET.one hjl))) (t_P_leastCut_8 (fun g2 => t_P_leastCut_10 ?_) (fun g2 => t_P_leastCut_9 ?_))
      · rw [if_neg (fun q => q.2 g2)] at h
        rw [n1]
        exact lp_P_leastCut ha n (j + 1) (by omega) h
      · rw [if_pos ⟨g, g2⟩] at h
        exact h
theorem lp_N_cut {d : Nat} {w : zW} {Q : zQ} {S : zS} {a : Nat} (e7 : gL w 10 7 = opS S) : ∀ (n j : Nat), j + n = 36 → Q (some (.int (cutF S (hoS S a) n j))) w → WP (d + 2) m_N_cut 11 [some (.ref 10), none, none, none, some (.long (rimF (hoS S a))), none, some (.int (nI (brd 6 (hoS S a)))), some (.int (nI j))] [] w Q
  | 0, j, hj, h => by
    have e : j = 36 := by omega
    subst e
    exact t_N_cut_11 (fun _ => t_N_cut_19 h) (fun g => absurd (Int32.le_refl _) g)
  | n + 1, j, hj, h => by
    have hjl : j < 36 := by omega
    have e : cutF S (hoS S a) (n + 1) j = if bt6 (rimF (hoS S a)) j = true ∧ ¬ nI (brd 6 (cl (b1 j) (opS S ||| b1 j))) ≤ nI (brd 6 (hoS S a)) then nI j else cutF S (hoS S a) n (j + 1) := rfl
    rw [e] at h
    have hu := (SET_op S).or (SET.one hjl)
    refine t_N_cut_11 (fun g => absurd g (nI_ge hjl (by decide))) (fun _ => t_N_cut_12 (s_N_has (by omega) (t_N_cut_13 (fun g => t_N_cut_18 ?_) (fun g => t_N_cut_14 ?_))))
    · rw [if_neg (fun q => by rw [zb_t.mp g] at q; cases q.1)] at h
      rw [n1]
      exact lp_N_cut e7 n (j + 1) (by omega) h
    · have g := zb_f.mp g
      have eb : zsl 1 (nI j) = b1 j := rfl
      rw [eb, e7]
      refine s_N_grown hu (t_N_cut_15 (s_N_largestOf (SET.cl _ hu) (t_N_cut_16 (fun g2 => t_N_cut_18 ?_) (fun g2 => t_N_cut_17 ?_))))
      · rw [if_neg (fun q => q.2 g2)] at h
        rw [n1]
        exact lp_N_cut e7 n (j + 1) (by omega) h
      · rw [if_pos ⟨g, g2⟩] at h
        exact h
def cutA (S : zS) (x : Int32) : Int32 := if isC x = true then (if bt6 (opS S) x.toNatClampNeg = true then cutF S (hoS S x.toNatClampNeg) 36 0 else -2) else -1
theorem op_cut {d : Nat} {w : zW} {x : Int32} (h : RW w) : OPP (d + 4) m_C_cut 4 m_N_cut 8 [.ref 0, .int x] [.ref 10, .int x] w := by
  refine opQ (f := fun S => .int (cutA S x)) (fun S Q hG hk q => ?_) (fun S w Q hG hk q => ?_) h
  · have e2 : gL w 1 2 = opS S := hG.2.2.1
    refine n_C_cut (t_C_cut_0 (s_C_isCell (t_C_cut_1 (fun g => ?_) (fun g => t_C_cut_2 (q _ w ?_ EQX.rf)))))
    · have g := zb_f.mp g
      obtain ⟨c, hc, rfl⟩ := isC_of g
      have hcl : (nI c).toNatClampNeg = c := nI_clamp (by omega)
      refine t_C_cut_3 (s_G_holeAt (t_C_cut_4 (fun g2 => t_C_cut_6 ?_) (fun g2 => t_C_cut_5 (t_C_cut_7 (q _ w ?_ EQX.rf)))))
      · rw [e2, ho_0 hc, Bool.not_eq_false] at g2
        rw [e2]
        refine n_P_leastCut (t_P_leastCut_0 (s_P_broadestIn (SET.cl _ (SET_op S)) (t_P_leastCut_1 (s_P_rimOf (t_P_leastCut_2 (lp_P_leastCut (by omega) 36 0 rfl (t_C_cut_7 (q _ w ?_ EQX.rf))))))))
        simp only [cutA, g, if_true, hcl, g2]
      · rw [e2, ho_0 hc] at g2
        simp only [cutA, g, if_true, hcl, g2]; rfl
    · simp only [cutA, zb_t.mp g]; rfl
  · refine n_N_cut (t_N_cut_0 (s_N_isCell (t_N_cut_1 (fun g => t_N_cut_3 (s_N_look hG hk (fun w1 hw => ?_))) (fun g => t_N_cut_2 (q _ w ?_ EQX.rf)))))
    · have g := zb_f.mp g
      obtain ⟨c, hc, rfl⟩ := isC_of g
      have hcl : (nI c).toNatClampNeg = c := nI_clamp (by omega)
      have hx := hw.eqx
      have e7 : gL w1 10 7 = opS S := hw.1
      refine t_N_cut_4 (s_N_has (by omega) (t_N_cut_5 (fun g2 => t_N_cut_7 (s_N_holeAt (by rw [e7]; exact SET_op S) (t_N_cut_8 ?_))) (fun g2 => t_N_cut_6 (q _ w1 ?_ hx))))
      · rw [e7, zb_f] at g2
        rw [e7]
        refine s_N_rimOf (SET_op S) e7 (t_N_cut_9 (s_N_largestOf (SET.cl _ (SET_op S)) (t_N_cut_10 (lp_N_cut e7 36 0 rfl (q _ w1 ?_ hx)))))
        simp only [cutA, g, if_true, hcl, g2]
      · rw [e7, zb_t] at g2
        simp only [cutA, g, if_true, hcl, g2]; rfl
    · simp only [cutA, zb_t.mp g]; rfl
