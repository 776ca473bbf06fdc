/-! ===== dug ===== -/
theorem lp_P_gap {d : Nat} {w : zW} {Q : zQ} {O U s t : Int64} : ∀ (f n : Nat), n + f = 37 → Q (some (.int (nI (gf (hitP O U s t) f n)))) w → WP (d + 2) m_P_gapBetween 2 [none, none, some (.long t), none, some (.long O), none, some (.long U), none, some (.long (rch O U s n)), none, some (.int (nI n)), none, none] [] w Q
  | 0, n, hn, h => by
    have e : n = 37 := by omega
    subst e
    exact t_P_gapBetween_2 (fun _ => t_P_gapBetween_8 h) (fun g => absurd (by decide) g)
  | f + 1, n, hn, h => by
    unfold gf at h
    refine t_P_gapBetween_2 (fun g => absurd g (nI_nlt (a := 36) (b := n) (by omega) (by decide))) (fun _ => t_P_gapBetween_3 (fun g => t_P_gapBetween_5 (s_P_beside (t_P_gapBetween_6 (s_P_spread (t_P_gapBetween_7 ?_))))) (fun g => t_P_gapBetween_4 ?_))
    · rw [if_neg (by unfold hitP; rw [decide_eq_true_eq]; exact fun q => q g)] at h
      rw [n1]
      exact lp_P_gap f (n + 1) (by omega) h
    · rw [if_pos (by unfold hitP; rw [decide_eq_true_eq]; exact g)] at h
      exact h
theorem s_P_gap {d : Nat} {w : zW} {Q : zQ} {O U s t : Int64} (h : Q (some (.int (nI (gpC O U s t)))) w) : WM (d + 2) m_P_gapBetween 13 [.long s, .long t, .long O, .long U] w Q :=
  n_P_gapBetween (t_P_gapBetween_0 (s_P_spread (t_P_gapBetween_1 (lp_P_gap 37 0 rfl h))))
theorem lp_N_few {d : Nat} {w : zW} {Q : zQ} {O U s t : Int64} (hO : SET O) (hU : SET U) (e7 : gL w 10 7 = O) : ∀ (f n : Nat), n + f = 40 → Q (some (.int (nI (gf (hitP O U s t) f n)))) w → WP (d + 2) m_N_fewestDug 2 [some (.ref 10), none, none, some (.long t), none, some (.long U), none, some (.long (rch O U s n)), none, some (.int (nI n)), none, none] [] w Q
  | 0, n, hn, h => by
    have e : n = 40 := by omega
    subst e
    exact t_N_fewestDug_2 (fun _ => t_N_fewestDug_7 h) (fun _ => t_N_fewestDug_3 (fun _ => t_N_fewestDug_7 h) (fun g => absurd (Int32.le_refl _) g))
  | f + 1, n, hn, h => by
    unfold gf at h
    refine t_N_fewestDug_2 (fun g => t_N_fewestDug_7 ?_) (fun g => t_N_fewestDug_3 (fun g2 => absurd g2 (nI_ge (show n < 40 by omega) (by decide))) (fun _ => t_N_fewestDug_4 (s_N_beside (SET.rch hO hU n) (t_N_fewestDug_5 ?_))))
    · rw [if_pos (by unfold hitP; rw [decide_eq_true_eq]; exact g)] at h
      exact h
    · rw [if_neg (by unfold hitP; rw [decide_eq_true_eq]; exact fun q => q g)] at h
      rw [e7]
      refine s_N_grown (hO.or (SET.wdr hU (SET.rch hO hU n))) (t_N_fewestDug_6 ?_)
      rw [n1]
      exact lp_N_few hO hU e7 f (n + 1) (by omega) h
theorem s_N_few {d : Nat} {w : zW} {Q : zQ} {O U s t : Int64} (hO : SET O) (hU : SET U) (e7 : gL w 10 7 = O) (h : Q (some (.int (nI (gpN O U s t)))) w) : WM (d + 2) m_N_fewestDug 12 [.ref 10, .long s, .long t, .long U] w Q := by
  refine n_N_fewestDug (t_N_fewestDug_0 ?_)
  rw [e7]
  exact s_N_grown hO (t_N_fewestDug_1 (lp_N_few hO hU e7 40 0 rfl h))
theorem SL_app {l : List Nat} {c : Nat} (h : ∀ e ∈ l, e < 36) (hc : c < 36) : SL (l ++ [c]) = SL l ||| b1 c := bx_ext fun i _ => by
  rw [bx_SL (fun e he => by rcases List.mem_append.mp he with he | he; exact h e he; rw [List.mem_singleton] at he; omega), bx_or, bx_SL h, bx_b1 (by omega)]
  by_cases e1 : i ∈ l <;> by_cases e2 : i = c <;> simp [e1, e2]
theorem gpC_le (O U s t : Int64) : gpC O U s t ≤ 37 := by have := (gf_spec (hitP O U s t) 37 0).2.1; unfold gpC; omega
theorem lp_P_least {d : Nat} {w : zW} {Q : zQ} {t : Int64} {a b : Nat} {l : List Nat} (h : Q (some (.long (SL l))) w) : ∀ (n c : Nat) (pre : List Nat) (L : Nat), c + n = 36 → L < 2 ^ 31 → (∀ e ∈ pre, e < 36) → pre ++ glD t a b n c (SL pre) L = l → WP (d + 3) m_P_leastDug 2 [some (.long (cl (b1 a) t)), none, some (.long (cl (b1 b) t)), none, some (.long t), none, some (.long (SL pre)), none, some (.long (U0 t)), none, some (.int (nI L)), some (.int (nI c)), none, none] [] w Q
  | 0, c, pre, L, hn, hL, hp, hl => by
    have e : c = 36 := by omega
    subst e
    have hl : pre ++ [] = l := hl
    rw [List.append_nil] at hl
    subst hl
    exact t_P_leastDug_2 (fun _ => t_P_leastDug_8 h) (fun g => absurd (Int32.le_refl _) g)
  | n + 1, c, pre, L, hn, hL, hp, hl => by
    unfold glD at hl
    refine t_P_leastDug_2 (fun g => absurd g (nI_ge (show c < 36 by omega) (by decide))) (fun _ => t_P_leastDug_3 (fun g => t_P_leastDug_8 ?_) (fun g => t_P_leastDug_4 (s_P_gap (t_P_leastDug_5 (fun g2 => t_P_leastDug_7 ?_) (fun g2 => t_P_leastDug_6 (t_P_leastDug_7 ?_))))))
    · rw [nI_le0 hL] at g
      rw [if_pos g, List.append_nil] at hl
      subst hl
      exact h
    · rw [nI_le0 hL] at g
      have hg2 := (nI_leI hL (Nat.lt_of_le_of_lt (gpC_le _ _ _ _) (by decide))).mp g2
      rw [if_neg g, if_neg (by unfold tsD; rw [decide_eq_true_eq]; exact fun q => by have q : gpC ((t ||| SL pre) ||| b1 c) (U0 t) (cl (b1 a) t) (cl (b1 b) t) < L := q; exact absurd hg2 (Nat.not_le.mpr q))] at hl
      rw [n1]
      exact lp_P_least h n (c + 1) pre L (by omega) hL hp hl
    · rw [nI_le0 hL] at g
      have hg2 : ¬ L ≤ gpC ((t ||| SL pre) ||| b1 c) (U0 t) (cl (b1 a) t) (cl (b1 b) t) := fun q => g2 (nI_le q (Nat.lt_of_le_of_lt (gpC_le _ _ _ _) (by decide)))
      rw [if_neg g, if_pos (by unfold tsD; rw [decide_eq_true_eq]; exact Nat.lt_of_not_le hg2)] at hl
      have hc : c < 36 := by omega
      obtain ⟨M, rfl⟩ : ∃ M, L = M + 1 := ⟨L - 1, by omega⟩
      rw [n1, pk_m1, show zsl 1 (nI c) = b1 c from rfl, ← SL_app hp hc]
      refine lp_P_least h n (c + 1) (pre ++ [c]) M (by omega) (by omega) (fun e he => ?_) ?_
      · rcases List.mem_append.mp he with he | he
        · exact hp e he
        · rw [List.mem_singleton] at he; omega
      · rw [List.append_assoc, SL_app hp hc]
        exact hl
/-! the reference's search -/
def RWP (w : zW) (pre : List Nat) : Prop := ∀ i c, pre[i]? = some c → gI w 34 i = nI c
theorem lp_N_dug {d : Nat} {w0 : zW} {Q : zQ} {t : Int64} {a b n : Nat} {i : Int32} {l : List Nat} (ht : SET t) (ha : bt6 t a = true) (hb : bt6 t b = true) (hn : n ≤ 36) (hl : l.length = n) (hi9 : inI i (-1) 9 = true) (h : ∀ w', EQX mRI mRL w0 w' → Q (some (.int (pickA (some l) i))) w') : ∀ m,
    (∀ (c : Nat) (pre : List Nat) (w : zW), c + m = 36 → pre.length ≤ n → (∀ e ∈ pre, e < 36) → GI t a b c (SL pre) (n - pre.length) → pre ++ glD t a b m c (SL pre) (n - pre.length) = l → gL w 10 7 = t ||| SL pre → RWP w pre → EQX mRI mRL w0 w → pre.length < n → ¬ i < nI pre.length → WP (d + 3) m_N_dug 21 [some (.ref 10), none, none, some (.int i), some (.long (b1 a)), none, some (.long (b1 b)), none, some (.int (nI n)), some (.long (U0 t)), none, some (.int (nI c)), some (.int (nI pre.length)), some (.int 0), none, none, none, none] [] w Q) ∧
    (∀ (c : Nat) (pre : List Nat) (w : zW), c + m = 36 → pre.length ≤ n → (∀ e ∈ pre, e < 36) → GI t a b c (SL pre) (n - pre.length) → pre ++ glD t a b m c (SL pre) (n - pre.length) = l → gL w 10 7 = t ||| SL pre → RWP w pre → EQX mRI mRL w0 w → WP (d + 3) m_N_dug 18 [some (.ref 10), none, none, some (.int i), some (.long (b1 a)), none, some (.long (b1 b)), none, some (.int (nI n)), some (.long (U0 t)), none, some (.int (nI c)), some (.int (nI pre.length)), none, none, none, none, none] [] w Q) := by
  have i9 : ∀ p : List Nat, ¬ i < nI p.length → p.length ≤ n → p.length < 10 := fun p hp hpn => by
    unfold inI at hi9
    simp only [Bool.and_eq_true, decide_eq_true_eq] at hi9
    refine Nat.lt_of_not_le fun q => hp ?_
    have h9 := hi9.2
    rw [Int32.le_iff_toInt_le] at h9
    rw [Int32.lt_iff_toInt_lt, nI_toInt (by omega)]
    have e9 : (9 : Int32).toInt = 9 := by decide
    omega
  intro m
  have fin33 : ∀ (pre : List Nat) (w : zW) (r : List Nat), pre.length ≤ n → pre ++ r = l → RWP w pre → EQX mRI mRL w0 w → (n ≤ pre.length ∨ i < nI pre.length) → WP (d + 3) m_N_dug 33 [some (.ref 10), none, none, some (.int i), none, none, none, none, some (.int (nI n)), none, none, none, none, none, none, none, none, none] [] w Q := by
    intro pre w r hp hr hrow hx hor
    refine t_N_dug_33 (fun g => t_N_dug_35 (fun g2 => t_N_dug_37 (t_N_dug_38 ?_)) (fun g2 => ?_)) (fun g => t_N_dug_34 (t_N_dug_38 ?_))
    · rw [pick_off (l := l) g (by omega) (by rw [hl]; exact g2)]
      exact h w hx
    · obtain ⟨e, hk⟩ := pick_i g
      have hin : i.toNatClampNeg < n := Nat.lt_of_not_le fun q => g2 (by rw [e]; exact nI_le q hk)
      have hip : i.toNatClampNeg < pre.length := by
        rcases hor with hor | hor
        · omega
        · rw [e, nI_ltN hk (by omega)] at hor; exact hor
      have hi10 : i.toNatClampNeg < 10 := by
        unfold inI at hi9
        simp only [Bool.and_eq_true, decide_eq_true_eq] at hi9
        have h9 := hi9.2
        rw [e, show (9 : Int32) = nI 9 from rfl, nI_leI hk (by decide)] at h9
        omega
      refine t_N_dug_36 (by rw [e]; exact vp_in_lt hi10 (by decide)) (t_N_dug_38 ?_)
      have hg : l[i.toNatClampNeg]? = some pre[i.toNatClampNeg] := by rw [← hr, List.getElem?_append_left hip, List.getElem?_eq_getElem hip]
      have : pickA (some l) i = nI pre[i.toNatClampNeg] := by simp only [pickA, if_pos g, hg]
      rw [hrow _ _ (List.getElem?_eq_getElem hip), ← this]
      exact h w hx
    · have : pickA (some l) i = nI n := by simp only [pickA, if_neg g, hl]
      rw [← this]
      exact h w hx
  induction m with
  | zero =>
    refine ⟨fun c pre w hc hpn hp hG hl' e7 hrow hx hlt hi => ?_, fun c pre w hc hpn hp hG hl' e7 hrow hx => ?_⟩
    · have : c = 36 := by omega
      subst this
      have := gi_end hG
      omega
    · have : c = 36 := by omega
      subst this
      have := gi_end hG
      exact t_N_dug_18 (fun _ => fin33 pre w _ hpn hl' hrow hx (Or.inl (by omega))) (fun g => absurd (nI_le (by omega) (by omega)) g)
  | succ m ih =>
    obtain ⟨ihB, ihA⟩ := ih
    have hB : ∀ (c : Nat) (pre : List Nat) (w : zW), c + (m + 1) = 36 → pre.length ≤ n → (∀ e ∈ pre, e < 36) → GI t a b c (SL pre) (n - pre.length) → pre ++ glD t a b (m + 1) c (SL pre) (n - pre.length) = l → gL w 10 7 = t ||| SL pre → RWP w pre → EQX mRI mRL w0 w → pre.length < n → ¬ i < nI pre.length → WP (d + 3) m_N_dug 21 [some (.ref 10), none, none, some (.int i), some (.long (b1 a)), none, some (.long (b1 b)), none, some (.int (nI n)), some (.long (U0 t)), none, some (.int (nI c)), some (.int (nI pre.length)), some (.int 0), none, none, none, none] [] w Q := by
      intro c pre w hc hpn hp hG hl' e7 hrow hx hlt hi
      have hc36 : c < 36 := by omega
      have hL : 0 < n - pre.length := by omega
      have h10 := i9 pre hi hpn
      have hC := hG.set
      have hts := ts_E ht ha hb hG hL hc36
      have hrf := ref_ts ht ha hb hG hL hc36
      unfold glD at hl'
      rw [if_neg (show ¬ n - pre.length = 0 by omega)] at hl'
      have hsl : zsl 1 (nI c) = b1 c := rfl
      have e7' : gL (sL w 10 7 ((t ||| SL pre) ||| b1 c)) 10 7 = (t ||| SL pre) ||| b1 c := by rw [gL_sL, if_pos ⟨rfl, rfl⟩]
      -- not this one
      have no : ¬ EE a b (U0 t) ((t ||| SL pre) ||| b1 c) (n - pre.length - 1) → WP (d + 3) m_N_dug 28 [some (.ref 10), none, none, some (.int i), some (.long (b1 a)), none, some (.long (b1 b)), none, some (.int (nI n)), some (.long (U0 t)), none, some (.int (nI c)), some (.int (nI pre.length)), none, none, none, some (.long (t ||| SL pre)), none] [.int 0] (sL w 10 7 ((t ||| SL pre) ||| b1 c)) Q := fun hE => by
        rw [if_neg (fun q => hE (hts.mp q))] at hl'
        refine t_N_dug_28 (fun _ => t_N_dug_30 (t_N_dug_31 (vp_in_lt h10 (by decide)) ?_)) (fun g => absurd rfl g)
        rw [n1, nI_clamp (by omega)]
        refine ihB (c + 1) pre _ (by omega) hpn hp (gi_no hG (fun _ => hE)) hl' ?_ (fun j e he => ?_) (((hx.pL (o := 10) (k := 7) _ rfl).pL (o := 10) (k := 7) _ rfl).pI (o := 34) (k := pre.length) _ rfl) hlt hi
        · rw [gL_sI, gL_sL, if_pos ⟨rfl, rfl⟩]
        · have hj := (List.getElem?_eq_some_iff.mp he).1
          rw [gI_sI, if_neg (by omega)]; exact hrow j e he
      refine t_N_dug_21 (fun g => absurd rfl g) (fun _ => t_N_dug_22 (s_N_has (by omega) ?_))
      rw [n1, show zsl 1 (nI (c + 1)) = b1 (c + 1) from rfl, e7]
      refine t_N_dug_23 (fun g => t_N_dug_27 ?_) (fun g => t_N_dug_24 ?_)
      · rw [e7, hsl]
        refine no (fun z => ?_)
        rw [(hrf.mpr z).1] at g
        cases g
      · rw [e7, hsl]
        have hO : SET ((t ||| SL pre) ||| b1 c) := (ht.or hC).or (SET.one hc36)
        refine s_N_few hO (SET.U1 t c) e7' ?_
        have hsub : nI n - nI pre.length - 1 = nI (n - pre.length - 1) := by
          rw [pk_sub hpn, show (1 : Int32) = nI 1 from rfl, pk_sub (by omega)]
        have hgl : gpN ((t ||| SL pre) ||| b1 c) (U1 t c) (b1 a) (b1 b) ≤ 40 := by have := (gf_spec (hitP ((t ||| SL pre) ||| b1 c) (U1 t c) (b1 a) (b1 b)) 40 0).2.1; unfold gpN; omega
        refine t_N_dug_25 (fun g2 => t_N_dug_27 (no (fun z => g2 ?_))) (fun g2 => t_N_dug_26 (t_N_dug_28 (fun q => absurd q (by decide)) (fun _ => t_N_dug_29 (t_N_dug_31 (vp_in_lt h10 (by decide)) ?_))))
        · rw [hsub]
          have := (hrf.mpr z).2
          unfold U1 at this
          rw [this]
        · have g2 : nI (gpN ((t ||| SL pre) ||| b1 c) (U1 t c) (b1 a) (b1 b)) = nI n - nI pre.length - 1 := g2
          rw [hsub, nI_eqk (Nat.lt_of_le_of_lt hgl (by decide)) (by omega)] at g2
          have hE := hrf.mp ⟨zb_f.mp g, g2⟩
          rw [if_pos (hts.mpr hE)] at hl'
          rw [n1, nI_clamp (by omega)]
          have hlen : (pre ++ [c]).length = pre.length + 1 := by rw [List.length_append, List.length_singleton]
          refine t_N_dug_21 (fun _ => t_N_dug_32 ?_) (fun q => absurd q (by decide))
          rw [n1, ← hlen]
          refine ihA (c + 1) (pre ++ [c]) _ (by omega) (by omega) (fun e he => ?_) ?_ ?_ ?_ (fun j e he => ?_) (((hx.pL (o := 10) (k := 7) _ rfl).pL (o := 10) (k := 7) _ rfl).pI (o := 34) (k := pre.length) _ rfl)
          · rcases List.mem_append.mp he with he | he
            · exact hp e he
            · rw [List.mem_singleton] at he; omega
          · rw [hlen, SL_app hp hc36, show n - (pre.length + 1) = n - pre.length - 1 by omega]
            exact gi_yes hG hL hc36 hE
          · rw [hlen, List.append_assoc, SL_app hp hc36, show n - (pre.length + 1) = n - pre.length - 1 by omega]
            exact hl'
          · rw [gL_sI, gL_sL, if_pos ⟨rfl, rfl⟩, e7', SL_app hp hc36, or_as]
          · rw [gI_sI]
            rcases app_get he with ⟨q1, q2⟩ | ⟨q1, q2⟩
            · rw [if_neg (by omega)]; exact hrow j e q2
            · rw [if_pos ⟨rfl, by omega⟩, q2]
    refine ⟨hB, fun c pre w hc hpn hp hG hl' e7 hrow hx => ?_⟩
    refine t_N_dug_18 (fun g => fin33 pre w _ hpn hl' hrow hx (Or.inl ((nI_leI (by omega) (by omega)).mp g))) (fun g => t_N_dug_19 (fun g2 => fin33 pre w _ hpn hl' hrow hx (Or.inr g2)) (fun g2 => t_N_dug_20 (hB c pre w hc hpn hp hG hl' e7 hrow hx ?_ g2)))
    exact Nat.lt_of_not_le fun q => g (nI_le q (by omega))
def dugL (t : Int64) (a b : Nat) : List Nat := glD t a b 36 0 0 (gpC t (U0 t) (cl (b1 a) t) (cl (b1 b) t))
theorem dugL_ok {t : Int64} {a b : Nat} (ht : SET t) (ha : bt6 t a = true) (hb : bt6 t b = true) : (dugL t a b).length = gpC t (U0 t) (cl (b1 a) t) (cl (b1 b) t) ∧ SRT (dugL t a b) := by
  obtain ⟨g1', g2', g3'⟩ := gl_ok ht ha hb 36 0 0 _ rfl (gi_0 ht ha hb)
  rw [dugL]
  exact ⟨g1', g3', fun e he => (g2' e he).2⟩
theorem dugL_0 (t : Int64) (a b : Nat) : [] ++ glD t a b 36 0 (SL []) (gpC t (U0 t) (cl (b1 a) t) (cl (b1 b) t)) = dugL t a b := by rw [SL_nil, List.nil_append, dugL]
def dugA (S : zS) (x y i : Int32) : Int32 := if isC x = true ∧ isC y = true ∧ inI i (-1) 9 = true then (if bt6 (opS S) x.toNatClampNeg = true ∧ bt6 (opS S) y.toNatClampNeg = true ∧ bt6 (hoS S x.toNatClampNeg) y.toNatClampNeg = false then pickA (some (dugL (opS S) x.toNatClampNeg y.toNatClampNeg)) i else -2) else -1
theorem op_dug {d : Nat} {w : zW} {x y i : Int32} (h : RW w) : OPP (d + 4) m_C_dug 8 m_N_dug 18 [.ref 0, .int x, .int y, .int i] [.ref 10, .int x, .int y, .int i] w := by
  have lt10 : ∀ {i : Int32}, i < 10 ↔ i ≤ 9 := fun {i} => by
    rw [Int32.le_iff_toInt_le, Int32.lt_iff_toInt_lt]
    have e9 : (9 : Int32).toInt = 9 := by decide
    have e10 : (10 : Int32).toInt = 10 := by decide
    omega
  refine opQ (f := fun S => .int (dugA S x y i)) (fun S Q hG hk q => ?_) (fun S w Q hG hk q => ?_) h
  · have e2 : gL w 1 2 = opS S := hG.2.2.1
    have hS := SET_op S
    have bad : ¬ (isC x = true ∧ isC y = true ∧ inI i (-1) 9 = true) → WP (d + 4) m_C_dug 6 [none, none, none, none, none, none, none, none] [] w Q := fun hb => t_C_dug_6 (q _ w (by simp only [dugA, if_neg hb]) EQX.rf)
    refine n_C_dug (t_C_dug_0 (s_C_isCell (t_C_dug_1 (fun g => bad (fun z => ?_)) (fun g => t_C_dug_2 (s_C_isCell (t_C_dug_3 (fun g2 => bad (fun z => ?_)) (fun g2 => t_C_dug_4 (fun g3 => bad (fun z => ?_)) (fun g3 => t_C_dug_5 (fun g4 => t_C_dug_7 ?_) (fun g4 => bad (fun z => ?_))))))))))
    · rw [z.1] at g; cases g
    · rw [z.2.1] at g2; cases g2
    · rw [inI_f.mpr (Or.inl g3)] at z; cases z.2.2
    · have hx := zb_f.mp g
      have hy := zb_f.mp g2
      have hi := inI_t g3 (lt10.mp g4)
      obtain ⟨a, ha, rfl⟩ := isC_of hx
      obtain ⟨b, hb, rfl⟩ := isC_of hy
      have hca : (nI a).toNatClampNeg = a := nI_clamp (by omega)
      have hcb : (nI b).toNatClampNeg = b := nI_clamp (by omega)
      have eA : dugA S (nI a) (nI b) i = if bt6 (opS S) a = true ∧ bt6 (opS S) b = true ∧ bt6 (hoS S a) b = false then pickA (some (dugL (opS S) a b)) i else -2 := by
        unfold dugA; rw [if_pos ⟨hx, hy, hi⟩, hca, hcb]
      rw [eA] at q
      refine s_G_holeAt (t_C_dug_8 (s_G_holeAt ?_))
      rw [e2]
      refine t_C_dug_9 (fun u => t_C_dug_12 (q _ w ?_ EQX.rf)) (fun u => t_C_dug_10 (fun v => t_C_dug_12 (q _ w ?_ EQX.rf)) (fun v => t_C_dug_11 (fun z => t_C_dug_13 ?_) (fun z => t_C_dug_12 (q _ w ?_ EQX.rf))))
      · rw [if_neg (fun p => by rw [(ho_0 ha).mp u] at p; cases p.1)]
      · rw [if_neg (fun p => by rw [(ho_0 hb).mp v] at p; cases p.2.1)]
      · have ua : bt6 (opS S) a = true := by
          cases e : bt6 (opS S) a with
          | true => rfl
          | false => exact absurd ((ho_0 ha).mpr e) u
        have ub : bt6 (opS S) b = true := by
          cases e : bt6 (opS S) b with
          | true => rfl
          | false => exact absurd ((ho_0 hb).mpr e) v
        have uz : bt6 (hoS S a) b = false := by
          cases e : bt6 (hoS S a) b with
          | false => rfl
          | true => exact absurd (cl_same hS ua e) z
        rw [if_pos ⟨ua, ub, uz⟩] at q
        rw [e2]
        have hgi := gi_0 hS ua ub
        obtain ⟨g1', g3'⟩ := dugL_ok hS ua ub
        refine n_P_leastDug (t_P_leastDug_0 (s_P_gap (t_P_leastDug_1 ?_)))
        have h0 : SL [] = 0 := SL_nil
        have := lp_P_least (d := d) (w := w) (t := opS S) (a := a) (b := b) (l := dugL (opS S) a b) (Q := fun r w' => WP (d + 4) m_C_dug 14 [none, none, none, some (.int i), none, none, none, none] (zpush r []) w' Q) (t_C_dug_14 (s_C_pick (R := some (dugL (opS S) a b)) (fun l hl => by injection hl with hl; rw [← hl]; exact g3') (t_C_dug_15 (q _ w rfl EQX.rf)))) 36 0 [] (gpC (opS S) (U0 (opS S)) (cl (b1 a) (opS S)) (cl (b1 b) (opS S))) rfl (Nat.lt_of_le_of_lt (gpC_le _ _ _ _) (by decide)) (fun e he => by cases he) (dugL_0 _ _ _)
        rw [h0] at this
        exact this
      · rw [if_neg (fun p => by
          have this : bt6 (cl (b1 a) (opS S)) b = false := p.2.2
          rw [z, cl1_mem hS p.2.1] at this
          cases this)]
    · rw [inI_f.mpr (Or.inr (fun y => g4 (lt10.mpr y)))] at z; cases z.2.2
  · have hS := SET_op S
    have bad : ¬ (isC x = true ∧ isC y = true ∧ inI i (-1) 9 = true) → WP (d + 4) m_N_dug 6 [none, none, none, none, none, none, none, none, none, none, none, none, none, none, none, none, none, none] [] w Q := fun hb => t_N_dug_6 (q _ w (by simp only [dugA, if_neg hb]) EQX.rf)
    refine n_N_dug (t_N_dug_0 (s_N_isCell (t_N_dug_1 (fun g => bad (fun z => ?_)) (fun g => t_N_dug_2 (s_N_isCell (t_N_dug_3 (fun g2 => bad (fun z => ?_)) (fun g2 => t_N_dug_4 (s_N_inI (a := -1) (b := 9) rfl rfl (t_N_dug_5 (fun g3 => t_N_dug_7 (s_N_look hG hk (fun wa hw => ?_))) (fun g3 => bad (fun z => ?_)))))))))))
    · rw [z.1] at g; cases g
    · rw [z.2.1] at g2; cases g2
    · have hx := zb_f.mp g
      have hy := zb_f.mp g2
      have hi := zb_f.mp g3
      obtain ⟨a, ha, rfl⟩ := isC_of hx
      obtain ⟨b, hb, rfl⟩ := isC_of hy
      have hca : (nI a).toNatClampNeg = a := nI_clamp (by omega)
      have hcb : (nI b).toNatClampNeg = b := nI_clamp (by omega)
      have eA : dugA S (nI a) (nI b) i = if bt6 (opS S) a = true ∧ bt6 (opS S) b = true ∧ bt6 (hoS S a) b = false then pickA (some (dugL (opS S) a b)) i else -2 := by
        unfold dugA; rw [if_pos ⟨hx, hy, hi⟩, hca, hcb]
      rw [eA] at q
      have e7 : gL wa 10 7 = opS S := hw.1
      have xa := hw.eqx
      refine t_N_dug_8 (s_N_has (by omega) (t_N_dug_9 (fun u => t_N_dug_15 (q _ wa ?_ xa)) (fun u => t_N_dug_10 (s_N_has (by omega) (t_N_dug_11 (fun v => t_N_dug_15 (q _ wa ?_ xa)) (fun v => t_N_dug_12 (s_N_holeAt (by rw [e7]; exact hS) (t_N_dug_13 (s_N_has (by omega) (t_N_dug_14 (fun z => t_N_dug_16 ?_) (fun z => t_N_dug_15 (q _ wa ?_ xa))))))))))))
      · rw [e7] at u
        rw [if_neg (fun p => by rw [zb_t.mp u] at p; cases p.1)]
      · rw [e7] at v
        rw [if_neg (fun p => by rw [zb_t.mp v] at p; cases p.2.1)]
      · rw [e7] at u v z
        have ua := zb_f.mp u
        have ub := zb_f.mp v
        rw [if_pos ⟨ua, ub, zb_t.mp z⟩] at q
        have hgi := gi_0 hS ua ub
        obtain ⟨g1', g3'⟩ := dugL_ok hS ua ub
        have h0 : SL [] = 0 := SL_nil
        refine s_N_few (O := opS S) hS SET.all e7 (t_N_dug_17 ?_)
        rw [show zsl 1 (nI a) = b1 a from rfl, show zsl 1 (nI b) = b1 b from rfl, gp_same hS ua ub, e7]
        have h36 := hgi.1
        refine (lp_N_dug (w0 := w) (t := opS S) (a := a) (b := b) (l := dugL (opS S) a b) hS ua ub h36 g1' hi (fun w' x' => q _ w' rfl x') 36).2 0 [] wa rfl (Nat.zero_le _) (fun e he => by cases he) ?_ ?_ ?_ (fun j e he => by cases he) xa
        · rw [h0, List.length_nil, Nat.sub_zero]; exact hgi
        · rw [List.length_nil, Nat.sub_zero]; exact dugL_0 _ _ _
        · rw [h0, or_0]; exact e7
      · rw [e7] at z
        rw [if_neg (fun p => by rw [zb_f.mp z] at p; cases p.2.2)]
    · rw [zb_t.mp g3] at z; cases z.2.2
