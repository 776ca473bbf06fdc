/-! ===== the tape ===== -/
def skp (T : List Nat) : Nat → Nat → Nat
  | 0, p => p
  | n + 1, p => if T[p]? = some 32 then skp T n (p + 1) else p
def sk (T : List Nat) (p : Nat) : Nat := skp T (T.length - p) p
theorem skp_le (T : List Nat) : ∀ n p, p ≤ skp T n p ∧ skp T n p ≤ p + n
  | 0, p => ⟨Nat.le_refl _, Nat.le_refl _⟩
  | n + 1, p => by
    unfold skp
    split
    · have := skp_le T n (p + 1); omega
    · omega
theorem sk_le {T : List Nat} {p : Nat} (h : p ≤ T.length) : p ≤ sk T p ∧ sk T p ≤ T.length := by
  have := skp_le T (T.length - p) p
  unfold sk; omega
theorem skp_st (T : List Nat) : ∀ n p, p + n = T.length → ¬ T[skp T n p]? = some 32
  | 0, p, h => by
    unfold skp
    rw [List.getElem?_eq_none (by omega)]
    exact fun e => by cases e
  | n + 1, p, h => by
    unfold skp
    split
    · exact skp_st T n (p + 1) (by omega)
    · rename_i q; exact q
theorem sk_st {T : List Nat} {p : Nat} (h : p ≤ T.length) : ¬ T[sk T p]? = some 32 := skp_st T _ p (by omega)
theorem skp_no {T : List Nat} {p : Nat} (h : ¬ T[p]? = some 32) : ∀ n, skp T n p = p
  | 0 => rfl
  | n + 1 => by unfold skp; rw [if_neg h]
theorem sk_sk {T : List Nat} {p : Nat} (h : p ≤ T.length) : sk T (sk T p) = sk T p := skp_no (sk_st h) _
def m0L (_ _ : Nat) : Bool := false
def mPI (o k : Nat) : Bool := o == 3 && k == 2
def mQI (o k : Nat) : Bool := o == 10 && k == 13
def TC (w : zW) (T : List Nat) (p : Nat) : Prop := gI w 3 1 = nI T.length ∧ (∀ j c, T[j]? = some c → gI w 17 j = nI c) ∧ gI w 3 2 = nI p
def TN (w : zW) (T : List Nat) (p : Nat) : Prop := gI w 10 12 = nI T.length ∧ (∀ j c, T[j]? = some c → gI w 32 j = nI c) ∧ gI w 10 13 = nI p
def okT (T : List Nat) : Prop := T.length ≤ 160 ∧ ∀ c ∈ T, 32 ≤ c ∧ c ≤ 126
theorem TC.mv {w : zW} {T : List Nat} {p : Nat} (h : TC w T p) (q : Nat) : TC (sI w 3 2 (nI q)) T q := ⟨by rw [gI_sI, if_neg (by omega)]; exact h.1, fun j c hc => by rw [gI_sI, if_neg (by omega)]; exact h.2.1 j c hc, by rw [gI_sI, if_pos ⟨rfl, rfl⟩]⟩
theorem TN.mv {w : zW} {T : List Nat} {p : Nat} (h : TN w T p) (q : Nat) : TN (sI w 10 13 (nI q)) T q := ⟨by rw [gI_sI, if_neg (by omega)]; exact h.1, fun j c hc => by rw [gI_sI, if_neg (by omega)]; exact h.2.1 j c hc, by rw [gI_sI, if_pos ⟨rfl, rfl⟩]⟩
theorem okT_lt {T : List Nat} (h : okT T) {j c : Nat} (hc : T[j]? = some c) : j < T.length ∧ j < 160 ∧ 32 ≤ c ∧ c ≤ 126 := by
  obtain ⟨hj, e⟩ := List.getElem?_eq_some_iff.mp hc
  have := h.2 c (by rw [← e]; exact List.getElem_mem hj)
  exact ⟨hj, Nat.lt_of_lt_of_le hj h.1, this⟩
theorem lp_T_pass {d : Nat} {w0 : zW} {Q : zQ} {T : List Nat} (hT : okT T) {R : Nat} (h : ∀ w', TC w' T R → EQX mPI m0L w0 w' → Q none w') : ∀ (n p : Nat) (w : zW), p + n = T.length → skp T n p = R → TC w T p → EQX mPI m0L w0 w → WP d m_T_passBlanks 0 [some (.ref 3)] [] w Q
  | 0, p, w, hp, hr, hC, hx => by
    have e : p = T.length := by omega
    subst e
    subst hr
    exact t_T_passBlanks_0 (fun _ => t_T_passBlanks_3 (h w hC hx)) (fun g => absurd (by rw [hC.1, hC.2.2]; exact Int32.le_refl _) g)
  | n + 1, p, w, hp, hr, hC, hx => by
    have hl := hT.1
    have hpl : p < T.length := by omega
    have hge : ¬ gI w 3 1 ≤ gI w 3 2 := by rw [hC.1, hC.2.2]; exact nI_ge hpl (by omega)
    have hch := hC.2.1 p _ (List.getElem?_eq_getElem hpl)
    obtain ⟨-, -, hc1, hc2⟩ := okT_lt hT (List.getElem?_eq_getElem hpl)
    have hcc : gI w 17 (gI w 3 2).toNatClampNeg = nI T[p] := by rw [hC.2.2, nI_clamp (by omega)]; exact hch
    have e32 : nI T[p] = 32 ↔ T[p] = 32 := nI_eqk (k := 32) (by omega) (by decide)
    unfold skp at hr
    refine t_T_passBlanks_0 (fun g => absurd g hge) (fun _ => t_T_passBlanks_1 (by rw [hC.2.2]; exact vp_in_lt (by omega) (by decide)) (fun g => t_T_passBlanks_3 ?_) (fun g => t_T_passBlanks_2 ?_))
    · rw [hcc, e32] at g
      rw [if_neg (by rw [List.getElem?_eq_getElem hpl]; exact fun e => g (Option.some.inj e))] at hr
      subst hr
      exact h w hC hx
    · rw [hcc, e32] at g
      rw [if_pos (by rw [List.getElem?_eq_getElem hpl, g])] at hr
      rw [hC.2.2, n1]
      exact lp_T_pass hT h n (p + 1) _ (by omega) hr (hC.mv _) (hx.pI _ rfl)
theorem s_T_passBlanks {d : Nat} {w : zW} {Q : zQ} {T : List Nat} {p : Nat} (hT : okT T) (hp : p ≤ T.length) (hC : TC w T p) (h : ∀ w', TC w' T (sk T p) → EQX mPI m0L w w' → Q none w') : WM d m_T_passBlanks 1 [.ref 3] w Q :=
  n_T_passBlanks (lp_T_pass hT h (T.length - p) p w (by omega) rfl hC EQX.rf)
/-- the place behind a letter, if it stands there -/
def nxP (T : List Nat) (p c : Nat) : Nat := if T[sk T p]? = some c then sk T p + 1 else sk T p
theorem nxP_le {T : List Nat} {p : Nat} (h : p ≤ T.length) (c : Nat) : p ≤ nxP T p c ∧ nxP T p c ≤ T.length := by
  have := sk_le h
  unfold nxP
  split
  · rename_i e
    have := (List.getElem?_eq_some_iff.mp e).1
    omega
  · omega
theorem s_T_isNext {d : Nat} {w : zW} {Q : zQ} {T : List Nat} {p c : Nat} {x : Int32} (hx : x = nI c) (hc : c < 2 ^ 31) (hT : okT T) (hp : p ≤ T.length) (hC : TC w T p) (h : ∀ w', TC w' T (nxP T p c) → EQX mPI m0L w w' → Q (some (.int (zb (decide (T[sk T p]? = some c))))) w') : WM (d + 1) m_T_isNext 2 [.ref 3, .int x] w Q := by
  subst hx
  have hl := hT.1
  have hs := sk_le hp
  unfold nxP at h
  refine n_T_isNext (t_T_isNext_0 (s_T_passBlanks hT hp hC (fun wa ta xa => ?_)))
  refine t_T_isNext_1 (fun g => t_T_isNext_3 ?_) (fun g => ?_)
  · rw [ta.1, ta.2.2, nI_leI (by omega) (by omega)] at g
    have e : ¬ T[sk T p]? = some c := by rw [List.getElem?_eq_none (by omega)]; exact fun e => by cases e
    rw [if_neg e, decide_eq_false e] at h
    exact h wa ta xa
  · rw [ta.1, ta.2.2, nI_leI (by omega) (by omega)] at g
    have hpl : sk T p < T.length := by omega
    have hcc : gI wa 17 (gI wa 3 2).toNatClampNeg = nI T[sk T p] := by rw [ta.2.2, nI_clamp (by omega)]; exact ta.2.1 _ _ (List.getElem?_eq_getElem hpl)
    obtain ⟨-, -, hc1, hc2⟩ := okT_lt hT (List.getElem?_eq_getElem hpl)
    refine t_T_isNext_2 (by rw [ta.2.2]; exact vp_in_lt (by omega) (by decide)) (fun g2 => t_T_isNext_4 ?_) (fun g2 => t_T_isNext_3 ?_)
    · rw [hcc, nI_eqk (by omega) hc] at g2
      have e : T[sk T p]? = some c := by rw [List.getElem?_eq_getElem hpl, g2]
      rw [if_pos e, decide_eq_true e] at h
      rw [ta.2.2, n1]
      exact h _ (ta.mv _) (xa.pI _ rfl)
    · rw [hcc, nI_eqk (by omega) hc] at g2
      have e : ¬ T[sk T p]? = some c := by rw [List.getElem?_eq_getElem hpl]; exact fun e => g2 (Option.some.inj e)
      rw [if_neg e, decide_eq_false e] at h
      exact h wa ta xa
/-- a figure up to a greatest one -/
def fgA (T : List Nat) (p g : Nat) : Option Nat := match T[sk T p]? with
  | some c => if 48 ≤ c ∧ c ≤ g then some (c - 48) else none
  | none => none
def fgV (r : Option Nat) : Int32 := match r with
  | some v => nI v
  | none => -1
def fgP (T : List Nat) (p g : Nat) : Nat := match fgA T p g with
  | some _ => sk T p + 1
  | none => sk T p
theorem fgA_of {T : List Nat} {p g v : Nat} (h : fgA T p g = some v) : T[sk T p]? = some (v + 48) ∧ v + 48 ≤ g := by
  unfold fgA at h
  split at h
  · rename_i c e
    split at h
    · injection h with h
      rw [e, ← h]
      exact ⟨by congr 1; omega, by omega⟩
    · cases h
  · cases h
theorem fgP_le {T : List Nat} {p g : Nat} (h : p ≤ T.length) : p ≤ fgP T p g ∧ fgP T p g ≤ T.length := by
  have := sk_le h
  unfold fgP
  split
  · rename_i v e
    have := (List.getElem?_eq_some_iff.mp (fgA_of e).1).1
    omega
  · omega
theorem s_T_nextFigure {d : Nat} {w : zW} {Q : zQ} {T : List Nat} {p g : Nat} {x : Int32} (hx : x = nI g) (hg : g < 2 ^ 31) (hT : okT T) (hp : p ≤ T.length) (hC : TC w T p) (h : ∀ w', TC w' T (fgP T p g) → EQX mPI m0L w w' → Q (some (.int (fgV (fgA T p g)))) w') : WM (d + 1) m_T_nextFigure 3 [.ref 3, .int x] w Q := by
  subst hx
  have hl := hT.1
  have hs := sk_le hp
  refine n_T_nextFigure (t_T_nextFigure_0 (s_T_passBlanks hT hp hC (fun wa ta xa => ?_)))
  refine t_T_nextFigure_1 (fun q => t_T_nextFigure_4 ?_) (fun q => ?_)
  · rw [ta.1, ta.2.2, nI_leI (by omega) (by omega)] at q
    have e : fgA T p g = none := by unfold fgA; rw [List.getElem?_eq_none (by omega)]
    unfold fgP at h
    rw [e] at h
    exact h wa ta xa
  · rw [ta.1, ta.2.2, nI_leI (by omega) (by omega)] at q
    have hpl : sk T p < T.length := by omega
    have hin : vp_in (gI wa 3 2) 160 := by rw [ta.2.2]; exact vp_in_lt (by omega) (by decide)
    have hcc : gI wa 17 (gI wa 3 2).toNatClampNeg = nI T[sk T p] := by rw [ta.2.2, nI_clamp (by omega)]; exact ta.2.1 _ _ (List.getElem?_eq_getElem hpl)
    obtain ⟨-, -, hc1, hc2⟩ := okT_lt hT (List.getElem?_eq_getElem hpl)
    have eA : fgA T p g = if 48 ≤ T[sk T p] ∧ T[sk T p] ≤ g then some (T[sk T p] - 48) else none := by unfold fgA; rw [List.getElem?_eq_getElem hpl]
    have e48 : nI T[sk T p] < 48 ↔ T[sk T p] < 48 := nI_ltI (b := 48) (by omega) (by decide)
    have eg : nI T[sk T p] ≤ nI g ↔ T[sk T p] ≤ g := nI_leI (by omega) hg
    unfold fgP at h
    refine t_T_nextFigure_2 hin (fun u => t_T_nextFigure_4 ?_) (fun u => t_T_nextFigure_3 hin (fun u2 => t_T_nextFigure_5 hin ?_) (fun u2 => t_T_nextFigure_4 ?_))
    · rw [hcc, e48] at u
      rw [eA, if_neg (by omega)] at h
      exact h wa ta xa
    · rw [hcc, e48] at u
      rw [hcc, eg] at u2
      rw [eA, if_pos (by omega)] at h
      rw [hcc, ta.2.2, n1, show (48 : Int32) = nI 48 from rfl, pk_sub (by omega)]
      exact h _ (ta.mv _) (xa.pI _ rfl)
    · rw [hcc, eg] at u2
      rw [eA, if_neg (by omega)] at h
      exact h wa ta xa
/-- what is left must be nothing -/
theorem s_T_faultBehind {d : Nat} {w : zW} {Q : zQ} {T : List Nat} {p : Nat} (hT : okT T) (hp : p ≤ T.length) (hC : TC w T p) (h : ∀ w', TC w' T (sk T p) → EQX mPI m0L w w' → Q (some (.int (if sk T p < T.length then (-20) - nI (sk T p) else 0))) w') : WM (d + 1) m_T_faultBehind 1 [.ref 3] w Q := by
  have hl := hT.1
  have hs := sk_le hp
  refine n_T_faultBehind (t_T_faultBehind_0 (s_T_passBlanks hT hp hC (fun wa ta xa => t_T_faultBehind_1 (fun g => t_T_faultBehind_4 (t_T_faultBehind_5 ?_)) (fun g => t_T_faultBehind_2 (n_T_fault (t_T_fault_0 (t_T_faultBehind_3 (t_T_faultBehind_5 ?_))))))))
  · rw [ta.1, ta.2.2, nI_leI (by omega) (by omega)] at g
    have := h wa ta xa
    rw [if_neg (by omega)] at this
    exact this
  · rw [ta.1, ta.2.2, nI_leI (by omega) (by omega)] at g
    have := h wa ta xa
    rw [if_pos (by omega)] at this
    rw [ta.2.2]
    exact this
/-! the reference's -/
def ltA (T : List Nat) (p : Nat) : Int32 := match T[sk T p]? with
  | some c => nI c
  | none => -1
theorem lp_N_pass {d : Nat} {w0 : zW} {Q : zQ} {T : List Nat} (hT : okT T) {R : Nat} (h : ∀ w', TN w' T R → EQX mQI m0L w0 w' → WP d m_N_nextLetter 3 [some (.ref 10)] [] w' Q) : ∀ (n p : Nat) (w : zW), p + n = T.length → skp T n p = R → TN w T p → EQX mQI m0L w0 w → WP d m_N_nextLetter 0 [some (.ref 10)] [] w Q
  | 0, p, w, hp, hr, hC, hx => by
    have e : p = T.length := by omega
    subst e
    subst hr
    exact t_N_nextLetter_0 (fun _ => h w hC hx) (fun g => absurd (by rw [hC.1, hC.2.2]; exact Int32.le_refl _) g)
  | n + 1, p, w, hp, hr, hC, hx => by
    have hl := hT.1
    have hpl : p < T.length := by omega
    have hge : ¬ gI w 10 12 ≤ gI w 10 13 := by rw [hC.1, hC.2.2]; exact nI_ge hpl (by omega)
    have hch := hC.2.1 p _ (List.getElem?_eq_getElem hpl)
    obtain ⟨-, -, hc1, hc2⟩ := okT_lt hT (List.getElem?_eq_getElem hpl)
    have hcc : gI w 32 (gI w 10 13).toNatClampNeg = nI T[p] := by rw [hC.2.2, nI_clamp (by omega)]; exact hch
    have e32 : nI T[p] = 32 ↔ T[p] = 32 := nI_eqk (k := 32) (by omega) (by decide)
    unfold skp at hr
    refine t_N_nextLetter_0 (fun g => absurd g hge) (fun _ => t_N_nextLetter_1 (by rw [hC.2.2]; exact vp_in_lt (by omega) (by decide)) (fun g => ?_) (fun g => t_N_nextLetter_2 ?_))
    · rw [hcc, e32] at g
      rw [if_neg (by rw [List.getElem?_eq_getElem hpl]; exact fun e => g (Option.some.inj e))] at hr
      subst hr
      exact h w hC hx
    · rw [hcc, e32] at g
      rw [if_pos (by rw [List.getElem?_eq_getElem hpl, g])] at hr
      rw [hC.2.2, n1]
      exact lp_N_pass hT h n (p + 1) _ (by omega) hr (hC.mv _) (hx.pI _ rfl)
theorem s_N_nextLetter {d : Nat} {w : zW} {Q : zQ} {T : List Nat} {p : Nat} (hT : okT T) (hp : p ≤ T.length) (hC : TN w T p) (h : ∀ w', TN w' T (sk T p) → EQX mQI m0L w w' → Q (some (.int (ltA T p))) w') : WM d m_N_nextLetter 1 [.ref 10] w Q := by
  have hl := hT.1
  have hs := sk_le hp
  refine n_N_nextLetter (lp_N_pass hT (fun wa ta xa => ?_) (T.length - p) p w (by omega) rfl hC EQX.rf)
  have ta : TN wa T (sk T p) := ta
  have := h wa ta xa
  unfold ltA at this
  refine t_N_nextLetter_3 (fun g => t_N_nextLetter_5 (t_N_nextLetter_6 ?_)) (fun g => t_N_nextLetter_4 (by rw [ta.2.2]; exact vp_in_lt (by rw [ta.1, ta.2.2, nI_leI (by omega) (by omega)] at g; omega) (by decide)) (t_N_nextLetter_6 ?_))
  · rw [ta.1, ta.2.2, nI_leI (by omega) (by omega)] at g
    rw [List.getElem?_eq_none (by omega)] at this
    exact this
  · rw [ta.1, ta.2.2, nI_leI (by omega) (by omega)] at g
    have hpl : sk T p < T.length := by omega
    rw [List.getElem?_eq_getElem hpl] at this
    rw [ta.2.2, nI_clamp (by omega), ta.2.1 _ _ (List.getElem?_eq_getElem hpl)]
    exact this
theorem ltA_is {T : List Nat} {p c : Nat} (hT : okT T) (hc : c < 2 ^ 31) : ltA T p = nI c ↔ T[sk T p]? = some c := by
  unfold ltA
  cases e : T[sk T p]? with
  | none =>
    constructor
    · intro q
      have q : (-1 : Int32) = nI c := q
      exact absurd (show nI c < 0 by rw [← q]; decide) (not_neg hc)
    · intro q; cases q
  | some b =>
    obtain ⟨-, -, hb1, hb2⟩ := okT_lt hT e
    constructor
    · intro q
      have q : nI b = nI c := q
      rw [(nI_eqk (by omega) hc).mp q]
    · intro q; injection q with q; rw [q]
theorem s_N_takes {d : Nat} {w : zW} {Q : zQ} {T : List Nat} {p c : Nat} {x : Int32} (hx : x = nI c) (hc : c < 2 ^ 31) (hT : okT T) (hp : p ≤ T.length) (hC : TN w T p) (h : ∀ w', TN w' T (nxP T p c) → EQX mQI m0L w w' → Q (some (.int (zb (decide (T[sk T p]? = some c))))) w') : WM (d + 1) m_N_takes 3 [.ref 10, .int x] w Q := by
  subst hx
  unfold nxP at h
  refine n_N_takes (t_N_takes_0 (s_N_nextLetter hT hp hC (fun wa ta xa => t_N_takes_1 (fun g => t_N_takes_3 (t_N_takes_4 (fun _ => t_N_takes_6 (t_N_takes_7 (Or.inl rfl) ?_)) (fun q => absurd rfl q))) (fun g => t_N_takes_2 (t_N_takes_4 (fun q => absurd q (by decide)) (fun _ => t_N_takes_5 (t_N_takes_7 (Or.inr rfl) ?_)))))))
  · rw [ltA_is hT hc] at g
    rw [if_neg g, decide_eq_false g] at h
    rw [ta.2.2, Int32.add_zero]
    exact h _ (ta.mv _) (xa.pI _ rfl)
  · rw [ltA_is hT hc] at g
    rw [if_pos g, decide_eq_true g] at h
    rw [ta.2.2, n1]
    exact h _ (ta.mv _) (xa.pI _ rfl)
/-- the tape is empty then -/
theorem s_N_end {d : Nat} {w : zW} {Q : zQ} {T : List Nat} {p : Nat} {b : Bool} {x : Int32} (hx : x = zb b) (hT : okT T) (hp : p ≤ T.length) (hC : TN w T p) (h : ∀ w', TN w' T (if b = true then p else sk T p) → EQX mQI m0L w w' → Q (some (.int (if b = true then 0 else (-20) - nI (sk T p)))) (sI w' 10 12 0)) : WM (d + 1) m_N_end 2 [.ref 10, .int x] w Q := by
  subst hx
  cases b with
  | true => exact n_N_end (t_N_end_0 (fun _ => t_N_end_3 (fun q => absurd q (by decide)) (fun _ => t_N_end_4 (t_N_end_6 (h w hC EQX.rf)))) (fun q => absurd q (by decide)))
  | false =>
    refine n_N_end (t_N_end_0 (fun q => absurd rfl q) (fun _ => t_N_end_1 (s_N_nextLetter hT hp hC (fun wa ta xa => t_N_end_2 (t_N_end_3 (fun _ => t_N_end_5 (t_N_end_6 ?_)) (fun q => absurd rfl q))))))
    rw [gI_sI, if_neg (by decide), ta.2.2]
    exact h wa ta xa
