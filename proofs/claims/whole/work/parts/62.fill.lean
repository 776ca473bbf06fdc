/-! ===== rows of cells: pick, filled, split ===== -/
def SL (l : List Nat) : Int64 := mk6 (fun c => decide (c ∈ l))
def SRT (l : List Nat) : Prop := l.Pairwise (· < ·) ∧ ∀ c ∈ l, c < 36
theorem SRT.tail {a : Nat} {l : List Nat} (h : SRT (a :: l)) : SRT l := ⟨(List.pairwise_cons.mp h.1).2, fun c hc => h.2 c (List.mem_cons_of_mem _ hc)⟩
theorem bx_SL {l : List Nat} (h : ∀ c ∈ l, c < 36) (i : Nat) : bt6 (SL l) i = decide (i ∈ l) := by
  unfold SL
  rw [bx_mk]
  by_cases e : i ∈ l
  · simp [e, h i e]
  · simp [e]
theorem SL_nil : SL [] = 0 := bx_eq0 fun i => by rw [bx_SL (by simp)]; simp
theorem SL_one {a : Nat} (h : a < 36) : SL [a] = b1 a := bx_ext fun i _ => by rw [bx_SL (by simpa using h), bx_b1 (by omega)]; simp
theorem SL_two {a b : Nat} (h : a < 36) (h2 : b < 36) : SL [a, b] = b1 a ||| b1 b := bx_ext fun i _ => by
  rw [bx_SL (by simp; omega), bx_or, bx_b1 (by omega), bx_b1 (by omega)]
  by_cases e : i = a <;> by_cases e2 : i = b <;> simp [e, e2]
theorem SL_lo {a : Nat} {l : List Nat} (h : SRT (a :: l)) : lo6 (SL (a :: l)) = a := lo6_eq (by rw [bx_SL h.2]; simp) (fun j hj => by
  rw [bx_SL h.2, decide_eq_false_iff_not]
  intro e
  rcases List.mem_cons.mp e with e | e
  · omega
  · have := (List.pairwise_cons.mp h.1).1 j e; omega)
theorem SL_ne {a : Nat} {l : List Nat} (h : SRT (a :: l)) : ¬ SL (a :: l) = 0 := bx_some (i := a) (by rw [bx_SL h.2]; simp)
theorem SL_kern {a : Nat} {l : List Nat} (h : SRT (a :: l)) : SL (a :: l) &&& (SL (a :: l) - 1) = SL l := by
  rw [bx_kern (SL_ne h), SL_lo h]
  apply bx_ext
  intro i _
  have ha := h.2 a (List.mem_cons_self ..)
  rw [bx_diff, bx_b1 (by omega), bx_SL h.2, bx_SL h.tail.2]
  by_cases e : i = a
  · subst e
    have : i ∉ l := fun q => by have := (List.pairwise_cons.mp h.1).1 i q; omega
    simp [this]
  · simp [e]
theorem SL_cn : ∀ {l : List Nat}, SRT l → cn (SL l) = l.length
  | [], _ => by rw [SL_nil]; exact cn_0
  | a :: l, h => by rw [cn_kern (SL_ne h), SL_kern h, SL_cn h.tail, List.length_cons]
def pickA (R : Option (List Nat)) (i : Int32) : Int32 := match R with
  | none => -4
  | some l => if 0 ≤ i then (match l[i.toNatClampNeg]? with | some c => nI c | none => -4) else nI l.length
def setR (R : Option (List Nat)) : Int64 := match R with
  | none => -1
  | some l => SL l
theorem lp_C_pick {d : Nat} {w : zW} {Q : zQ} {k : Nat} (hk : k < 2 ^ 31) : ∀ (n j : Nat) (l : List Nat), j + n = k → SRT l → Q (some (.int (match l[n]? with | some c => nI c | none => -4))) w → WP (d + 2) m_C_pick 6 [none, none, some (.int (nI k)), some (.long (SL l)), none, some (.int (nI j))] [] w Q
  | 0, j, l, hj, hl, h => by
    have e : j = k := by omega
    subst e
    refine t_C_pick_6 (fun _ => t_C_pick_8 (fun g => t_C_pick_10 (s_P_least g (t_C_pick_11 ?_))) (fun g => t_C_pick_9 (t_C_pick_11 ?_))) (fun g => absurd (Int32.le_refl _) g)
    · cases l with
      | nil => exact absurd SL_nil g
      | cons a l => rw [SL_lo hl]; exact h
    · cases l with
      | nil => exact h
      | cons a l => exact absurd g (SL_ne hl)
  | n + 1, j, l, hj, hl, h => by
    refine t_C_pick_6 (fun g => absurd g (nI_ge (show j < k by omega) hk)) (fun _ => t_C_pick_7 ?_)
    rw [n1]
    cases l with
    | nil =>
      have e : SL [] &&& (SL [] - 1) = SL [] := by rw [SL_nil]; decide
      rw [e]
      exact lp_C_pick hk n (j + 1) [] (by omega) hl (by simpa using h)
    | cons a l =>
      rw [SL_kern hl]
      exact lp_C_pick hk n (j + 1) l (by omega) hl.tail (by simpa using h)
theorem s_C_pick {d : Nat} {w : zW} {Q : zQ} {R : Option (List Nat)} {i : Int32} (hR : ∀ l, R = some l → SRT l) (h : Q (some (.int (pickA R i))) w) : WM (d + 2) m_C_pick 6 [.long (setR R), .int i] w Q := by
  cases R with
  | none => exact n_C_pick (t_C_pick_0 (fun g => absurd rfl g) (fun _ => t_C_pick_1 h))
  | some l =>
    have hl := hR l rfl
    have hne : ¬ SL l = -1 := fun e => by
      have h1 : bt6 (SL l) 40 = false := SET.mk _ 40 (by decide)
      rw [e, bx_m1 (by decide)] at h1; cases h1
    refine n_C_pick (t_C_pick_0 (fun _ => t_C_pick_2 (fun g => t_C_pick_5 ?_) (fun g => t_C_pick_3 (s_J_bitCount (t_C_pick_4 ?_)))) (fun g => absurd g hne))
    · have hi : i = nI i.toNatClampNeg ∧ i.toNatClampNeg < 2 ^ 31 := by
        have e0 : (0 : Int) ≤ i.toInt := by rw [Int32.le_iff_toInt_le] at g; exact g
        have e1 : i.toInt < 2 ^ 31 := i.toInt_lt
        have e2 : i.toNatClampNeg = i.toInt.toNat := rfl
        refine ⟨?_, by omega⟩
        apply Int32.toInt_inj.mp
        have := nI_clamp (n := i.toNatClampNeg) (by omega)
        rw [nI_toInt (by omega)]
        omega
      simp only [pickA, if_pos g] at h
      rw [hi.1]
      exact lp_C_pick hi.2 i.toNatClampNeg 0 l (Nat.zero_add _) hl h
    · simp only [pickA, if_neg g] at h
      show Q (some (.int (nI (cn (SL l))))) w
      rw [SL_cn hl]; exact h
/-! the fewest that do -/
def fw3 (D : Int64 → Bool) (m : Int64) (a : Nat) (r : Option (List Nat)) : Nat → Nat → Option (List Nat)
  | 0, _ => r
  | n + 1, b => if bt6 m a = true ∧ bt6 m b = true ∧ D (b1 a ||| b1 b) = true then some [a, b] else fw3 D m a r n (b + 1)
def fw2 (D : Int64 → Bool) (m : Int64) : Nat → Nat → Option (List Nat)
  | 0, _ => none
  | n + 1, a => fw3 D m a (fw2 D m n (a + 1)) (35 - a) (a + 1)
def fw1 (D : Int64 → Bool) (m : Int64) : Nat → Nat → Option (List Nat)
  | 0, _ => fw2 D m 36 0
  | n + 1, a => if bt6 m a = true ∧ D (b1 a) = true then some [a] else fw1 D m n (a + 1)
def fwF (D : Int64 → Bool) (m : Int64) : Option (List Nat) := if D 0 = true then some [] else fw1 D m 36 0
theorem fw3_no {D : Int64 → Bool} {m : Int64} {a : Nat} {r : Option (List Nat)} (h : bt6 m a = false) : ∀ n b, fw3 D m a r n b = r
  | 0, _ => rfl
  | n + 1, b => by
    show (if _ then _ else _) = _
    rw [if_neg (fun q => by rw [h] at q; cases q.1)]
    exact fw3_no h n (b + 1)
def ROK (R : Option (List Nat)) : Prop := ∀ l, R = some l → SRT l ∧ l.length ≤ 2
theorem ROK.none : ROK none := fun _ h => by cases h
theorem fw3_ok {D : Int64 → Bool} {m : Int64} {a : Nat} {r : Option (List Nat)} (hr : ROK r) : ∀ n b, b + n ≤ 36 → a < b → ROK (fw3 D m a r n b)
  | 0, _, _, _ => hr
  | n + 1, b, h1, h2 => by
    show ROK (if _ then _ else _)
    split
    · intro l hl
      cases hl
      refine ⟨⟨by simp; omega, by simp; omega⟩, by simp⟩
    · exact fw3_ok hr n (b + 1) (by omega) (by omega)
theorem fw2_ok {D : Int64 → Bool} {m : Int64} : ∀ n a, a + n ≤ 36 → ROK (fw2 D m n a)
  | 0, _, _ => ROK.none
  | n + 1, a, h => fw3_ok (fw2_ok n (a + 1) (by omega)) _ _ (by omega) (by omega)
theorem fw1_ok {D : Int64 → Bool} {m : Int64} : ∀ n a, a + n ≤ 36 → ROK (fw1 D m n a)
  | 0, _, _ => fw2_ok 36 0 (by decide)
  | n + 1, a, h => by
    show ROK (if _ then _ else _)
    split
    · intro l hl
      cases hl
      refine ⟨⟨by simp, by simp; omega⟩, by simp⟩
    · exact fw1_ok n (a + 1) (by omega)
theorem fwF_ok {D : Int64 → Bool} {m : Int64} : ROK (fwF D m) := by
  unfold fwF
  split
  · intro l hl
    cases hl
    exact ⟨⟨by simp, by simp⟩, by simp⟩
  · exact fw1_ok 36 0 (by decide)
/-! the reference's search -/
def PF (S : zS) (w : zW) : Prop := GN w S ∧ gL w 10 7 = opS S ∧ gL w 10 8 = niS S
def nlen (R : Option (List Nat)) : Int32 := match R with
  | none => -4
  | some l => nI l.length
def ROWS (w : zW) (R : Option (List Nat)) : Prop := ∀ l, R = some l → ∀ k c, l[k]? = some c → gI w 34 k = nI c
theorem PF.row {S : zS} {w : zW} (h : PF S w) (k : Nat) (v : Int32) : PF S (sI w 34 k v) := ⟨(EQX.rf.pI (o := 34) (k := k) v rfl : EQX mRI mRL w _).gnR h.1, h.2.1, h.2.2⟩
theorem fN_search {d : Nat} {w0 : zW} {Q : zQ} {S : zS} {D : Int64 → Bool} {tax : Int32} {ho m : Int64} {R : Option (List Nat)}
    (hD : ∀ (w : zW) (s : Int64) (Q' : zQ), PF S w → SET s → (∀ w', PF S w' → EQX mRI mRL w w' → Q' (some (.int (zb (D s)))) w') → WM d m_N_does 9 [.ref 10, .long s, .int tax, .long ho] w Q')
    (h : ∀ w', PF S w' → EQX mRI mRL w0 w' → ROWS w' R → Q (some (.int (nlen R))) w') :
    (∀ (n b a : Nat) (r : Option (List Nat)) (w : zW), b + n = 36 → a < b → PF S w → EQX mRI mRL w0 w → fw3 D m a r n b = R → (∀ w', PF S w' → EQX mRI mRL w0 w' → r = R → WP (d + 1) m_N_fewestFilled 26 [some (.ref 10), some (.int tax), some (.long ho), none, some (.long m), none, some (.int (nI a)), none] [] w' Q) → WP (d + 1) m_N_fewestFilled 17 [some (.ref 10), some (.int tax), some (.long ho), none, some (.long m), none, some (.int (nI a)), some (.int (nI b))] [] w Q)
  | 0, b, a, r, w, hb, hab, hp, hx, hr, k => by
    have e : b = 36 := by omega
    subst e
    exact t_N_fewestFilled_17 (fun _ => k w hp hx hr) (fun g => absurd (Int32.le_refl _) g)
  | n + 1, b, a, r, w, hb, hab, hp, hx, hr, k => by
    have hr' : (if bt6 m a = true ∧ bt6 m b = true ∧ D (b1 a ||| b1 b) = true then some [a, b] else fw3 D m a r n (b + 1)) = R := hr
    refine t_N_fewestFilled_17 (fun g => absurd g (nI_ge (show b < 36 by omega) (by decide))) (fun _ => t_N_fewestFilled_18 (s_N_has (by omega) (t_N_fewestFilled_19 (fun g => t_N_fewestFilled_25 ?_) (fun g => t_N_fewestFilled_20 (s_N_has (by omega) (t_N_fewestFilled_21 (fun g2 => t_N_fewestFilled_25 ?_) (fun g2 => t_N_fewestFilled_22 (hD w _ _ hp ((SET.one (by omega)).or (SET.one (by omega))) (fun w1 hp1 hx1 => t_N_fewestFilled_23 (fun g3 => t_N_fewestFilled_25 ?_) (fun g3 => t_N_fewestFilled_24 ?_))))))))))
    · rw [if_neg (fun q => by rw [zb_t.mp g] at q; cases q.1)] at hr'
      rw [n1]
      exact fN_search hD h n (b + 1) a r w (by omega) (by omega) hp hx hr' k
    · rw [if_neg (fun q => by rw [zb_t.mp g2] at q; cases q.2.1)] at hr'
      rw [n1]
      exact fN_search hD h n (b + 1) a r w (by omega) (by omega) hp hx hr' k
    · rw [if_neg (fun q => by
        have := zb_t.mp g3
        rw [show D (zsl 1 (nI a) ||| zsl 1 (nI b)) = D (b1 a ||| b1 b) from rfl, q.2.2] at this; cases this)] at hr'
      rw [n1]
      exact fN_search hD h n (b + 1) a r w1 (by omega) (by omega) hp1 (hx.tr hx1) hr' k
    · rw [if_pos ⟨zb_f.mp g, zb_f.mp g2, zb_f.mp g3⟩] at hr'
      subst hr'
      refine h _ ((hp1.row _ _).row _ _) (((hx.tr hx1).pI (o := 34) _ rfl).pI (o := 34) _ rfl) (fun l hl k c hc => ?_)
      cases hl
      rw [gI_sI, gI_sI]
      match k, hc with
      | 0, hc => cases hc; rw [if_neg (by decide), if_pos ⟨rfl, rfl⟩]
      | 1, hc => cases hc; rw [if_pos ⟨rfl, rfl⟩]
theorem fN_2 {d : Nat} {w0 : zW} {Q : zQ} {S : zS} {D : Int64 → Bool} {tax : Int32} {ho m : Int64} {R : Option (List Nat)}
    (hD : ∀ (w : zW) (s : Int64) (Q' : zQ), PF S w → SET s → (∀ w', PF S w' → EQX mRI mRL w w' → Q' (some (.int (zb (D s)))) w') → WM d m_N_does 9 [.ref 10, .long s, .int tax, .long ho] w Q')
    (h : ∀ w', PF S w' → EQX mRI mRL w0 w' → ROWS w' R → Q (some (.int (nlen R))) w') :
    (∀ (n a : Nat) (w : zW), a + n = 36 → PF S w → EQX mRI mRL w0 w → fw2 D m n a = R → WP (d + 1) m_N_fewestFilled 15 [some (.ref 10), some (.int tax), some (.long ho), none, some (.long m), none, some (.int (nI a)), none] [] w Q)
  | 0, a, w, ha, hp, hx, hr => by
    have e : a = 36 := by omega
    subst e
    subst hr
    exact t_N_fewestFilled_15 (fun _ => t_N_fewestFilled_27 (h w hp hx (fun l hl => by cases hl))) (fun g => absurd (Int32.le_refl _) g)
  | n + 1, a, w, ha, hp, hx, hr => by
    refine t_N_fewestFilled_15 (fun g => absurd g (nI_ge (show a < 36 by omega) (by decide))) (fun _ => t_N_fewestFilled_16 ?_)
    rw [n1]
    refine fN_search hD h (35 - a) (a + 1) a (fw2 D m n (a + 1)) w (by omega) (by omega) hp hx hr (fun w' hp' hx' hr' => t_N_fewestFilled_26 ?_)
    rw [n1]
    exact fN_2 hD h n (a + 1) w' (by omega) hp' hx' hr'
theorem fN_1 {d : Nat} {w0 : zW} {Q : zQ} {S : zS} {D : Int64 → Bool} {tax : Int32} {ho m : Int64} {R : Option (List Nat)}
    (hD : ∀ (w : zW) (s : Int64) (Q' : zQ), PF S w → SET s → (∀ w', PF S w' → EQX mRI mRL w w' → Q' (some (.int (zb (D s)))) w') → WM d m_N_does 9 [.ref 10, .long s, .int tax, .long ho] w Q')
    (h : ∀ w', PF S w' → EQX mRI mRL w0 w' → ROWS w' R → Q (some (.int (nlen R))) w') :
    (∀ (n a : Nat) (w : zW), a + n = 36 → PF S w → EQX mRI mRL w0 w → fw1 D m n a = R → WP (d + 1) m_N_fewestFilled 7 [some (.ref 10), some (.int tax), some (.long ho), none, some (.long m), none, some (.int (nI a)), none] [] w Q)
  | 0, a, w, ha, hp, hx, hr => by
    have e : a = 36 := by omega
    subst e
    exact t_N_fewestFilled_7 (fun _ => t_N_fewestFilled_14 (fN_2 hD h 36 0 w rfl hp hx hr)) (fun g => absurd (Int32.le_refl _) g)
  | n + 1, a, w, ha, hp, hx, hr => by
    have hr' : (if bt6 m a = true ∧ D (b1 a) = true then some [a] else fw1 D m n (a + 1)) = R := hr
    refine t_N_fewestFilled_7 (fun g => absurd g (nI_ge (show a < 36 by omega) (by decide))) (fun _ => t_N_fewestFilled_8 (s_N_has (by omega) (t_N_fewestFilled_9 (fun g => t_N_fewestFilled_13 ?_) (fun g => t_N_fewestFilled_10 (hD w _ _ hp (SET.one (by omega)) (fun w1 hp1 hx1 => t_N_fewestFilled_11 (fun g3 => t_N_fewestFilled_13 ?_) (fun g3 => t_N_fewestFilled_12 ?_)))))))
    · rw [if_neg (fun q => by rw [zb_t.mp g] at q; cases q.1)] at hr'
      rw [n1]
      exact fN_1 hD h n (a + 1) w (by omega) hp hx hr'
    · rw [if_neg (fun q => by
        have := zb_t.mp g3
        rw [show D (zsl 1 (nI a)) = D (b1 a) from rfl, q.2] at this; cases this)] at hr'
      rw [n1]
      exact fN_1 hD h n (a + 1) w1 (by omega) hp1 (hx.tr hx1) hr'
    · rw [if_pos ⟨zb_f.mp g, zb_f.mp g3⟩] at hr'
      subst hr'
      refine h _ (hp1.row _ _) ((hx.tr hx1).pI (o := 34) _ rfl) (fun l hl k c hc => ?_)
      cases hl
      rw [gI_sI]
      match k, hc with
      | 0, hc => cases hc; rw [if_pos ⟨rfl, rfl⟩]
theorem s_N_fewestFilled {d : Nat} {w : zW} {Q : zQ} {S : zS} {D : Int64 → Bool} {tax : Int32} {ho : Int64}
    (hD : ∀ (w : zW) (s : Int64) (Q' : zQ), PF S w → SET s → (∀ w', PF S w' → EQX mRI mRL w w' → Q' (some (.int (zb (D s)))) w') → WM d m_N_does 9 [.ref 10, .long s, .int tax, .long ho] w Q') (hp : PF S w)
    (h : ∀ w', PF S w' → EQX mRI mRL w w' → ROWS w' (fwF D (if ho = 0 then opS S else ho)) → Q (some (.int (nlen (fwF D (if ho = 0 then opS S else ho))))) w') : WM (d + 1) m_N_fewestFilled 8 [.ref 10, .int tax, .long ho] w Q := by
  refine n_N_fewestFilled (t_N_fewestFilled_0 (hD w _ _ hp SET.zero (fun w1 hp1 hx1 => t_N_fewestFilled_1 (fun g => t_N_fewestFilled_3 (fun g2 => t_N_fewestFilled_5 (t_N_fewestFilled_6 ?_)) (fun g2 => t_N_fewestFilled_4 (t_N_fewestFilled_6 ?_))) (fun g => t_N_fewestFilled_2 ?_))))
  · refine fN_1 (S := S) (w0 := w) (R := fwF D (if ho = 0 then opS S else ho)) hD h 36 0 w1 rfl hp1 hx1 ?_
    unfold fwF
    rw [zb_t.mp g, if_neg g2]; rfl
  · rw [hp1.2.1]
    refine fN_1 (S := S) (w0 := w) (R := fwF D (if ho = 0 then opS S else ho)) hD h 36 0 w1 rfl hp1 hx1 ?_
    unfold fwF
    rw [zb_t.mp g, if_pos g2]; rfl
  · have h1 := h w1 hp1 hx1
    unfold fwF at h1
    rw [if_pos (zb_f.mp g)] at h1
    exact h1 (fun l hl k c hc => by cases hl; cases hc)
/-! what does -/
def DFil (S : zS) (tax : Int32) (s : Int64) : Bool := decide (¬ tax < txT S (opS S &&& (s ^^^ (-1))))
def DSpl (ho : Int64) (s : Int64) : Bool := decide (¬ ho &&& (s ^^^ (-1)) = 0) && decide (¬ cl ((ho &&& (s ^^^ (-1))) &&& -(ho &&& (s ^^^ (-1)))) (ho &&& (s ^^^ (-1))) = ho &&& (s ^^^ (-1)))
theorem s_N_does_f {d : Nat} {S : zS} {tax : Int32} (w : zW) (s : Int64) (Q : zQ) (hp : PF S w) (_ : SET s) (h : ∀ w', PF S w' → EQX mRI mRL w w' → Q (some (.int (zb (DFil S tax s)))) w') : WM (d + 5) m_N_does 9 [.ref 10, .long s, .int tax, .long 0] w Q := by
  obtain ⟨hG, e7, e8⟩ := hp
  have e4 : gL w 10 2 = roS S := hG.2.2.1
  have e3 : gI w 10 3 = nI (raS S) := hG.2.2.2.1
  refine n_N_does (t_N_does_0 (fun _ => t_N_does_8 (s_N_taxOfAll ?_ (fun w1 hf => ?_))) (fun g => absurd rfl g))
  · rw [gL_sL, if_pos ⟨rfl, rfl⟩, e7]; exact (SET_op S).diff _
  · rw [gL_sL, if_neg (by decide), gL_sL, if_neg (by decide), gL_sL, if_pos ⟨rfl, rfl⟩, gI_sL, e3, e4, e7, e8]
    have hx : EQX mRI mRL w (sL w1 10 7 (opS S)) := ((EQX.rf.pL (o := 10) (k := 7) _ rfl).tr hf.eqx).pL (o := 10) (k := 7) _ rfl
    have hp : PF S (sL w1 10 7 (opS S)) := ⟨hx.gnR hG, by rw [gL_sL, if_pos ⟨rfl, rfl⟩], by rw [gL_sL, if_neg (by decide), hf.2.2.2.2 10 8 (by decide), gL_sL, if_neg (by decide), e8]⟩
    have h1 := h _ hp hx
    refine t_N_does_9 (fun g => t_N_does_11 (t_N_does_12 (Or.inl rfl) ?_)) (fun g => t_N_does_10 (t_N_does_12 (Or.inr rfl) ?_))
    · have e : DFil S tax s = false := by unfold DFil; rw [decide_eq_false_iff_not, Decidable.not_not]; exact g
      rw [e] at h1; exact h1
    · have e : DFil S tax s = true := by unfold DFil; rw [decide_eq_true_eq]; exact g
      rw [e] at h1; exact h1
theorem s_N_does_s {d : Nat} {S : zS} {tax : Int32} {ho : Int64} (hh : SET ho) (hn : ¬ ho = 0) (w : zW) (s : Int64) (Q : zQ) (hp : PF S w) (_ : SET s) (h : ∀ w', PF S w' → EQX mRI mRL w w' → Q (some (.int (zb (DSpl ho s)))) w') : WM (d + 2) m_N_does 9 [.ref 10, .long s, .int tax, .long ho] w Q := by
  have h1 := h w hp EQX.rf
  have hS : SET (ho &&& (s ^^^ (-1))) := hh.diff _
  unfold DSpl at h1
  refine n_N_does (t_N_does_0 (fun g => absurd g hn) (fun _ => t_N_does_1 (fun g => t_N_does_6 (t_N_does_7 (Or.inl rfl) ?_)) (fun g => t_N_does_2 (s_N_least g hS (t_N_does_3 ?_)))))
  · rw [decide_eq_false (show ¬ ¬ ho &&& (s ^^^ (-1)) = 0 from fun q => q g)] at h1
    exact h1
  · rw [decide_eq_true (show ¬ ho &&& (s ^^^ (-1)) = 0 from g), first_eq g] at h1
    refine s_N_grown hS (t_N_does_4 (fun g2 => t_N_does_6 (t_N_does_7 (Or.inl rfl) ?_)) (fun g2 => t_N_does_5 (t_N_does_7 (Or.inr rfl) ?_)))
    · rw [decide_eq_false (show ¬ ¬ cl (b1 (lo6 (ho &&& (s ^^^ (-1))))) (ho &&& (s ^^^ (-1))) = ho &&& (s ^^^ (-1)) from fun q => q g2)] at h1
      exact h1
    · rw [decide_eq_true (show ¬ cl (b1 (lo6 (ho &&& (s ^^^ (-1))))) (ho &&& (s ^^^ (-1))) = ho &&& (s ^^^ (-1)) from g2)] at h1
      exact h1
