/-! ===== the reference's ground, told more finely: its tape's reads stay ===== -/
def mGI (o k : Nat) : Bool := (o == 10 && (k == 3 || k == 5 || k == 6)) || o == 28 || o == 29 || o == 30
def mGL (o k : Nat) : Bool := o == 10 && k == 2
theorem u_N_note {d : Nat} {w : zW} {Q : zQ} {S : zS} {c : Nat} (hG : GN w S) (hk : okS S) (hc : c < 36) (h : ∀ w', GN w' (notS S c) → EQX mGI mGL w w' → Q none w') : WM (d + 1) m_N_note 3 [.ref 10, .int (nI c)] w Q := by
  have hcl : (nI c).toNatClampNeg = c := nI_clamp (by omega)
  have hlen : (unS S).length ≤ 10 := hk.2.2.2.2.2.2.1
  have key : ∀ (w1 : zW) (L : List (Nat × Nat × Bool)), L.length < 10 → (∀ x, x < 36 → gI w1 28 x = nI (dpS S x)) → (∀ x, x < 36 → gI w1 29 x = nI (owS S x)) → gL w1 10 2 = roS S → gI w1 10 3 = nI (raS S) → gI w1 10 6 = nI (drS S) → gI w1 10 5 = nI L.length → (∀ j e, L[j]? = some e → gI w1 30 (3 * j) = nI e.1 ∧ gI w1 30 (3 * j + 1) = nI e.2.1 ∧ gI w1 30 (3 * j + 2) = zb e.2.2) → EQX mGI mGL w w1 → L ++ [(c, dpS S c, bt6 (roS S) c)] = notU S c → WP (d + 1) m_N_note 5 [some (.ref 10), some (.int (nI c)), none] [] w1 Q := by
    intro w1 L hL h1 h2 h3 h4 h5 h6 h7 hX hU
    have fin : ∀ v : Int32, v = zb (bt6 (roS S) c) → WP (d + 1) m_N_note 9 [some (.ref 10), none, none] [.int v, .int (3 * gI w1 10 5 + 2), .ref 30] (sI (sI w1 30 (3 * gI w1 10 5).toNatClampNeg (nI c)) 30 (3 * gI w1 10 5 + 1).toNatClampNeg (gI w1 28 (nI c).toNatClampNeg)) Q := by
      rintro v rfl
      rw [h6, n3, n2, n1, nI_clamp (by omega), nI_clamp (by omega), hcl, h1 c hc]
      refine t_N_note_9 (vp_in_lt (by omega) (by decide)) ?_
      rw [nI_clamp (by omega)]
      rw [gI_sI _ 30 _ _ 10 5, if_neg (by omega), gI_sI _ 30 _ _ 10 5, if_neg (by omega), h6, n1]
      refine h _ ⟨fun x hx => ?_, fun x hx => ?_, h3, ?_, ?_, ?_, fun j e he => ?_⟩ ((((hX.pI _ rfl).pI _ rfl).pI _ rfl).pI _ rfl)
      · simp only [gI_sI]
        rw [if_neg (by omega), if_neg (by omega), if_neg (by omega), if_neg (by omega)]; exact h1 x hx
      · simp only [gI_sI]
        rw [if_neg (by omega), if_neg (by omega), if_neg (by omega), if_neg (by omega)]; exact h2 x hx
      · simp only [gI_sI]
        rw [if_neg (by omega), if_neg (by omega), if_neg (by omega), if_neg (by omega)]; exact h4
      · simp only [gI_sI]
        rw [if_neg (by omega), if_neg (by omega), if_neg (by omega), if_neg (by omega)]; exact h5
      · rw [gI_sI, if_pos (by simp)]
        show _ = nI (notU S c).length
        rw [← hU]; simp
      · have he : (notU S c)[j]? = some e := he
        rw [← hU] at he
        simp only [gI_sI]
        by_cases q : j < L.length
        · rw [List.getElem?_append_left q] at he
          obtain ⟨a1, a2, a3⟩ := h7 j e he
          refine ⟨?_, ?_, ?_⟩
          · rw [if_neg (by omega), if_neg (by omega), if_neg (by omega), if_neg (by omega)]; exact a1
          · rw [if_neg (by omega), if_neg (by omega), if_neg (by omega), if_neg (by omega)]; exact a2
          · rw [if_neg (by omega), if_neg (by omega), if_neg (by omega), if_neg (by omega)]; exact a3
        · rw [List.getElem?_append_right (by omega)] at he
          have hj : j - L.length < 1 := (List.getElem?_eq_some_iff.mp he).1
          have : j = L.length := by omega
          subst this
          simp at he
          rw [← he]
          refine ⟨?_, ?_, ?_⟩
          · rw [if_neg (by omega), if_neg (by omega), if_neg (by omega), if_pos (by simp)]
          · rw [if_neg (by omega), if_neg (by omega), if_pos (by simp)]
          · rw [if_neg (by omega), if_pos (by simp)]
    refine t_N_note_5 (by rw [h6, n3]; exact vp_in_lt (by omega) (by decide)) (vp_in_lt hc (by decide)) (by rw [h6, n3, n1]; exact vp_in_lt (by omega) (by decide)) (s_N_has (by omega) (t_N_note_6 (fun g => t_N_note_8 (fin _ ?_)) (fun g => t_N_note_7 (fin _ ?_))))
    · rw [h3] at g; exact g.symm
    · rw [h3] at g
      rw [zb_f.mp g]; rfl
  obtain ⟨h1, h2, h3, h4, h5, h6, h7⟩ := hG
  refine n_N_note (t_N_note_0 (fun g => ?_) (fun g => ?_))
  · have hne : ¬ (unS S).length = 10 := fun e => g (by rw [h6, e]; rfl)
    exact key w (unS S) (by omega) h1 h2 h3 h4 h5 h6 h7 EQX.rf (by unfold notU; rw [if_neg hne])
  · have he : (unS S).length = 10 := by
      rw [h6] at g
      exact (nI_eqk (k := 10) (by omega) (by decide)).mp g
    refine t_N_note_1 (lp_N_note (w0 := w) 27 0 w rfl (fun k => by rw [if_neg (by omega)]) EQX.rf (fun w' hw hx => t_N_note_4 ?_))
    have hI : ∀ o k, ¬ o = 30 → gI w' o k = gI w o k := fun o k ho => hx.1 o k (by simp [ho])
    refine key _ ((unS S).drop 1) (by rw [List.length_drop]; omega) (fun x hx => ?_) (fun x hx => ?_) ?_ ?_ ?_ ?_ (fun j e hj => ?_) ?_ (by unfold notU; rw [if_pos he])
    · rw [gI_sI, if_neg (by omega), hI _ _ (by decide)]; exact h1 x hx
    · rw [gI_sI, if_neg (by omega), hI _ _ (by decide)]; exact h2 x hx
    · rw [gL_sI, hx.2 10 2 rfl]; exact h3
    · rw [gI_sI, if_neg (by omega), hI _ _ (by decide)]; exact h4
    · rw [gI_sI, if_neg (by omega), hI _ _ (by decide)]; exact h5
    · rw [gI_sI, if_pos ⟨rfl, rfl⟩, hI _ _ (by decide), h6, he, List.length_drop, he]
      decide +kernel
    · rw [List.getElem?_drop] at hj
      have hj9 : 1 + j < 10 := by
        have := (List.getElem?_eq_some_iff.mp hj).1
        omega
      obtain ⟨a1, a2, a3⟩ := h7 (1 + j) e hj
      simp only [gI_sI]
      refine ⟨?_, ?_, ?_⟩
      · rw [if_neg (by omega), hw, if_pos (by omega), show 3 * j + 3 = 3 * (1 + j) by omega]; exact a1
      · rw [if_neg (by omega), hw, if_pos (by omega), show 3 * j + 1 + 3 = 3 * (1 + j) + 1 by omega]; exact a2
      · rw [if_neg (by omega), hw, if_pos (by omega), show 3 * j + 2 + 3 = 3 * (1 + j) + 2 by omega]; exact a3
    · refine EQX.pI ⟨fun o k q => hI o k (fun e => by rw [e] at q; cases q), fun o k _ => hx.2 o k rfl⟩ _ rfl
theorem u_N_put {d : Nat} {w : zW} {Q : zQ} {S : zS} {c n : Nat} {b : Bool} (hG : GN w S) (hc : c < 36) (h : ∀ w', GN w' (putS S c n (if b then roS S ||| b1 c else roS S &&& (b1 c ^^^ (-1)))) → EQX mGI mGL w w' → Q none w') : WM d m_N_put 4 [.ref 10, .int (nI c), .int (nI n), .int (zb b)] w Q := by
  have hcl : (nI c).toNatClampNeg = c := nI_clamp (by omega)
  have h3 : gL w 10 2 = roS S := hG.2.2.1
  refine n_N_put (t_N_put_0 (vp_in_lt hc (by decide)) (fun g => t_N_put_2 (t_N_put_3 ?_)) (fun g => t_N_put_1 (t_N_put_3 ?_)))
  · rw [hcl, gL_sI, h3]
    rw [zb_t.mp g] at h
    exact h _ (GN_put hG) ((EQX.rf.pI _ rfl).pL _ rfl)
  · rw [hcl, gL_sI, h3]
    rw [zb_f.mp g] at h
    exact h _ (GN_put hG) ((EQX.rf.pI _ rfl).pL _ rfl)
theorem u_N_dig {d : Nat} {w : zW} {Q : zQ} {S : zS} {x : Int32} (hG : GN w S) (hk : okS S) (h : ∀ w', GN w' (digA S x).2 → EQX mGI mGL w w' → Q (some (.int (digA S x).1)) w') : WM (d + 2) m_N_dig 2 [.ref 10, .int x] w Q := by
  unfold digA at h
  refine n_N_dig (t_N_dig_0 (s_N_isCell (t_N_dig_1 (fun g => ?_) (fun g => t_N_dig_2 ?_))))
  · have g := zb_f.mp g
    rw [if_pos g] at h
    obtain ⟨c, hc, rfl⟩ := isC_of g
    have h9 := hk.1 c hc
    rw [nI_clamp (by omega)] at h
    have e9 : nI (dpS S c) = 9 ↔ dpS S c = 9 := nI_eqk (k := 9) (by omega) (by decide)
    refine t_N_dig_3 (vp_in_lt hc (by decide)) (fun q => t_N_dig_5 (u_N_note hG hk hc (fun w1 g1 x1 => t_N_dig_6 (vp_in_lt hc (by decide)) (vp_in_lt hc (by decide)) (vp_in_lt hc (by decide)) ?_))) (fun q => t_N_dig_4 ?_)
    · rw [gN_at hG hc, e9] at q
      rw [if_pos (by omega)] at h
      rw [gN_at g1 hc, n1, gI_sI, if_pos ⟨rfl, rfl⟩, nI_clamp (by omega)]
      exact h _ (GN_dep g1) (x1.pI _ rfl)
    · rw [gN_at hG hc, e9] at q
      rw [if_neg (by omega)] at h
      exact h w hG EQX.rf
  · rw [if_neg (by rw [zb_t.mp g]; decide)] at h
    exact h w hG EQX.rf
theorem u_N_fill {d : Nat} {w : zW} {Q : zQ} {S : zS} {x : Int32} (hG : GN w S) (hk : okS S) (h : ∀ w', GN w' (filA S x).2 → EQX mGI mGL w w' → Q (some (.int (filA S x).1)) w') : WM (d + 2) m_N_fill 3 [.ref 10, .int x] w Q := by
  unfold filA at h
  refine n_N_fill (t_N_fill_0 (s_N_isCell (t_N_fill_1 (fun g => ?_) (fun g => t_N_fill_2 ?_))))
  · have g := zb_f.mp g
    rw [if_pos g] at h
    obtain ⟨c, hc, rfl⟩ := isC_of g
    have h9 := hk.1 c hc
    rw [nI_clamp (by omega)] at h
    have e0 : nI (dpS S c) = 0 ↔ dpS S c = 0 := nI_eqk (k := 0) (by omega) (by decide)
    refine t_N_fill_3 (vp_in_lt hc (by decide)) (fun q => t_N_fill_5 (u_N_note hG hk hc (fun w1 g1 x1 => t_N_fill_6 (u_N_put (n := 0) (b := false) g1 hc (fun w2 g2 x2 => t_N_fill_7 ?_))))) (fun q => t_N_fill_4 ?_)
    · rw [gN_at hG hc, e0] at q
      rw [if_neg q] at h
      rw [gN_at hG hc]
      exact h w2 g2 (x1.tr x2)
    · rw [gN_at hG hc, e0] at q
      rw [if_pos q] at h
      exact h w hG EQX.rf
  · rw [if_neg (by rw [zb_t.mp g]; decide)] at h
    exact h w hG EQX.rf
theorem u_N_roof {d : Nat} {w : zW} {Q : zQ} {S : zS} {x : Int32} (hG : GN w S) (hk : okS S) (h : ∀ w', GN w' (rofA S x).2 → EQX mGI mGL w w' → Q (some (.int (rofA S x).1)) w') : WM (d + 2) m_N_roof 2 [.ref 10, .int x] w Q := by
  unfold rofA at h
  refine n_N_roof (t_N_roof_0 (s_N_isCell (t_N_roof_1 (fun g => ?_) (fun g => t_N_roof_2 ?_))))
  · have g := zb_f.mp g
    rw [if_pos g] at h
    obtain ⟨c, hc, rfl⟩ := isC_of g
    have h9 := hk.1 c hc
    rw [nI_clamp (by omega)] at h
    have e0 : nI (dpS S c) = 0 ↔ dpS S c = 0 := nI_eqk (k := 0) (by omega) (by decide)
    refine t_N_roof_3 (vp_in_lt hc (by decide)) (fun q => t_N_roof_5 (u_N_note hG hk hc (fun w1 g1 x1 => t_N_roof_6 (s_N_has (by omega) ?_)))) (fun q => t_N_roof_4 ?_)
    · rw [gN_at hG hc, e0] at q
      rw [if_neg q] at h
      have h5 : gL w1 10 2 = roS S := g1.2.2.1
      rw [h5]
      have eb : bt6 (roS S ^^^ zsl 1 (nI c)) c = !bt6 (roS S) c := by
        show bt6 (roS S ^^^ b1 c) c = _
        rw [bx_tog (by omega), if_pos rfl]
      rw [eb]
      have fin := h (sL w1 10 2 (roS S ^^^ zsl 1 (nI c))) (by
        obtain ⟨a1, a2, a3, a4, a5, a6, a7⟩ := g1
        exact ⟨a1, a2, rfl, a4, a5, a6, a7⟩) (x1.pL _ rfl)
      refine t_N_roof_7 (fun q => t_N_roof_9 (t_N_roof_10 ?_)) (fun q => t_N_roof_8 (t_N_roof_10 ?_))
      · rw [q] at fin; exact fin
      · rw [zb_f.mp q] at fin; exact fin
    · rw [gN_at hG hc, e0] at q
      rw [if_pos q] at h
      exact h w hG EQX.rf
  · rw [if_neg (by rw [zb_t.mp g]; decide)] at h
    exact h w hG EQX.rf
theorem EQX.gN {w w' : zW} (h : EQX mGI mGL w w') : EQX mNI mNL w w' := h.widen (fun o k q => by
    cases e : mGI o k with
    | false => rfl
    | true =>
      unfold mGI at e
      simp only [Bool.or_eq_true, Bool.and_eq_true, beq_iff_eq] at e
      rcases e with ((⟨e1, (e2 | e2) | e2⟩ | e1) | e1) | e1 <;> first | (rw [e1, e2] at q; cases q) | (rw [e1] at q; cases q)) (fun o k q => by
    cases e : mGL o k with
    | false => rfl
    | true =>
      unfold mGL at e
      simp only [Bool.and_eq_true, beq_iff_eq] at e
      rw [e.1, e.2] at q; cases q)
