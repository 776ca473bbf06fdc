/-! ===== the reference's ground ===== -/
theorem gN_at {w : zW} {S : zS} (h : GN w S) {c : Nat} (hc : c < 36) : gI w 28 (nI c).toNatClampNeg = nI (dpS S c) := by rw [nI_clamp (by omega)]; exact h.1 c hc
theorem n3 (k : Nat) : (3 : Int32) * nI k = nI (3 * k) := pk_mul 3 k
theorem n1 (k : Nat) : nI k + (1 : Int32) = nI (k + 1) := nI_1 k
theorem n2 (k : Nat) : nI k + (2 : Int32) = nI (k + 2) := nI_add k 2
theorem n3a (k : Nat) : nI k + (3 : Int32) = nI (k + 3) := nI_add k 3
/-- the older ones go one place down -/
theorem lp_N_note {d : Nat} {Q : zQ} {c : Nat} {w0 : zW} : ∀ (n j : Nat) (w1 : zW), j + n = 27 → (∀ k, gI w1 30 k = if k < j then gI w0 30 (k + 3) else gI w0 30 k) → EQX (fun o _ => o == 30) (fun _ _ => false) w0 w1 → (∀ w', (∀ k, gI w' 30 k = if k < 27 then gI w0 30 (k + 3) else gI w0 30 k) → EQX (fun o _ => o == 30) (fun _ _ => false) w0 w' → WP d m_N_note 4 [some (.ref 10), some (.int (nI c)), none] [] w' Q) → WP d m_N_note 2 [some (.ref 10), some (.int (nI c)), some (.int (nI j))] [] w1 Q
  | 0, j, w1, hj, h1, hx, h => by
    have e : j = 27 := by omega
    subst e
    exact t_N_note_2 (fun _ => h w1 h1 hx) (fun g => absurd (Int32.le_refl _) g)
  | n + 1, j, w1, hj, h1, hx, h => by
    refine t_N_note_2 (fun g => absurd g (nI_ge (show j < 27 by omega) (by decide))) (fun _ => t_N_note_3 (by rw [n3a]; exact vp_in_lt (by omega) (by decide)) (vp_in_lt (by omega) (by decide)) ?_)
    rw [n3a, nI_clamp (by omega), nI_clamp (by omega), n1]
    refine lp_N_note n (j + 1) _ (by omega) (fun k => ?_) (hx.pI _ rfl) h
    rw [gI_sI, h1, h1]
    by_cases e : k = j
    · subst e
      rw [if_pos ⟨rfl, rfl⟩, if_neg (by omega), if_pos (by omega)]
    · rw [if_neg (fun q => e q.2)]
      by_cases e2 : k < j
      · rw [if_pos e2, if_pos (by omega)]
      · rw [if_neg e2, if_neg (by omega)]
theorem s_N_note {d : Nat} {w : zW} {Q : zQ} {S : zS} {c : Nat} (hG : GN w S) (hk : okS S) (hc : c < 36) (h : ∀ w', GN w' (notS S c) → EQX mNI mNL w w' → Q none w') : WM (d + 1) m_N_note 3 [.ref 10, .int (nI c)] w Q := by
  have hcl : (nI c).toNatClampNeg = c := nI_clamp (by omega)
  have hlen : (unS S).length ≤ 10 := hk.2.2.2.2.2.2.1
  have key : ∀ (w1 : zW) (L : List (Nat × Nat × Bool)), L.length < 10 → (∀ x, x < 36 → gI w1 28 x = nI (dpS S x)) → (∀ x, x < 36 → gI w1 29 x = nI (owS S x)) → gL w1 10 2 = roS S → gI w1 10 3 = nI (raS S) → gI w1 10 6 = nI (drS S) → gI w1 10 5 = nI L.length → (∀ j e, L[j]? = some e → gI w1 30 (3 * j) = nI e.1 ∧ gI w1 30 (3 * j + 1) = nI e.2.1 ∧ gI w1 30 (3 * j + 2) = zb e.2.2) → EQX mNI mNL w w1 → L ++ [(c, dpS S c, bt6 (roS S) c)] = notU S c → WP (d + 1) m_N_note 5 [some (.ref 10), some (.int (nI c)), none] [] w1 Q := by
    intro w1 L hL h1 h2 h3 h4 h5 h6 h7 hX hU
    have fin : ∀ v : Int32, v = zb (bt6 (roS S) c) → WP (d + 1) m_N_note 9 [some (.ref 10), none, none] [.int v, .int (3 * gI w1 10 5 + 2), .ref 30] (sI (sI w1 30 (3 * gI w1 10 5).toNatClampNeg (nI c)) 30 (3 * gI w1 10 5 + 1).toNatClampNeg (gI w1 28 (nI c).toNatClampNeg)) Q := by
      rintro v rfl
      rw [h6, n3, n2, n1, nI_clamp (by omega), nI_clamp (by omega), hcl, h1 c hc]
      refine t_N_note_9 (vp_in_lt (by omega) (by decide)) ?_
      rw [nI_clamp (by omega)]
      rw [gI_sI _ 30 _ _ 10 5, if_neg (by omega), gI_sI _ 30 _ _ 10 5, if_neg (by omega), h6, n1]
      refine h _ ⟨fun x hx => ?_, fun x hx => ?_, h3, ?_, ?_, ?_, fun j e he => ?_⟩ ((((hX.pI _ rfl).pI _ rfl).pI _ rfl).pI _ rfl)
      · simp only [gI_sI]
        rw [if_neg (by omega), if_neg (by omega), if_neg (by omega), if_neg (by omega)]; exact h1 x hx
      · simp only [gI_sI]
        rw [if_neg (by omega), if_neg (by omega), if_neg (by omega), if_neg (by omega)]; exact h2 x hx
      · simp only [gI_sI]
        rw [if_neg (by omega), if_neg (by omega), if_neg (by omega), if_neg (by omega)]; exact h4
      · simp only [gI_sI]
        rw [if_neg (by omega), if_neg (by omega), if_neg (by omega), if_neg (by omega)]; exact h5
      · rw [gI_sI, if_pos (by simp)]
        show _ = nI (notU S c).length
        rw [← hU]; simp
      · have he : (notU S c)[j]? = some e := he
        rw [← hU] at he
        simp only [gI_sI]
        by_cases q : j < L.length
        · rw [List.getElem?_append_left q] at he
          obtain ⟨a1, a2, a3⟩ := h7 j e he
          refine ⟨?_, ?_, ?_⟩
          · rw [if_neg (by omega), if_neg (by omega), if_neg (by omega), if_neg (by omega)]; exact a1
          · rw [if_neg (by omega), if_neg (by omega), if_neg (by omega), if_neg (by omega)]; exact a2
          · rw [if_neg (by omega), if_neg (by omega), if_neg (by omega), if_neg (by omega)]; exact a3
        · rw [List.getElem?_append_right (by omega)] at he
          have hj : j - L.length < 1 := (List.getElem?_eq_some_iff.mp he).1
          have : j = L.length := by omega
          subst this
          simp at he
          rw [← he]
          refine ⟨?_, ?_, ?_⟩
          · rw [if_neg (by omega), if_neg (by omega), if_neg (by omega), if_pos (by simp)]
          · rw [if_neg (by omega), if_neg (by omega), if_pos (by simp)]
          · rw [if_neg (by omega), if_pos (by simp)]
    refine t_N_note_5 (by rw [h6, n3]; exact vp_in_lt (by omega) (by decide)) (vp_in_lt hc (by decide)) (by rw [h6, n3, n1]; exact vp_in_lt (by omega) (by decide)) (s_N_has (by omega) (t_N_note_6 (fun g => t_N_note_8 (fin _ ?_)) (fun g => t_N_note_7 (fin _ ?_))))
    · rw [h3] at g; exact g.symm
    · rw [h3] at g
      rw [zb_f.mp g]; rfl
  obtain ⟨h1, h2, h3, h4, h5, h6, h7⟩ := hG
  refine n_N_note (t_N_note_0 (fun g => ?_) (fun g => ?_))
  · have hne : ¬ (unS S).length = 10 := fun e => g (by rw [h6, e]; rfl)
    exact key w (unS S) (by omega) h1 h2 h3 h4 h5 h6 h7 EQX.rf (by unfold notU; rw [if_neg hne])
  · have he : (unS S).length = 10 := by
      rw [h6] at g
      exact (nI_eqk (k := 10) (by omega) (by decide)).mp g
    refine t_N_note_1 (lp_N_note (w0 := w) 27 0 w rfl (fun k => by rw [if_neg (by omega)]) EQX.rf (fun w' hw hx => t_N_note_4 ?_))
    have hI : ∀ o k, ¬ o = 30 → gI w' o k = gI w o k := fun o k ho => hx.1 o k (by simp [ho])
    refine key _ ((unS S).drop 1) (by rw [List.length_drop]; omega) (fun x hx => ?_) (fun x hx => ?_) ?_ ?_ ?_ ?_ (fun j e hj => ?_) ?_ (by unfold notU; rw [if_pos he])
    · rw [gI_sI, if_neg (by omega), hI _ _ (by decide)]; exact h1 x hx
    · rw [gI_sI, if_neg (by omega), hI _ _ (by decide)]; exact h2 x hx
    · rw [gL_sI, hx.2 10 2 rfl]; exact h3
    · rw [gI_sI, if_neg (by omega), hI _ _ (by decide)]; exact h4
    · rw [gI_sI, if_neg (by omega), hI _ _ (by decide)]; exact h5
    · rw [gI_sI, if_pos ⟨rfl, rfl⟩, hI _ _ (by decide), h6, he, List.length_drop, he]
      decide +kernel
    · rw [List.getElem?_drop] at hj
      have hj9 : 1 + j < 10 := by
        have := (List.getElem?_eq_some_iff.mp hj).1
        omega
      obtain ⟨a1, a2, a3⟩ := h7 (1 + j) e hj
      simp only [gI_sI]
      refine ⟨?_, ?_, ?_⟩
      · rw [if_neg (by omega), hw, if_pos (by omega), show 3 * j + 3 = 3 * (1 + j) by omega]; exact a1
      · rw [if_neg (by omega), hw, if_pos (by omega), show 3 * j + 1 + 3 = 3 * (1 + j) + 1 by omega]; exact a2
      · rw [if_neg (by omega), hw, if_pos (by omega), show 3 * j + 2 + 3 = 3 * (1 + j) + 2 by omega]; exact a3
    · refine EQX.pI ⟨fun o k q => hI o k (fun e => by rw [e] at q; cases q), fun o k _ => hx.2 o k rfl⟩ _ rfl
theorem GN_put {w : zW} {S : zS} {c n : Nat} {ro : Int64} (h : GN w S) : GN (sL (sI w 28 c (nI n)) 10 2 ro) (putS S c n ro) := by
  obtain ⟨h1, h2, h3, h4, h5, h6, h7⟩ := h
  refine ⟨fun x hx => ?_, h2, rfl, h4, h5, h6, h7⟩
  rw [gI_sL, gI_sI]
  by_cases e : x = c
  · rw [if_pos ⟨rfl, e⟩]; simp [dpS, putS, up1, e]
  · rw [if_neg (fun q => e q.2)]
    simp only [putS, up1, dpS, e, if_false]
    exact h1 x hx
theorem s_N_put {d : Nat} {w : zW} {Q : zQ} {S : zS} {c n : Nat} {b : Bool} (hG : GN w S) (hc : c < 36) (h : ∀ w', GN w' (putS S c n (if b then roS S ||| b1 c else roS S &&& (b1 c ^^^ (-1)))) → EQX mNI mNL w w' → Q none w') : WM d m_N_put 4 [.ref 10, .int (nI c), .int (nI n), .int (zb b)] w Q := by
  have hcl : (nI c).toNatClampNeg = c := nI_clamp (by omega)
  have h3 : gL w 10 2 = roS S := hG.2.2.1
  refine n_N_put (t_N_put_0 (vp_in_lt hc (by decide)) (fun g => t_N_put_2 (t_N_put_3 ?_)) (fun g => t_N_put_1 (t_N_put_3 ?_)))
  · rw [hcl, gL_sI, h3]
    rw [zb_t.mp g] at h
    exact h _ (GN_put hG) ((EQX.rf.pI _ rfl).pL _ rfl)
  · rw [hcl, gL_sI, h3]
    rw [zb_f.mp g] at h
    exact h _ (GN_put hG) ((EQX.rf.pI _ rfl).pL _ rfl)
theorem GN_dep {w : zW} {S : zS} {c n : Nat} (h : GN w S) : GN (sI w 28 c (nI n)) (putS S c n (roS S)) := by
  obtain ⟨h1, h2, h3, h4, h5, h6, h7⟩ := h
  refine ⟨fun x hx => ?_, h2, h3, h4, h5, h6, h7⟩
  rw [gI_sI]
  by_cases e : x = c
  · rw [if_pos ⟨rfl, e⟩]; simp [dpS, putS, up1, e]
  · rw [if_neg (fun q => e q.2)]
    simp only [putS, up1, dpS, e, if_false]
    exact h1 x hx
/-- the county's dig, fill, roof, as they answer -/
def digA (S : zS) (x : Int32) : Int32 × zS := if isC x = true then (if dpS S x.toNatClampNeg < 9 then (nI (dpS S x.toNatClampNeg + 1), digS S x.toNatClampNeg) else (-3, S)) else (-1, S)
def filA (S : zS) (x : Int32) : Int32 × zS := if isC x = true then (if dpS S x.toNatClampNeg = 0 then (-2, S) else (nI (dpS S x.toNatClampNeg), filS S x.toNatClampNeg)) else (-1, S)
def rofA (S : zS) (x : Int32) : Int32 × zS := if isC x = true then (if dpS S x.toNatClampNeg = 0 then (-2, S) else (zb (!bt6 (roS S) x.toNatClampNeg), rofS S x.toNatClampNeg)) else (-1, S)
theorem s_N_dig {d : Nat} {w : zW} {Q : zQ} {S : zS} {x : Int32} (hG : GN w S) (hk : okS S) (h : ∀ w', GN w' (digA S x).2 → EQX mNI mNL w w' → Q (some (.int (digA S x).1)) w') : WM (d + 2) m_N_dig 2 [.ref 10, .int x] w Q := by
  unfold digA at h
  refine n_N_dig (t_N_dig_0 (s_N_isCell (t_N_dig_1 (fun g => ?_) (fun g => t_N_dig_2 ?_))))
  · have g := zb_f.mp g
    rw [if_pos g] at h
    obtain ⟨c, hc, rfl⟩ := isC_of g
    have h9 := hk.1 c hc
    rw [nI_clamp (by omega)] at h
    have e9 : nI (dpS S c) = 9 ↔ dpS S c = 9 := nI_eqk (k := 9) (by omega) (by decide)
    refine t_N_dig_3 (vp_in_lt hc (by decide)) (fun q => t_N_dig_5 (s_N_note hG hk hc (fun w1 g1 x1 => t_N_dig_6 (vp_in_lt hc (by decide)) (vp_in_lt hc (by decide)) (vp_in_lt hc (by decide)) ?_))) (fun q => t_N_dig_4 ?_)
    · rw [gN_at hG hc, e9] at q
      rw [if_pos (by omega)] at h
      rw [gN_at g1 hc, n1, gI_sI, if_pos ⟨rfl, rfl⟩, nI_clamp (by omega)]
      exact h _ (GN_dep g1) (x1.pI _ rfl)
    · rw [gN_at hG hc, e9] at q
      rw [if_neg (by omega)] at h
      exact h w hG EQX.rf
  · rw [if_neg (by rw [zb_t.mp g]; decide)] at h
    exact h w hG EQX.rf
theorem s_N_fill {d : Nat} {w : zW} {Q : zQ} {S : zS} {x : Int32} (hG : GN w S) (hk : okS S) (h : ∀ w', GN w' (filA S x).2 → EQX mNI mNL w w' → Q (some (.int (filA S x).1)) w') : WM (d + 2) m_N_fill 3 [.ref 10, .int x] w Q := by
  unfold filA at h
  refine n_N_fill (t_N_fill_0 (s_N_isCell (t_N_fill_1 (fun g => ?_) (fun g => t_N_fill_2 ?_))))
  · have g := zb_f.mp g
    rw [if_pos g] at h
    obtain ⟨c, hc, rfl⟩ := isC_of g
    have h9 := hk.1 c hc
    rw [nI_clamp (by omega)] at h
    have e0 : nI (dpS S c) = 0 ↔ dpS S c = 0 := nI_eqk (k := 0) (by omega) (by decide)
    refine t_N_fill_3 (vp_in_lt hc (by decide)) (fun q => t_N_fill_5 (s_N_note hG hk hc (fun w1 g1 x1 => t_N_fill_6 (s_N_put (n := 0) (b := false) g1 hc (fun w2 g2 x2 => t_N_fill_7 ?_))))) (fun q => t_N_fill_4 ?_)
    · rw [gN_at hG hc, e0] at q
      rw [if_neg q] at h
      rw [gN_at hG hc]
      exact h w2 g2 (x1.tr x2)
    · rw [gN_at hG hc, e0] at q
      rw [if_pos q] at h
      exact h w hG EQX.rf
  · rw [if_neg (by rw [zb_t.mp g]; decide)] at h
    exact h w hG EQX.rf
theorem s_N_roof {d : Nat} {w : zW} {Q : zQ} {S : zS} {x : Int32} (hG : GN w S) (hk : okS S) (h : ∀ w', GN w' (rofA S x).2 → EQX mNI mNL w w' → Q (some (.int (rofA S x).1)) w') : WM (d + 2) m_N_roof 2 [.ref 10, .int x] w Q := by
  unfold rofA at h
  refine n_N_roof (t_N_roof_0 (s_N_isCell (t_N_roof_1 (fun g => ?_) (fun g => t_N_roof_2 ?_))))
  · have g := zb_f.mp g
    rw [if_pos g] at h
    obtain ⟨c, hc, rfl⟩ := isC_of g
    have h9 := hk.1 c hc
    rw [nI_clamp (by omega)] at h
    have e0 : nI (dpS S c) = 0 ↔ dpS S c = 0 := nI_eqk (k := 0) (by omega) (by decide)
    refine t_N_roof_3 (vp_in_lt hc (by decide)) (fun q => t_N_roof_5 (s_N_note hG hk hc (fun w1 g1 x1 => t_N_roof_6 (s_N_has (by omega) ?_)))) (fun q => t_N_roof_4 ?_)
    · rw [gN_at hG hc, e0] at q
      rw [if_neg q] at h
      have h5 : gL w1 10 2 = roS S := g1.2.2.1
      rw [h5]
      have eb : bt6 (roS S ^^^ zsl 1 (nI c)) c = !bt6 (roS S) c := by
        show bt6 (roS S ^^^ b1 c) c = _
        rw [bx_tog (by omega), if_pos rfl]
      rw [eb]
      have fin := h (sL w1 10 2 (roS S ^^^ zsl 1 (nI c))) (by
        obtain ⟨a1, a2, a3, a4, a5, a6, a7⟩ := g1
        exact ⟨a1, a2, rfl, a4, a5, a6, a7⟩) (x1.pL _ rfl)
      refine t_N_roof_7 (fun q => t_N_roof_9 (t_N_roof_10 ?_)) (fun q => t_N_roof_8 (t_N_roof_10 ?_))
      · rw [q] at fin; exact fin
      · rw [zb_f.mp q] at fin; exact fin
    · rw [gN_at hG hc, e0] at q
      rw [if_pos q] at h
      exact h w hG EQX.rf
  · rw [if_neg (by rw [zb_t.mp g]; decide)] at h
    exact h w hG EQX.rf
/-! the county's own doors -/
theorem isC_f {x : Int32} : isC x = false ↔ (x < 0 ∨ (36 : Int32) ≤ x) := by
  unfold isC inI
  rw [Bool.and_eq_false_iff, decide_eq_false_iff_not, decide_eq_false_iff_not]
  simp only [Int32.le_iff_toInt_le, Int32.lt_iff_toInt_lt]
  have e0 : (0 : Int32).toInt = 0 := by decide
  have e1 : (35 : Int32).toInt = 35 := by decide
  have e2 : (36 : Int32).toInt = 36 := by decide
  rw [e0, e1, e2]
  omega
theorem s_C_isCell {d : Nat} {w : zW} {Q : zQ} {x : Int32} (h : Q (some (.int (zb (isC x)))) w) : WM d m_C_isCell 1 [.int x] w Q := by
  refine n_C_isCell (t_C_isCell_0 (fun g => t_C_isCell_3 (t_C_isCell_4 (Or.inl rfl) ?_)) (fun g => t_C_isCell_1 (fun g2 => t_C_isCell_3 (t_C_isCell_4 (Or.inl rfl) ?_)) (fun g2 => t_C_isCell_2 (t_C_isCell_4 (Or.inr rfl) ?_))))
  · rw [isC_f.mpr (Or.inl g)] at h; exact h
  · rw [isC_f.mpr (Or.inr g2)] at h; exact h
  · have : isC x = true := by
      cases e : isC x with
      | true => rfl
      | false => exact absurd (isC_f.mp e) (by simp [g, g2])
    rw [this] at h; exact h
theorem s_C_dig {d : Nat} {w : zW} {Q : zQ} {S : zS} {x : Int32} (hG : GC w 1 S) (hk : okS S) (h : ∀ w', GC w' 1 (digA S x).2 → EQX mCI mCL w w' → Q (some (.int (digA S x).1)) w') : WM (d + 3) m_C_dig 2 [.ref 0, .int x] w Q := by
  unfold digA at h
  refine n_C_dig (t_C_dig_0 (s_C_isCell (t_C_dig_1 (fun g => t_C_dig_4 (t_C_dig_5 ?_)) (fun g => ?_))))
  · rw [if_neg (by rw [zb_t.mp g]; decide)] at h
    exact h w hG EQX.rf
  · have g := zb_f.mp g
    rw [if_pos g] at h
    obtain ⟨c, hc, rfl⟩ := isC_of g
    rw [nI_clamp (by omega)] at h
    refine t_C_dig_2 (s_G_toDig hG hk hc (fun q => t_C_dig_3 (t_C_dig_5 ?_)) (fun q w' g1 x1 => t_C_dig_3 (t_C_dig_5 ?_)))
    · rw [if_neg q] at h; exact h w hG EQX.rf
    · rw [if_pos q] at h; exact h w' g1 x1
theorem s_C_fill {d : Nat} {w : zW} {Q : zQ} {S : zS} {x : Int32} (hG : GC w 1 S) (hk : okS S) (h : ∀ w', GC w' 1 (filA S x).2 → EQX mCI mCL w w' → Q (some (.int (filA S x).1)) w') : WM (d + 3) m_C_fill 2 [.ref 0, .int x] w Q := by
  unfold filA at h
  refine n_C_fill (t_C_fill_0 (s_C_isCell (t_C_fill_1 (fun g => t_C_fill_4 (t_C_fill_5 ?_)) (fun g => ?_))))
  · rw [if_neg (by rw [zb_t.mp g]; decide)] at h
    exact h w hG EQX.rf
  · have g := zb_f.mp g
    rw [if_pos g] at h
    obtain ⟨c, hc, rfl⟩ := isC_of g
    rw [nI_clamp (by omega)] at h
    refine t_C_fill_2 (s_G_toFill hG hk hc (fun q => t_C_fill_3 (t_C_fill_5 ?_)) (fun q w' g1 x1 => t_C_fill_3 (t_C_fill_5 ?_)))
    · rw [if_pos q] at h; exact h w hG EQX.rf
    · rw [if_neg q] at h; exact h w' g1 x1
theorem s_C_roof {d : Nat} {w : zW} {Q : zQ} {S : zS} {x : Int32} (hG : GC w 1 S) (hk : okS S) (h : ∀ w', GC w' 1 (rofA S x).2 → EQX mCI mCL w w' → Q (some (.int (rofA S x).1)) w') : WM (d + 3) m_C_roof 2 [.ref 0, .int x] w Q := by
  unfold rofA at h
  refine n_C_roof (t_C_roof_0 (s_C_isCell (t_C_roof_1 (fun g => t_C_roof_4 (t_C_roof_5 ?_)) (fun g => ?_))))
  · rw [if_neg (by rw [zb_t.mp g]; decide)] at h
    exact h w hG EQX.rf
  · have g := zb_f.mp g
    rw [if_pos g] at h
    obtain ⟨c, hc, rfl⟩ := isC_of g
    rw [nI_clamp (by omega)] at h
    refine t_C_roof_2 (s_G_toRoof hG hk hc (fun q => t_C_roof_3 (t_C_roof_5 ?_)) (fun q w' g1 x1 => t_C_roof_3 (t_C_roof_5 ?_)))
    · rw [if_pos q] at h; exact h w hG EQX.rf
    · rw [if_neg q] at h; exact h w' g1 x1
