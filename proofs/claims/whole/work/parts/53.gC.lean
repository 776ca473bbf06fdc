/-! ===== the county's ground ===== -/
theorem gI_cI (w : zW) (o1 o2 sp dp n a b : Nat) : gI (cI w o1 o2 sp dp n) a b = if a = o2 then (if dp ≤ b ∧ b < dp + n then gI w o1 (sp + (b - dp)) else gI w o2 b) else gI w a b := rfl
theorem gL_cI (w : zW) (o1 o2 sp dp n a b : Nat) : gL (cI w o1 o2 sp dp n) a b = gL w a b := rfl
theorem gL_cL (w : zW) (o1 o2 sp dp n a b : Nat) : gL (cL w o1 o2 sp dp n) a b = if a = o2 then (if dp ≤ b ∧ b < dp + n then gL w o1 (sp + (b - dp)) else gL w o2 b) else gL w a b := rfl
theorem gI_cL (w : zW) (o1 o2 sp dp n a b : Nat) : gI (cL w o1 o2 sp dp n) a b = gI w a b := rfl
theorem EQX.xI {mI mL : Nat → Nat → Bool} {a b : zW} (h : EQX mI mL a b) {o1 o sp dp n : Nat} (hm : ∀ k, mI o k = true) : EQX mI mL a (cI b o1 o sp dp n) := ⟨fun x y q => by
  rw [gI_cI, if_neg (fun e => by rw [e, hm] at q; cases q)]
  exact h.1 x y q, fun x y q => h.2 x y q⟩
theorem nI_le0 {n : Nat} (h : n < 2 ^ 31) : nI n ≤ 0 ↔ n = 0 := by
  rw [show (0 : Int32) = nI 0 from rfl, nI_leI h (by decide)]; omega
theorem nI_eqk {n k : Nat} (h : n < 2 ^ 31) (hk : k < 2 ^ 31) : nI n = nI k ↔ n = k := nI_eq h hk
theorem op_put1 (S : zS) {c n : Nat} (hc : c < 36) (hn : 0 < n) (ro : Int64) : opS S ||| b1 c = opS (putS S c n ro) := by
  refine mk_eq ((SET.mk _).or (SET.one hc)) (fun i hi => ?_)
  rw [bx_or, opS, bx_mk, bx_b1 (by omega)]
  by_cases e : i = c
  · subst e; simp [dpS, putS, up1, hn]
  · simp [dpS, putS, up1, hi, e]
theorem op_put0 (S : zS) {c : Nat} (hc : c < 36) (ro : Int64) : opS S &&& (b1 c ^^^ (-1)) = opS (putS S c 0 ro) := by
  refine mk_eq ((SET.mk _).diff _) (fun i hi => ?_)
  rw [bx_diff, opS, bx_mk, bx_b1 (by omega)]
  by_cases e : i = c
  · subst e; simp [dpS, putS, up1]
  · simp [dpS, putS, up1, hi, e]
theorem ni_put1 (S : zS) {c : Nat} (hc : c < 36) (ro : Int64) : niS S ||| b1 c = niS (putS S c 9 ro) := by
  refine mk_eq ((SET.mk _).or (SET.one hc)) (fun i hi => ?_)
  rw [bx_or, niS, bx_mk, bx_b1 (by omega)]
  by_cases e : i = c
  · subst e; simp [dpS, putS, up1]
  · simp [dpS, putS, up1, hi, e]
theorem ni_put0 (S : zS) {c n : Nat} (hc : c < 36) (hn : ¬ n = 9) (ro : Int64) : niS S &&& (b1 c ^^^ (-1)) = niS (putS S c n ro) := by
  refine mk_eq ((SET.mk _).diff _) (fun i hi => ?_)
  rw [bx_diff, niS, bx_mk, bx_b1 (by omega)]
  by_cases e : i = c
  · subst e; simp [dpS, putS, up1, hn]
  · simp [dpS, putS, up1, hi, e]
/-- the roofs behind a put -/
def roP (S : zS) (c n : Nat) : Int64 := if n = 0 then roS S &&& (b1 c ^^^ (-1)) else roS S
theorem GC_put {w : zW} {S : zS} {c n : Nat} {ro : Int64} (h : GC w 1 S) : GC (sL (sL (sL (sI w 11 c (nI n)) 1 2 (opS (putS S c n ro))) 1 3 (niS (putS S c n ro))) 1 4 ro) 1 (putS S c n ro) := by
  obtain ⟨h1, h2, h3, h4, h5, h6, h7, h8, h9⟩ := h
  refine ⟨fun x hx => ?_, fun x hx => ?_, rfl, rfl, rfl, h6, h7, h8, fun j e he => ?_⟩
  · rw [gI_sL, gI_sL, gI_sL, gI_sI]
    by_cases e : x = c
    · rw [if_pos ⟨rfl, e⟩]; simp [dpS, putS, up1, e]
    · rw [if_neg (fun q => e q.2)]
      simp only [putS, up1, dpS, e, if_false]
      exact h1 x hx
  · rw [gI_sL, gI_sL, gI_sL, gI_sI, if_neg (by omega)]
    exact h2 x hx
  · rw [gI_sL, gI_sL, gI_sL, gI_sI, if_neg (by omega)]
    exact h9 j e he
theorem EQX_put {w : zW} {c : Nat} {v : Int32} {a b e : Int64} : EQX mCI mCL w (sL (sL (sL (sI w 11 c v) 1 2 a) 1 3 b) 1 4 e) := (((EQX.rf.pI v rfl).pL a rfl).pL b rfl).pL e rfl
theorem s_G_put {d : Nat} {w : zW} {Q : zQ} {S : zS} {c n : Nat} (hG : GC w 1 S) (hc : c < 36) (hn : n ≤ 9) (h : ∀ w', GC w' 1 (putS S c n (roP S c n)) → EQX mCI mCL w w' → Q none w') : WM d m_G_put 5 [.ref 1, .int (nI c), .int (nI n)] w Q := by
  have key := GC_put (c := c) (n := n) (ro := roP S c n) hG
  obtain ⟨h1, h2, h3, h4, h5, h6, h7, h8, h9⟩ := hG
  have hcl : (nI c).toNatClampNeg = c := nI_clamp (by omega)
  have e9 : (nI n = 9) ↔ n = 9 := nI_eqk (k := 9) (by omega) (by decide)
  have e0 := nI_le0 (n := n) (by omega)
  have fin : ∀ (a b e : Int64), a = opS (putS S c n (roP S c n)) → b = niS (putS S c n (roP S c n)) → e = roP S c n → Q none (sL (sL (sL (sI w 11 c (nI n)) 1 2 a) 1 3 b) 1 4 e) := by
    rintro a b e rfl rfl rfl
    exact h _ key EQX_put
  refine n_G_put (t_G_put_0 (vp_in_lt hc (by decide)) (fun g => ?_) (fun g => ?_))
  · have hn0 : n = 0 := e0.mp g
    subst hn0
    have er : roP S c 0 = roS S &&& (b1 c ^^^ (-1)) := by simp only [roP, if_true]
    rw [hcl]
    refine t_G_put_2 (t_G_put_3 (fun g9 => t_G_put_5 (t_G_put_6 (fun _ => t_G_put_8 (t_G_put_9 (fin _ _ _ ?_ ?_ ?_))) (fun q => absurd g q))) (fun g9 => absurd (e9.mp g9) (by decide)))
    · rw [gL_sI, h3]; exact op_put0 S hc _
    · rw [gL_sL, if_neg (by decide), gL_sI, h4]; exact ni_put0 S hc (by decide) _
    · rw [gL_sL, if_neg (by decide), gL_sL, if_neg (by decide), gL_sI, h5]; exact er.symm
  · have hn0 : ¬ n = 0 := fun q => g (e0.mpr q)
    have er : roP S c n = roS S := by simp only [roP, hn0, if_false]
    rw [hcl]
    refine t_G_put_1 (t_G_put_3 (fun g9 => t_G_put_5 (t_G_put_6 (fun q => absurd q g) (fun _ => t_G_put_7 (t_G_put_9 (fin _ _ _ ?_ ?_ ?_))))) (fun g9 => t_G_put_4 (t_G_put_6 (fun q => absurd q g) (fun _ => t_G_put_7 (t_G_put_9 (fin _ _ _ ?_ ?_ ?_))))))
    · rw [gL_sI, h3]; exact op_put1 S hc (by omega) _
    · rw [gL_sL, if_neg (by decide), gL_sI, h4]; exact ni_put0 S hc (fun q => g9 (e9.mpr q)) _
    · rw [gL_sL, if_neg (by decide), gL_sL, if_neg (by decide), gL_sI, h5]; exact er.symm
    · rw [gL_sI, h3]; exact op_put1 S hc (by omega) _
    · have hn9 := e9.mp g9
      subst hn9
      rw [gL_sL, if_neg (by decide), gL_sI, h4]; exact ni_put1 S hc _
    · rw [gL_sL, if_neg (by decide), gL_sL, if_neg (by decide), gL_sI, h5]; exact er.symm
theorem enc_add {c n : Nat} (b : Bool) : (nI c * 10 + nI n) * 2 + zb b = nI (encU (c, n, b)) := by
  have h10 : (10 : Int32) = nI 10 := rfl
  have h2 : (2 : Int32) = nI 2 := rfl
  have hb : zb b = nI (if b then 1 else 0) := by cases b <;> rfl
  rw [h10, h2, hb, pk_mul, nI_add, pk_mul, nI_add]
  rfl
theorem s_G_remember {d : Nat} {w : zW} {Q : zQ} {S : zS} {c : Nat} (hG : GC w 1 S) (hk : okS S) (hc : c < 36) (h : ∀ w', GC w' 1 (notS S c) → EQX mCI mCL w w' → Q none w') : WM (d + 1) m_G_remember 2 [.ref 1, .int (nI c)] w Q := by
  have hcl : (nI c).toNatClampNeg = c := nI_clamp (by omega)
  obtain ⟨-, -, -, -, -, -, hlen, -⟩ := hk
  -- behind the room made
  have key : ∀ (w1 : zW) (L : List (Nat × Nat × Bool)), L.length < 10 → (∀ x, x < 36 → gI w1 11 x = nI (dpS S x)) → (∀ x, x < 36 → gI w1 12 x = nI (owS S x)) → gL w1 1 2 = opS S → gL w1 1 3 = niS S → gL w1 1 4 = roS S → gI w1 1 5 = nI (raS S) → gI w1 1 6 = nI (drS S) → gI w1 1 8 = nI L.length → (∀ j e, L[j]? = some e → gI w1 13 j = nI (encU e)) → EQX mCI mCL w w1 → L ++ [(c, dpS S c, bt6 (roS S) c)] = notU S c → WP (d + 1) m_G_remember 3 [some (.ref 1), some (.int (nI c))] [] w1 Q := by
    intro w1 L hL h1 h2 h3 h4 h5 h6 h7 h8 h9 hX hU
    have fin : ∀ v : Int32, v = zb (bt6 (roS S) c) → WP (d + 1) m_G_remember 7 [some (.ref 1), none] [.int v, .int ((nI c * 10 + gI w1 11 (nI c).toNatClampNeg) * 2), .int (gI w1 1 8), .ref 13] w1 Q := by
      rintro v rfl
      refine t_G_remember_7 (by rw [h8]; exact vp_in_lt hL (by decide)) ?_
      rw [h8, nI_clamp (by omega), hcl, h1 c hc, enc_add, nI_1]
      refine h _ ⟨fun x hx => ?_, fun x hx => ?_, h3, h4, h5, ?_, ?_, ?_, fun j e he => ?_⟩ ((hX.pI _ rfl).pI _ rfl)
      · rw [gI_sI, if_neg (by omega), gI_sI, if_neg (by omega)]; exact h1 x hx
      · rw [gI_sI, if_neg (by omega), gI_sI, if_neg (by omega)]; exact h2 x hx
      · rw [gI_sI, if_neg (by decide), gI_sI, if_neg (by omega)]; exact h6
      · rw [gI_sI, if_neg (by decide), gI_sI, if_neg (by omega)]; exact h7
      · rw [gI_sI, if_pos ⟨rfl, rfl⟩]
        show _ = nI (notU S c).length
        rw [← hU]; simp
      · have he : (notU S c)[j]? = some e := he
        rw [← hU] at he
        show gI _ 13 j = _
        rw [gI_sI, if_neg (by omega), gI_sI]
        by_cases q : j < L.length
        · rw [List.getElem?_append_left q] at he
          rw [if_neg (by omega)]
          exact h9 j e he
        · rw [List.getElem?_append_right (by omega)] at he
          have hj : j - L.length < 1 := (List.getElem?_eq_some_iff.mp he).1
          have : j = L.length := by omega
          subst this
          rw [if_pos ⟨rfl, rfl⟩]
          simp at he
          rw [← he]
    refine t_G_remember_3 (vp_in_lt hc (by decide)) (s_P_has (by omega) (t_G_remember_4 (fun g => t_G_remember_6 (fin _ ?_)) (fun g => t_G_remember_5 (fin _ ?_))))
    · rw [h5] at g; exact g.symm
    · rw [h5] at g
      rw [zb_f.mp g]; rfl
  obtain ⟨h1, h2, h3, h4, h5, h6, h7, h8, h9⟩ := hG
  refine n_G_remember (t_G_remember_0 (fun g => ?_) (fun g => ?_))
  · have hne : ¬ (unS S).length = 10 := fun e => g (by rw [h8, e]; rfl)
    exact key w (unS S) (by omega) h1 h2 h3 h4 h5 h6 h7 h8 h9 EQX.rf (by unfold notU; rw [if_neg hne])
  · have he : (unS S).length = 10 := by
      rw [h8] at g
      exact (nI_eqk (k := 10) (by omega) (by decide)).mp g
    refine t_G_remember_1 (t_G_remember_2 (key _ ((unS S).drop 1) (by rw [List.length_drop]; omega) (fun x hx => ?_) (fun x hx => ?_) h3 h4 h5 ?_ ?_ ?_ (fun j e hj => ?_) ?_ (by unfold notU; rw [if_pos he])))
    · rw [gI_sI, if_neg (by omega)]; exact h1 x hx
    · rw [gI_sI, if_neg (by omega)]; exact h2 x hx
    · rw [gI_sI, if_neg (by decide)]; exact h6
    · rw [gI_sI, if_neg (by decide)]; exact h7
    · rw [gI_sI, if_pos ⟨rfl, rfl⟩]
      show gI w 1 8 - 1 = _
      rw [h8, he, List.length_drop, he]
      decide +kernel
    · rw [List.getElem?_drop] at hj
      have hj9 : 1 + j < 10 := by
        have := (List.getElem?_eq_some_iff.mp hj).1
        omega
      rw [gI_sI, if_neg (by omega)]
      rw [gI_cI, if_pos rfl, show (1 : Int32).toNatClampNeg = 1 from rfl, show (0 : Int32).toNatClampNeg = 0 from rfl, show (9 : Int32).toNatClampNeg = 9 from rfl, if_pos (by omega)]
      exact h9 (1 + j) e hj
    · exact (EQX.rf.xI (fun _ => rfl)).pI _ rfl

theorem okS_not {S : zS} (hk : okS S) {c : Nat} (hc : c < 36) : okS (notS S c) := by
  obtain ⟨h1, h2, h3, h4, h5, h6, h7, h8⟩ := hk
  refine ⟨h1, h2, h3, h4, h5, h6, (notU_len h7 c).1, fun e he => ?_⟩
  have he : e ∈ notU S c := he
  unfold notU at he
  rcases List.mem_append.mp he with he | he
  · split at he
    · exact h8 e (List.mem_of_mem_drop he)
    · exact h8 e he
  · rw [List.mem_singleton] at he
    subst he
    exact ⟨hc, h1 c hc, fun q => h4 c q⟩
theorem okS_put {S : zS} (hk : okS S) {c n : Nat} {ro : Int64} (hc : c < 36) (hn : n ≤ 9) (hr : SET ro) (hz : ∀ i, bt6 ro i = true → 0 < up1 (dpS S) c n i) : okS (putS S c n ro) := by
  obtain ⟨h1, h2, h3, h4, h5, h6, h7, h8⟩ := hk
  refine ⟨fun x hx => ?_, h2, hr, hz, h5, h6, h7, h8⟩
  show up1 (dpS S) c n x ≤ 9
  unfold up1
  split
  · exact hn
  · exact h1 x hx
theorem roP_ok {S : zS} (hk : okS S) {c n : Nat} (hc : c < 36) : SET (roP S c n) ∧ ∀ i, bt6 (roP S c n) i = true → 0 < up1 (dpS S) c n i := by
  obtain ⟨h1, h2, h3, h4, h5, h6, h7, h8⟩ := hk
  unfold roP
  by_cases e : n = 0
  · rw [if_pos e]
    refine ⟨h3.and _, fun i hi => ?_⟩
    rw [bx_diff, Bool.and_eq_true, bx_b1 (by omega)] at hi
    have : ¬ i = c := by simpa using hi.2
    unfold up1
    rw [if_neg this]
    exact h4 i hi.1
  · rw [if_neg e]
    refine ⟨h3, fun i hi => ?_⟩
    unfold up1
    split
    · omega
    · exact h4 i hi
/-! what is done to a ground -/
def digS (S : zS) (c : Nat) : zS := putS (notS S c) c (dpS S c + 1) (roS S)
def filS (S : zS) (c : Nat) : zS := putS (notS S c) c 0 (roS S &&& (b1 c ^^^ (-1)))
def rofS (S : zS) (c : Nat) : zS := (dpS S, owS S, roS S ^^^ b1 c, raS S, drS S, notU S c)
theorem okS_dig {S : zS} (hk : okS S) {c : Nat} (hc : c < 36) (h : dpS S c < 9) : okS (digS S c) := by
  have h2 := roP_ok (S := notS S c) (n := dpS S c + 1) (okS_not hk hc) hc
  have e : roP (notS S c) c (dpS S c + 1) = roS S := by unfold roP; rw [if_neg (by omega)]; rfl
  rw [e] at h2
  exact okS_put (okS_not hk hc) hc (by omega) h2.1 h2.2
theorem okS_fil {S : zS} (hk : okS S) {c : Nat} (hc : c < 36) : okS (filS S c) := by
  have h2 := roP_ok (S := notS S c) (n := 0) (okS_not hk hc) hc
  exact okS_put (okS_not hk hc) hc (by omega) h2.1 h2.2
theorem bx_tog {x : Int64} {c : Nat} (hc : c < 64) (i : Nat) : bt6 (x ^^^ b1 c) i = if i = c then !bt6 x c else bt6 x i := by
  rw [bx_xor, bx_b1 hc]
  by_cases e : i = c
  · subst e; simp
  · simp [e]
theorem okS_rof {S : zS} (hk : okS S) {c : Nat} (hc : c < 36) (h : 0 < dpS S c) : okS (rofS S c) := by
  obtain ⟨h1, h2, h3, h4, h5, h6, h7, h8⟩ := okS_not hk hc
  refine ⟨h1, h2, fun i hi => ?_, fun i hi => ?_, h5, h6, h7, h8⟩
  · show bt6 (roS S ^^^ b1 c) i = false
    rw [bx_tog (by omega), if_neg (by omega)]
    exact h3 i hi
  · have hi : bt6 (roS S ^^^ b1 c) i = true := hi
    rw [bx_tog (by omega)] at hi
    by_cases e : i = c
    · rw [e]; exact h
    · rw [if_neg e] at hi
      exact h4 i hi
theorem gC_at {w : zW} {S : zS} (h : GC w 1 S) {c : Nat} (hc : c < 36) : gI w 11 (nI c).toNatClampNeg = nI (dpS S c) := by rw [nI_clamp (by omega)]; exact h.1 c hc
theorem s_G_toDig {d : Nat} {w : zW} {Q : zQ} {S : zS} {c : Nat} (hG : GC w 1 S) (hk : okS S) (hc : c < 36) (hf : ¬ dpS S c < 9 → Q (some (.int (-3))) w) (h : dpS S c < 9 → ∀ w', GC w' 1 (digS S c) → EQX mCI mCL w w' → Q (some (.int (nI (dpS S c + 1)))) w') : WM (d + 2) m_G_toDig 2 [.ref 1, .int (nI c)] w Q := by
  have h9 := hk.1 c hc
  refine n_G_toDig (t_G_toDig_0 (vp_in_lt hc (by decide)) (fun g => t_G_toDig_2 (s_G_remember hG hk hc (fun w1 g1 x1 => ?_))) (fun g => t_G_toDig_1 (hf ?_)))
  · rw [gC_at hG hc] at g
    have hlt : dpS S c < 9 := (nI_ltI (b := 9) (by omega) (by decide)).mp g
    refine t_G_toDig_3 (vp_in_lt hc (by decide)) ?_
    rw [gC_at g1 hc, nI_1]
    refine s_G_put (n := dpS S c + 1) g1 hc (by omega) (fun w2 g2 x2 => t_G_toDig_4 (vp_in_lt hc (by decide)) ?_)
    have e : roP (notS S c) c (dpS S c + 1) = roS S := by unfold roP; rw [if_neg (by omega)]; rfl
    rw [e] at g2
    rw [gC_at g2 hc]
    have e2 : dpS (putS (notS S c) c (dpS S c + 1) (roS S)) c = dpS S c + 1 := by simp [dpS, putS, up1]
    rw [e2]
    exact h hlt w2 g2 (x1.tr x2)
  · intro q
    apply g
    rw [gC_at hG hc]
    exact nI_lt (b := 9) q (by decide)
theorem s_G_toFill {d : Nat} {w : zW} {Q : zQ} {S : zS} {c : Nat} (hG : GC w 1 S) (hk : okS S) (hc : c < 36) (hf : dpS S c = 0 → Q (some (.int (-2))) w) (h : ¬ dpS S c = 0 → ∀ w', GC w' 1 (filS S c) → EQX mCI mCL w w' → Q (some (.int (nI (dpS S c)))) w') : WM (d + 2) m_G_toFill 3 [.ref 1, .int (nI c)] w Q := by
  have h9 := hk.1 c hc
  have e0 : nI (dpS S c) = 0 ↔ dpS S c = 0 := nI_eqk (k := 0) (by omega) (by decide)
  refine n_G_toFill (t_G_toFill_0 (vp_in_lt hc (by decide)) (fun g => t_G_toFill_2 (s_G_remember hG hk hc (fun w1 g1 x1 => t_G_toFill_3 (s_G_put (n := 0) g1 hc (by omega) (fun w2 g2 x2 => t_G_toFill_4 ?_))))) (fun g => t_G_toFill_1 (hf ?_)))
  · rw [gC_at hG hc] at g ⊢
    exact h (fun q => g (e0.mpr q)) w2 g2 (x1.tr x2)
  · rw [gC_at hG hc] at g
    exact e0.mp g
theorem s_G_toRoof {d : Nat} {w : zW} {Q : zQ} {S : zS} {c : Nat} (hG : GC w 1 S) (hk : okS S) (hc : c < 36) (hf : dpS S c = 0 → Q (some (.int (-2))) w) (h : ¬ dpS S c = 0 → ∀ w', GC w' 1 (rofS S c) → EQX mCI mCL w w' → Q (some (.int (zb (!bt6 (roS S) c)))) w') : WM (d + 2) m_G_toRoof 2 [.ref 1, .int (nI c)] w Q := by
  have h9 := hk.1 c hc
  have e0 : nI (dpS S c) = 0 ↔ dpS S c = 0 := nI_eqk (k := 0) (by omega) (by decide)
  refine n_G_toRoof (t_G_toRoof_0 (vp_in_lt hc (by decide)) (fun g => t_G_toRoof_2 (s_G_remember hG hk hc (fun w1 g1 x1 => t_G_toRoof_3 (s_P_has (by omega) ?_)))) (fun g => t_G_toRoof_1 (hf ?_)))
  · rw [gC_at hG hc] at g
    have h5 : gL w1 1 4 = roS S := g1.2.2.2.2.1
    rw [h5]
    have eb : bt6 (roS S ^^^ zsl 1 (nI c)) c = !bt6 (roS S) c := by
      show bt6 (roS S ^^^ b1 c) c = _
      rw [bx_tog (by omega), if_pos rfl]
    rw [eb]
    have fin := h (fun q => g (e0.mpr q)) (sL w1 1 4 (roS S ^^^ zsl 1 (nI c))) (by
      obtain ⟨a1, a2, a3, a4, a5, a6, a7, a8, a9⟩ := g1
      exact ⟨a1, a2, a3, a4, rfl, a6, a7, a8, a9⟩) (x1.pL _ rfl)
    refine t_G_toRoof_4 (fun q => t_G_toRoof_6 (t_G_toRoof_7 ?_)) (fun q => t_G_toRoof_5 (t_G_toRoof_7 ?_))
    · rw [q] at fin; exact fin
    · rw [zb_f.mp q] at fin; exact fin
  · rw [gC_at hG hc] at g
    exact e0.mp g
