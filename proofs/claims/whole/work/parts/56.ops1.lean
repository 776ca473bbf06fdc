/-! ===== undo, own, rate, seed ===== -/
def undS (S : zS) (L : List (Nat × Nat × Bool)) (e : Nat × Nat × Bool) : zS := (up1 (dpS S) e.1 e.2.1, owS S, if e.2.2 then roS S ||| b1 e.1 else roS S &&& (b1 e.1 ^^^ (-1)), raS S, drS S, L)
def undA (S : zS) : Int32 × zS := match (unS S).getLast? with
  | none => (-4, S)
  | some e => (nI (unS S).dropLast.length, undS S (unS S).dropLast e)
theorem un_last {L : List (Nat × Nat × Bool)} {e : Nat × Nat × Bool} (h : L.getLast? = some e) : L = L.dropLast ++ [e] ∧ L.length = L.dropLast.length + 1 := by
  have hne : L ≠ [] := fun q => by rw [q] at h; cases h
  have h1 := List.dropLast_concat_getLast hne
  have h2 : L.getLast hne = e := by
    rw [List.getLast?_eq_some_getLast hne] at h
    exact Option.some.inj h
  rw [h2] at h1
  refine ⟨h1.symm, ?_⟩
  conv => lhs; rw [← h1]
  simp
theorem ok_undA {S : zS} (hk : okS S) : okS (undA S).2 := by
  unfold undA
  split
  · exact hk
  · rename_i e he
    obtain ⟨h1, h2, h3, h4, h5, h6, h7, h8⟩ := hk
    obtain ⟨l1, l2⟩ := un_last he
    obtain ⟨e1, e2, e3⟩ := h8 e (by rw [l1]; simp)
    refine ⟨fun c hc => ?_, h2, ?_, fun c hc => ?_, h5, h6, ?_, fun q hq => h8 q (by rw [l1]; exact List.mem_append_left _ hq)⟩
    · show up1 (dpS S) e.1 e.2.1 c ≤ 9
      unfold up1
      split
      · exact e2
      · exact h1 c hc
    · show SET (if e.2.2 then _ else _)
      split
      · exact h3.or (SET.one e1)
      · exact h3.and _
    · have hc : bt6 (if e.2.2 = true then roS S ||| b1 e.1 else roS S &&& (b1 e.1 ^^^ (-1))) c = true := hc
      show 0 < up1 (dpS S) e.1 e.2.1 c
      unfold up1
      by_cases q : e.2.2 = true
      · rw [if_pos q, bx_or, bx_b1 (by omega), Bool.or_eq_true, decide_eq_true_eq] at hc
        by_cases qc : c = e.1
        · rw [if_pos qc]; exact e3 q
        · rw [if_neg qc]
          rcases hc with hc | hc
          · exact h4 c hc
          · exact absurd hc qc
      · rw [if_neg q, bx_diff, bx_b1 (by omega), Bool.and_eq_true] at hc
        have qc : ¬ c = e.1 := by simpa using hc.2
        rw [if_neg qc]
        exact h4 c hc.1
    · show (unS S).dropLast.length ≤ 10
      omega
theorem zrm_n {a k : Nat} (ha : a < 2 ^ 31) (h0 : 0 < k) (hk : k < 2 ^ 31) : zrm (nI a) (nI k) = nI (a % k) := pk_rem ha h0 hk
theorem enc_dec {e : Nat × Nat × Bool} (h2 : e.2.1 ≤ 9) : encU e / 2 / 10 = e.1 ∧ encU e / 2 % 10 = e.2.1 ∧ encU e % 2 = (if e.2.2 then 1 else 0) := by
  unfold encU
  cases e.2.2 <;> simp <;> omega
theorem s_C_undo {d : Nat} {w : zW} {Q : zQ} {S : zS} (hG : GC w 1 S) (hk : okS S) (h : ∀ w', GC w' 1 (undA S).2 → EQX mCI mCL w w' → Q (some (.int (undA S).1)) w') : WM (d + 2) m_C_undo 1 [.ref 0] w Q := by
  have h8 := hG.2.2.2.2.2.2.2.1
  have h9 := hG.2.2.2.2.2.2.2.2
  have hlen : (unS S).length ≤ 10 := hk.2.2.2.2.2.2.1
  have e0 : nI (unS S).length = 0 ↔ (unS S).length = 0 := nI_eqk (k := 0) (by omega) (by decide)
  unfold undA at h
  refine n_C_undo (t_C_undo_0 (n_G_takeBack (t_G_takeBack_0 (fun g => ?_) (fun g => t_G_takeBack_1 (t_C_undo_1 ?_)))))
  · rw [h8, e0] at g
    cases he : (unS S).getLast? with
    | none =>
      rw [List.getLast?_eq_none_iff] at he
      rw [he] at g
      exact absurd rfl g
    | some e =>
      rw [he] at h
      obtain ⟨l1, l2⟩ := un_last he
      obtain ⟨e1, e2, e3⟩ := hk.2.2.2.2.2.2.2 e (by rw [l1]; simp)
      obtain ⟨d1, d2, d3⟩ := enc_dec (e := e) e2
      have hp : gI w 1 8 - 1 = nI (unS S).dropLast.length := by rw [h8, l2, nI_pred]
      have hat : gI w 13 (unS S).dropLast.length = nI (encU e) := h9 _ e (by
        have : ((unS S).dropLast ++ [e])[(unS S).dropLast.length]? = some e := by simp
        rwa [← l1] at this)
      have henc : encU e < 1000 := by unfold encU; split <;> omega
      refine t_G_takeBack_2 (by rw [hp]; exact vp_in_lt (by omega) (by decide)) ?_
      rw [hp, nI_clamp (by omega), hat]
      have q1 : nI (encU e) / 2 = nI (encU e / 2) := pk_div (d := 2) (by omega) (by decide) (by decide)
      have q2 : nI (encU e / 2) / 10 = nI e.1 := by rw [← d1]; exact pk_div (d := 10) (by omega) (by decide) (by decide)
      have q3 : zrm (nI (encU e / 2)) 10 = nI e.2.1 := by rw [← d2]; exact zrm_n (k := 10) (by omega) (by decide) (by decide)
      have q4 : zrm (nI (encU e)) 2 = zb e.2.2 := by
        have : zrm (nI (encU e)) 2 = nI (encU e % 2) := zrm_n (k := 2) (by omega) (by decide) (by decide)
        rw [this, d3]
        cases e.2.2 <;> rfl
      rw [q1, q2, q3]
      have hG1 : GC (sI w 1 8 (nI (unS S).dropLast.length)) 1 (dpS S, owS S, roS S, raS S, drS S, (unS S).dropLast) := by
        obtain ⟨a1, a2, a3, a4, a5, a6, a7, a8, a9⟩ := hG
        refine ⟨fun c hc => ?_, fun c hc => ?_, a3, a4, a5, ?_, ?_, ?_, fun j q hq => ?_⟩
        · rw [gI_sI, if_neg (by omega)]; exact a1 c hc
        · rw [gI_sI, if_neg (by omega)]; exact a2 c hc
        · rw [gI_sI, if_neg (by omega)]; exact a6
        · rw [gI_sI, if_neg (by omega)]; exact a7
        · rw [gI_sI, if_pos ⟨rfl, rfl⟩]
        · rw [gI_sI, if_neg (by omega)]
          refine a9 j q ?_
          have hj := (List.getElem?_eq_some_iff.mp hq).1
          rw [l1, List.getElem?_append_left hj]
          exact hq
      refine s_G_put hG1 e1 e2 (fun w2 g2 x2 => ?_)
      have hro : gL w2 1 4 = roP (dpS S, owS S, roS S, raS S, drS S, (unS S).dropLast) e.1 e.2.1 := g2.2.2.2.2.1
      have x3 : EQX mCI mCL w w2 := (EQX.rf.pI _ rfl).tr x2
      have hcnt : gI w2 1 8 = nI (unS S).dropLast.length := g2.2.2.2.2.2.2.2.1
      have fin : ∀ v : Int64, v = (if e.2.2 then roS S ||| b1 e.1 else roS S &&& (b1 e.1 ^^^ (-1))) → Q (some (.int (gI w2 1 8))) (sL w2 1 4 v) := by
        rintro v rfl
        rw [hcnt]
        refine h _ ?_ (x3.pL _ rfl)
        obtain ⟨a1, a2, a3, a4, a5, a6, a7, a8, a9⟩ := g2
        exact ⟨a1, a2, a3, a4, rfl, a6, a7, a8, a9⟩
      refine t_G_takeBack_3 (fun q => t_G_takeBack_5 (t_G_takeBack_6 (t_C_undo_1 (fin _ ?_)))) (fun q => t_G_takeBack_4 (t_G_takeBack_6 (t_C_undo_1 (fin _ ?_))))
      · rw [q4] at q
        have hb : e.2.2 = false := by
          cases hb : e.2.2 with
          | false => rfl
          | true => rw [hb] at q; exact absurd rfl q
        rw [hb, hro]
        unfold roP
        split
        · apply bx_ext
          intro i _
          show bt6 ((roS S &&& (b1 e.1 ^^^ -1)) &&& (b1 e.1 ^^^ -1)) i = bt6 (roS S &&& (b1 e.1 ^^^ -1)) i
          simp only [bx_diff]
          cases bt6 (roS S) i <;> cases bt6 (b1 e.1) i <;> rfl
        · rfl
      · rw [q4] at q
        have hb : e.2.2 = true := by
          cases hb : e.2.2 with
          | true => rfl
          | false => rw [hb] at q; exact absurd q (by decide)
        rw [hb, hro]
        unfold roP
        rw [if_neg (by have := e3 hb; omega)]
        rfl
  · rw [h8, e0, List.length_eq_zero_iff] at g
    rw [g] at h
    exact h w hG EQX.rf
theorem s_N_undo {d : Nat} {w : zW} {Q : zQ} {S : zS} (hG : GN w S) (hk : okS S) (h : ∀ w', GN w' (undA S).2 → EQX mNI mNL w w' → Q (some (.int (undA S).1)) w') : WM (d + 1) m_N_undo 1 [.ref 10] w Q := by
  have h8 := hG.2.2.2.2.2.1
  have h9 := hG.2.2.2.2.2.2
  have hlen : (unS S).length ≤ 10 := hk.2.2.2.2.2.2.1
  have e0 : nI (unS S).length = 0 ↔ (unS S).length = 0 := nI_eqk (k := 0) (by omega) (by decide)
  unfold undA at h
  refine n_N_undo (t_N_undo_0 (fun g => ?_) (fun g => t_N_undo_1 ?_))
  · rw [h8, e0] at g
    cases he : (unS S).getLast? with
    | none =>
      rw [List.getLast?_eq_none_iff] at he
      rw [he] at g
      exact absurd rfl g
    | some e =>
      rw [he] at h
      obtain ⟨l1, l2⟩ := un_last he
      obtain ⟨e1, e2, e3⟩ := hk.2.2.2.2.2.2.2 e (by rw [l1]; simp)
      have hp : gI w 10 5 - 1 = nI (unS S).dropLast.length := by rw [h8, l2, nI_pred]
      obtain ⟨b1', b2', b3'⟩ := h9 (unS S).dropLast.length e (by
        have : ((unS S).dropLast ++ [e])[(unS S).dropLast.length]? = some e := by simp
        rwa [← l1] at this)
      have hG1 : GN (sI w 10 5 (nI (unS S).dropLast.length)) (dpS S, owS S, roS S, raS S, drS S, (unS S).dropLast) := by
        obtain ⟨a1, a2, a3, a4, a5, a6, a7⟩ := hG
        refine ⟨fun c hc => ?_, fun c hc => ?_, a3, ?_, ?_, ?_, fun j q hq => ?_⟩
        · rw [gI_sI, if_neg (by omega)]; exact a1 c hc
        · rw [gI_sI, if_neg (by omega)]; exact a2 c hc
        · rw [gI_sI, if_neg (by omega)]; exact a4
        · rw [gI_sI, if_neg (by omega)]; exact a5
        · rw [gI_sI, if_pos ⟨rfl, rfl⟩]
        · have hj := (List.getElem?_eq_some_iff.mp hq).1
          simp only [gI_sI]
          rw [if_neg (by omega), if_neg (by omega), if_neg (by omega)]
          refine a7 j q ?_
          rw [l1, List.getElem?_append_left hj]
          exact hq
      have fin : ∀ v : Int32, v = zb e.2.2 → WP (d + 1) m_N_undo 5 [some (.ref 10)] [.int v, .int (nI e.2.1), .int (nI e.1), .ref 10] (sI w 10 5 (nI (unS S).dropLast.length)) Q := by
        rintro v rfl
        refine t_N_undo_5 (s_N_put hG1 e1 (fun w2 g2 x2 => t_N_undo_6 ?_))
        have hcnt : gI w2 10 5 = nI (unS S).dropLast.length := g2.2.2.2.2.2.1
        rw [hcnt]
        exact h w2 g2 ((EQX.rf.pI _ rfl).tr x2)
      refine t_N_undo_2 (by rw [hp, n3]; exact vp_in_lt (by omega) (by decide)) (by rw [hp, n3, n1]; exact vp_in_lt (by omega) (by decide)) (by rw [hp, n3, n2]; exact vp_in_lt (by omega) (by decide)) (fun q => t_N_undo_4 ?_) (fun q => t_N_undo_3 ?_)
      · rw [hp, n3, n2, nI_clamp (by omega), b3'] at q
        rw [hp, n3, n1, nI_clamp (by omega), nI_clamp (by omega), b2', b1']
        refine fin _ ?_
        cases hb : e.2.2 with
        | false => rfl
        | true => rw [hb] at q; exact absurd rfl q
      · rw [hp, n3, n2, nI_clamp (by omega), b3'] at q
        rw [hp, n3, n1, nI_clamp (by omega), nI_clamp (by omega), b2', b1']
        refine fin _ ?_
        cases hb : e.2.2 with
        | true => rfl
        | false => rw [hb] at q; exact absurd q (by decide)
  · rw [h8, e0, List.length_eq_zero_iff] at g
    rw [g] at h
    exact h w hG EQX.rf
theorem op_undo {d : Nat} {w : zW} (h : RW w) : OPP (d + 2) m_C_undo 1 m_N_undo 1 [.ref 0] [.ref 10] w :=
  opG (f := undA) (fun S hk => ok_undA hk) (fun S Q g k q => s_C_undo g k q) (fun S w Q g k q => s_N_undo g k q) h
/-! owners, rate, draw -/
theorem inI_of {x : Int32} {n : Nat} {m : Int32} (hm : m.toInt = n) (h : inI x 0 m = true) : ∃ j : Nat, j ≤ n ∧ x = nI j := by
  unfold inI at h
  simp only [Bool.and_eq_true, decide_eq_true_eq] at h
  exact nI_of2 hm (by rw [Int32.lt_iff_toInt_lt]; have := h.1; rw [Int32.le_iff_toInt_le] at this; omega) h.2
theorem inI_f {x a b : Int32} : inI x a b = false ↔ (x < a ∨ ¬ x ≤ b) := by
  unfold inI
  rw [Bool.and_eq_false_iff, decide_eq_false_iff_not, decide_eq_false_iff_not]
  simp only [Int32.le_iff_toInt_le, Int32.lt_iff_toInt_lt]
  omega
theorem inI_t {x a b : Int32} (h1 : ¬ x < a) (h2 : x ≤ b) : inI x a b = true := by
  cases e : inI x a b with
  | true => rfl
  | false =>
    rcases inI_f.mp e with q | q
    · exact absurd q h1
    · exact absurd h2 q
def ownA (S : zS) (x o : Int32) : Int32 × zS := if (isC x && inI o 0 4) = true then (nI (owS S x.toNatClampNeg), (dpS S, up1 (owS S) x.toNatClampNeg o.toNatClampNeg, roS S, raS S, drS S, unS S)) else (-1, S)
def ratA (S : zS) (v : Int32) : Int32 × zS := if inI v 0 99 = true then (nI (raS S), (dpS S, owS S, roS S, v.toNatClampNeg, drS S, unS S)) else (-1, S)
def seeA (S : zS) (v : Int32) : Int32 × zS := if 0 ≤ v then (nI (drS S), (dpS S, owS S, roS S, raS S, v.toNatClampNeg, unS S)) else (-1, S)
theorem ok_ownA {S : zS} (hk : okS S) (x o : Int32) : okS (ownA S x o).2 := by
  unfold ownA
  split
  · rename_i g
    rw [Bool.and_eq_true] at g
    obtain ⟨j, hj, rfl⟩ := inI_of (n := 4) rfl g.2
    obtain ⟨h1, h2, h3, h4, h5, h6, h7, h8⟩ := hk
    refine ⟨h1, fun c hc => ?_, h3, h4, h5, h6, h7, h8⟩
    show up1 (owS S) _ (nI j).toNatClampNeg c ≤ 4
    unfold up1
    rw [nI_clamp (by omega)]
    split
    · exact hj
    · exact h2 c hc
  · exact hk
theorem ok_ratA {S : zS} (hk : okS S) (v : Int32) : okS (ratA S v).2 := by
  unfold ratA
  split
  · rename_i g
    obtain ⟨j, hj, rfl⟩ := inI_of (n := 99) rfl g
    obtain ⟨h1, h2, h3, h4, h5, h6, h7, h8⟩ := hk
    refine ⟨h1, h2, h3, h4, ?_, h6, h7, h8⟩
    show (nI j).toNatClampNeg ≤ 99
    rw [nI_clamp (by omega)]
    exact hj
  · exact hk
theorem ok_seeA {S : zS} (hk : okS S) (v : Int32) : okS (seeA S v).2 := by
  unfold seeA
  split
  · rename_i g
    obtain ⟨j, hj, rfl⟩ := nI_of (x := v) (by rw [Int32.lt_iff_toInt_lt]; rw [Int32.le_iff_toInt_le] at g; omega)
    obtain ⟨h1, h2, h3, h4, h5, h6, h7, h8⟩ := hk
    refine ⟨h1, h2, h3, h4, h5, ?_, h7, h8⟩
    show (nI j).toNatClampNeg < 2 ^ 31
    rw [nI_clamp hj]
    exact hj
  · exact hk
theorem GC_own {w : zW} {S : zS} {c o : Nat} (h : GC w 1 S) : GC (sI w 12 c (nI o)) 1 (dpS S, up1 (owS S) c o, roS S, raS S, drS S, unS S) := by
  obtain ⟨a1, a2, a3, a4, a5, a6, a7, a8, a9⟩ := h
  refine ⟨fun x hx => ?_, fun x hx => ?_, a3, a4, a5, a6, a7, a8, fun j e he => ?_⟩
  · rw [gI_sI, if_neg (by omega)]; exact a1 x hx
  · rw [gI_sI]
    by_cases e : x = c
    · rw [if_pos ⟨rfl, e⟩]; simp [owS, up1, e]
    · rw [if_neg (fun q => e q.2)]
      simp only [up1, owS, e, if_false]
      exact a2 x hx
  · rw [gI_sI, if_neg (by omega)]; exact a9 j e he
theorem GN_own {w : zW} {S : zS} {c o : Nat} (h : GN w S) : GN (sI w 29 c (nI o)) (dpS S, up1 (owS S) c o, roS S, raS S, drS S, unS S) := by
  obtain ⟨a1, a2, a3, a4, a5, a6, a7⟩ := h
  refine ⟨a1, fun x hx => ?_, a3, a4, a5, a6, a7⟩
  rw [gI_sI]
  by_cases e : x = c
  · rw [if_pos ⟨rfl, e⟩]; simp [owS, up1, e]
  · rw [if_neg (fun q => e q.2)]
    simp only [up1, owS, e, if_false]
    exact a2 x hx
theorem s_C_own {d : Nat} {w : zW} {Q : zQ} {S : zS} {x o : Int32} (hG : GC w 1 S) (h : ∀ w', GC w' 1 (ownA S x o).2 → EQX mCI mCL w w' → Q (some (.int (ownA S x o).1)) w') : WM (d + 1) m_C_own 4 [.ref 0, .int x, .int o] w Q := by
  unfold ownA at h
  have no : (isC x && inI o 0 4) = false → Q (some (.int (-1))) w := fun e => by
    rw [e] at h
    exact h w hG EQX.rf
  refine n_C_own (t_C_own_0 (s_C_isCell (t_C_own_1 (fun g => t_C_own_4 (no ?_)) (fun g => t_C_own_2 (fun g2 => t_C_own_4 (no ?_)) (fun g2 => t_C_own_3 (fun g3 => ?_) (fun g3 => t_C_own_4 (no ?_)))))))
  · rw [zb_t.mp g]; rfl
  · rw [inI_f.mpr (Or.inl g2), Bool.and_false]
  · have g := zb_f.mp g
    have g4 := inI_t g2 g3
    rw [g, g4] at h
    obtain ⟨c, hc, rfl⟩ := isC_of g
    obtain ⟨j, hj, rfl⟩ := inI_of (n := 4) rfl g4
    refine t_C_own_5 (vp_in_lt hc (by decide)) (vp_in_lt hc (by decide)) ?_
    rw [nI_clamp (by omega), hG.2.1 c hc]
    have := h _ (by simp only [Bool.and_self, if_true]; rw [nI_clamp (by omega), nI_clamp (by omega)]; exact GC_own hG) (EQX.rf.pI _ rfl)
    simp only [Bool.and_self, if_true] at this
    rw [nI_clamp (by omega)] at this
    exact this
  · rw [inI_f.mpr (Or.inr g3), Bool.and_false]
theorem s_N_own {d : Nat} {w : zW} {Q : zQ} {S : zS} {x o : Int32} (hG : GN w S) (h : ∀ w', GN w' (ownA S x o).2 → EQX mNI mNL w w' → Q (some (.int (ownA S x o).1)) w') : WM (d + 2) m_N_own 4 [.ref 10, .int x, .int o] w Q := by
  unfold ownA at h
  have no : (isC x && inI o 0 4) = false → Q (some (.int (-1))) w := fun e => by
    rw [e] at h
    exact h w hG EQX.rf
  refine n_N_own (t_N_own_0 (s_N_isCell (t_N_own_1 (fun g => t_N_own_4 (no ?_)) (fun g => t_N_own_2 (s_N_inI (a := 0) (b := 4) rfl rfl (t_N_own_3 (fun g2 => ?_) (fun g2 => t_N_own_4 (no ?_))))))))
  · rw [zb_t.mp g]; rfl
  · have g := zb_f.mp g
    have g4 := zb_f.mp g2
    rw [g, g4] at h
    obtain ⟨c, hc, rfl⟩ := isC_of g
    obtain ⟨j, hj, rfl⟩ := inI_of (n := 4) rfl g4
    refine t_N_own_5 (vp_in_lt hc (by decide)) (vp_in_lt hc (by decide)) ?_
    rw [nI_clamp (by omega), hG.2.1 c hc]
    have := h _ (by simp only [Bool.and_self, if_true]; rw [nI_clamp (by omega), nI_clamp (by omega)]; exact GN_own hG) (EQX.rf.pI _ rfl)
    simp only [Bool.and_self, if_true] at this
    rw [nI_clamp (by omega)] at this
    exact this
  · rw [zb_t.mp g2, Bool.and_false]
theorem op_own {d : Nat} {w : zW} {x o : Int32} (h : RW w) : OPP (d + 2) m_C_own 4 m_N_own 4 [.ref 0, .int x, .int o] [.ref 10, .int x, .int o] w :=
  opG (f := fun S => ownA S x o) (fun S hk => ok_ownA hk x o) (fun S Q g k q => s_C_own g q) (fun S w Q g k q => s_N_own g q) h
theorem op_rate {d : Nat} {w : zW} {v : Int32} (h : RW w) : OPP (d + 1) m_C_rate 3 m_N_rate 3 [.ref 0, .int v] [.ref 10, .int v] w := by
  refine opG (f := fun S => ratA S v) (fun S hk => ok_ratA hk v) (fun S Q hG hk q => ?_) (fun S w Q hG hk q => ?_) h
  · unfold ratA at q
    have no : inI v 0 99 = false → Q (some (.int (-1))) w := fun e => by
      rw [e] at q
      exact q w hG EQX.rf
    refine n_C_rate (t_C_rate_0 (fun g => t_C_rate_2 (no (inI_f.mpr (Or.inl g)))) (fun g => t_C_rate_1 (fun g2 => t_C_rate_3 ?_) (fun g2 => t_C_rate_2 (no (inI_f.mpr (Or.inr g2))))))
    have g3 := inI_t g g2
    rw [g3] at q
    obtain ⟨j, hj, rfl⟩ := inI_of (n := 99) rfl g3
    obtain ⟨a1, a2, a3, a4, a5, a6, a7, a8, a9⟩ := hG
    rw [a6]
    refine q _ ⟨fun x hx => ?_, fun x hx => ?_, a3, a4, a5, ?_, ?_, ?_, fun k e he => ?_⟩ (EQX.rf.pI _ rfl)
    · rw [gI_sI, if_neg (by omega)]; exact a1 x hx
    · rw [gI_sI, if_neg (by omega)]; exact a2 x hx
    · rw [gI_sI, if_pos ⟨rfl, rfl⟩]
      show nI j = nI (nI j).toNatClampNeg
      rw [nI_clamp (by omega)]
    · rw [gI_sI, if_neg (by omega)]; exact a7
    · rw [gI_sI, if_neg (by omega)]; exact a8
    · rw [gI_sI, if_neg (by omega)]; exact a9 k e he
  · unfold ratA at q
    refine n_N_rate (t_N_rate_0 (s_N_inI (a := 0) (b := 99) rfl rfl (t_N_rate_1 (fun g => t_N_rate_3 ?_) (fun g => t_N_rate_2 ?_))))
    · have g3 := zb_f.mp g
      rw [g3] at q
      obtain ⟨j, hj, rfl⟩ := inI_of (n := 99) rfl g3
      obtain ⟨a1, a2, a3, a4, a5, a6, a7⟩ := hG
      rw [a4]
      refine q _ ⟨a1, a2, a3, ?_, ?_, ?_, a7⟩ (EQX.rf.pI _ rfl)
      · rw [gI_sI, if_pos ⟨rfl, rfl⟩]
        show nI j = nI (nI j).toNatClampNeg
        rw [nI_clamp (by omega)]
      · rw [gI_sI, if_neg (by omega)]; exact a5
      · rw [gI_sI, if_neg (by omega)]; exact a6
    · rw [zb_t.mp g] at q
      exact q w hG EQX.rf
theorem op_seed {d : Nat} {w : zW} {v : Int32} (h : RW w) : OPP d m_C_seed 3 m_N_seed 3 [.ref 0, .int v] [.ref 10, .int v] w := by
  refine opG (f := fun S => seeA S v) (fun S hk => ok_seeA hk v) (fun S Q hG hk q => ?_) (fun S w Q hG hk q => ?_) h
  · unfold seeA at q
    refine n_C_seed (t_C_seed_0 (fun g => t_C_seed_2 ?_) (fun g => t_C_seed_1 ?_))
    · rw [if_pos g] at q
      obtain ⟨j, hj, rfl⟩ := nI_of (x := v) (by rw [Int32.lt_iff_toInt_lt]; rw [Int32.le_iff_toInt_le] at g; omega)
      obtain ⟨a1, a2, a3, a4, a5, a6, a7, a8, a9⟩ := hG
      rw [a7]
      refine q _ ⟨fun x hx => ?_, fun x hx => ?_, a3, a4, a5, ?_, ?_, ?_, fun k e he => ?_⟩ (EQX.rf.pI _ rfl)
      · rw [gI_sI, if_neg (by omega)]; exact a1 x hx
      · rw [gI_sI, if_neg (by omega)]; exact a2 x hx
      · rw [gI_sI, if_neg (by omega)]; exact a6
      · rw [gI_sI, if_pos ⟨rfl, rfl⟩]
        show nI j = nI (nI j).toNatClampNeg
        rw [nI_clamp hj]
      · rw [gI_sI, if_neg (by omega)]; exact a8
      · rw [gI_sI, if_neg (by omega)]; exact a9 k e he
    · rw [if_neg g] at q
      exact q w hG EQX.rf
  · unfold seeA at q
    refine n_N_seed (t_N_seed_0 (fun g => t_N_seed_2 ?_) (fun g => t_N_seed_1 ?_))
    · rw [if_pos g] at q
      obtain ⟨j, hj, rfl⟩ := nI_of (x := v) (by rw [Int32.lt_iff_toInt_lt]; rw [Int32.le_iff_toInt_le] at g; omega)
      obtain ⟨a1, a2, a3, a4, a5, a6, a7⟩ := hG
      rw [a5]
      refine q _ ⟨a1, a2, a3, ?_, ?_, ?_, a7⟩ (EQX.rf.pI _ rfl)
      · rw [gI_sI, if_neg (by omega)]; exact a4
      · rw [gI_sI, if_pos ⟨rfl, rfl⟩]
        show nI j = nI (nI j).toNatClampNeg
        rw [nI_clamp hj]
      · rw [gI_sI, if_neg (by omega)]; exact a6
    · rw [if_neg g] at q
      exact q w hG EQX.rf
