/-! ===== sheets ===== -/
theorem zis_row {s : Nat} (hs : s < 4) : zis (5 + s) 2 := lt4 (P := fun s => zis (5 + s) 2) rfl rfl rfl rfl s hs
theorem zrf_row {s : Nat} (hs : s < 4) : zrf (5 + s) 0 = 19 + s := lt4 (P := fun s => zrf (5 + s) 0 = 19 + s) rfl rfl rfl rfl s hs
theorem zln_row {s : Nat} (hs : s < 4) : zln (19 + s) = 36 := lt4 (P := fun s => zln (19 + s) = 36) rfl rfl rfl rfl s hs
theorem zar_row {s : Nat} (hs : s < 4) : zar (19 + s) 1 (zln (19 + s)) := lt4 (P := fun s => zar (19 + s) 1 (zln (19 + s))) rfl rfl rfl rfl s hs
theorem zre_row {s : Nat} (hs : s < 4) : zre 4 (nI s).toNatClampNeg = 5 + s := by rw [nI_clamp (by omega)]; rfl
theorem zre_is {s : Nat} (hs : s < 4) : zis (zre 4 (nI s).toNatClampNeg) 2 := by rw [zre_row hs]; exact zis_row hs
theorem zrf_ar {s : Nat} (hs : s < 4) : zar (zrf (5 + s) 0) 1 (zln (zrf (5 + s) 0)) := by rw [zrf_row hs]; exact zar_row hs
theorem zrf_in {s : Nat} (hs : s < 4) {x : Int32} (h : vp_in x 36) : vp_in x (zln (zrf (5 + s) 0)) := by rw [zrf_row hs, zln_row hs]; exact h
def isS (x : Int32) : Bool := inI x 0 3
theorem isS_f {x : Int32} : isS x = false ↔ (x < 0 ∨ (4 : Int32) ≤ x) := by
  unfold isS inI
  rw [Bool.and_eq_false_iff, decide_eq_false_iff_not, decide_eq_false_iff_not]
  simp only [Int32.le_iff_toInt_le, Int32.lt_iff_toInt_lt]
  have e0 : (0 : Int32).toInt = 0 := by decide
  have e1 : (3 : Int32).toInt = 3 := by decide
  have e2 : (4 : Int32).toInt = 4 := by decide
  rw [e0, e1, e2]
  omega
theorem isS_t {x : Int32} (h1 : ¬ x < 0) (h2 : ¬ (4 : Int32) ≤ x) : isS x = true := by
  cases e : isS x with
  | true => rfl
  | false => exact absurd (isS_f.mp e) (by simp [h1, h2])
theorem isS_of {x : Int32} (h : isS x = true) : ∃ j : Nat, j < 4 ∧ x = nI j := by
  obtain ⟨j, hj, e⟩ := inI_of (n := 3) rfl h
  exact ⟨j, by omega, e⟩
theorem s_C_isSheet {d : Nat} {w : zW} {Q : zQ} {x : Int32} (h : Q (some (.int (zb (isS x)))) w) : WM d m_C_isSheet 1 [.int x] w Q := by
  refine n_C_isSheet (t_C_isSheet_0 (fun g => t_C_isSheet_3 (t_C_isSheet_4 (Or.inl rfl) ?_)) (fun g => t_C_isSheet_1 (fun g2 => t_C_isSheet_3 (t_C_isSheet_4 (Or.inl rfl) ?_)) (fun g2 => t_C_isSheet_2 (t_C_isSheet_4 (Or.inr rfl) ?_))))
  · rw [isS_f.mpr (Or.inl g)] at h; exact h
  · rw [isS_f.mpr (Or.inr g2)] at h; exact h
  · rw [isS_t g g2] at h; exact h
theorem s_C_isLane {d : Nat} {w : zW} {Q : zQ} {x : Int32} (h : Q (some (.int (zb (isS x)))) w) : WM d m_C_isLane 1 [.int x] w Q := by
  refine n_C_isLane (t_C_isLane_0 (fun g => t_C_isLane_3 (t_C_isLane_4 (Or.inl rfl) ?_)) (fun g => t_C_isLane_1 (fun g2 => t_C_isLane_3 (t_C_isLane_4 (Or.inl rfl) ?_)) (fun g2 => t_C_isLane_2 (t_C_isLane_4 (Or.inr rfl) ?_))))
  · rw [isS_f.mpr (Or.inl g)] at h; exact h
  · rw [isS_f.mpr (Or.inr g2)] at h; exact h
  · rw [isS_t g g2] at h; exact h
theorem s_N_isSheet {d : Nat} {w : zW} {Q : zQ} {x l : Int32} (h : Q (some (.int (zb (isS x && isS l)))) w) : WM (d + 1) m_N_isSheet 2 [.int x, .int l] w Q := by
  refine n_N_isSheet (t_N_isSheet_0 (s_N_inI (a := 0) (b := 3) rfl rfl (t_N_isSheet_1 (fun g => t_N_isSheet_5 (t_N_isSheet_6 (Or.inl rfl) ?_)) (fun g => t_N_isSheet_2 (s_N_inI (a := 0) (b := 3) rfl rfl (t_N_isSheet_3 (fun g2 => t_N_isSheet_5 (t_N_isSheet_6 (Or.inl rfl) ?_)) (fun g2 => t_N_isSheet_4 (t_N_isSheet_6 (Or.inr rfl) ?_))))))))
  · rw [show isS x = false from zb_t.mp g] at h; exact h
  · rw [show isS l = false from zb_t.mp g2, Bool.and_false] at h; exact h
  · rw [show isS x = true from zb_f.mp g, show isS l = true from zb_f.mp g2] at h; exact h
/-! what sheets may change -/
def mSI (o k : Nat) : Bool := o == 5 || o == 6 || o == 7 || o == 8 || o == 39 || o == 40 || mRI o k
def mSL (o k : Nat) : Bool := o == 19 || o == 20 || o == 21 || o == 22 || o == 41 || mRL o k
theorem mS_row {s : Nat} (hs : s < 4) (k : Nat) : mSI (5 + s) k = true := lt4 (P := fun s => mSI (5 + s) k = true) rfl rfl rfl rfl s hs
theorem mS_it {s : Nat} (hs : s < 4) (k : Nat) : mSL (19 + s) k = true := lt4 (P := fun s => mSL (19 + s) k = true) rfl rfl rfl rfl s hs
theorem EQX.rS {w w' : zW} (h : EQX mRI mRL w w') : EQX mSI mSL w w' := h.widen (fun o k q => by unfold mSI at q; simp only [Bool.or_eq_false_iff] at q; exact q.2) (fun o k q => by unfold mSL at q; simp only [Bool.or_eq_false_iff] at q; exact q.2)
theorem shG {w w' : zW} {S : zS} {K : Option zS} {T : List Nat} {H : Nat → Option (Nat × Nat)} (x : EQX mSI mSL w w') (h1 : okS S) (h2 : GC w 1 S) (h3 : GN w S) (h4 : IMG w K) (h5 : TAP w T) (h6 : SHT w' H) : RW w' ∧ SCR w w' :=
  ⟨⟨S, K, T, H, h1, GC_keep h2 (fun k => x.1 1 k rfl) (fun k => x.1 11 k rfl) (fun k => x.1 12 k rfl) (fun k => x.1 13 k rfl) (fun k => x.2 1 k rfl),
    GN_keep h3 ⟨x.1 10 3 rfl, x.1 10 5 rfl, x.1 10 6 rfl⟩ (fun k => x.1 28 k rfl) (fun k => x.1 29 k rfl) (fun k => x.1 30 k rfl) (x.2 10 2 rfl),
    KIM.img ⟨x.1 0 2 rfl, x.1 10 20 rfl, fun k => x.1 2 k rfl, fun k => x.1 14 k rfl, fun k => x.1 15 k rfl, fun k => x.1 16 k rfl, fun k => x.1 38 k rfl, fun k => x.2 2 k rfl, x.2 10 21 rfl⟩ h4,
    KTP.tap ⟨x.1 3 1 rfl, x.1 10 12 rfl, fun k => x.1 17 k rfl, fun k => x.1 32 k rfl⟩ h5, h6⟩,
   fun k => x.1 43 k rfl, fun k => x.1 44 k rfl⟩
/-- one sheet's head is another -/
def upH (H : Nat → Option (Nat × Nat)) (s : Nat) (v : Option (Nat × Nat)) : Nat → Option (Nat × Nat) := fun t => if t = s then v else H t
/-! refusals -/
def spn (f n len : Int32) : Bool := decide (¬ f < 0) && decide (¬ n < 0) && decide (¬ len < n) && decide (¬ len - n < f)
theorem s_R_spans {d : Nat} {w : zW} {Q : zQ} {s : Nat} {f n : Int32} (hs : s < 4) (h : Q (some (.int (zb (spn f n (gI w (5 + s) 3))))) w) : WM d m_R_spans 3 [.ref (5 + s), .int f, .int n] w Q := by
  unfold spn at h
  refine n_R_spans (t_R_spans_0 (fun g => t_R_spans_5 (t_R_spans_6 (Or.inl rfl) ?_)) (fun g => t_R_spans_1 (fun g2 => t_R_spans_5 (t_R_spans_6 (Or.inl rfl) ?_)) (fun g2 => t_R_spans_2 (zis_row hs) (fun g3 => t_R_spans_5 (t_R_spans_6 (Or.inl rfl) ?_)) (fun g3 => t_R_spans_3 (zis_row hs) (fun g4 => t_R_spans_5 (t_R_spans_6 (Or.inl rfl) ?_)) (fun g4 => t_R_spans_4 (t_R_spans_6 (Or.inr rfl) ?_))))))
  · rw [decide_eq_false (show ¬ ¬ f < 0 from fun q => q g)] at h; exact h
  · rw [decide_eq_false (show ¬ ¬ n < 0 from fun q => q g2), Bool.and_false] at h; exact h
  · rw [decide_eq_false (show ¬ ¬ gI w (5 + s) 3 < n from fun q => q g3), Bool.and_false] at h; exact h
  · rw [decide_eq_false (show ¬ ¬ gI w (5 + s) 3 - n < f from fun q => q g4), Bool.and_false] at h; exact h
  · rw [decide_eq_true g, decide_eq_true g2, decide_eq_true g3, decide_eq_true g4] at h; exact h
/-- what a row answers to being taken so -/
def refA (h : Option (Nat × Nat)) (l f n : Int32) : Int32 := match h with
  | none => -11
  | some q => if nI q.1 = l then (if spn f n (nI q.2) = true then 0 else -13) else -12
theorem s_C_refusal {d : Nat} {w : zW} {Q : zQ} {s : Nat} {x l f n : Int32} {h : Option (Nat × Nat)} (hx : x = nI s) (hs : s < 4) (hl : isS l = true) (hH : SH1 w s h) (hq : Q (some (.int (refA h l f n))) w) : WM (d + 1) m_C_refusal 6 [.ref 0, .int x, .int l, .int f, .int n] w Q := by
  subst hx
  have hS : isS (nI s) = true := isS_t (not_neg (by omega)) (nI_ge (b := 4) hs (by decide))
  refine n_C_refusal (t_C_refusal_0 (s_C_isSheet (t_C_refusal_1 (fun g => ?_) (fun _ => t_C_refusal_2 (s_C_isLane (t_C_refusal_3 (fun _ => ?_) (fun g => ?_)))))))
  · rw [hS] at g; cases g
  · refine t_C_refusal_5 (vp_in_lt hs (by decide)) (zre_is hs) (fun g => ?_) (fun g => t_C_refusal_6 ?_)
    · rw [zre_row hs] at g ⊢
      cases h with
      | none => exact absurd hH.1 g
      | some q =>
        obtain ⟨a1, a2, a3, a4, a5, a6⟩ := hH
        unfold refA at hq
        refine t_C_refusal_7 (zis_row hs) (fun g2 => t_C_refusal_9 (zis_row hs) (s_R_spans hs (t_C_refusal_10 (fun g3 => t_C_refusal_12 (t_C_refusal_13 ?_)) (fun g3 => t_C_refusal_11 (t_C_refusal_13 ?_))))) (fun g2 => t_C_refusal_8 ?_)
        · rw [a3] at g2
          rw [a4, zb_t] at g3
          simp only [g2, if_true, g3] at hq
          exact hq
        · rw [a3] at g2
          rw [a4, zb_f] at g3
          simp only [g2, if_true, g3] at hq
          exact hq
        · rw [a3] at g2
          simp only [if_neg g2] at hq
          exact hq
    · rw [zre_row hs] at g
      cases h with
      | none => exact hq
      | some q => rw [hH.1] at g; exact absurd g (by decide)
  · rw [hl] at g; cases g
theorem s_C_refusalB {d : Nat} {w : zW} {Q : zQ} {x l f n : Int32} (hb : (isS x && isS l) = false) (hq : Q (some (.int (-1))) w) : WM (d + 1) m_C_refusal 6 [.ref 0, .int x, .int l, .int f, .int n] w Q := by
  refine n_C_refusal (t_C_refusal_0 (s_C_isSheet (t_C_refusal_1 (fun g => t_C_refusal_4 hq) (fun g1 => t_C_refusal_2 (s_C_isLane (t_C_refusal_3 (fun g2 => ?_) (fun g => t_C_refusal_4 hq)))))))
  rw [zb_f.mp g1, zb_f.mp g2] at hb
  cases hb
theorem spn_in {f n : Int32} {len : Nat} (hl : len ≤ 36) (hn : ¬ n < 0) (hn2 : n ≤ 36) : (decide ((0 : Int64) ≤ f.toInt64) && decide (f.toInt64 ≤ (nI len - n).toInt64)) = spn f n (nI len) := by
  obtain ⟨k, hk, rfl⟩ := nI_of2 (x := n) (M := 36) (n := 36) rfl hn hn2
  have e1 : decide ((0 : Int64) ≤ f.toInt64) = decide (¬ f < 0) := by
    rw [decide_eq_decide, Int64.le_iff_toInt_le, Int32.lt_iff_toInt_lt, i2l_toInt]
    have e0 : (0 : Int32).toInt = 0 := by decide
    have e2 : (0 : Int64).toInt = 0 := by decide
    omega
  have e3 : decide (f.toInt64 ≤ (nI len - nI k).toInt64) = decide (¬ nI len - nI k < f) := by
    rw [decide_eq_decide, Int64.le_iff_toInt_le, Int32.lt_iff_toInt_lt, i2l_toInt, i2l_toInt]
    omega
  have e4 : decide (¬ nI k < 0) = true := decide_eq_true hn
  rw [e1, e3]
  unfold spn
  rw [e4, Bool.and_true]
  by_cases h : len < k
  · have hneg : (nI len - nI k).toInt = (len : Int) - k := pk_sub_toInt (by omega) (by omega)
    by_cases hf : f < 0
    · rw [decide_eq_false (show ¬ ¬ f < 0 from fun q => q hf)]; rfl
    · have : nI len - nI k < f := by
        rw [Int32.lt_iff_toInt_lt, hneg]
        rw [Int32.lt_iff_toInt_lt] at hf
        have e0 : (0 : Int32).toInt = 0 := by decide
        omega
      rw [decide_eq_false (show ¬ ¬ nI len - nI k < f from fun q => q this), Bool.and_false, Bool.and_false]
  · rw [decide_eq_true (nI_nlt (a := len) (b := k) (by omega) (by omega)), Bool.and_true]
theorem s_N_lacksRow {d : Nat} {w : zW} {Q : zQ} {s : Nat} {x l f n : Int32} {h : Option (Nat × Nat)} (hx : x = nI s) (hs : s < 4) (hl : isS l = true) (hn : ¬ n < 0) (hn2 : n ≤ 36) (hH : SH1 w s h) (hq : Q (some (.int (refA h l f n))) w) : WM (d + 1) m_N_lacksRow 5 [.ref 10, .int x, .int l, .int f, .int n] w Q := by
  subst hx
  have hcl : (nI s).toNatClampNeg = s := nI_clamp (by omega)
  have hin : vp_in (nI s) 4 := vp_in_lt hs (by decide)
  obtain ⟨lk, hlk, rfl⟩ := isS_of hl
  refine n_N_lacksRow (t_N_lacksRow_0 hin (fun g => ?_) (fun g => t_N_lacksRow_1 hin (fun g2 => t_N_lacksRow_3 (t_N_lacksRow_4 ?_)) (fun g2 => t_N_lacksRow_2 (t_N_lacksRow_4 ?_))))
  · rw [hcl] at g
    cases h with
    | none =>
      rw [hH.2] at g
      exact absurd (show nI lk < 0 by rw [← g]; decide) (not_neg (by omega))
    | some q =>
      obtain ⟨a1, a2, a3, a4, a5, a6, a7⟩ := hH
      rw [a2] at g
      refine t_N_lacksRow_5 hin ?_
      rw [hcl, a5]
      refine s_N_in (t_N_lacksRow_6 (fun g3 => t_N_lacksRow_8 (t_N_lacksRow_9 ?_)) (fun g3 => t_N_lacksRow_7 (t_N_lacksRow_9 ?_)))
      · rw [spn_in a7 hn hn2, zb_t] at g3
        simp only [refA, g, if_true, g3] at hq
        exact hq
      · rw [spn_in a7 hn hn2, zb_f] at g3
        simp only [refA, g, if_true, g3] at hq
        exact hq
  · rw [hcl] at g g2
    cases h with
    | none => rw [hH.2] at g2; exact absurd g2 (by decide)
    | some q =>
      rw [hH.2.1] at g
      simp only [refA, if_neg g] at hq
      exact hq
  · rw [hcl] at g2
    cases h with
    | none => exact hq
    | some q => rw [hH.2.1] at g2; exact absurd (nI_le (a := 0) (Nat.zero_le _) (by have := hH.2.2.2.2.2.1; omega)) g2
