/-! ===== specs: bits, closure ===== -/
def zb (b : Bool) : Int32 := if b then 1 else 0
theorem zb_01 (b : Bool) : zb b = 0 ∨ zb b = 1 := by cases b <;> simp [zb]
theorem zb_t {b : Bool} : zb b = 0 ↔ b = false := by cases b <;> simp [zb]
theorem zb_f {b : Bool} : ¬ zb b = 0 ↔ b = true := by cases b <;> simp [zb]
theorem s_J_bitCount {d : Nat} {w : zW} {Q : zQ} {x : Int64} (h : Q (some (.int (nI (cn x)))) w) : WM d m_J_bitCount 2 [.long x] w Q := by
  rw [← bc_eq] at h
  exact n_J_bitCount (t_J_bitCount_0 h)
theorem s_P_has {d : Nat} {w : zW} {Q : zQ} {x : Int64} {k : Nat} (hk : k < 64) (h : Q (some (.int (zb (bt6 x k)))) w) : WM d m_P_has 3 [.long x, .int (nI k)] w Q := by
  refine n_P_has (t_P_has_0 (fun g => ?_) (fun g => ?_))
  · rw [(bx_has hk x).mp g] at h
    exact t_P_has_2 (t_P_has_3 (Or.inl rfl) h)
  · have g2 : bt6 x k = true := by
      cases e : bt6 x k with
      | true => rfl
      | false => exact absurd ((bx_has hk x).mpr e) g
    rw [g2] at h
    exact t_P_has_1 (t_P_has_3 (Or.inr rfl) h)
theorem s_P_least {d : Nat} {w : zW} {Q : zQ} {x : Int64} (hx : ¬ x = 0) (h : Q (some (.int (nI (lo6 x)))) w) : WM (d + 1) m_P_least 2 [.long x] w Q := by
  rw [← lo6_bc hx] at h
  exact n_P_least (t_P_least_0 (s_J_bitCount (t_P_least_1 h)))
theorem s_P_beside {d : Nat} {w : zW} {Q : zQ} {x : Int64} (h : Q (some (.long (besF x))) w) : WM d m_P_beside 4 [.long x] w Q := n_P_beside (t_P_beside_0 h)
theorem lp_P_spread {d : Nat} {w : zW} {Q : zQ} {t : Int64} : ∀ (n : Nat) (x : Int64) (j : Nat), j + n = 36 → Q (some (.long (grw t n x))) w → WP (d + 1) m_P_spread 1 [none, none, some (.long t), none, some (.long x), none, some (.int (nI j)), none, none] [] w Q
  | 0, x, j, hj, h => by
    refine t_P_spread_1 (fun _ => t_P_spread_6 h) (fun g => absurd ?_ g)
    have : j = 36 := by omega
    subst this
    exact Int32.le_refl _
  | n + 1, x, j, hj, h => by
    refine t_P_spread_1 (fun g => absurd g ?_) (fun _ => t_P_spread_2 (s_P_beside (t_P_spread_3 (fun g => t_P_spread_5 ?_) (fun g => t_P_spread_4 (t_P_spread_6 ?_)))))
    · exact nI_ge (show j < 36 by omega) (by decide)
    · rw [nI_1]
      exact lp_P_spread n _ (j + 1) (by omega) h
    · have e : grow t x = x := g
      rwa [grw_fix e] at h
theorem s_P_spread {d : Nat} {w : zW} {Q : zQ} {s t : Int64} (h : Q (some (.long (cl s t))) w) : WM (d + 1) m_P_spread 9 [.long s, .long t] w Q :=
  n_P_spread (t_P_spread_0 (lp_P_spread 36 (s &&& t) 0 rfl h))
theorem s_P_firstHole {d : Nat} {w : zW} {Q : zQ} {x : Int64} (h : Q (some (.long (cl (x &&& -x) x))) w) : WM (d + 2) m_P_firstHole 2 [.long x] w Q :=
  n_P_firstHole (t_P_firstHole_0 (s_P_spread (t_P_firstHole_1 h)))
/-! the reference's -/
theorem s_N_in {d : Nat} {w : zW} {Q : zQ} {x a b : Int64} (h : Q (some (.int (zb (decide (a ≤ x) && decide (x ≤ b))))) w) : WM d m_N_in 6 [.long x, .long a, .long b] w Q := by
  refine n_N_in (t_N_in_0 (fun g => ?_) (fun g => t_N_in_1 (fun g2 => ?_) (fun g2 => ?_)))
  · have e : decide (a ≤ x) = false := by
      rw [decide_eq_false_iff_not, Int64.le_iff_toInt_le]
      rw [Int64.lt_iff_toInt_lt] at g
      omega
    rw [e] at h
    exact t_N_in_3 (t_N_in_4 (Or.inl rfl) h)
  · have e : decide (x ≤ b) = false := by
      rw [decide_eq_false_iff_not, Int64.le_iff_toInt_le]
      rw [Int64.lt_iff_toInt_lt] at g2
      omega
    rw [e, Bool.and_false] at h
    exact t_N_in_3 (t_N_in_4 (Or.inl rfl) h)
  · have e1 : decide (a ≤ x) = true := by
      rw [decide_eq_true_eq, Int64.le_iff_toInt_le]
      rw [Int64.lt_iff_toInt_lt] at g
      omega
    have e2 : decide (x ≤ b) = true := by
      rw [decide_eq_true_eq, Int64.le_iff_toInt_le]
      rw [Int64.lt_iff_toInt_lt] at g2
      omega
    rw [e1, e2] at h
    exact t_N_in_2 (t_N_in_4 (Or.inr rfl) h)
/-- between two numbers, of an int -/
def inI (x a b : Int32) : Bool := decide (a ≤ x) && decide (x ≤ b)
theorem i2l_toInt (x : Int32) : x.toInt64.toInt = x.toInt := by simp
theorem s_N_inI {d : Nat} {w : zW} {Q : zQ} {x a b : Int32} {A B : Int64} (hA : A.toInt = a.toInt) (hB : B.toInt = b.toInt) (h : Q (some (.int (zb (inI x a b)))) w) : WM d m_N_in 6 [.long x.toInt64, .long A, .long B] w Q := by
  apply s_N_in
  have e1 : decide (A ≤ x.toInt64) = decide (a ≤ x) := by rw [decide_eq_decide, Int64.le_iff_toInt_le, Int32.le_iff_toInt_le, hA, i2l_toInt]
  have e2 : decide (x.toInt64 ≤ B) = decide (x ≤ b) := by rw [decide_eq_decide, Int64.le_iff_toInt_le, Int32.le_iff_toInt_le, hB, i2l_toInt]
  rw [e1, e2]
  exact h
def isC (x : Int32) : Bool := inI x 0 35
theorem isC_of {x : Int32} (h : isC x = true) : ∃ j : Nat, j < 36 ∧ x = nI j := by
  unfold isC inI at h
  simp only [Bool.and_eq_true, decide_eq_true_eq] at h
  obtain ⟨j, h1, h2⟩ := nI_of2 (x := x) (M := 35) (n := 35) rfl (by rw [Int32.lt_iff_toInt_lt]; have := h.1; rw [Int32.le_iff_toInt_le] at this; omega) h.2
  exact ⟨j, by omega, h2⟩
theorem isC_nI {j : Nat} (h : j < 36) : isC (nI j) = true := by
  have : ∀ j, j < 36 → isC (nI j) = true := by decide +kernel
  exact this j h
theorem s_N_isCell {d : Nat} {w : zW} {Q : zQ} {x : Int32} (h : Q (some (.int (zb (isC x)))) w) : WM (d + 1) m_N_isCell 1 [.int x] w Q :=
  n_N_isCell (t_N_isCell_0 (s_N_inI (a := 0) (b := 35) rfl rfl (t_N_isCell_1 (zb_01 _) h)))
theorem s_N_has {d : Nat} {w : zW} {Q : zQ} {x : Int64} {k : Nat} (hk : k < 63) (h : Q (some (.int (zb (bt6 x k)))) w) : WM d m_N_has 3 [.long x, .int (nI k)] w Q := by
  refine n_N_has (t_N_has_0 (fun g => ?_) (fun g => ?_))
  · have g2 : bt6 x k = false := by
      cases e : bt6 x k with
      | false => rfl
      | true => exact absurd ((bx_hasr hk x).mpr e) g
    rw [g2] at h
    exact t_N_has_2 (t_N_has_3 (Or.inl rfl) h)
  · rw [(bx_hasr hk x).mp g] at h
    exact t_N_has_1 (t_N_has_3 (Or.inr rfl) h)
theorem lp_N_ones {d : Nat} {w : zW} {Q : zQ} : ∀ (n : Nat) (x : Int64) (j : Nat), cn x = n → Q (some (.int (nI (j + n)))) w → WP d m_N_ones 1 [none, none, some (.int (nI j)), some (.long x), none] [] w Q
  | 0, x, j, hx, h => by
    refine t_N_ones_1 (fun _ => t_N_ones_3 h) (fun g => absurd (cn_pos g) (by omega))
  | n + 1, x, j, hx, h => by
    refine t_N_ones_1 (fun g => ?_) (fun g => t_N_ones_2 ?_)
    · rw [g, cn_0] at hx
      omega
    · have := cn_kern g
      rw [nI_1]
      exact lp_N_ones n _ (j + 1) (by omega) (by rw [show j + 1 + n = j + (n + 1) by omega]; exact h)
theorem s_N_ones {d : Nat} {w : zW} {Q : zQ} {x : Int64} (h : Q (some (.int (nI (cn x)))) w) : WM d m_N_ones 5 [.long x] w Q :=
  n_N_ones (t_N_ones_0 (lp_N_ones (cn x) x 0 rfl (by rw [Nat.zero_add]; exact h)))
theorem lp_N_least {d : Nat} {w : zW} {Q : zQ} {x : Int64} (hx : ¬ x = 0) (hl : lo6 x < 63) (h : Q (some (.int (nI (lo6 x)))) w) : ∀ (n j : Nat), j + n = lo6 x → WP (d + 1) m_N_least 1 [some (.long x), none, some (.int (nI j))] [] w Q
  | 0, j, hj => by
    have e : j = lo6 x := by omega
    subst e
    refine t_N_least_1 (s_N_has hl (t_N_least_2 (fun _ => t_N_least_4 h) (fun g => ?_)))
    rw [zb_t, (lo6_spec hx).2.1] at g
    cases g
  | n + 1, j, hj => by
    refine t_N_least_1 (s_N_has (by omega) (t_N_least_2 (fun g => ?_) (fun g => t_N_least_3 ?_)))
    · rw [zb_f, (lo6_spec hx).2.2 j (by omega)] at g
      cases g
    · rw [nI_1]
      exact lp_N_least hx hl h n (j + 1) (by omega)
theorem s_N_least {d : Nat} {w : zW} {Q : zQ} {x : Int64} (hx : ¬ x = 0) (hs : SET x) (h : Q (some (.int (nI (lo6 x)))) w) : WM (d + 1) m_N_least 3 [.long x] w Q :=
  n_N_least (t_N_least_0 (lp_N_least hx (by have := lo6_set hs hx; omega) h (lo6 x) 0 (by omega)))
theorem s_N_beside {d : Nat} {w : zW} {Q : zQ} {x : Int64} (hs : SET x) (h : Q (some (.long (besF x))) w) : WM d m_N_beside 4 [.long x] w Q := by
  rw [← besN_eq hs] at h
  exact n_N_beside (t_N_beside_0 h)
theorem lp_N_grown {d : Nat} {w : zW} {Q : zQ} {s t : Int64} (ht : SET t) (h : Q (some (.long (cl s t))) w) : ∀ (n : Nat) (x : Int64), Reach s t x → 36 ≤ n + cn x → WP (d + 1) m_N_grown 2 [none, none, some (.long t), none, some (.long x), none, some (.long (grow t x)), none] [] w Q
  | 0, x, hr, hn => by
    have e : grow t x = x := (grw_is ht 0 x hr hn).2
    refine t_N_grown_2 (fun _ => t_N_grown_5 ?_) (fun g => absurd e g)
    rw [cl_eq ht ⟨hr, e⟩]
    exact h
  | n + 1, x, hr, hn => by
    have hX : SET x := hr.2.1.toSET ht
    refine t_N_grown_2 (fun e => t_N_grown_5 ?_) (fun g => t_N_grown_3 (s_N_beside (SET.and' _ ht) (t_N_grown_4 ?_)))
    · rw [cl_eq ht ⟨hr, e⟩]
      exact h
    · have h1 := cn_lt (sub6_grow hX ht hr.2.1) (fun q => g q.symm)
      exact lp_N_grown ht h n (grow t x) (hr.step ht) (by omega)
theorem s_N_grown {d : Nat} {w : zW} {Q : zQ} {s t : Int64} (ht : SET t) (h : Q (some (.long (cl s t))) w) : WM (d + 1) m_N_grown 8 [.long s, .long t] w Q :=
  n_N_grown (t_N_grown_0 (s_N_beside (SET.and' _ ht) (t_N_grown_1 (lp_N_grown ht h 36 _ (Reach.start s t) (by omega)))))
theorem s_N_holeAt {d : Nat} {w : zW} {Q : zQ} {k : Nat} (ht : SET (gL w 10 7)) (h : Q (some (.long (cl (b1 k) (gL w 10 7)))) w) : WM (d + 2) m_N_holeAt 2 [.ref 10, .int (nI k)] w Q :=
  n_N_holeAt (t_N_holeAt_0 (s_N_grown ht (t_N_holeAt_1 h)))
