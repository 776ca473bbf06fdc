/-! ===== books ===== -/
theorem tn_lN {k : Nat} (h : k < 2 ^ 64) : tn (lN k) = k := (BitVec.toNat_ofNat k 64).trans (Nat.mod_eq_of_lt h)
theorem set_in {x : Int64} : (decide ((0 : Int64) ≤ x) && decide (x ≤ 68719476735)) = true ↔ SET x := by
  rw [Bool.and_eq_true, decide_eq_true_eq, decide_eq_true_eq]
  constructor
  · rintro ⟨h0, h1⟩ i hi
    obtain ⟨k, hk, rfl⟩ := pk_lOf (x := x) (nlt64.mpr h0)
    have hk2 : k ≤ 68719476735 := (pk_lLE (b := 68719476735) hk (by decide)).mp h1
    rw [tn_bit, tn_lN (by omega)]
    apply Nat.testBit_lt_two_pow
    have : 2 ^ 36 ≤ 2 ^ i := Nat.pow_le_pow_right (by decide) hi
    omega
  · intro h
    have ht : tn x < 2 ^ 36 := Nat.lt_pow_two_of_testBit _ (fun i hi => by rw [← tn_bit]; exact h i hi)
    have e : x = lN (tn x) := tn_inj (by rw [tn_lN (by omega)])
    rw [e]
    exact ⟨nlt64.mp (fun q => absurd ((pk_lLT (b := 0) (by omega) (by decide)).mp q) (by omega)), (pk_lLE (b := 68719476735) (by omega) (by decide)).mpr (by omega)⟩
theorem bx_nall {i : Nat} (h : i < 64) : bt6 (-68719476736) i = decide (36 ≤ i) := by
  have : ∀ i, i < 64 → bt6 (-68719476736) i = decide (36 ≤ i) := by decide +kernel
  exact this i h
theorem set_c {x : Int64} : x &&& (-68719476736) = 0 ↔ SET x := by
  constructor
  · intro h i hi
    by_cases q : i < 64
    · have := congrArg (fun z => bt6 z i) h
      simp only [bx_and, bx_0] at this
      rw [bx_nall q, decide_eq_true hi, Bool.and_true] at this
      exact this
    · exact bx_ge (by omega)
  · intro h
    apply bx_ext
    intro i hi
    rw [bx_and, bx_0, bx_nall hi]
    by_cases q : 36 ≤ i
    · rw [h i q]; rfl
    · rw [decide_eq_false q, Bool.and_false]
/-- does a way fit -/
def fitA (S : zS) (s : Int64) (ho tx : Int32) (x : Int64) : Bool := (decide (ho < 0) || decide (nI (hls (opS S &&& (s ^^^ (-1)) ||| x)).length = ho)) && (decide (tx < 0) || decide (txA (nI (raS S)) (roS S) (niS S &&& (s ^^^ (-1))) (opS S &&& (s ^^^ (-1)) ||| x) = tx))
theorem s_G_fits {d : Nat} {w : zW} {Q : zQ} {S : zS} {s x : Int64} {ho tx : Int32} (hG : GC w 1 S) (h : Q (some (.int (zb (fitA S s ho tx x)))) w) : WM (d + 4) m_G_fits 9 [.ref 1, .long s, .long x, .int ho, .int tx] w Q := by
  have e2 : gL w 1 2 = opS S := hG.2.2.1
  have e3 : gL w 1 3 = niS S := hG.2.2.2.1
  have e4 : gL w 1 4 = roS S := hG.2.2.2.2.1
  have e5 : gI w 1 5 = nI (raS S) := hG.2.2.2.2.2.1
  have key : (decide (ho < 0) || decide (nI (hls (opS S &&& (s ^^^ (-1)) ||| x)).length = ho)) = true → WP (d + 4) m_G_fits 4 [some (.ref 1), some (.long s), none, none, none, none, some (.int tx), some (.long (opS S &&& (s ^^^ (-1)) ||| x)), none] [] w Q := fun hh => by
    unfold fitA at h
    rw [hh, Bool.true_and] at h
    refine t_G_fits_4 (fun g => t_G_fits_7 (t_G_fits_9 (Or.inr rfl) ?_)) (fun g => t_G_fits_5 (s_G_taxOfAll (t_G_fits_6 (fun g2 => t_G_fits_8 (t_G_fits_9 (Or.inl rfl) ?_)) (fun g2 => t_G_fits_7 (t_G_fits_9 (Or.inr rfl) ?_)))))
    · rw [decide_eq_true g] at h; exact h
    · rw [e5, e4, e3] at g2
      rw [decide_eq_false g, decide_eq_false g2] at h; exact h
    · rw [e5, e4, e3] at g2
      rw [decide_eq_true g2, Bool.or_true] at h; exact h
  refine n_G_fits (t_G_fits_0 (fun g => ?_) (fun g => t_G_fits_1 ?_))
  · rw [e2]; exact key (by rw [decide_eq_true g]; rfl)
  · rw [e2]
    refine s_P_holesOf (t_G_fits_2 (fun g2 => key (by rw [decide_eq_true g2, Bool.or_true])) (fun g2 => t_G_fits_3 ?_))
    unfold fitA at h
    rw [decide_eq_false g, decide_eq_false g2] at h
    exact h
theorem lp_C_books {d : Nat} {w : zW} {Q : zQ} {S : zS} {s : Int64} {ho tx k : Int32} (hG : GC w 1 S) : ∀ (l : List Int64) (x : Int64) (a : bkT) (j : Nat), UPL s (x :: l) → j + (x :: l).length ≤ 64 → Q (some (.long (bkA s k ((x :: l).foldl (stC (fitA S s ho tx)) a) (s &&& (((x :: l).foldl (stC (fitA S s ho tx)) a).2.2.2 ^^^ (-1)))))) w → WP (d + 5) m_C_books 12 [some (.ref 0), some (.long s), none, some (.int ho), some (.int tx), some (.int k), some (.int a.1), some (.long a.2.1), none, some (.long a.2.2.1), none, some (.long a.2.2.2), none, some (.long x), none, some (.int (nI j))] [] w Q := by
  intro l
  induction l with
  | nil =>
    intro x a j hu hj h
    rw [List.length_singleton] at hj
    have fin : ∀ b : bkT, b = stC (fitA S s ho tx) a x → WP (d + 5) m_C_books 19 [some (.ref 0), some (.long s), none, some (.int ho), some (.int tx), some (.int k), some (.int b.1), some (.long b.2.1), none, some (.long b.2.2.1), none, some (.long b.2.2.2), none, some (.long x), none, some (.int (nI j))] [] w Q := by
      rintro b rfl
      have h : Q (some (.long (bkA s k (stC (fitA S s ho tx) a x) (s &&& ((stC (fitA S s ho tx) a x).2.2.2 ^^^ (-1)))))) w := h
      generalize stC (fitA S s ho tx) a x = b at *
      unfold bkA at h
      refine t_C_books_19 (fun g => absurd hu g) (fun _ => t_C_books_20 (t_C_books_22 (fun g => t_C_books_24 (fun g2 => t_C_books_26 (fun g3 => t_C_books_28 (fun g4 => t_C_books_30 (t_C_books_31 ?_)) (fun g4 => t_C_books_29 (t_C_books_31 ?_))) (fun g3 => t_C_books_27 ?_)) (fun g2 => t_C_books_25 ?_)) (fun g => t_C_books_23 ?_)))
      · rw [if_neg g, if_neg g2, if_neg g3, if_neg g4] at h; exact h
      · rw [if_neg g, if_neg g2, if_neg g3, if_pos g4] at h; exact h
      · rw [if_neg g, if_neg g2, if_pos g3] at h; exact h
      · rw [if_neg g, if_pos g2] at h; exact h
      · rw [if_pos g] at h; exact h
    refine t_C_books_12 (fun g => absurd g (nI_ge (show j < 64 by omega) (by decide))) (fun _ => t_C_books_13 (s_G_fits hG (t_C_books_14 (fun g => fin _ ?_) (fun g => t_C_books_15 (fun g2 => t_C_books_17 (t_C_books_18 (fin (a.1 + 1, a.2.1, a.2.2.1 &&& x, a.2.2.2 ||| x) ?_))) (fun g2 => t_C_books_16 (t_C_books_18 (fin (a.1 + 1, x, a.2.2.1 &&& x, a.2.2.2 ||| x) ?_)))))))
    · rw [stC_f (by rw [zb_t.mp g]; decide)]
    · rw [stC_t (zb_f.mp g), if_neg g2]
    · rw [stC_t (zb_f.mp g), if_pos g2]
  | cons y l ih =>
    intro x a j hu hj h
    rw [List.length_cons] at hj
    obtain ⟨u1, u2, u3⟩ := hu
    have fin : ∀ b : bkT, b = stC (fitA S s ho tx) a x → WP (d + 5) m_C_books 19 [some (.ref 0), some (.long s), none, some (.int ho), some (.int tx), some (.int k), some (.int b.1), some (.long b.2.1), none, some (.long b.2.2.1), none, some (.long b.2.2.2), none, some (.long x), none, some (.int (nI j))] [] w Q := by
      rintro b rfl
      refine t_C_books_19 (fun g => t_C_books_21 ?_) (fun g => absurd (show y = 0 by rw [← u1]; exact g) u2)
      rw [n1, show (x - s) &&& s = y from u1]
      exact ih y (stC (fitA S s ho tx) a x) (j + 1) u3 (by omega) h
    refine t_C_books_12 (fun g => absurd g (nI_ge (show j < 64 by omega) (by decide))) (fun _ => t_C_books_13 (s_G_fits hG (t_C_books_14 (fun g => fin _ ?_) (fun g => t_C_books_15 (fun g2 => t_C_books_17 (t_C_books_18 (fin (a.1 + 1, a.2.1, a.2.2.1 &&& x, a.2.2.2 ||| x) ?_))) (fun g2 => t_C_books_16 (t_C_books_18 (fin (a.1 + 1, x, a.2.2.1 &&& x, a.2.2.2 ||| x) ?_)))))))
    · rw [stC_f (by rw [zb_t.mp g]; decide)]
    · rw [stC_t (zb_f.mp g), if_neg g2]
    · rw [stC_t (zb_f.mp g), if_pos g2]
/-- the reference while it looks -/
def BKW (w0 w : zW) (S : zS) (s : Int64) : Prop := EQX mRI mRL w0 w ∧ gL w 10 8 = niS S &&& (s ^^^ (-1)) ∧ gI w 10 3 = nI (raS S) ∧ gL w 10 2 = roS S
theorem lp_N_books {d : Nat} {w0 : zW} {Q : zQ} {S : zS} {s : Int64} {ho tx k : Int32} (hs : SET s) : ∀ (l : List Int64) (x : Int64) (a : bkT) (w : zW), BKW w0 w S s → sub6 x s → DNL s (x :: l) → (∀ w', EQX mRI mRL w0 w' → Q (some (.long (bkA s k ((x :: l).foldl (stN (fitA S s ho tx)) a) ((x :: l).foldl (stN (fitA S s ho tx)) a).2.2.2))) w') → WP (d + 5) m_N_books 13 [some (.ref 10), some (.long s), none, some (.int ho), some (.int tx), some (.int k), some (.long (opS S &&& (s ^^^ (-1)))), none, some (.int a.1), some (.long a.2.1), none, some (.long a.2.2.1), none, some (.long a.2.2.2), none, some (.int 1), some (.long x), none, none] [] w Q := by
  intro l
  induction l with
  | nil =>
    intro x a w hw hx hd h
    have fin : ∀ (b : bkT) (wa : zW), EQX mRI mRL w0 wa → b = stN (fitA S s ho tx) a x → WP (d + 5) m_N_books 20 [some (.ref 10), some (.long s), none, some (.int ho), some (.int tx), some (.int k), some (.long (opS S &&& (s ^^^ (-1)))), none, some (.int b.1), some (.long b.2.1), none, some (.long b.2.2.1), none, some (.long b.2.2.2), none, none, some (.long x), none, none] [] wa Q := by
      rintro b wa xa rfl
      have h : Q (some (.long (bkA s k (stN (fitA S s ho tx) a x) (stN (fitA S s ho tx) a x).2.2.2))) wa := h wa xa
      generalize stN (fitA S s ho tx) a x = b at *
      unfold bkA at h
      refine t_N_books_20 (fun _ => t_N_books_22 (t_N_books_23 (t_N_books_13 (fun _ => t_N_books_24 (fun g => t_N_books_26 (fun g2 => t_N_books_28 (fun g3 => t_N_books_30 (fun g4 => t_N_books_32 (t_N_books_33 ?_)) (fun g4 => t_N_books_31 (t_N_books_33 ?_))) (fun g3 => t_N_books_29 (t_N_books_33 ?_))) (fun g2 => t_N_books_27 (t_N_books_33 ?_))) (fun g => t_N_books_25 (t_N_books_33 ?_))) (fun g => absurd rfl g)))) (fun g => absurd hd g)
      · rw [if_neg g, if_neg g2, if_neg g3, if_neg g4] at h; exact h
      · rw [if_neg g, if_neg g2, if_neg g3, if_pos g4] at h; exact h
      · rw [if_neg g, if_neg g2, if_pos g3] at h; exact h
      · rw [if_neg g, if_pos g2] at h; exact h
      · rw [if_pos g] at h; exact h
    obtain ⟨hw1, hw2, hw3, hw4⟩ := hw
    have e7 : gL (sL w 10 7 (opS S &&& (s ^^^ (-1)) ||| x)) 10 7 = opS S &&& (s ^^^ (-1)) ||| x := by rw [gL_sL, if_pos ⟨rfl, rfl⟩]
    have e8 : gL (sL w 10 7 (opS S &&& (s ^^^ (-1)) ||| x)) 10 8 = niS S &&& (s ^^^ (-1)) := by rw [gL_sL, if_neg (by decide)]; exact hw2
    have e2 : gL (sL w 10 7 (opS S &&& (s ^^^ (-1)) ||| x)) 10 2 = roS S := by rw [gL_sL, if_neg (by decide)]; exact hw4
    have e3 : gI (sL w 10 7 (opS S &&& (s ^^^ (-1)) ||| x)) 10 3 = nI (raS S) := hw3
    have hset : SET (opS S &&& (s ^^^ (-1)) ||| x) := ((SET_op S).and _).or (hx.toSET hs)
    refine t_N_books_13 (fun g => absurd g (by decide)) (fun _ => t_N_books_14 (s_N_taxOfAll (by rw [e7]; exact hset) (fun wa hf => ?_)))
    rw [e7, e8, e2, e3]
    rw [e7] at hf
    have xa : EQX mRI mRL w0 wa := (hw1.pL (o := 10) (k := 7) _ rfl).tr hf.eqx
    have k17 : (decide (ho < 0) || decide (nI (hls (opS S &&& (s ^^^ (-1)) ||| x)).length = ho)) = true → WP (d + 5) m_N_books 17 [some (.ref 10), some (.long s), none, some (.int ho), some (.int tx), some (.int k), some (.long (opS S &&& (s ^^^ (-1)))), none, some (.int a.1), some (.long a.2.1), none, some (.long a.2.2.1), none, some (.long a.2.2.2), none, none, some (.long x), none, some (.int (txA (nI (raS S)) (roS S) (niS S &&& (s ^^^ (-1))) (opS S &&& (s ^^^ (-1)) ||| x)))] [] wa Q := fun hh => by
      have ef : fitA S s ho tx x = (decide (tx < 0) || decide (txA (nI (raS S)) (roS S) (niS S &&& (s ^^^ (-1))) (opS S &&& (s ^^^ (-1)) ||| x) = tx)) := by unfold fitA; rw [hh, Bool.true_and]
      refine t_N_books_17 (fun g => t_N_books_19 (fin (a.1 + 1, x, a.2.2.1 &&& x, a.2.2.2 &&& (x ^^^ (-1))) wa xa ?_)) (fun g => t_N_books_18 (fun g2 => fin _ wa xa ?_) (fun g2 => t_N_books_19 (fin (a.1 + 1, x, a.2.2.1 &&& x, a.2.2.2 &&& (x ^^^ (-1))) wa xa ?_)))
      · rw [stN_t (by rw [ef, decide_eq_true g]; rfl)]
      · rw [stN_f (by rw [ef, decide_eq_false g, decide_eq_false g2]; decide)]
      · rw [stN_t (by rw [ef, decide_eq_true g2, Bool.or_true])]
    refine t_N_books_15 (fun g => k17 (by rw [decide_eq_true g]; rfl)) (fun g => t_N_books_16 (fun g2 => fin _ wa xa ?_) (fun g2 => k17 ?_))
    · rw [hf.1] at g2
      rw [stN_f (by unfold fitA; rw [decide_eq_false g, decide_eq_false g2]; exact Bool.false_ne_true)]
    · rw [hf.1] at g2
      rw [decide_eq_true g2, Bool.or_true]
  | cons y l ih =>
    intro x a w hw hx hd h
    obtain ⟨u1, u2, u3⟩ := hd
    obtain ⟨hw1, hw2, hw3, hw4⟩ := hw
    have e7 : gL (sL w 10 7 (opS S &&& (s ^^^ (-1)) ||| x)) 10 7 = opS S &&& (s ^^^ (-1)) ||| x := by rw [gL_sL, if_pos ⟨rfl, rfl⟩]
    have e8 : gL (sL w 10 7 (opS S &&& (s ^^^ (-1)) ||| x)) 10 8 = niS S &&& (s ^^^ (-1)) := by rw [gL_sL, if_neg (by decide)]; exact hw2
    have e2 : gL (sL w 10 7 (opS S &&& (s ^^^ (-1)) ||| x)) 10 2 = roS S := by rw [gL_sL, if_neg (by decide)]; exact hw4
    have e3 : gI (sL w 10 7 (opS S &&& (s ^^^ (-1)) ||| x)) 10 3 = nI (raS S) := hw3
    have hset : SET (opS S &&& (s ^^^ (-1)) ||| x) := ((SET_op S).and _).or (hx.toSET hs)
    refine t_N_books_13 (fun g => absurd g (by decide)) (fun _ => t_N_books_14 (s_N_taxOfAll (by rw [e7]; exact hset) (fun wa hf => ?_)))
    rw [e7, e8, e2, e3]
    rw [e7] at hf
    have xa : EQX mRI mRL w0 wa := (hw1.pL (o := 10) (k := 7) _ rfl).tr hf.eqx
    have hwa : BKW w0 wa S s := ⟨xa, by rw [hf.2.2.2.2 10 8 (by decide)]; exact e8, by rw [hf.2.2.2.1 10 3 (by decide)]; exact e3, by rw [hf.2.2.2.2 10 2 (by decide)]; exact e2⟩
    have fin : ∀ (b : bkT), b = stN (fitA S s ho tx) a x → WP (d + 5) m_N_books 20 [some (.ref 10), some (.long s), none, some (.int ho), some (.int tx), some (.int k), some (.long (opS S &&& (s ^^^ (-1)))), none, some (.int b.1), some (.long b.2.1), none, some (.long b.2.2.1), none, some (.long b.2.2.2), none, none, some (.long x), none, none] [] wa Q := by
      rintro b rfl
      refine t_N_books_20 (fun g => absurd g u1) (fun _ => t_N_books_21 (t_N_books_23 ?_))
      rw [show (x - 1) &&& s = y from u2]
      exact ih y (stN (fitA S s ho tx) a x) wa hwa (by rw [← u2]; exact fun i hi => by unfold pvS at hi; rw [bx_and, Bool.and_eq_true] at hi; exact hi.2) u3 h
    have k17 : (decide (ho < 0) || decide (nI (hls (opS S &&& (s ^^^ (-1)) ||| x)).length = ho)) = true → WP (d + 5) m_N_books 17 [some (.ref 10), some (.long s), none, some (.int ho), some (.int tx), some (.int k), some (.long (opS S &&& (s ^^^ (-1)))), none, some (.int a.1), some (.long a.2.1), none, some (.long a.2.2.1), none, some (.long a.2.2.2), none, none, some (.long x), none, some (.int (txA (nI (raS S)) (roS S) (niS S &&& (s ^^^ (-1))) (opS S &&& (s ^^^ (-1)) ||| x)))] [] wa Q := fun hh => by
      have ef : fitA S s ho tx x = (decide (tx < 0) || decide (txA (nI (raS S)) (roS S) (niS S &&& (s ^^^ (-1))) (opS S &&& (s ^^^ (-1)) ||| x) = tx)) := by unfold fitA; rw [hh, Bool.true_and]
      refine t_N_books_17 (fun g => t_N_books_19 (fin (a.1 + 1, x, a.2.2.1 &&& x, a.2.2.2 &&& (x ^^^ (-1))) ?_)) (fun g => t_N_books_18 (fun g2 => fin _ ?_) (fun g2 => t_N_books_19 (fin (a.1 + 1, x, a.2.2.1 &&& x, a.2.2.2 &&& (x ^^^ (-1))) ?_)))
      · rw [stN_t (by rw [ef, decide_eq_true g]; rfl)]
      · rw [stN_f (by rw [ef, decide_eq_false g, decide_eq_false g2]; decide)]
      · rw [stN_t (by rw [ef, decide_eq_true g2, Bool.or_true])]
    refine t_N_books_15 (fun g => k17 (by rw [decide_eq_true g]; rfl)) (fun g => t_N_books_16 (fun g2 => fin _ ?_) (fun g2 => k17 ?_))
    · rw [hf.1] at g2
      rw [stN_f (by unfold fitA; rw [decide_eq_false g, decide_eq_false g2]; exact Bool.false_ne_true)]
    · rw [hf.1] at g2
      rw [decide_eq_true g2, Bool.or_true]
def bkOK (s : Int64) (ho tx k : Int32) : Prop := SET s ∧ cn s ≤ 6 ∧ inI ho (-1) 36 = true ∧ inI tx (-1) 9999 = true ∧ inI k 0 3 = true
theorem n_books_bad {d : Nat} {w : zW} {Q : zQ} {s : Int64} {ho tx k : Int32} (hb : ¬ bkOK s ho tx k) (hq : Q (some (.long (-1))) w) : WM (d + 1) m_N_books 19 [.ref 10, .long s, .int ho, .int tx, .int k] w Q := by
  refine n_N_books (t_N_books_0 (s_N_in (t_N_books_1 (fun _ => t_N_books_10 hq) (fun g1 => t_N_books_2 (s_N_ones (t_N_books_3 (fun _ => t_N_books_10 hq) (fun g2 => t_N_books_4 (s_N_inI (a := -1) (b := 36) rfl rfl (t_N_books_5 (fun _ => t_N_books_10 hq) (fun g3 => t_N_books_6 (s_N_inI (a := -1) (b := 9999) rfl rfl (t_N_books_7 (fun _ => t_N_books_10 hq) (fun g4 => t_N_books_8 (s_N_inI (a := 0) (b := 3) rfl rfl (t_N_books_9 (fun g5 => absurd ⟨set_in.mp (zb_f.mp g1), ?_, zb_f.mp g3, zb_f.mp g4, zb_f.mp g5⟩ hb) (fun _ => t_N_books_10 hq))))))))))))))))
  exact Nat.le_of_not_lt fun q => g2 (nI_lt (a := 6) q (by have := cn_64 s; omega))
theorem n_books_ok {d : Nat} {w : zW} {Q : zQ} {s : Int64} {ho tx k : Int32} (hb : bkOK s ho tx k) (hq : WP (d + 1) m_N_books 11 [some (.ref 10), some (.long s), none, some (.int ho), some (.int tx), some (.int k), none, none, none, none, none, none, none, none, none, none, none, none, none] [] w Q) : WM (d + 1) m_N_books 19 [.ref 10, .long s, .int ho, .int tx, .int k] w Q := by
  obtain ⟨b1', b2, b3, b4, b5⟩ := hb
  exact n_N_books (t_N_books_0 (s_N_in (t_N_books_1 (fun g => absurd g (by rw [set_in.mpr b1']; decide)) (fun _ => t_N_books_2 (s_N_ones (t_N_books_3 (fun g => absurd g (nI_nlt (b := cn s) (a := 6) b2 (by decide))) (fun _ => t_N_books_4 (s_N_inI (a := -1) (b := 36) rfl rfl (t_N_books_5 (fun g => absurd g (by rw [b3]; decide)) (fun _ => t_N_books_6 (s_N_inI (a := -1) (b := 9999) rfl rfl (t_N_books_7 (fun g => absurd g (by rw [b4]; decide)) (fun _ => t_N_books_8 (s_N_inI (a := 0) (b := 3) rfl rfl (t_N_books_9 (fun _ => hq) (fun g => absurd g (by rw [b5]; decide)))))))))))))))))
theorem inI_tg {x a b : Int32} (h1 : ¬ x < a) (h2 : ¬ b < x) : inI x a b = true := inI_t h1 (by rw [Int32.not_lt] at h2; exact h2)
theorem inI_lt {x a b : Int32} (h : b < x) : inI x a b = false := inI_f.mpr (Or.inr (by rw [Int32.not_le]; exact h))
theorem op_books {d : Nat} {w : zW} {s : Int64} {ho tx k : Int32} (h : RW w) : OPP (d + 5) m_C_books 16 m_N_books 19 [.ref 0, .long s, .int ho, .int tx, .int k] [.ref 10, .long s, .int ho, .int tx, .int k] w := by
  have hR := h
  obtain ⟨S, K, T, H, h1, h2, h3, h4, h5, h6⟩ := h
  have bad : ¬ bkOK s ho tx k → WM (d + 5) m_N_books 19 [.ref 10, .long s, .int ho, .int tx, .int k] w (fun ra wa => some (.long (-1)) = ra ∧ RW wa ∧ SCR w wa) := fun hb => n_books_bad hb ⟨rfl, hR, SCR.rf⟩
  refine n_C_books (t_C_books_0 (fun g => t_C_books_3 (bad (fun q => g (set_c.mpr q.1)))) (fun g => t_C_books_1 (s_J_bitCount (t_C_books_2 (fun g2 => ?_) (fun g2 => t_C_books_3 (bad (fun q => g2 (nI_le (b := 6) q.2.1 (by decide)))))))))
  have hs := set_c.mp g
  have hc : cn s ≤ 6 := (nI_leI (b := 6) (by have := cn_64 s; omega) (by decide)).mp g2
  have b10 : inI ho (-1) 36 = false ∨ inI tx (-1) 9999 = false ∨ inI k 0 3 = false → WP (d + 5) m_C_books 10 [none, none, none, none, none, none, none, none, none, none, none, none, none, none, none, none] [] w (fun r1 w1 => WM (d + 5) m_N_books 19 [.ref 10, .long s, .int ho, .int tx, .int k] w1 (fun r2 w2 => r1 = r2 ∧ RW w2 ∧ SCR w w2)) := fun hb => t_C_books_10 (bad (fun q => by
    rcases hb with hb | hb | hb
    · rw [q.2.2.1] at hb; cases hb
    · rw [q.2.2.2.1] at hb; cases hb
    · rw [q.2.2.2.2] at hb; cases hb))
  refine t_C_books_4 (fun g3 => b10 (Or.inl (inI_f.mpr (Or.inl g3)))) (fun g3 => t_C_books_5 (fun g4 => b10 (Or.inl (inI_lt g4))) (fun g4 => t_C_books_6 (fun g5 => b10 (Or.inr (Or.inl (inI_f.mpr (Or.inl g5))))) (fun g5 => t_C_books_7 (fun g6 => b10 (Or.inr (Or.inl (inI_lt g6)))) (fun g6 => t_C_books_8 (fun g7 => b10 (Or.inr (Or.inr (inI_f.mpr (Or.inl g7))))) (fun g7 => t_C_books_9 (fun g8 => t_C_books_11 ?_) (fun g8 => b10 (Or.inr (Or.inr (inI_f.mpr (Or.inr g8))))))))))
  have hok : bkOK s ho tx k := ⟨hs, hc, inI_tg g3 g4, inI_tg g5 g6, inI_t g7 g8⟩
  obtain ⟨l, l1, l2, l3, l4⟩ := parts_ex hc 63 0 [] (fun i hi => by rw [bx_0] at hi; cases hi) (by omega) rfl
  rw [List.append_nil] at l3
  refine lp_C_books (S := S) (k := k) h2 l 0 (0, 0, s, 0) 0 l1 (by rw [List.length_cons]; omega) ?_
  rw [books_same (by rw [List.length_cons]; omega) k]
  refine n_books_ok hok (t_N_books_11 (s_N_look h3 h1 (fun wa hw => t_N_books_12 ?_)))
  have hrev : ∃ r, (0 :: l).reverse = s :: r := by
    have : (0 :: l).reverse.head? = some s := by rw [List.head?_reverse]; exact l4
    cases e : (0 :: l).reverse with
    | nil => rw [e] at this; cases this
    | cons y r => rw [e] at this; injection this with this; exact ⟨r, by rw [this]⟩
  obtain ⟨r, er⟩ := hrev
  rw [er] at l3 ⊢
  have gA := hw.gn h3
  have hx : EQX mRI mRL w (sL wa 10 8 (gL wa 10 8 &&& (s ^^^ (-1)))) := hw.eqx.pL (o := 10) (k := 8) _ rfl
  rw [hw.1]
  refine lp_N_books (w0 := w) (S := S) hs r s (0, 0, s, s) _ ⟨hx, ?_, gA.2.2.2.1, ?_⟩ sub6.rf l3 (fun wb xb => ⟨rfl, ?_⟩)
  · rw [gL_sL, if_pos ⟨rfl, rfl⟩, hw.2.1]
  · rw [gL_sL, if_neg (by decide)]; exact gA.2.2.1
  · exact shG (H := H) xb.rS h1 h2 h3 h4 h5 (xb.rN.nA.ksh.sht h6)
