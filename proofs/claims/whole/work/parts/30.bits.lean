/-! ===== sets of cells: bits of a long ===== -/
def bt6 (x : Int64) (i : Nat) : Bool := x.toBitVec.getLsbD i
theorem bx_ext {x y : Int64} (h : ∀ i, i < 64 → bt6 x i = bt6 y i) : x = y := by
  apply Int64.toBitVec_inj.mp
  apply BitVec.eq_of_getLsbD_eq
  exact h
theorem bx_ge {x : Int64} {i : Nat} (h : 64 ≤ i) : bt6 x i = false := BitVec.getLsbD_of_ge _ _ h
theorem bx_and (x y : Int64) (i : Nat) : bt6 (x &&& y) i = (bt6 x i && bt6 y i) := by simp [bt6]
theorem bx_or (x y : Int64) (i : Nat) : bt6 (x ||| y) i = (bt6 x i || bt6 y i) := by simp [bt6]
theorem bx_xor (x y : Int64) (i : Nat) : bt6 (x ^^^ y) i = (bt6 x i ^^ bt6 y i) := by simp [bt6]
theorem bx_m1 {i : Nat} (h : i < 64) : bt6 (-1) i = true := by
  have : ∀ i, i < 64 → bt6 (-1) i = true := by decide +kernel
  exact this i h
theorem bx_not (x : Int64) (i : Nat) : bt6 (x ^^^ (-1)) i = (decide (i < 64) && !bt6 x i) := by
  rw [bx_xor]
  by_cases h : i < 64
  · rw [bx_m1 h]; simp [h]
  · rw [bx_ge (by omega), bx_ge (by omega)]; simp [h]
theorem bx_0 (i : Nat) : bt6 0 i = false := by simp [bt6]
theorem zk_sh : ∀ k, k < 64 → (((nI k).toInt64 &&& 63).toBitVec.smod 64).toNat = k := by decide +kernel
theorem zk_us : ∀ k, k < 64 → (((nI k).toInt64.toUInt64 &&& Int64.toUInt64 63).toBitVec % 64).toNat = k := by decide +kernel
theorem bx_sl {k : Nat} (hk : k < 64) (x : Int64) (i : Nat) : bt6 (zsl x (nI k)) i = (decide (i < 64) && decide (k ≤ i) && bt6 x (i - k)) := by
  unfold zsl bt6
  rw [Int64.toBitVec_shiftLeft, BitVec.shiftLeft_eq', zk_sh k hk, BitVec.getLsbD_shiftLeft]
  by_cases h : i < 64 <;> by_cases h2 : i < k <;> simp [h, h2] <;> omega
theorem bx_us {k : Nat} (hk : k < 64) (x : Int64) (i : Nat) : bt6 (zus x (nI k)) i = bt6 x (k + i) := by
  unfold zus bt6
  rw [UInt64.toBitVec_toInt64, UInt64.toBitVec_shiftRight, BitVec.ushiftRight_eq', zk_us k hk, BitVec.getLsbD_ushiftRight, Int64.toBitVec_toUInt64]
theorem bx_sr {k : Nat} (hk : k < 64) (x : Int64) (i : Nat) : bt6 (zsr x (nI k)) i = (decide (i < 64) && if k + i < 64 then bt6 x (k + i) else bt6 x 63) := by
  unfold zsr bt6
  rw [Int64.toBitVec_shiftRight, BitVec.sshiftRight_eq', zk_sh k hk, BitVec.getLsbD_sshiftRight]
  by_cases h : i < 64 <;> simp [h, BitVec.msb_eq_getLsbD_last] <;> omega
/-- one cell -/
def b1 (k : Nat) : Int64 := zsl 1 (nI k)
theorem bx_1 (i : Nat) : bt6 1 i = decide (i = 0) := by
  by_cases h : i < 64
  · have : ∀ i, i < 64 → bt6 1 i = decide (i = 0) := by decide +kernel
    exact this i h
  · rw [bx_ge (by omega)]; simp; omega
theorem bx_b1 {k : Nat} (hk : k < 64) (i : Nat) : bt6 (b1 k) i = decide (i = k) := by
  unfold b1
  rw [bx_sl hk, bx_1, Bool.eq_iff_iff]
  simp
  omega
theorem bx_has {k : Nat} (hk : k < 64) (x : Int64) : ((zus x (nI k)) &&& 1) = 0 ↔ bt6 x k = false := by
  constructor
  · intro h
    have := congrArg (fun z => bt6 z 0) h
    simp only [bx_and, bx_us hk, bx_1, bx_0] at this
    simpa using this
  · intro h
    apply bx_ext
    intro i hi
    rw [bx_and, bx_us hk, bx_1, bx_0]
    by_cases e : i = 0
    · subst e; simp [h]
    · simp [e]
theorem bx_hasr {k : Nat} (hk : k < 63) (x : Int64) : ((zsr x (nI k)) &&& 1) = 1 ↔ bt6 x k = true := by
  constructor
  · intro h
    have := congrArg (fun z => bt6 z 0) h
    simp only [bx_and, bx_sr (show k < 64 by omega), bx_1] at this
    simpa [show k < 64 by omega] using this
  · intro h
    apply bx_ext
    intro i hi
    rw [bx_and, bx_sr (by omega), bx_1]
    by_cases e : i = 0
    · subst e; simp [h, show k < 64 by omega]
    · simp [e]
/-- a set of cells -/
def SET (x : Int64) : Prop := ∀ i, 36 ≤ i → bt6 x i = false
theorem bx_all (i : Nat) : bt6 68719476735 i = decide (i < 36) := by
  by_cases h : i < 64
  · have : ∀ i, i < 64 → bt6 68719476735 i = decide (i < 36) := by decide +kernel
    exact this i h
  · rw [bx_ge (by omega)]; simp; omega
theorem SET.all : SET 68719476735 := fun i h => by rw [bx_all]; simp; omega
theorem SET.and {x : Int64} (h : SET x) (y : Int64) : SET (x &&& y) := fun i hi => by rw [bx_and, h i hi]; rfl
theorem SET.and' {y : Int64} (x : Int64) (h : SET y) : SET (x &&& y) := fun i hi => by rw [bx_and, h i hi]; simp
theorem SET.or {x y : Int64} (h : SET x) (h2 : SET y) : SET (x ||| y) := fun i hi => by rw [bx_or, h i hi, h2 i hi]; rfl
theorem SET.zero : SET 0 := fun i _ => bx_0 i
theorem SET.one {k : Nat} (h : k < 36) : SET (b1 k) := fun i hi => by rw [bx_b1 (by omega)]; simp; omega
theorem SET.ext {x y : Int64} (hx : SET x) (hy : SET y) (h : ∀ i, i < 36 → bt6 x i = bt6 y i) : x = y := by
  apply bx_ext
  intro i hi
  by_cases q : i < 36
  · exact h i q
  · rw [hx i (by omega), hy i (by omega)]
theorem bx_ne0 {x : Int64} (h : ¬ x = 0) : ∃ i, i < 64 ∧ bt6 x i = true := by
  apply Classical.byContradiction
  intro q
  apply h
  apply bx_ext
  intro i hi
  rw [bx_0]
  cases e : bt6 x i with
  | false => rfl
  | true => exact absurd ⟨i, hi, e⟩ q
theorem SET.ne0 {x : Int64} (hx : SET x) (h : ¬ x = 0) : ∃ i, i < 36 ∧ bt6 x i = true := by
  obtain ⟨i, -, hb⟩ := bx_ne0 h
  refine ⟨i, ?_, hb⟩
  apply Nat.lt_of_not_le
  intro q
  rw [hx i q] at hb
  cases hb
/-- part of -/
def sub6 (x y : Int64) : Prop := ∀ i, bt6 x i = true → bt6 y i = true
theorem sub6.rf {x : Int64} : sub6 x x := fun _ h => h
theorem sub6.tr {x y z : Int64} (h : sub6 x y) (h2 : sub6 y z) : sub6 x z := fun i q => h2 i (h i q)
theorem sub6.eq {x y : Int64} (h : sub6 x y) (h2 : sub6 y x) : x = y := by
  apply bx_ext
  intro i _
  cases e : bt6 x i with
  | true => exact (h i e).symm
  | false =>
    cases e2 : bt6 y i with
    | false => rfl
    | true => rw [h2 i e2] at e; cases e
theorem sub6.toSET {x y : Int64} (h : sub6 x y) (hy : SET y) : SET x := fun i hi => by
  cases e : bt6 x i with
  | false => rfl
  | true => rw [← hy i hi]; exact (h i e).symm
/-! counting -/
def cn (x : Int64) : Nat := (List.range 64).countP (fun i => bt6 x i)
theorem cn_0 : cn 0 = 0 := by
  unfold cn
  rw [List.countP_eq_zero]
  intro i _
  simp [bx_0]
theorem cn_le {x y : Int64} (h : sub6 x y) : cn x ≤ cn y := List.countP_mono_left (fun i _ q => h i q)
theorem countP_split (p : Nat → Bool) {k : Nat} : ∀ {n : Nat}, k < n → p k = true → (List.range n).countP p = (List.range n).countP (fun i => p i && decide (i ≠ k)) + 1
  | 0, h, _ => absurd h (by omega)
  | n + 1, h, hp => by
    rw [List.range_succ, List.countP_append, List.countP_append]
    by_cases e : k = n
    · subst e
      have e1 : (List.range k).countP p = (List.range k).countP (fun i => p i && decide (i ≠ k)) := by
        apply List.countP_congr
        intro i hi
        have : i < k := List.mem_range.mp hi
        simp; omega
      rw [e1]
      simp [hp]
    · rw [countP_split p (show k < n by omega) hp]
      have e3 : ¬ n = k := fun q => e q.symm
      simp only [List.countP_cons, List.countP_nil, e3, ne_eq, not_false_eq_true, decide_true, Bool.and_true]
      omega
theorem cn_del {x : Int64} {k : Nat} (hk : k < 64) (h : bt6 x k = true) : cn x = cn (x &&& (b1 k ^^^ (-1))) + 1 := by
  unfold cn
  rw [countP_split (fun i => bt6 x i) hk h]
  congr 1
  apply List.countP_congr
  intro i hi
  have : i < 64 := List.mem_range.mp hi
  rw [bx_and, bx_not, bx_b1 hk]
  simp [this]
theorem cn_lt {x y : Int64} (h : sub6 x y) (hne : ¬ x = y) : cn x < cn y := by
  have : ∃ i, i < 64 ∧ bt6 y i = true ∧ bt6 x i = false := by
    apply Classical.byContradiction
    intro q
    apply hne
    apply h.eq
    intro i hi
    cases e : bt6 x i with
    | true => rfl
    | false =>
      by_cases h64 : i < 64
      · exact absurd ⟨i, h64, hi, e⟩ q
      · rw [bx_ge (by omega)] at hi; cases hi
  obtain ⟨k, hk, hy, hx⟩ := this
  rw [cn_del hk hy]
  apply Nat.lt_succ_of_le
  apply cn_le
  intro i hi
  rw [bx_and, bx_not, bx_b1 hk]
  have h1 := h i hi
  have h2 : i ≠ k := fun e => by rw [e, hx] at hi; cases hi
  have h3 : i < 64 := Nat.lt_of_not_le fun q => by rw [bx_ge q] at hi; cases hi
  simp [h1, h2, h3]
theorem cn_pos {x : Int64} (h : ¬ x = 0) : 0 < cn x := by
  have := cn_lt (x := 0) (y := x) (fun i hi => by rw [bx_0] at hi; cases hi) (fun e => h e.symm)
  omega
theorem cn_set {x : Int64} (h : SET x) : cn x ≤ 36 := by
  have := cn_le (x := x) (y := 68719476735) (fun i hi => by
    rw [bx_all]
    simp
    apply Nat.lt_of_not_le
    intro q
    rw [h i q] at hi
    cases hi)
  have e : cn 68719476735 = 36 := by decide +kernel
  omega
theorem cn_64 (x : Int64) : cn x ≤ 64 := by
  unfold cn
  have := List.countP_le_length (p := fun i => bt6 x i) (l := List.range 64)
  simpa using this
/-- the least cell -/
def lo6 (x : Int64) : Nat := ((List.range 64).find? (fun i => bt6 x i)).getD 64
theorem lo6_spec {x : Int64} (h : ¬ x = 0) : lo6 x < 64 ∧ bt6 x (lo6 x) = true ∧ ∀ j, j < lo6 x → bt6 x j = false := by
  obtain ⟨i, hi, hb⟩ := bx_ne0 h
  have hs : ((List.range 64).find? (fun i => bt6 x i)).isSome := by
    rw [List.find?_isSome]
    exact ⟨i, List.mem_range.mpr hi, hb⟩
  unfold lo6
  cases e : (List.range 64).find? (fun i => bt6 x i) with
  | none => rw [e] at hs; cases hs
  | some k =>
    have h1 := List.find?_some e
    have h2 := List.mem_range.mp (List.mem_of_find?_eq_some e)
    refine ⟨h2, h1, fun j hj => ?_⟩
    have h3 := List.find?_eq_some_iff_getElem.mp e
    obtain ⟨-, n, hn, hk, hlt⟩ := h3
    simp at hk
    subst hk
    have := hlt j hj
    simpa using this
theorem lo6_eq {x : Int64} {k : Nat} (hk : bt6 x k = true) (hl : ∀ j, j < k → bt6 x j = false) : lo6 x = k := by
  have hne : ¬ x = 0 := fun e => by rw [e, bx_0] at hk; cases hk
  obtain ⟨h1, h2, h3⟩ := lo6_spec hne
  rcases Nat.lt_trichotomy (lo6 x) k with h | h | h
  · rw [hl _ h] at h2; cases h2
  · exact h
  · rw [h3 _ h] at hk; cases hk
theorem lo6_set {x : Int64} (hx : SET x) (h : ¬ x = 0) : lo6 x < 36 := by
  obtain ⟨h1, h2, h3⟩ := lo6_spec h
  apply Nat.lt_of_not_le
  intro q
  rw [hx _ q] at h2
  cases h2
