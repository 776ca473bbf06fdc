/-! ===== beside, and what hangs together ===== -/
def besF (x : Int64) : Int64 := (((zsl x 6 ||| zus x 6) ||| zsl (x &&& -34905131041) 1) ||| zus (x &&& -1090785346) 1) &&& 68719476735
def adj (i j : Nat) : Bool := decide (j = i + 6) || decide (i = j + 6) || (decide (j = i + 1) && decide (i % 6 ≠ 5)) || (decide (i = j + 1) && decide (j % 6 ≠ 5))
theorem adj_symm (i j : Nat) : adj i j = adj j i := by
  unfold adj
  cases decide (j = i + 6) <;> cases decide (i = j + 6) <;> cases (decide (j = i + 1) && decide (i % 6 ≠ 5)) <;> cases (decide (i = j + 1) && decide (j % 6 ≠ 5)) <;> rfl
theorem bx_mR {i : Nat} (h : i < 36) : bt6 (-34905131041) i = decide (i % 6 ≠ 5) := by
  have : ∀ i, i < 36 → bt6 (-34905131041) i = decide (i % 6 ≠ 5) := by decide +kernel
  exact this i h
theorem bx_mL {i : Nat} (h : i < 36) : bt6 (-1090785346) i = decide (i % 6 ≠ 0) := by
  have : ∀ i, i < 36 → bt6 (-1090785346) i = decide (i % 6 ≠ 0) := by decide +kernel
  exact this i h
theorem SET.bes (x : Int64) : SET (besF x) := SET.and' _ SET.all
theorem bx_bes {x : Int64} (hx : SET x) {i : Nat} (hi : i < 36) : bt6 (besF x) i = ((decide (6 ≤ i) && bt6 x (i - 6)) || bt6 x (i + 6) || (decide (i % 6 ≠ 0) && bt6 x (i - 1)) || (decide (i % 6 ≠ 5) && bt6 x (i + 1))) := by
  unfold besF
  have h6 : (6 : Int32) = nI 6 := rfl
  have h1 : (1 : Int32) = nI 1 := rfl
  rw [h6, h1, bx_and, bx_all, bx_or, bx_or, bx_or, bx_sl (by decide), bx_us (by decide), bx_sl (by decide), bx_us (by decide), bx_and, bx_and]
  rw [Nat.add_comm 6 i, Nat.add_comm 1 i]
  have hi64 : i < 64 := by omega
  by_cases c1 : 1 ≤ i
  · rw [bx_mR (show i - 1 < 36 by omega)]
    have e1 : decide ((i - 1) % 6 ≠ 5) = decide (i % 6 ≠ 0) := by
      rw [decide_eq_decide]; omega
    rw [e1]
    by_cases c2 : i + 1 < 36
    · rw [bx_mL c2]
      have e2 : decide ((i + 1) % 6 ≠ 0) = decide (i % 6 ≠ 5) := by
        rw [decide_eq_decide]; omega
      rw [e2]
      simp only [hi, hi64, c1, decide_true, Bool.true_and, Bool.and_true]
      rw [Bool.and_comm (bt6 x (i - 1)), Bool.and_comm (bt6 x (i + 1))]
    · rw [hx (i + 1) (by omega)]
      simp only [hi, hi64, c1, decide_true, Bool.true_and, Bool.and_true, Bool.false_and, Bool.and_false]
      rw [Bool.and_comm (bt6 x (i - 1))]
  · have : i = 0 := by omega
    subst this
    simp [bx_mL (show 1 < 36 by decide)]
theorem bes_adj {x : Int64} (hx : SET x) {i : Nat} (hi : i < 36) : bt6 (besF x) i = true ↔ ∃ j, adj j i = true ∧ bt6 x j = true := by
  rw [bx_bes hx hi]
  simp only [Bool.or_eq_true, Bool.and_eq_true, decide_eq_true_eq]
  constructor
  · rintro (((⟨h1, h2⟩ | h2) | ⟨h1, h2⟩) | ⟨h1, h2⟩)
    · exact ⟨i - 6, by unfold adj; simp; omega, h2⟩
    · exact ⟨i + 6, by unfold adj; simp, h2⟩
    · exact ⟨i - 1, by unfold adj; simp; omega, h2⟩
    · exact ⟨i + 1, by unfold adj; simp; omega, h2⟩
  · rintro ⟨j, h1, h2⟩
    unfold adj at h1
    simp only [Bool.or_eq_true, Bool.and_eq_true, decide_eq_true_eq] at h1
    rcases h1 with ((h1 | h1) | h1) | h1
    · left; left; left; exact ⟨by omega, by rw [show i - 6 = j by omega]; exact h2⟩
    · left; left; right; rw [← h1]; exact h2
    · left; right; exact ⟨by omega, by rw [show i - 1 = j by omega]; exact h2⟩
    · right; exact ⟨h1.2, by rw [← h1.1]; exact h2⟩
/-- one step more -/
def grow (t x : Int64) : Int64 := (x ||| besF x) &&& t
theorem bg_grow {t x : Int64} (hx : SET x) (ht : SET t) (i : Nat) : bt6 (grow t x) i = true ↔ bt6 t i = true ∧ (bt6 x i = true ∨ ∃ j, adj j i = true ∧ bt6 x j = true) := by
  unfold grow
  rw [bx_and, bx_or, Bool.and_eq_true, Bool.or_eq_true]
  constructor
  · rintro ⟨h1, h2⟩
    refine ⟨h2, ?_⟩
    rcases h1 with h1 | h1
    · exact Or.inl h1
    · have hi : i < 36 := Nat.lt_of_not_le fun q => by rw [ht i q] at h2; cases h2
      exact Or.inr ((bes_adj hx hi).mp h1)
  · rintro ⟨h1, h2⟩
    refine ⟨?_, h1⟩
    rcases h2 with h2 | h2
    · exact Or.inl h2
    · have hi : i < 36 := Nat.lt_of_not_le fun q => by rw [ht i q] at h1; cases h1
      exact Or.inr ((bes_adj hx hi).mpr h2)
def Reach (s t X : Int64) : Prop := sub6 (s &&& t) X ∧ sub6 X t ∧ ∀ P : Nat → Prop, (∀ i, bt6 (s &&& t) i = true → P i) → (∀ i j, P i → bt6 t i = true → adj i j = true → bt6 t j = true → P j) → ∀ i, bt6 X i = true → P i
theorem Reach.start (s t : Int64) : Reach s t (s &&& t) := ⟨sub6.rf, fun i h => by rw [bx_and, Bool.and_eq_true] at h; exact h.2, fun P h1 _ i hi => h1 i hi⟩
theorem sub6_grow {t x : Int64} (hx : SET x) (ht : SET t) (h : sub6 x t) : sub6 x (grow t x) := fun i hi => (bg_grow hx ht i).mpr ⟨h i hi, Or.inl hi⟩
theorem Reach.step {s t X : Int64} (ht : SET t) (h : Reach s t X) : Reach s t (grow t X) := by
  have hX : SET X := h.2.1.toSET ht
  refine ⟨h.1.tr (sub6_grow hX ht h.2.1), fun i hi => ((bg_grow hX ht i).mp hi).1, fun P h1 h2 i hi => ?_⟩
  obtain ⟨g1, g2⟩ := (bg_grow hX ht i).mp hi
  rcases g2 with g2 | ⟨j, g2, g3⟩
  · exact h.2.2 P h1 h2 i g2
  · exact h2 j i (h.2.2 P h1 h2 j g3) (h.2.1 j g3) g2 g1
/-- all that hangs together with s in t -/
def IsCl (s t X : Int64) : Prop := Reach s t X ∧ grow t X = X
theorem IsCl.closed {s t X : Int64} (ht : SET t) (h : IsCl s t X) {i j : Nat} (hi : bt6 X i = true) (ha : adj i j = true) (hj : bt6 t j = true) : bt6 X j = true := by
  rw [← h.2]
  exact (bg_grow (h.1.2.1.toSET ht) ht j).mpr ⟨hj, Or.inr ⟨i, ha, hi⟩⟩
theorem IsCl.sub {s t X Y : Int64} (ht : SET t) (h : IsCl s t X) (h2 : IsCl s t Y) : sub6 X Y := fun i hi =>
  h.1.2.2 (fun i => bt6 Y i = true) (fun i h => h2.1.1 i h) (fun i j g1 _ g2 g3 => h2.closed ht g1 g2 g3) i hi
theorem IsCl.eq {s t X Y : Int64} (ht : SET t) (h : IsCl s t X) (h2 : IsCl s t Y) : X = Y := (h.sub ht h2).eq (h2.sub ht h)
def grw (t : Int64) : Nat → Int64 → Int64
  | 0, x => x
  | n + 1, x => grw t n (grow t x)
theorem grw_fix {t x : Int64} (h : grow t x = x) : ∀ n, grw t n x = x
  | 0 => rfl
  | n + 1 => by
    show grw t n (grow t x) = x
    rw [h]
    exact grw_fix h n
def cl (s t : Int64) : Int64 := grw t 36 (s &&& t)
theorem grw_is {s t : Int64} (ht : SET t) : ∀ (n : Nat) (X : Int64), Reach s t X → 36 ≤ n + cn X → IsCl s t (grw t n X)
  | 0, X, h, hn => by
    refine ⟨h, ?_⟩
    have hX : SET X := h.2.1.toSET ht
    apply Classical.byContradiction
    intro q
    have h1 := cn_lt (sub6_grow hX ht h.2.1) (fun e => q e.symm)
    have h2 := cn_set (SET.and' (X ||| besF X) ht)
    have h3 : cn (grow t X) ≤ 36 := h2
    omega
  | n + 1, X, h, hn => by
    have hX : SET X := h.2.1.toSET ht
    by_cases e : grow t X = X
    · show IsCl s t (grw t n (grow t X))
      rw [e, grw_fix e]
      exact ⟨h, e⟩
    · have h1 := cn_lt (sub6_grow hX ht h.2.1) (fun q => e q.symm)
      exact grw_is ht n (grow t X) (h.step ht) (by omega)
theorem cl_is {s t : Int64} (ht : SET t) : IsCl s t (cl s t) := by
  unfold cl
  by_cases e : s &&& t = 0
  · have h0 : grow t (s &&& t) = s &&& t := by
      rw [e]
      apply bx_ext
      intro i _
      rw [bx_0]
      cases q : bt6 (grow t 0) i with
      | false => rfl
      | true =>
        obtain ⟨-, q2⟩ := (bg_grow SET.zero ht i).mp q
        simp [bx_0] at q2
    rw [grw_fix h0]
    exact ⟨Reach.start s t, h0⟩
  · have := cn_pos e
    exact grw_is ht 36 _ (Reach.start s t) (by omega)
theorem cl_eq {s t X : Int64} (ht : SET t) (h : IsCl s t X) : X = cl s t := h.eq ht (cl_is ht)
theorem SET.cl {t : Int64} (s : Int64) (ht : SET t) : SET (cl s t) := (cl_is (s := s) ht).1.2.1.toSET ht
/-- the reference's way to go aside -/
def besN (x : Int64) : Int64 := (((zsr (x &&& -1090785346) 1 ||| zsl (x &&& -34905131041) 1) ||| zsr x 6) ||| zsl x 6) &&& 68719476735
theorem zsr_us {x : Int64} (hx : SET x) {k : Nat} (hk : k < 64) : zsr x (nI k) = zus x (nI k) := by
  apply bx_ext
  intro i hi
  rw [bx_sr hk, bx_us hk]
  by_cases h : k + i < 64
  · simp [h, hi]
  · rw [if_neg h, hx 63 (by decide), bx_ge (show 64 ≤ k + i by omega)]
    simp
theorem besN_eq {x : Int64} (hx : SET x) : besN x = besF x := by
  unfold besN besF
  have e1 : zsr (x &&& -1090785346) 1 = zus (x &&& -1090785346) 1 := zsr_us (k := 1) (hx.and _) (by decide)
  have e2 : zsr x 6 = zus x 6 := zsr_us (k := 6) hx (by decide)
  rw [e1, e2]
  congr 1
  generalize zus (x &&& -1090785346) 1 = a
  generalize zsl (x &&& -34905131041) 1 = b
  generalize zus x 6 = c
  generalize zsl x 6 = e
  apply bx_ext
  intro i _
  simp only [bx_or]
  cases bt6 a i <;> cases bt6 b i <;> cases bt6 c i <;> cases bt6 e i <;> rfl
