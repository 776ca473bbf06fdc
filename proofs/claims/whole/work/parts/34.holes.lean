/-! ===== holes, one after the other ===== -/
def comps : Nat → Int64 → List Int64
  | 0, _ => []
  | n + 1, x => if x = 0 then [] else cl (x &&& -x) x :: comps n (x &&& (cl (x &&& -x) x ^^^ (-1)))
def hls (x : Int64) : List Int64 := comps 36 x
theorem comps_0 (n : Nat) : comps n 0 = [] := by cases n <;> simp [comps]
theorem comps_s {n : Nat} {x : Int64} (h : ¬ x = 0) : comps (n + 1) x = cl (x &&& -x) x :: comps n (x &&& (cl (x &&& -x) x ^^^ (-1))) := by simp only [comps, if_neg h]
theorem bx_diff (x y : Int64) (i : Nat) : bt6 (x &&& (y ^^^ (-1))) i = (bt6 x i && !bt6 y i) := by
  rw [bx_and, bx_not]
  by_cases h : i < 64
  · simp [h]
  · rw [bx_ge (x := x) (by omega)]; simp
/-- the first hole: it has the least cell -/
theorem cl_mem {s t : Int64} (ht : SET t) {i : Nat} (hs : bt6 s i = true) (hi : bt6 t i = true) : bt6 (cl s t) i = true := (cl_is (s := s) ht).1.1 i (by rw [bx_and, hs, hi]; rfl)
theorem cl_sub {s t : Int64} (ht : SET t) : sub6 (cl s t) t := (cl_is (s := s) ht).1.2.1
theorem bx_lt {x : Int64} {i : Nat} (h : bt6 x i = true) : i < 64 := Nat.lt_of_not_le fun q => by rw [bx_ge q] at h; cases h
theorem SET.lt {x : Int64} (hx : SET x) {i : Nat} (h : bt6 x i = true) : i < 36 := Nat.lt_of_not_le fun q => by rw [hx i q] at h; cases h
theorem cl1_mem {t : Int64} (ht : SET t) {i : Nat} (hi : bt6 t i = true) : bt6 (cl (b1 i) t) i = true := cl_mem ht (by rw [bx_b1 (bx_lt hi)]; simp) hi
theorem first_eq {x : Int64} (h : ¬ x = 0) : cl (x &&& -x) x = cl (b1 (lo6 x)) x := by rw [bx_low h]
theorem comps_lt {x : Int64} (hx : SET x) (h : ¬ x = 0) : cn (x &&& (cl (x &&& -x) x ^^^ (-1))) < cn x := by
  obtain ⟨h1, h2, h3⟩ := lo6_spec h
  refine cn_lt (fun i hi => ?_) (fun e => ?_)
  · rw [bx_and, Bool.and_eq_true] at hi
    exact hi.1
  · have := congrArg (fun z => bt6 z (lo6 x)) e
    simp only [bx_diff] at this
    rw [first_eq h, cl1_mem hx h2, h2] at this
    cases this
theorem SET.diff {x : Int64} (hx : SET x) (y : Int64) : SET (x &&& (y ^^^ (-1))) := hx.and _
/-- enough is enough -/
theorem comps_enough : ∀ (n m : Nat) (x : Int64), SET x → cn x ≤ n → cn x ≤ m → comps n x = comps m x
  | n, m, x, hx, hn, hm => by
    by_cases h : x = 0
    · rw [h, comps_0, comps_0]
    · have h1 := comps_lt hx h
      have h2 := cn_pos h
      obtain ⟨n', rfl⟩ : ∃ k, n = k + 1 := ⟨n - 1, by omega⟩
      obtain ⟨m', rfl⟩ : ∃ k, m = k + 1 := ⟨m - 1, by omega⟩
      rw [comps_s h, comps_s h, comps_enough n' m' _ (hx.diff _) (by omega) (by omega)]
theorem comps_len : ∀ (n : Nat) (x : Int64), SET x → (comps n x).length ≤ cn x
  | 0, x, _ => by simp [comps]
  | n + 1, x, hx => by
    by_cases h : x = 0
    · rw [h, comps_0]; simp
    · rw [comps_s h]
      have h1 := comps_lt hx h
      have := comps_len n _ (hx.diff (cl (x &&& -x) x))
      simp only [List.length_cons]
      omega
/-- what is left is whole holes of t -/
def CLO (x t : Int64) : Prop := sub6 x t ∧ ∀ i j, bt6 x i = true → adj i j = true → bt6 t j = true → bt6 x j = true
theorem CLO.rf {t : Int64} : CLO t t := ⟨sub6.rf, fun _ _ _ _ h => h⟩
theorem CLO_cl {x t : Int64} (ht : SET t) (h : CLO x t) {s : Int64} (hs : sub6 (s &&& t) x) : cl s x = cl s t := by
  have hx : SET x := h.1.toSET ht
  have e := cl_is (s := s) hx
  refine cl_eq ht ⟨⟨fun i hi => ?_, e.1.2.1.tr h.1, fun P h1 h2 i hi => ?_⟩, ?_⟩
  · refine e.1.1 i ?_
    have := hs i hi
    rw [bx_and, Bool.and_eq_true] at hi
    rw [bx_and, hi.1, this]
    rfl
  · refine e.1.2.2 P (fun i hi => ?_) (fun i j g1 g2 g3 g4 => h2 i j g1 (h.1 i g2) g3 (h.1 j g4)) i hi
    rw [bx_and, Bool.and_eq_true] at hi
    exact h1 i (by rw [bx_and, hi.1, h.1 i hi.2]; rfl)
  · apply bx_ext
    intro i _
    cases q : bt6 (grow t (cl s x)) i with
    | true =>
      obtain ⟨g1, g2⟩ := (bg_grow (e.1.2.1.toSET hx) ht i).mp q
      rcases g2 with g2 | ⟨j, g2, g3⟩
      · exact g2.symm
      · exact (e.closed hx g3 g2 (h.2 j i (e.1.2.1 j g3) g2 g1)).symm
    | false =>
      cases q2 : bt6 (cl s x) i with
      | false => rfl
      | true =>
        have := sub6_grow (e.1.2.1.toSET hx) ht (e.1.2.1.tr h.1) i q2
        rw [q] at this
        cases this
theorem CLO.diff {x t : Int64} (ht : SET t) (h : CLO x t) (s : Int64) : CLO (x &&& (cl s t ^^^ (-1))) t := by
  refine ⟨fun i hi => ?_, fun i j hi ha hj => ?_⟩
  · rw [bx_diff, Bool.and_eq_true] at hi
    exact h.1 i hi.1
  · rw [bx_diff, Bool.and_eq_true] at hi ⊢
    refine ⟨h.2 i j hi.1 ha hj, ?_⟩
    cases q : bt6 (cl s t) j with
    | false => rfl
    | true =>
      have := (cl_is (s := s) ht).closed ht q (by rw [adj_symm]; exact ha) (h.1 i hi.1)
      rw [this] at hi
      cases hi.2
theorem b1_and_sub {x t : Int64} {i : Nat} (hi : bt6 x i = true) : sub6 (b1 i &&& t) x := by
  intro j hj
  rw [bx_and, bx_b1 (bx_lt hi), Bool.and_eq_true, decide_eq_true_eq] at hj
  rw [hj.1]
  exact hi
/-! fences, kinds, taxes -/
def fenF (h : Int64) : Int32 := 4 * nI (cn h) - 2 * (nI (cn (h &&& zus h 6)) + nI (cn (h &&& zus (h &&& -1090785346) 1)))
def witF (h : Int64) : Int64 := (68719476735 &&& (h ^^^ (-1))) &&& (cl 68208171135 (68719476735 &&& (h ^^^ (-1))) ^^^ (-1))
def rimF (h : Int64) : Int64 := besF h &&& (h ^^^ (-1))
def pasF (h : Int64) : Bool := (decide (¬ h &&& 63 = 0) && decide (¬ h &&& 67645734912 = 0)) || (decide (¬ h &&& 1090785345 = 0) && decide (¬ h &&& 34905131040 = 0))
def kdF (ro de h : Int64) : Int32 := if h &&& (ro ^^^ (-1)) = 0 then 4 else if pasF h = true then 3 else if ¬ h &&& 68208171135 = 0 then 1 else if ¬ h &&& de = 0 then 2 else 0
def pitF (ra : Int32) (n : Int32) : Int32 := ra * n + ra * (if 0 < n - 3 then n - 3 else 0)
def txF (ra : Int32) (ro de h : Int64) : Int32 :=
  if kdF ro de h = 1 then pitF ra (nI (cn h)) / 2 else if kdF ro de h = 2 then pitF ra (nI (cn h)) + 10 else if kdF ro de h = 3 then pitF ra (nI (cn h)) / 2 + fenF h
  else if kdF ro de h = 4 then (if 0 < pitF ra (nI (cn h)) + 10 - 3 * nI (cn h) then pitF ra (nI (cn h)) + 10 - 3 * nI (cn h) else 0) else pitF ra (nI (cn h))
def txS (ra : Int32) (ro de : Int64) (l : List Int64) (s : Int32) : Int32 := l.foldl (fun s h => s + txF ra ro de h) s
def txA (ra : Int32) (ro de op : Int64) : Int32 := txS ra ro de (hls op) 0
theorem pit_eq (ra : Int32) {k : Nat} (hk : k ≤ 64) : ra * (if (3 : Int32) ≤ nI k then 2 * nI k - 3 else nI k) = pitF ra (nI k) := by
  unfold pitF
  by_cases h : 3 ≤ k
  · have e : (3 : Int32) ≤ nI k := nI_le (a := 3) h (by omega)
    rw [if_pos e]
    by_cases h2 : k = 3
    · subst h2
      rw [if_neg (by decide +kernel)]
      have : (2 * nI 3 - 3 : Int32) = nI 3 := by decide +kernel
      rw [this, Int32.mul_zero, Int32.add_zero]
    · have : ∀ k, k ≤ 64 → 3 ≤ k → ¬ k = 3 → (0 : Int32) < nI k - 3 := by decide +kernel
      rw [if_pos (this k hk h h2), ← Int32.mul_add]
      congr 1
      have : ∀ k, k ≤ 64 → (2 * nI k - 3 : Int32) = nI k + (nI k - 3) := by decide +kernel
      exact this k hk
  · have e : ¬ (3 : Int32) ≤ nI k := nI_ge (a := k) (b := 3) (by omega) (by decide)
    rw [if_neg e]
    have : ∀ k, k < 3 → ¬ (0 : Int32) < nI k - 3 := by decide +kernel
    rw [if_neg (this k (by omega)), Int32.mul_zero, Int32.add_zero]
theorem kdF_cases (ro de h : Int64) : kdF ro de h = 0 ∨ kdF ro de h = 1 ∨ kdF ro de h = 2 ∨ kdF ro de h = 3 ∨ kdF ro de h = 4 := by
  unfold kdF
  split
  · simp
  · split
    · simp
    · split
      · simp
      · split <;> simp
/-! worlds: reading what was written -/
theorem gI_sI (w : zW) (o k : Nat) (v : Int32) (a b : Nat) : gI (sI w o k v) a b = if a = o ∧ b = k then v else gI w a b := rfl
theorem gL_sL (w : zW) (o k : Nat) (v : Int64) (a b : Nat) : gL (sL w o k v) a b = if a = o ∧ b = k then v else gL w a b := rfl
theorem gI_sL (w : zW) (o k : Nat) (v : Int64) (a b : Nat) : gI (sL w o k v) a b = gI w a b := rfl
theorem gL_sI (w : zW) (o k : Nat) (v : Int32) (a b : Nat) : gL (sI w o k v) a b = gL w a b := rfl
/-- the reference's holes are found -/
def FH (w w' : zW) (l : List Int64) : Prop := gI w' 10 10 = nI l.length ∧ l.length ≤ 36 ∧ (∀ k h, l[k]? = some h → gL w' 31 k = h) ∧ (∀ o k, ¬ (o = 10 ∧ k = 10) → gI w' o k = gI w o k) ∧ ∀ o k, ¬ o = 31 → gL w' o k = gL w o k
