/-! ===== books: all parts of a set, upwards and downwards ===== -/
def nxS (s x : Int64) : Int64 := (x - s) &&& s
def pvS (s x : Int64) : Int64 := (x - 1) &&& s
def zrS (s x : Int64) : Int64 := s &&& (x ^^^ (-1))
theorem i64_or_add {x z : Int64} (h : x &&& z = 0) : x + z = x ||| z := by
  apply Int64.toBitVec_inj.mp
  rw [Int64.toBitVec_add, Int64.toBitVec_or]
  refine BitVec.add_eq_or_of_and_eq_zero _ _ ?_
  have := congrArg Int64.toBitVec h
  rw [Int64.toBitVec_and] at this
  exact this
theorem i64_sub_add (x z : Int64) : x - (x + z) = -z := by
  apply Int64.toBitVec_inj.mp
  rw [Int64.toBitVec_sub, Int64.toBitVec_add, Int64.toBitVec_neg]
  bv_omega
theorem bx_zr {s x : Int64} (i : Nat) : bt6 (zrS s x) i = (bt6 s i && !bt6 x i) := bx_diff s x i
theorem nx_neg {s x : Int64} (h : sub6 x s) : x - s = -(zrS s x) := by
  have e : s = x + zrS s x := by
    rw [i64_or_add]
    · apply bx_ext
      intro i _
      rw [bx_or, bx_zr]
      cases e : bt6 x i with
      | false => simp
      | true => rw [h i e]; rfl
    · apply bx_ext
      intro i _
      rw [bx_and, bx_zr, bx_0]
      cases bt6 x i <;> simp
  have := i64_sub_add x (zrS s x)
  rw [← e] at this
  exact this
theorem bx_nx {s x : Int64} (h : sub6 x s) (hz : ¬ zrS s x = 0) {i : Nat} (hi : i < 64) : bt6 (nxS s x) i = if i < lo6 (zrS s x) then false else if i = lo6 (zrS s x) then true else bt6 x i := by
  obtain ⟨hq1, hq2, hq3⟩ := lo6_spec hz
  unfold nxS
  rw [nx_neg h, neg_eq, bx_and, bx_not, decide_eq_true hi, Bool.true_and, bx_pred hz hi]
  by_cases c1 : i < lo6 (zrS s x)
  · rw [if_pos c1, if_pos c1]; rfl
  · rw [if_neg c1, if_neg c1]
    by_cases c2 : i = lo6 (zrS s x)
    · rw [if_pos c2, if_pos c2]
      rw [← c2, bx_zr, Bool.and_eq_true] at hq2
      rw [hq2.1]; rfl
    · rw [if_neg c2, if_neg c2, bx_zr]
      cases e : bt6 x i with
      | true => rw [h i e]; rfl
      | false => cases bt6 s i <;> rfl
theorem nx_sub (s x : Int64) : sub6 (nxS s x) s := fun i hi => by
  unfold nxS at hi
  rw [bx_and, Bool.and_eq_true] at hi
  exact hi.2
theorem nx_ne {s x : Int64} (h : sub6 x s) (hz : ¬ zrS s x = 0) : ¬ nxS s x = 0 := fun e => by
  have hq := lo6_spec hz
  have := bx_nx h hz hq.1
  rw [e, bx_0, if_neg (by omega), if_pos rfl] at this
  cases this
theorem nx_lo {s x : Int64} (h : sub6 x s) (hz : ¬ zrS s x = 0) : lo6 (nxS s x) = lo6 (zrS s x) := by
  have hq := lo6_spec hz
  refine lo6_eq ?_ (fun j hj => ?_)
  · rw [bx_nx h hz hq.1, if_neg (by omega), if_pos rfl]
  · rw [bx_nx h hz (by omega), if_pos hj]
theorem pv_nx {s x : Int64} (h : sub6 x s) (hz : ¬ zrS s x = 0) : pvS s (nxS s x) = x := by
  have hq := lo6_spec hz
  apply bx_ext
  intro i hi
  unfold pvS
  rw [bx_and, bx_pred (nx_ne h hz) hi, nx_lo h hz]
  by_cases c1 : i < lo6 (zrS s x)
  · rw [if_pos c1, Bool.true_and]
    have := hq.2.2 i c1
    rw [bx_zr] at this
    cases e : bt6 x i with
    | true => exact h i e
    | false => rw [e] at this; simpa using this
  · rw [if_neg c1]
    by_cases c2 : i = lo6 (zrS s x)
    · rw [if_pos c2]
      have := hq.2.1
      rw [← c2, bx_zr, Bool.and_eq_true] at this
      cases e : bt6 x i with
      | false => rfl
      | true => rw [e] at this; cases this.2
    · rw [if_neg c2, bx_nx h hz hi, if_neg c1, if_neg c2]
      cases e : bt6 x i with
      | false => rfl
      | true => rw [h i e]; rfl
theorem zr_0 {s x : Int64} (h : sub6 x s) (hz : zrS s x = 0) : x = s := by
  refine h.eq (fun i hi => ?_)
  have := bx_zr (s := s) (x := x) i
  rw [hz, bx_0, hi] at this
  cases e : bt6 x i with
  | true => rfl
  | false => rw [e] at this; cases this
theorem nx_s (s : Int64) : nxS s s = 0 := by
  unfold nxS
  rw [Int64.sub_self, Int64.zero_and]
/-! their rank -/
def rkS (s : Int64) : Nat → Nat
  | 0 => 0
  | n + 1 => rkS s n + (if bt6 s n = true then 1 else 0)
def vaS (s x : Int64) : Nat → Nat
  | 0 => 0
  | n + 1 => vaS s x n + (if bt6 s n = true ∧ bt6 x n = true then 2 ^ rkS s n else 0)
theorem rkS_s (s : Int64) (n : Nat) : rkS s (n + 1) = rkS s n + (if bt6 s n = true then 1 else 0) := rfl
theorem vaS_s (s x : Int64) (n : Nat) : vaS s x (n + 1) = vaS s x n + (if bt6 s n = true ∧ bt6 x n = true then 2 ^ rkS s n else 0) := rfl
theorem vaS_le (s x : Int64) : ∀ n, vaS s x n + 1 ≤ 2 ^ rkS s n
  | 0 => Nat.le_refl _
  | n + 1 => by
    have ih := vaS_le s x n
    rw [vaS_s, rkS_s]
    by_cases h : bt6 s n = true
    · rw [if_pos h, Nat.pow_succ]
      split <;> omega
    · rw [if_neg h, if_neg (fun q => h q.1)]; omega
theorem vaS_all {s x : Int64} : ∀ n, (∀ i, i < n → bt6 s i = true → bt6 x i = true) → vaS s x n + 1 = 2 ^ rkS s n
  | 0, _ => rfl
  | n + 1, h => by
    have ih := vaS_all n (fun i hi => h i (by omega))
    rw [vaS_s, rkS_s]
    by_cases c : bt6 s n = true
    · rw [if_pos c, if_pos ⟨c, h n (by omega) c⟩, Nat.pow_succ]; omega
    · rw [if_neg c, if_neg (fun q => c q.1)]; omega
theorem vaS_non {s x : Int64} : ∀ n, (∀ i, i < n → bt6 x i = false) → vaS s x n = 0
  | 0, _ => rfl
  | n + 1, h => by
    unfold vaS
    rw [vaS_non n (fun i hi => h i (by omega)), if_neg (fun q => by rw [h n (by omega)] at q; cases q.2)]
theorem vaS_nx {s x : Int64} (h : sub6 x s) (hz : ¬ zrS s x = 0) : ∀ n, lo6 (zrS s x) < n → n ≤ 64 → vaS s (nxS s x) n = vaS s x n + 1
  | 0, hn, _ => by omega
  | n + 1, hn, h64 => by
    obtain ⟨hq1, hq2, hq3⟩ := lo6_spec hz
    unfold vaS
    by_cases c : n = lo6 (zrS s x)
    · have e1 := vaS_all (s := s) (x := x) n (fun i hi hs => by
        have := hq3 i (by omega)
        rw [bx_zr, hs] at this
        simpa using this)
      have e2 := vaS_non (s := s) (x := nxS s x) n (fun i hi => by rw [bx_nx h hz (by omega), if_pos (by omega)])
      rw [← c, bx_zr, Bool.and_eq_true] at hq2
      have e3 : bt6 (nxS s x) n = true := by rw [bx_nx h hz (by omega), if_neg (by omega), if_pos c]
      have e4 : ¬ bt6 x n = true := by
        have := hq2.2
        intro q; rw [q] at this; cases this
      rw [e2, if_pos ⟨hq2.1, e3⟩, if_neg (fun q => e4 q.2)]
      omega
    · have ih := vaS_nx h hz n (by omega) (by omega)
      have e3 : bt6 (nxS s x) n = bt6 x n := by rw [bx_nx h hz (by omega), if_neg (by omega), if_neg c]
      rw [ih, e3]; omega
theorem rkS_cn (s : Int64) : ∀ n, rkS s n = (List.range n).countP (fun i => bt6 s i)
  | 0 => rfl
  | n + 1 => by
    unfold rkS
    rw [rkS_cn s n, List.range_succ, List.countP_append, List.countP_singleton]
theorem rank_lt {s x : Int64} (hc : cn s ≤ 6) : vaS s x 64 ≤ 63 := by
  have h1 := vaS_le s x 64
  have h2 : rkS s 64 ≤ 6 := by rw [rkS_cn]; exact hc
  have h3 : 2 ^ rkS s 64 ≤ 2 ^ 6 := Nat.pow_le_pow_right (by decide) h2
  omega
/-! the row of all parts -/
def UPL (s : Int64) : List Int64 → Prop
  | [] => False
  | [x] => nxS s x = 0
  | a :: b :: r => nxS s a = b ∧ ¬ b = 0 ∧ UPL s (b :: r)
def DNL (s : Int64) : List Int64 → Prop
  | [] => False
  | [x] => x = 0
  | a :: b :: r => ¬ a = 0 ∧ pvS s a = b ∧ DNL s (b :: r)
theorem parts_ex {s : Int64} (hc : cn s ≤ 6) : ∀ (n : Nat) (x : Int64) (pre : List Int64), sub6 x s → 63 ≤ vaS s x 64 + n → DNL s (x :: pre) → ∃ l, UPL s (x :: l) ∧ l.length ≤ n ∧ DNL s ((x :: l).reverse ++ pre) ∧ (x :: l).getLast? = some s
  | n, x, pre, hx, hn, hd => by
    by_cases hz : zrS s x = 0
    · have e := zr_0 hx hz
      subst e
      exact ⟨[], nx_s x, Nat.zero_le _, hd, rfl⟩
    · obtain ⟨hq1, hq2, hq3⟩ := lo6_spec hz
      have hv := vaS_nx hx hz 64 hq1 (Nat.le_refl _)
      have hb := rank_lt (x := nxS s x) hc
      obtain ⟨m, rfl⟩ : ∃ m, n = m + 1 := ⟨n - 1, by omega⟩
      have hd2 : DNL s (nxS s x :: x :: pre) := ⟨nx_ne hx hz, pv_nx hx hz, hd⟩
      obtain ⟨l, l1, l2, l3, l4⟩ := parts_ex hc m (nxS s x) (x :: pre) (nx_sub s x) (by omega) hd2
      refine ⟨nxS s x :: l, ⟨rfl, nx_ne hx hz, l1⟩, ?_, ?_, ?_⟩
      · rw [List.length_cons]; omega
      · rw [List.reverse_cons, List.append_assoc]; exact l3
      · rw [List.getLast?_cons_cons]; exact l4
/-! what is told of them -/
abbrev bkT : Type := Int32 × Int64 × Int64 × Int64
def stC (F : Int64 → Bool) (a : bkT) (x : Int64) : bkT := if F x = true then (a.1 + 1, if a.1 = 0 then x else a.2.1, a.2.2.1 &&& x, a.2.2.2 ||| x) else a
def stN (F : Int64 → Bool) (a : bkT) (x : Int64) : bkT := if F x = true then (a.1 + 1, x, a.2.2.1 &&& x, a.2.2.2 &&& (x ^^^ (-1))) else a
def bkA (s : Int64) (k : Int32) (a : bkT) (fr : Int64) : Int64 := if k = 0 then a.1.toInt64 else if a.1 = 0 then -4 else if k = 1 then a.2.1 else if k = 2 then a.2.2.1 else fr
theorem stC_t {F : Int64 → Bool} {x : Int64} (h : F x = true) (a : bkT) : stC F a x = (a.1 + 1, if a.1 = 0 then x else a.2.1, a.2.2.1 &&& x, a.2.2.2 ||| x) := if_pos h
theorem stC_f {F : Int64 → Bool} {x : Int64} (h : ¬ F x = true) (a : bkT) : stC F a x = a := if_neg h
theorem stN_t {F : Int64 → Bool} {x : Int64} (h : F x = true) (a : bkT) : stN F a x = (a.1 + 1, x, a.2.2.1 &&& x, a.2.2.2 &&& (x ^^^ (-1))) := if_pos h
theorem stN_f {F : Int64 → Bool} {x : Int64} (h : ¬ F x = true) (a : bkT) : stN F a x = a := if_neg h
def CFm (F : Int64 → Bool) (l : List Int64) (k : Nat) (f su so : Int64) (R : bkT) : Prop := R.1 = nI (k + (l.filter F).length) ∧ (R.2.1 = if k = 0 then ((l.filter F).head?).getD f else f) ∧ (∀ i, bt6 R.2.2.1 i = (bt6 su i && (l.filter F).all (fun x => bt6 x i))) ∧ ∀ i, bt6 R.2.2.2 i = (bt6 so i || (l.filter F).any (fun x => bt6 x i))
theorem fold_C {F : Int64 → Bool} : ∀ (l : List Int64) (k : Nat) (f su so : Int64), k + l.length < 2 ^ 31 → CFm F l k f su so (l.foldl (stC F) (nI k, f, su, so))
  | [], k, f, su, so, _ => ⟨rfl, by simp, fun i => by simp, fun i => by simp⟩
  | x :: l, k, f, su, so, hk => by
    rw [List.length_cons] at hk
    rw [List.foldl_cons]
    unfold CFm
    by_cases h : F x = true
    · rw [stC_t h, List.filter_cons_of_pos h]
      have ek : (if nI k = 0 then x else f) = if k = 0 then x else f := by
        have : nI k = 0 ↔ k = 0 := nI_eqk (n := k) (k := 0) (by omega) (by decide)
        by_cases q : k = 0
        · rw [if_pos q, if_pos (this.mpr q)]
        · rw [if_neg q, if_neg (fun z => q (this.mp z))]
      dsimp only
      rw [n1, ek]
      obtain ⟨c1, c2, c3, c4⟩ := fold_C l (k + 1) (if k = 0 then x else f) (su &&& x) (so ||| x) (by omega)
      refine ⟨?_, ?_, fun i => ?_, fun i => ?_⟩
      · rw [List.length_cons]
        refine c1.trans ?_
        congr 1; omega
      · refine c2.trans ?_
        rw [if_neg (by omega), List.head?_cons]; rfl
      · refine (c3 i).trans ?_
        rw [bx_and, List.all_cons, Bool.and_assoc]
      · refine (c4 i).trans ?_
        rw [bx_or, List.any_cons, Bool.or_assoc]
    · rw [stC_f h, List.filter_cons_of_neg h]
      exact fold_C l k f su so (by omega)
def NFm (F : Int64 → Bool) (l : List Int64) (k : Nat) (f su fr : Int64) (R : bkT) : Prop := R.1 = nI (k + (l.filter F).length) ∧ (R.2.1 = ((l.filter F).getLast?).getD f) ∧ (∀ i, bt6 R.2.2.1 i = (bt6 su i && (l.filter F).all (fun x => bt6 x i))) ∧ ∀ i, i < 64 → bt6 R.2.2.2 i = (bt6 fr i && (l.filter F).all (fun x => !bt6 x i))
theorem fold_N {F : Int64 → Bool} : ∀ (l : List Int64) (k : Nat) (f su fr : Int64), k + l.length < 2 ^ 31 → NFm F l k f su fr (l.foldl (stN F) (nI k, f, su, fr))
  | [], k, f, su, fr, _ => ⟨rfl, rfl, fun i => by simp, fun i _ => by simp⟩
  | x :: l, k, f, su, fr, hk => by
    rw [List.length_cons] at hk
    rw [List.foldl_cons]
    unfold NFm
    by_cases h : F x = true
    · rw [stN_t h, List.filter_cons_of_pos h]
      dsimp only
      rw [n1]
      obtain ⟨c1, c2, c3, c4⟩ := fold_N l (k + 1) x (su &&& x) (fr &&& (x ^^^ (-1))) (by omega)
      refine ⟨?_, ?_, fun i => ?_, fun i hi => ?_⟩
      · rw [List.length_cons]
        refine c1.trans ?_
        congr 1; omega
      · refine c2.trans ?_
        rw [List.getLast?_cons]; rfl
      · refine (c3 i).trans ?_
        rw [bx_and, List.all_cons, Bool.and_assoc]
      · refine (c4 i hi).trans ?_
        rw [bx_diff, List.all_cons, Bool.and_assoc]
    · rw [stN_f h, List.filter_cons_of_neg h]
      exact fold_N l k f su fr (by omega)
/-- up and down tell the same -/
theorem books_same {F : Int64 → Bool} {s : Int64} {l : List Int64} (hl : l.length < 2 ^ 31) (k : Int32) : bkA s k (l.foldl (stC F) (0, 0, s, 0)) (s &&& ((l.foldl (stC F) (0, 0, s, 0)).2.2.2 ^^^ (-1))) = bkA s k (l.reverse.foldl (stN F) (0, 0, s, s)) (l.reverse.foldl (stN F) (0, 0, s, s)).2.2.2 := by
  obtain ⟨c1, c2, c3, c4⟩ := fold_C (F := F) l 0 0 s 0 (by omega)
  obtain ⟨d1, d2, d3, d4⟩ := fold_N (F := F) l.reverse 0 0 s s (by rw [List.length_reverse]; omega)
  have e0 : (nI 0 : Int32) = 0 := rfl
  rw [e0] at c1 c2 c3 c4 d1 d2 d3 d4
  generalize l.foldl (stC F) (0, 0, s, 0) = A at *
  generalize l.reverse.foldl (stN F) (0, 0, s, s) = B at *
  rw [List.filter_reverse] at d1 d2 d3 d4
  have h1 : A.1 = B.1 := by rw [c1, d1, List.length_reverse]
  have h2 : A.2.1 = B.2.1 := by rw [c2, d2, if_pos rfl, List.getLast?_reverse]
  have h3 : A.2.2.1 = B.2.2.1 := bx_ext fun i _ => by rw [c3, d3, List.all_reverse]
  have h4 : s &&& (A.2.2.2 ^^^ (-1)) = B.2.2.2 := bx_ext fun i hi => by
    rw [bx_diff, c4, d4 i hi, List.all_reverse, bx_0, Bool.false_or]
    congr 1
    rw [List.not_any_eq_all_not]
  unfold bkA
  rw [h1, h2, h3, h4]
