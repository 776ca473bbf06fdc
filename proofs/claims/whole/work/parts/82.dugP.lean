/-! ===== digging two into one: how far apart ===== -/
def wdr (U R : Int64) : Int64 := R ||| (besF R &&& U)
def rch (O U s : Int64) : Nat → Int64
  | 0 => cl s O
  | n + 1 => cl (wdr U (rch O U s n)) (O ||| wdr U (rch O U s n))
theorem rch_s (O U s : Int64) (n : Nat) : rch O U s (n + 1) = cl (wdr U (rch O U s n)) (O ||| wdr U (rch O U s n)) := rfl
theorem SET.wdr {U R : Int64} (hU : SET U) (hR : SET R) : SET (wdr U R) := hR.or (SET.and' _ hU)
theorem SET.rch {O U s : Int64} (hO : SET O) (hU : SET U) : ∀ n, SET (rch O U s n)
  | 0 => SET.cl s hO
  | n + 1 => SET.cl _ (hO.or (SET.wdr hU (SET.rch hO hU n)))
theorem cl_step {t s : Int64} (ht : SET t) {i j : Nat} (hi : bt6 (cl s t) i = true) (ha : adj i j = true) (hj : bt6 t j = true) : bt6 (cl s t) j = true := (cl_is (s := s) ht).closed ht hi ha hj
theorem rch_O {O U s : Int64} (hO : SET O) (hU : SET U) : ∀ n {i j : Nat}, bt6 (rch O U s n) i = true → adj i j = true → bt6 O j = true → bt6 (rch O U s n) j = true
  | 0, i, j, hi, ha, hj => cl_step hO hi ha hj
  | n + 1, i, j, hi, ha, hj => cl_step (hO.or (SET.wdr hU (SET.rch hO hU n))) hi ha (by rw [bx_or, hj]; rfl)
theorem rch_w {O U s : Int64} (hO : SET O) (hU : SET U) (n : Nat) : sub6 (wdr U (rch O U s n)) (rch O U s (n + 1)) := fun i hi => cl_mem (hO.or (SET.wdr hU (SET.rch hO hU n))) hi (by rw [bx_or, hi, Bool.or_true])
theorem rch_up {O U s : Int64} (hO : SET O) (hU : SET U) (n : Nat) : sub6 (rch O U s n) (rch O U s (n + 1)) := fun i hi => rch_w hO hU n i (by unfold wdr; rw [bx_or, hi]; rfl)
theorem rch_st {O U s : Int64} (hO : SET O) (hU : SET U) (hs : sub6 s O) : ∀ n, sub6 s (rch O U s n)
  | 0 => fun i hi => cl_mem hO hi (hs i hi)
  | n + 1 => (rch_st hO hU hs n).tr (rch_up hO hU n)
theorem cn_or1 {X : Int64} {i : Nat} (hi : i < 64) : cn (X ||| b1 i) ≤ cn X + 1 := by
  have := cn_del (x := X ||| b1 i) hi (by rw [bx_or, bx_b1 hi]; simp)
  rw [this]
  have : cn ((X ||| b1 i) &&& (b1 i ^^^ (-1))) ≤ cn X := cn_le (fun j hj => by
    rw [bx_diff, bx_or, bx_b1 hi, Bool.and_eq_true] at hj
    by_cases e : j = i
    · rw [decide_eq_true e] at hj; cases hj.2
    · rw [decide_eq_false e, Bool.or_false] at hj; exact hj.1)
  omega
theorem or_mono {O X Y : Int64} (h : sub6 X Y) : sub6 (O ||| X) (O ||| Y) := fun i hi => by
  rw [bx_or, Bool.or_eq_true] at hi ⊢
  rcases hi with hi | hi
  · exact Or.inl hi
  · exact Or.inr (h i hi)
/-- what comes with at most n cells more -/
theorem rch_fw {O U s : Int64} (hO : SET O) (hU : SET U) : ∀ (n i : Nat), bt6 (rch O U s n) i = true → ∃ X, sub6 X U ∧ cn X ≤ n ∧ bt6 (cl s (O ||| X)) i = true
  | 0, i, hi => ⟨0, fun j hj => (by rw [bx_0] at hj; cases hj), (by rw [cn_0]; exact Nat.le_refl _), by rw [show O ||| 0 = O by apply bx_ext; intro j _; rw [bx_or, bx_0, Bool.or_false]]; exact hi⟩
  | n + 1, i, hi => by
    have hW := hO.or (SET.wdr hU (SET.rch (s := s) hO hU n))
    have st : ∀ j, bt6 (wdr U (rch O U s n)) j = true → ∃ X, sub6 X U ∧ cn X ≤ n + 1 ∧ bt6 (cl s (O ||| X)) j = true := fun j hj => by
      unfold wdr at hj
      rw [bx_or, Bool.or_eq_true, bx_and, Bool.and_eq_true] at hj
      rcases hj with hj | ⟨hj1, hj2⟩
      · obtain ⟨X, x1, x2, x3⟩ := rch_fw hO hU n j hj
        exact ⟨X, x1, by omega, x3⟩
      · have hj36 := hU.lt hj2
        obtain ⟨k, k1, k2⟩ := (bes_adj (SET.rch hO hU n) hj36).mp hj1
        obtain ⟨X, x1, x2, x3⟩ := rch_fw hO hU n k k2
        have hX : SET X := x1.toSET hU
        refine ⟨X ||| b1 j, fun m hm => ?_, ?_, ?_⟩
        · rw [bx_or, Bool.or_eq_true, bx_b1 (by omega), decide_eq_true_eq] at hm
          rcases hm with hm | hm
          · exact x1 m hm
          · rw [hm]; exact hj2
        · have := cn_or1 (X := X) (i := j) (by omega); omega
        · have hXj : SET (O ||| (X ||| b1 j)) := hO.or (hX.or (SET.one hj36))
          refine cl_step hXj (cl_mono (hO.or hX) hXj (or_mono (sub_or X (b1 j))) k x3) k1 ?_
          rw [bx_or, bx_or, bx_b1 (by omega)]; simp
    refine (cl_is (s := wdr U (rch O U s n)) hW).1.2.2 (fun j => ∃ X, sub6 X U ∧ cn X ≤ n + 1 ∧ bt6 (cl s (O ||| X)) j = true) (fun j hj => ?_) (fun j k pj _ ha hk => ?_) i hi
    · rw [bx_and, Bool.and_eq_true] at hj
      exact st j hj.1
    · rw [bx_or, Bool.or_eq_true] at hk
      rcases hk with hk | hk
      · obtain ⟨X, x1, x2, x3⟩ := pj
        exact ⟨X, x1, x2, cl_step (hO.or (x1.toSET hU)) x3 ha (by rw [bx_or, hk]; rfl)⟩
      · exact st k hk
theorem rch_bw {O U s X : Int64} (hO : SET O) (hU : SET U) (hs : sub6 s O) (hX : sub6 X U) : ∀ m, sub6 (cl s (O ||| X)) (rch O U s m) ∨ m ≤ cn (X &&& rch O U s m)
  | 0 => Or.inr (Nat.zero_le _)
  | m + 1 => by
    have hOX := hO.or (hX.toSET hU)
    rcases rch_bw hO hU hs hX m with h | h
    · exact Or.inl (h.tr (rch_up hO hU m))
    · by_cases hc : ∀ i j, bt6 (rch O U s m) i = true → adj i j = true → bt6 (O ||| X) j = true → bt6 (rch O U s m) j = true
      · refine Or.inl ((cl_least hOX (fun i hi => ?_) (fun i j a1 _ a2 a3 => hc i j a1 a2 a3)).tr (rch_up hO hU m))
        rw [bx_and, Bool.and_eq_true] at hi
        exact rch_st hO hU hs m i hi.1
      · refine Or.inr ?_
        simp only [Classical.not_forall] at hc
        obtain ⟨i, j, a1, a2, a3, a4⟩ := hc
        have hjO : ¬ bt6 O j = true := fun q => a4 (rch_O hO hU m a1 a2 q)
        rw [bx_or, Bool.or_eq_true] at a3
        have hjX : bt6 X j = true := by
          rcases a3 with a3 | a3
          · exact absurd a3 hjO
          · exact a3
        have hj36 := hU.lt (hX j hjX)
        have hw : bt6 (rch O U s (m + 1)) j = true := rch_w hO hU m j (by
          unfold wdr
          rw [bx_or, bx_and, (bes_adj (SET.rch hO hU m) hj36).mpr ⟨i, a2, a1⟩, hX j hjX, Bool.and_self, Bool.or_true])
        have hsub : sub6 (X &&& rch O U s m) (X &&& rch O U s (m + 1)) := fun k hk => by
          rw [bx_and, Bool.and_eq_true] at hk ⊢
          exact ⟨hk.1, rch_up hO hU m k hk.2⟩
        have := cn_lt hsub (fun e => by
          have := congrArg (fun z => bt6 z j) e
          simp only [bx_and] at this
          rw [hjX, hw] at this
          cases q : bt6 (rch O U s m) j with
          | true => exact a4 q
          | false => rw [q] at this; cases this)
        omega
theorem rch_iff {O U s : Int64} (hO : SET O) (hU : SET U) (hs : sub6 s O) (n i : Nat) : bt6 (rch O U s n) i = true ↔ ∃ X, sub6 X U ∧ cn X ≤ n ∧ bt6 (cl s (O ||| X)) i = true := by
  constructor
  · exact rch_fw hO hU n i
  · rintro ⟨X, hX, hn, hi⟩
    rcases rch_bw hO hU hs hX n with h | h
    · exact h i hi
    · have e : X &&& rch O U s n = X := Classical.byContradiction fun q => by
        have := cn_lt (x := X &&& rch O U s n) (y := X) (fun k hk => by rw [bx_and, Bool.and_eq_true] at hk; exact hk.1) q
        omega
      refine cl_least (hO.or (hX.toSET hU)) (fun k hk => ?_) (fun k j a1 _ a2 a3 => ?_) i hi
      · rw [bx_and, Bool.and_eq_true] at hk
        exact rch_st hO hU hs n k hk.1
      · rw [bx_or, Bool.or_eq_true] at a3
        rcases a3 with a3 | a3
        · exact rch_O hO hU n a1 a2 a3
        · rw [← e, bx_and, Bool.and_eq_true] at a3
          exact a3.2
/-- a and b are one with at most k cells of U more -/
def EE (a b : Nat) (U O : Int64) (k : Nat) : Prop := ∃ X, sub6 X U ∧ cn X ≤ k ∧ bt6 (cl (b1 a) (O ||| X)) b = true
theorem EE.kk {a b : Nat} {U O : Int64} {k m : Nat} (h : EE a b U O k) (hm : k ≤ m) : EE a b U O m := by
  obtain ⟨X, x1, x2, x3⟩ := h
  exact ⟨X, x1, by omega, x3⟩
theorem EE.uu {a b : Nat} {U V O : Int64} {k : Nat} (h : EE a b U O k) (hu : sub6 U V) : EE a b V O k := by
  obtain ⟨X, x1, x2, x3⟩ := h
  exact ⟨X, x1.tr hu, x2, x3⟩
theorem EE.off {a b : Nat} {U O : Int64} {k : Nat} (h : EE a b U O k) : ∃ X, sub6 X U ∧ (∀ i, bt6 X i = true → bt6 O i = false) ∧ cn X ≤ k ∧ bt6 (cl (b1 a) (O ||| X)) b = true := by
  obtain ⟨X, x1, x2, x3⟩ := h
  have hsub : sub6 (X &&& (O ^^^ (-1))) X := fun i hi => by rw [bx_diff, Bool.and_eq_true] at hi; exact hi.1
  refine ⟨X &&& (O ^^^ (-1)), hsub.tr x1, fun i hi => ?_, Nat.le_trans (cn_le hsub) x2, ?_⟩
  · rw [bx_diff, Bool.and_eq_true] at hi
    cases e : bt6 O i with
    | false => rfl
    | true => rw [e] at hi; cases hi.2
  · have e : O ||| (X &&& (O ^^^ (-1))) = O ||| X := by
      apply bx_ext
      intro i _
      rw [bx_or, bx_or, bx_diff]
      cases bt6 O i <;> cases bt6 X i <;> rfl
    rw [e]; exact x3
theorem EE.take {a b c : Nat} {U O : Int64} {k : Nat} (hc : bt6 U c = true) (hc64 : c < 64) (h : EE a b U (O ||| b1 c) k) : EE a b U O (k + 1) := by
  obtain ⟨X, x1, x2, x3⟩ := h
  refine ⟨X ||| b1 c, fun i hi => ?_, ?_, ?_⟩
  · rw [bx_or, Bool.or_eq_true, bx_b1 hc64, decide_eq_true_eq] at hi
    rcases hi with hi | hi
    · exact x1 i hi
    · rw [hi]; exact hc
  · have := cn_or1 (X := X) hc64; omega
  · have e : O ||| (X ||| b1 c) = (O ||| b1 c) ||| X := by
      apply bx_ext
      intro i _
      simp only [bx_or]
      cases bt6 O i <;> cases bt6 X i <;> cases bt6 (b1 c) i <;> rfl
    rw [e]; exact x3
theorem EE.give {a b c : Nat} {U O X : Int64} {k : Nat} (x1 : sub6 X U) (x2 : cn X ≤ k + 1) (x3 : bt6 (cl (b1 a) (O ||| X)) b = true) (hc64 : c < 64) (hc : bt6 X c = true) : EE a b U (O ||| b1 c) k := by
  refine ⟨X &&& (b1 c ^^^ (-1)), fun i hi => x1 i (by rw [bx_diff, Bool.and_eq_true] at hi; exact hi.1), ?_, ?_⟩
  · have := cn_del hc64 hc; omega
  · have e : (O ||| b1 c) ||| (X &&& (b1 c ^^^ (-1))) = O ||| X := by
      apply bx_ext
      intro i _
      rw [bx_or, bx_or, bx_or, bx_diff, bx_b1 hc64]
      by_cases q : i = c
      · subst q; rw [hc]; simp
      · simp [q]
    rw [e]; exact x3
/-! the first place where something holds -/
def gf (P : Nat → Bool) : Nat → Nat → Nat
  | 0, n => n
  | f + 1, n => if P n = true then n else gf P f (n + 1)
theorem gf_spec (P : Nat → Bool) : ∀ (f n : Nat), n ≤ gf P f n ∧ gf P f n ≤ n + f ∧ (∀ j, n ≤ j → j < gf P f n → P j = false) ∧ (gf P f n < n + f → P (gf P f n) = true)
  | 0, n => ⟨Nat.le_refl _, Nat.le_refl _, fun j h1 h2 => by have h2 : j < n := h2; omega, fun h => by have h : n < n + 0 := h; omega⟩
  | f + 1, n => by
    unfold gf
    by_cases h : P n = true
    · rw [if_pos h]
      exact ⟨Nat.le_refl _, by omega, fun j h1 h2 => by omega, fun _ => h⟩
    · rw [if_neg h]
      obtain ⟨g1, g2, g3, g4⟩ := gf_spec P f (n + 1)
      refine ⟨by omega, by omega, fun j h1 h2 => ?_, fun q => g4 (by omega)⟩
      by_cases e : j = n
      · rw [e]; simpa using h
      · exact g3 j (by omega) h2
theorem gf_le {P : Nat → Bool} (hm : ∀ n, P n = true → P (n + 1) = true) {f k : Nat} (hk : k < f) : gf P f 0 ≤ k ↔ P k = true := by
  obtain ⟨g1, g2, g3, g4⟩ := gf_spec P f 0
  constructor
  · intro h
    have h0 := g4 (by omega)
    have : ∀ d, P (gf P f 0 + d) = true := fun d => by
      induction d with
      | zero => exact h0
      | succ d ih => exact hm _ ih
    have := this (k - gf P f 0)
    rw [show gf P f 0 + (k - gf P f 0) = k by omega] at this
    exact this
  · intro h
    refine Nat.le_of_not_lt fun q => ?_
    have := g3 k (Nat.zero_le _) q
    rw [h] at this; cases this
/-! the county's gap and the reference's -/
def hitP (O U s t : Int64) (n : Nat) : Bool := decide (¬ rch O U s n &&& t = 0)
def gpC (O U s t : Int64) : Nat := gf (hitP O U s t) 37 0
def gpN (O U s t : Int64) : Nat := gf (hitP O U s t) 40 0
theorem hit_up {O U s t : Int64} (hO : SET O) (hU : SET U) (n : Nat) (h : hitP O U s t n = true) : hitP O U s t (n + 1) = true := by
  unfold hitP at *
  rw [decide_eq_true_eq] at *
  intro e
  apply h
  apply bx_eq0
  intro i
  have := congrArg (fun z => bt6 z i) e
  simp only [bx_and, bx_0] at this
  rw [bx_and]
  cases q : bt6 (rch O U s n) i with
  | false => rfl
  | true => rw [rch_up hO hU n i q] at this; exact this
theorem hit_N {a b : Nat} {O U : Int64} (hO : SET O) (hU : SET U) (ha : bt6 O a = true) (hb : b < 64) (n : Nat) : hitP O U (b1 a) (b1 b) n = true ↔ EE a b U O n := by
  have hs : sub6 (b1 a) O := fun i hi => by
    rw [bx_b1 (bx_lt ha), decide_eq_true_eq] at hi
    rw [hi]; exact ha
  unfold EE
  rw [← rch_iff hO hU hs]
  unfold hitP
  rw [decide_eq_true_eq]
  constructor
  · intro h
    obtain ⟨i, -, hi⟩ := bx_ne0 h
    rw [bx_and, Bool.and_eq_true, bx_b1 hb, decide_eq_true_eq] at hi
    rw [← hi.2]; exact hi.1
  · intro h
    exact bx_some (i := b) (by rw [bx_and, h, bx_b1 hb]; simp)
theorem cl_cl {t u : Int64} (ht : SET t) (hu : SET u) (htu : sub6 t u) {a : Nat} (ha : bt6 t a = true) : cl (cl (b1 a) t) u = cl (b1 a) u := by
  refine (sub6.eq ?_ ?_)
  · refine cl_least hu (fun i hi => ?_) (fun i j p1 _ p2 p3 => cl_step hu p1 p2 p3)
    rw [bx_and, Bool.and_eq_true] at hi
    exact cl_mono ht hu htu i hi.1
  · refine cl_least hu (fun i hi => ?_) (fun i j p1 _ p2 p3 => cl_step hu p1 p2 p3)
    rw [bx_and, Bool.and_eq_true, bx_b1 (bx_lt ha), decide_eq_true_eq] at hi
    rw [hi.1]
    exact cl_mem hu (cl1_mem ht ha) (htu a ha)
/-- it goes back as well -/
theorem cl_back {u : Int64} (hu : SET u) {a i : Nat} (ha : bt6 u a = true) (h : bt6 (cl (b1 a) u) i = true) : bt6 (cl (b1 i) u) a = true := by
  have hi : bt6 u i = true := cl_sub hu i h
  refine (cl_is (s := b1 a) hu).1.2.2 (fun j => bt6 u j = true → bt6 (cl (b1 j) u) a = true) (fun j hj => ?_) (fun j k pj hj ha2 hk _ => ?_) i h hi
  · rw [bx_and, Bool.and_eq_true, bx_b1 (bx_lt ha), decide_eq_true_eq] at hj
    intro _
    rw [hj.1]; exact cl1_mem hu ha
  · have h1 : bt6 (cl (b1 k) u) j = true := cl_step hu (cl1_mem hu hk) (by rw [adj_symm]; exact ha2) hj
    refine cl_least hu (fun m hm => ?_) (fun m l p1 _ p2 p3 => cl_step hu p1 p2 p3) a (pj hj)
    rw [bx_and, Bool.and_eq_true, bx_b1 (bx_lt hj), decide_eq_true_eq] at hm
    rw [hm.1]; exact h1
theorem hit_C {a b : Nat} {t O U : Int64} (ht : SET t) (hO : SET O) (hU : SET U) (htO : sub6 t O) (ha : bt6 t a = true) (hb : bt6 t b = true) (n : Nat) : hitP O U (cl (b1 a) t) (cl (b1 b) t) n = true ↔ EE a b U O n := by
  have hs : sub6 (cl (b1 a) t) O := (cl_sub ht).tr htO
  unfold hitP
  rw [decide_eq_true_eq]
  constructor
  · intro h
    obtain ⟨i, -, hi⟩ := bx_ne0 h
    rw [bx_and, Bool.and_eq_true] at hi
    obtain ⟨X, x1, x2, x3⟩ := (rch_iff hO hU hs n i).mp hi.1
    have hOX := hO.or (x1.toSET hU)
    have htOX : sub6 t (O ||| X) := htO.tr (sub_or O X)
    refine ⟨X, x1, x2, ?_⟩
    rw [cl_cl ht hOX htOX ha] at x3
    have hib : bt6 (cl (b1 i) (O ||| X)) b = true := cl_back hOX (htOX b hb) (cl_mono ht hOX htOX i hi.2)
    refine cl_least hOX (fun m hm => ?_) (fun m l p1 _ p2 p3 => cl_step hOX p1 p2 p3) b hib
    rw [bx_and, Bool.and_eq_true, bx_b1 (bx_lt x3), decide_eq_true_eq] at hm
    rw [hm.1]; exact x3
  · rintro ⟨X, x1, x2, x3⟩
    have hOX := hO.or (x1.toSET hU)
    have htOX : sub6 t (O ||| X) := htO.tr (sub_or O X)
    refine bx_some (i := b) ?_
    rw [bx_and, cl1_mem ht hb, Bool.and_true]
    refine (rch_iff hO hU hs n b).mpr ⟨X, x1, x2, ?_⟩
    rw [cl_cl ht hOX htOX ha]; exact x3
theorem cl_all : ∀ a, a < 36 → cl (b1 a) 68719476735 = 68719476735 := by decide +kernel
