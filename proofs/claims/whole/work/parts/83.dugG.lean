/-! ===== digging two into one: the first row ===== -/
def U0 (t : Int64) : Int64 := 68719476735 &&& (t ^^^ (-1))
theorem bx_U0 {t : Int64} (i : Nat) : bt6 (U0 t) i = (decide (i < 36) && !bt6 t i) := by unfold U0; rw [bx_diff, bx_all]
theorem SET.U0 (t : Int64) : SET (U0 t) := SET.all.and _
def tsD (t : Int64) (a b : Nat) (C : Int64) (L c : Nat) : Bool := decide (gpC ((t ||| C) ||| b1 c) (U0 t) (cl (b1 a) t) (cl (b1 b) t) < L)
def glD (t : Int64) (a b : Nat) : Nat → Nat → Int64 → Nat → List Nat
  | 0, _, _, _ => []
  | n + 1, c, C, L => if L = 0 then [] else if tsD t a b C L c = true then c :: glD t a b n (c + 1) (C ||| b1 c) (L - 1) else glD t a b n (c + 1) C L
/-- between the choices -/
def GI (t : Int64) (a b c : Nat) (C : Int64) (L : Nat) : Prop := L ≤ 36 ∧ (∀ i, bt6 C i = true → i < c ∧ bt6 (U0 t) i = true) ∧ EE a b (U0 t) (t ||| C) L ∧ (0 < L → ¬ EE a b (U0 t) (t ||| C) (L - 1)) ∧ (0 < L → ∀ e, e < c → bt6 (U0 t) e = true → ¬ bt6 C e = true → ¬ EE a b (U0 t) ((t ||| C) ||| b1 e) (L - 1))
theorem GI.set {t C : Int64} {a b c L : Nat} (h : GI t a b c C L) : SET C := fun i hi => by
  cases e : bt6 C i with
  | false => rfl
  | true =>
    have := (h.2.1 i e).2
    rw [bx_U0, Bool.and_eq_true, decide_eq_true_eq] at this
    omega
theorem ts_E {t C : Int64} {a b c L : Nat} (ht : SET t) (ha : bt6 t a = true) (hb : bt6 t b = true) (h : GI t a b c C L) (hL : 0 < L) {e : Nat} (he : e < 36) : tsD t a b C L e = true ↔ EE a b (U0 t) ((t ||| C) ||| b1 e) (L - 1) := by
  have hO : SET ((t ||| C) ||| b1 e) := (ht.or h.set).or (SET.one he)
  have hm := h.1
  rw [← hit_C ht hO (SET.U0 t) ((sub_or t C).tr (sub_or _ _)) ha hb, ← gf_le (P := hitP ((t ||| C) ||| b1 e) (U0 t) (cl (b1 a) t) (cl (b1 b) t)) (fun n => hit_up hO (SET.U0 t) n) (f := 37) (by omega)]
  unfold tsD gpC
  rw [decide_eq_true_eq]
  omega
theorem or_in {O : Int64} {c : Nat} (hc : c < 64) (h : bt6 O c = true) : O ||| b1 c = O := by
  apply bx_ext
  intro i _
  rw [bx_or, bx_b1 hc]
  by_cases e : i = c
  · subst e; rw [h]; rfl
  · simp [e]
theorem or_rot (O X Y : Int64) : (O ||| X) ||| Y = (O ||| Y) ||| X := by
  apply bx_ext
  intro i _
  simp only [bx_or]
  cases bt6 O i <;> cases bt6 X i <;> cases bt6 Y i <;> rfl
theorem or_as (O X Y : Int64) : (O ||| X) ||| Y = O ||| (X ||| Y) := by
  apply bx_ext
  intro i _
  simp only [bx_or]
  cases bt6 O i <;> cases bt6 X i <;> cases bt6 Y i <;> rfl
theorem gi_new {t C : Int64} {a b c L : Nat} (h : GI t a b c C L) (hL : 0 < L) (hc : c < 36) (hE : EE a b (U0 t) ((t ||| C) ||| b1 c) (L - 1)) : bt6 (U0 t) c = true ∧ bt6 C c = false := by
  constructor
  · rw [bx_U0, decide_eq_true hc, Bool.true_and]
    cases e : bt6 t c with
    | false => rfl
    | true =>
      rw [or_in (by omega) (by rw [bx_or, e]; rfl)] at hE
      exact absurd hE (h.2.2.2.1 hL)
  · cases e : bt6 C c with
    | false => rfl
    | true => have := (h.2.1 c e).1; omega
theorem gi_yes {t C : Int64} {a b c L : Nat} (h : GI t a b c C L) (hL : 0 < L) (hc : c < 36) (hE : EE a b (U0 t) ((t ||| C) ||| b1 c) (L - 1)) : GI t a b (c + 1) (C ||| b1 c) (L - 1) := by
  obtain ⟨h1, h2, h3, h4, h5⟩ := h
  obtain ⟨n1', n2'⟩ := gi_new ⟨h1, h2, h3, h4, h5⟩ hL hc hE
  refine ⟨by omega, fun i hi => ?_, by rw [← or_as]; exact hE, fun q => ?_, fun q e he he2 he3 => ?_⟩
  · rw [bx_or, Bool.or_eq_true, bx_b1 (by omega), decide_eq_true_eq] at hi
    rcases hi with hi | hi
    · have := h2 i hi; exact ⟨by omega, this.2⟩
    · rw [hi]; exact ⟨by omega, n1'⟩
  · intro z
    rw [← or_as] at z
    have := EE.take n1' (by omega) z
    rw [show L - 1 - 1 + 1 = L - 1 by omega] at this
    exact h4 hL this
  · intro z
    rw [bx_or, bx_b1 (by omega)] at he3
    have hec : ¬ e = c := fun q => he3 (by rw [decide_eq_true q, Bool.or_true])
    have heC : ¬ bt6 C e = true := fun q => he3 (by rw [q]; rfl)
    rw [← or_as, or_rot] at z
    have := EE.take n1' (by omega) z
    rw [show L - 1 - 1 + 1 = L - 1 by omega] at this
    exact h5 hL e (by omega) he2 heC this
theorem gi_no {t C : Int64} {a b c L : Nat} (h : GI t a b c C L) (hE : 0 < L → ¬ EE a b (U0 t) ((t ||| C) ||| b1 c) (L - 1)) : GI t a b (c + 1) C L := by
  obtain ⟨h1, h2, h3, h4, h5⟩ := h
  refine ⟨h1, fun i hi => ⟨by have := (h2 i hi).1; omega, (h2 i hi).2⟩, h3, h4, fun q e he he2 he3 => ?_⟩
  by_cases z : e = c
  · rw [z]; exact hE q
  · exact h5 q e (by omega) he2 he3
theorem gi_end {t C : Int64} {a b L : Nat} (h : GI t a b 36 C L) : L = 0 := by
  obtain ⟨h1, h2, h3, h4, h5⟩ := h
  refine Nat.eq_zero_of_not_pos fun hL => ?_
  obtain ⟨X, x1, x2, x3, x4⟩ := h3.off
  have hX0 : ¬ X = 0 := fun e => by
    subst e
    exact h4 hL ⟨0, x1, by rw [cn_0]; omega, x4⟩
  obtain ⟨e, he64, he⟩ := bx_ne0 hX0
  have heU := x1 e he
  have he36 := (SET.U0 t).lt heU
  have heO := x2 e he
  refine h5 hL e he36 heU (fun q => ?_) (EE.give x1 (by omega) x4 he64 he)
  rw [bx_or, q, Bool.or_true] at heO
  cases heO
/-- the reference's question -/
theorem bx_gt {c : Nat} (hc : c < 36) {i : Nat} (hi : i < 64) : bt6 ((b1 (c + 1) - 1) ^^^ (-1)) i = decide (c < i) := by
  have hb := b1_lo (k := c + 1) (by omega)
  rw [bx_not, decide_eq_true hi, Bool.true_and, bx_pred (b1_ne (by omega)) hi, hb]
  by_cases h1 : i < c + 1
  · rw [if_pos h1, decide_eq_false (by omega)]; rfl
  · rw [if_neg h1]
    by_cases h2 : i = c + 1
    · rw [if_pos h2, decide_eq_true (by omega)]; rfl
    · rw [if_neg h2, bx_b1 (by omega), decide_eq_false h2, decide_eq_true (by omega)]; rfl
def U1 (t : Int64) (c : Nat) : Int64 := U0 t &&& ((b1 (c + 1) - 1) ^^^ (-1))
theorem SET.U1 (t : Int64) (c : Nat) : SET (U1 t c) := (SET.U0 t).and _
theorem U1_sub (t : Int64) (c : Nat) : sub6 (U1 t c) (U0 t) := fun i hi => by unfold U1 at hi; rw [bx_and, Bool.and_eq_true] at hi; exact hi.1
theorem ref_ts {t C : Int64} {a b c L : Nat} (ht : SET t) (ha : bt6 t a = true) (hb : bt6 t b = true) (h : GI t a b c C L) (hL : 0 < L) (hc : c < 36) : (bt6 (U0 t) c = true ∧ gpN ((t ||| C) ||| b1 c) (U1 t c) (b1 a) (b1 b) = L - 1) ↔ EE a b (U0 t) ((t ||| C) ||| b1 c) (L - 1) := by
  have hC := h.set
  have hO : SET ((t ||| C) ||| b1 c) := (ht.or hC).or (SET.one hc)
  have haO : bt6 ((t ||| C) ||| b1 c) a = true := by rw [bx_or, bx_or, ha]; rfl
  obtain ⟨h1, h2, h3, h4, h5⟩ := h
  have key : ∀ k, k < 40 → (gpN ((t ||| C) ||| b1 c) (U1 t c) (b1 a) (b1 b) ≤ k ↔ EE a b (U1 t c) ((t ||| C) ||| b1 c) k) := fun k hk => by
    rw [← hit_N hO (SET.U1 t c) haO (bx_lt hb)]
    exact gf_le (fun n => hit_up hO (SET.U1 t c) n) hk
  constructor
  · rintro ⟨-, hg⟩
    exact ((key (L - 1) (by omega)).mp (by omega)).uu (U1_sub t c)
  · intro hE
    obtain ⟨n1', n2'⟩ := gi_new ⟨h1, h2, h3, h4, h5⟩ hL hc hE
    refine ⟨n1', ?_⟩
    have hle : gpN ((t ||| C) ||| b1 c) (U1 t c) (b1 a) (b1 b) ≤ L - 1 := by
      rw [key (L - 1) (by omega)]
      obtain ⟨X, x1, x2, x3, x4⟩ := hE.off
      refine ⟨X, fun i hi => ?_, x3, x4⟩
      have hiU := x1 i hi
      have hi36 := (SET.U0 t).lt hiU
      have hiO := x2 i hi
      unfold U1
      rw [bx_and, hiU, Bool.true_and, bx_gt hc (by omega), decide_eq_true_eq]
      refine Nat.lt_of_not_le fun q => ?_
      have hic : ¬ i = c := fun z => by
        rw [z, bx_or, bx_b1 (by omega), decide_eq_true rfl, Bool.or_true] at hiO; cases hiO
      have hiC : ¬ bt6 C i = true := fun z => by
        rw [bx_or, bx_or, z, Bool.or_true, Bool.true_or] at hiO; cases hiO
      refine h5 hL i (by omega) hiU hiC ?_
      by_cases hL1 : L - 1 = 0
      · exfalso
        have : X = 0 := Classical.byContradiction fun z => by have := cn_pos z; omega
        rw [this, bx_0] at hi; cases hi
      · have := EE.give (k := L - 1 - 1) x1 (by omega) x4 (show i < 64 by omega) hi
        rw [or_rot] at this
        have := EE.take n1' (by omega) this
        rw [show L - 1 - 1 + 1 = L - 1 by omega] at this
        exact this
    refine Nat.le_antisymm hle (Nat.le_of_not_lt fun q => ?_)
    have : EE a b (U1 t c) ((t ||| C) ||| b1 c) (L - 1 - 1) := (key (L - 1 - 1) (by omega)).mp (by omega)
    have := EE.take n1' (by omega) (this.uu (U1_sub t c))
    rw [show L - 1 - 1 + 1 = L - 1 by omega] at this
    exact h4 hL this
theorem gl_ok {t : Int64} {a b : Nat} (ht : SET t) (ha : bt6 t a = true) (hb : bt6 t b = true) : ∀ (n c : Nat) (C : Int64) (L : Nat), c + n = 36 → GI t a b c C L → (glD t a b n c C L).length = L ∧ (∀ e ∈ glD t a b n c C L, c ≤ e ∧ e < 36) ∧ (glD t a b n c C L).Pairwise (· < ·)
  | 0, c, C, L, hn, h => by
    have : c = 36 := by omega
    subst this
    have := gi_end h
    subst this
    exact ⟨rfl, fun e he => (by cases he), List.Pairwise.nil⟩
  | n + 1, c, C, L, hn, h => by
    unfold glD
    by_cases hL : L = 0
    · rw [if_pos hL, hL]
      exact ⟨rfl, fun e he => (by cases he), List.Pairwise.nil⟩
    · rw [if_neg hL]
      have hts := ts_E ht ha hb h (by omega) (show c < 36 by omega)
      by_cases q : tsD t a b C L c = true
      · rw [if_pos q]
        obtain ⟨i1, i2, i3⟩ := gl_ok ht ha hb n (c + 1) (C ||| b1 c) (L - 1) (by omega) (gi_yes h (by omega) (by omega) (hts.mp q))
        refine ⟨by rw [List.length_cons, i1]; omega, fun e he => ?_, List.pairwise_cons.mpr ⟨fun e he => by have := i2 e he; omega, i3⟩⟩
        rcases List.mem_cons.mp he with he | he
        · omega
        · have := i2 e he; omega
      · rw [if_neg q]
        obtain ⟨i1, i2, i3⟩ := gl_ok ht ha hb n (c + 1) C L (by omega) (gi_no h (fun _ z => q (hts.mpr z)))
        exact ⟨i1, fun e he => by have := i2 e he; omega, i3⟩
/-- the beginning -/
theorem or_0 (t : Int64) : t ||| 0 = t := by
  apply bx_ext
  intro i _
  rw [bx_or, bx_0, Bool.or_false]
theorem EE_36 {t : Int64} {a b : Nat} (ht : SET t) (ha : bt6 t a = true) (hb : bt6 t b = true) : EE a b (U0 t) t 36 := by
  refine ⟨U0 t, sub6.rf, cn_set (SET.U0 t), ?_⟩
  have e : t ||| U0 t = 68719476735 := by
    refine (ht.or (SET.U0 t)).ext SET.all (fun i hi => ?_)
    rw [bx_or, bx_U0, bx_all, decide_eq_true hi, Bool.true_and]
    cases bt6 t i <;> rfl
  rw [e, cl_all a (ht.lt ha), bx_all, decide_eq_true (ht.lt hb)]
theorem gi_0 {t : Int64} {a b : Nat} (ht : SET t) (ha : bt6 t a = true) (hb : bt6 t b = true) : GI t a b 0 0 (gpC t (U0 t) (cl (b1 a) t) (cl (b1 b) t)) := by
  have key : ∀ k, k < 37 → (gpC t (U0 t) (cl (b1 a) t) (cl (b1 b) t) ≤ k ↔ EE a b (U0 t) t k) := fun k hk => by
    rw [← hit_C ht ht (SET.U0 t) sub6.rf ha hb]
    exact gf_le (fun n => hit_up ht (SET.U0 t) n) hk
  have h36 := (key 36 (by decide)).mpr (EE_36 ht ha hb)
  refine ⟨h36, fun i hi => (by rw [bx_0] at hi; cases hi), ?_, fun hL => ?_, fun _ e he => by omega⟩
  · rw [or_0]; exact (key _ (by omega)).mp (Nat.le_refl _)
  · rw [or_0]
    intro z
    have := (key _ (by omega)).mpr z
    omega
theorem gp_same {t : Int64} {a b : Nat} (ht : SET t) (ha : bt6 t a = true) (hb : bt6 t b = true) : gpN t 68719476735 (b1 a) (b1 b) = gpC t (U0 t) (cl (b1 a) t) (cl (b1 b) t) := by
  have kC : ∀ k, k < 37 → (gpC t (U0 t) (cl (b1 a) t) (cl (b1 b) t) ≤ k ↔ EE a b (U0 t) t k) := fun k hk => by
    rw [← hit_C ht ht (SET.U0 t) sub6.rf ha hb]
    exact gf_le (fun n => hit_up ht (SET.U0 t) n) hk
  have kN : ∀ k, k < 40 → (gpN t 68719476735 (b1 a) (b1 b) ≤ k ↔ EE a b 68719476735 t k) := fun k hk => by
    rw [← hit_N ht SET.all ha (bx_lt hb)]
    exact gf_le (fun n => hit_up ht SET.all n) hk
  have e : ∀ k, EE a b 68719476735 t k ↔ EE a b (U0 t) t k := fun k => by
    constructor
    · intro h
      obtain ⟨X, x1, x2, x3, x4⟩ := h.off
      refine ⟨X, fun i hi => ?_, x3, x4⟩
      have := x1 i hi
      rw [bx_all, decide_eq_true_eq] at this
      rw [bx_U0, decide_eq_true this, x2 i hi]; rfl
    · intro h
      exact h.uu (fun i hi => by rw [bx_U0, Bool.and_eq_true, decide_eq_true_eq] at hi; rw [bx_all, decide_eq_true hi.1])
  have h36 := (kC 36 (by decide)).mpr (EE_36 ht ha hb)
  refine Nat.le_antisymm ?_ ?_
  · rw [kN _ (by omega), e]
    exact (kC _ (by omega)).mp (Nat.le_refl _)
  · have h36' := (kN 36 (by decide)).mpr ((e 36).mpr (EE_36 ht ha hb))
    rw [kC _ (by omega), ← e]
    exact (kN _ (by omega)).mp (Nat.le_refl _)
theorem cl_same {t : Int64} (ht : SET t) {a b : Nat} (ha : bt6 t a = true) (h : bt6 (cl (b1 a) t) b = true) : cl (b1 a) t = cl (b1 b) t := by
  have hb := cl_sub ht b h
  refine sub6.eq ?_ ?_
  · refine cl_least ht (fun m hm => ?_) (fun m l p1 _ p2 p3 => cl_step ht p1 p2 p3)
    rw [bx_and, Bool.and_eq_true, bx_b1 (bx_lt ha), decide_eq_true_eq] at hm
    rw [hm.1]; exact cl_back ht ha h
  · refine cl_least ht (fun m hm => ?_) (fun m l p1 _ p2 p3 => cl_step ht p1 p2 p3)
    rw [bx_and, Bool.and_eq_true, bx_b1 (bx_lt hb), decide_eq_true_eq] at hm
    rw [hm.1]; exact h
