/-! ===== rounds: the reference's orders ===== -/
def OR35 (w : zW) (p : List Nat) : Prop := ∀ i k, p[i]? = some k → gI w 35 i = nI k
def m35 (o _ : Nat) : Bool := o == 35
theorem OR_at {w : zW} {p : List Nat} (h : OR35 w p) {i : Nat} (hi : i < p.length) (h8 : p.length ≤ 8) : gI w 35 (nI i).toNatClampNeg = nI (p.getD i 0) := by
  rw [nI_clamp (by omega), h i _ (List.getElem?_eq_getElem hi), gD_of (List.getElem?_eq_getElem hi)]
theorem lp_N_steps {d : Nat} {w : zW} {Q : zQ} {l : List Int64} {p : List Nat} {n : Nat} (h8 : n ≤ 8) (hp : p.length = n) (hpl : ∀ k ∈ p, k < n) (hg : ∀ k c, k < n → gM l k c < 36) (hO : OR35 w p) (h37 : ∀ c k, c < 36 → k < n → gI w 37 (8 * c + k) = nI (gM l k c)) : ∀ (m k at' s : Nat), k + m = n → at' < 36 → Q (some (.int (nI (s + cst (gM l) at' (p.drop k))))) w → WP (d + 2) m_N_stepsOf 1 [some (.ref 10), none, some (.int (nI n)), some (.int (nI at')), some (.int (nI s)), some (.int (nI k)), none] [] w Q
  | 0, k, at', s, hk, hat, hq => by
    have e : k = n := by omega
    subst e
    rw [List.drop_of_length_le (by omega)] at hq
    exact t_N_stepsOf_1 (fun _ => t_N_stepsOf_4 hq) (fun g => absurd (Int32.le_refl _) g)
  | m + 1, k, at', s, hk, hat, hq => by
    have hkl : k < p.length := by omega
    have hpk := hpl _ (List.getElem_mem hkl)
    have e35 : gI w 35 (nI k).toNatClampNeg = nI p[k] := by rw [nI_clamp (by omega)]; exact hO k _ (List.getElem?_eq_getElem hkl)
    have ei : (8 : Int32) * nI at' + nI p[k] = nI (8 * at' + p[k]) := by rw [show (8 : Int32) = nI 8 from rfl, pk_mul, nI_add]
    rw [List.drop_eq_getElem_cons hkl] at hq
    have hgk := hg p[k] at' hpk
    refine t_N_stepsOf_1 (fun g => absurd g (nI_ge (show k < n by omega) (by omega))) (fun _ => t_N_stepsOf_2 (vp_in_lt (by omega) (by decide)) (by rw [e35, ei]; exact vp_in_lt (by omega) (by decide)) ?_)
    rw [e35, ei, nI_clamp (by omega), h37 at' p[k] hat hpk]
    refine s_N_apart hat hgk (t_N_stepsOf_3 ?_)
    rw [nI_add, n1]
    refine lp_N_steps h8 hp hpl hg hO h37 m (k + 1) (gM l p[k] at') (s + stp at' (gM l p[k] at')) (by omega) hgk ?_
    have : s + cst (gM l) at' (p[k] :: p.drop (k + 1)) = s + stp at' (gM l p[k] at') + cst (gM l) (gM l p[k] at') (p.drop (k + 1)) := by
      show s + (stp at' (gM l p[k] at') + cst (gM l) (gM l p[k] at') (p.drop (k + 1))) = _
      omega
    rw [← this]; exact hq
/-! the next order -/
theorem lp_N_piv {d : Nat} {w : zW} {Q : zQ} {p : List Nat} {n : Nat} (h8 : p.length ≤ 8) (hn : p.length = n) (hb : ∀ k ∈ p, k < 8) (hO : OR35 w p) (a : Option Nat) (ha : ∀ i, (∀ x, a = some x → x < i) → i + 1 < n → p.getD (i + 1) 0 < p.getD i 0) (hax : ∀ x, a = some x → x + 1 < n ∧ p.getD x 0 ≤ p.getD (x + 1) 0) (h : WP d m_N_nextOrder 4 [some (.ref 10), some (.int (nI n)), some (.int (match a with | some x => nI x | none => -1)), none, none, none, none] [] w Q) : ∀ (j : Nat), j + 1 < n → (∀ x, a = some x → x ≤ j) → WP d m_N_nextOrder 1 [some (.ref 10), some (.int (nI n)), some (.int (nI j)), none, none, none, none] [] w Q := by
  have hv : ∀ i, i < n → p.getD i 0 < 8 := fun i hi => by
    rw [gD_of (List.getElem?_eq_getElem (show i < p.length by omega))]; exact hb _ (List.getElem_mem _)
  intro j
  induction j with
  | zero =>
    intro hj haj
    have e0 := OR_at hO (i := 0) (by omega) h8
    have e1 := OR_at hO (i := 1) (by omega) h8
    have v0 := hv 0 (by omega)
    have v1 := hv 1 (by omega)
    refine t_N_nextOrder_1 (fun g => absurd g (by decide)) (fun _ => t_N_nextOrder_2 (vp_in_lt (j := 0) (by omega) (by decide)) (vp_in_lt (j := 1) (by omega) (by decide)) (fun g => ?_) (fun g => t_N_nextOrder_3 ?_))
    · cases a with
      | some x =>
        have : x = 0 := by have := haj x rfl; omega
        subst this
        exact h
      | none =>
        have g : gI w 35 (nI 0).toNatClampNeg ≤ gI w 35 (nI 1).toNatClampNeg := g
        rw [e0, e1, nI_leI (by omega) (by omega)] at g
        have this : p.getD 1 0 < p.getD 0 0 := ha 0 (fun x hx => by cases hx) (by omega)
        omega
    · cases a with
      | some x =>
        have : x = 0 := by have := haj x rfl; omega
        subst this
        have g : ¬ gI w 35 (nI 0).toNatClampNeg ≤ gI w 35 (nI 1).toNatClampNeg := g
        rw [e0, e1, nI_leI (by omega) (by omega)] at g
        exact absurd (hax 0 rfl).2 g
      | none =>
        exact t_N_nextOrder_1 (fun _ => h) (fun g => absurd (by decide) g)
  | succ j ih =>
    intro hj haj
    have e0 := OR_at hO (i := j + 1) (by omega) h8
    have e1 := OR_at hO (i := j + 1 + 1) (by omega) h8
    have v0 := hv (j + 1) (by omega)
    have v1 := hv (j + 1 + 1) (by omega)
    refine t_N_nextOrder_1 (fun g => absurd g (not_neg (by omega))) (fun _ => t_N_nextOrder_2 (vp_in_lt (by omega) (by decide)) (by rw [n1]; exact vp_in_lt (by omega) (by decide)) (fun g => ?_) (fun g => t_N_nextOrder_3 ?_))
    · rw [n1, e0, e1, nI_leI (by omega) (by omega)] at g
      cases a with
      | none => have := ha (j + 1) (fun x hx => by cases hx) (by omega); omega
      | some x =>
        by_cases q : x = j + 1
        · subst q; exact h
        · have := ha (j + 1) (fun y hy => by injection hy with hy; have := haj x rfl; omega) (by omega)
          omega
    · rw [n1, e0, e1, nI_leI (by omega) (by omega)] at g
      rw [pk_m1]
      refine ih (by omega) (fun x hx => ?_)
      have := haj x hx
      by_cases q : x = j + 1
      · subst q; exact absurd (hax _ hx).2 g
      · omega
theorem lp_N_rev {d : Nat} {w0 : zW} {Q : zQ} {F0 : Nat → Int32} {lo0 hi0 : Nat} (h8 : hi0 < 8) (hl0 : 0 < lo0) (h : ∀ w', (∀ i, gI w' 35 i = if lo0 ≤ i ∧ i ≤ hi0 then F0 (lo0 + hi0 - i) else F0 i) → EQX m35 m0L w0 w' → Q (some (.int 1)) w') : ∀ (m lo hi : Nat) (F : Nat → Int32) (w : zW), hi < lo + m → lo + hi = lo0 + hi0 → lo0 ≤ lo → lo ≤ hi + 1 → (∀ i, gI w 35 i = F i) → (∀ i, (if lo ≤ i ∧ i ≤ hi then F (lo + hi - i) else F i) = if lo0 ≤ i ∧ i ≤ hi0 then F0 (lo0 + hi0 - i) else F0 i) → EQX m35 m0L w0 w → WP d m_N_nextOrder 10 [some (.ref 10), none, none, none, none, some (.int (nI hi)), some (.int (nI lo))] [] w Q
  | 0, lo, hi, F, w, hm, hs, hlo, hle, hF, hR, hx => by
    refine t_N_nextOrder_10 (fun _ => t_N_nextOrder_12 (h w (fun i => ?_) hx)) (fun g => absurd (nI_le (by omega) (by omega)) g)
    rw [hF, ← hR, if_neg (by omega)]
  | m + 1, lo, hi, F, w, hm, hs, hlo, hle, hF, hR, hx => by
    refine t_N_nextOrder_10 (fun g => t_N_nextOrder_12 (h w (fun i => ?_) hx)) (fun g => ?_)
    · have g := (nI_leI (by omega) (by omega)).mp g
      rw [hF, ← hR]
      by_cases q : lo ≤ i ∧ i ≤ hi
      · rw [if_pos q, show lo + hi - i = i by omega]
      · rw [if_neg q]
    · have g : lo < hi := Nat.lt_of_not_le fun q => g (nI_le q (by omega))
      obtain ⟨hi', rfl⟩ : ∃ k, hi = k + 1 := ⟨hi - 1, by omega⟩
      have i1 : vp_in (nI lo) 8 := vp_in_lt (by omega) (by decide)
      have i2 : vp_in (nI (hi' + 1)) 8 := vp_in_lt (by omega) (by decide)
      refine t_N_nextOrder_11 i1 i2 i1 i2 ?_
      rw [nI_clamp (by omega), nI_clamp (by omega), pk_m1, n1, hF, hF]
      refine lp_N_rev h8 hl0 h m (lo + 1) hi' (fun i => if i = hi' + 1 then F lo else if i = lo then F (hi' + 1) else F i) _ (by omega) (by omega) (by omega) (by omega) (fun i => ?_) (fun i => ?_) ((hx.pI (o := 35) (k := lo) _ rfl).pI (o := 35) (k := hi' + 1) _ rfl)
      · rw [gI_sI, gI_sI, hF]
        by_cases q1 : i = hi' + 1
        · rw [if_pos ⟨rfl, q1⟩, if_pos q1]
        · rw [if_neg (fun z => q1 z.2), if_neg q1]
          by_cases q2 : i = lo
          · rw [if_pos ⟨rfl, q2⟩, if_pos q2]
          · rw [if_neg (fun z => q2 z.2), if_neg q2]
      · rw [← hR i]
        by_cases q1 : i = hi' + 1
        · rw [if_neg (by omega), if_pos q1, if_pos (by omega), show lo + (hi' + 1) - i = lo by omega]
        · by_cases q2 : i = lo
          · rw [if_neg (by omega), if_neg q1, if_pos q2, if_pos (by omega), show lo + (hi' + 1) - i = hi' + 1 by omega]
          · by_cases q3 : lo ≤ i ∧ i ≤ hi' + 1
            · rw [if_pos (by omega), if_pos q3, if_neg (by omega), if_neg (by omega), show lo + 1 + hi' - i = lo + (hi' + 1) - i by omega]
            · rw [if_neg (by omega), if_neg q1, if_neg q2, if_neg q3]
theorem lp_N_fj {d : Nat} {w : zW} {Q : zQ} {p : List Nat} {n a b : Nat} (h8 : p.length ≤ 8) (hn : p.length = n) (hb8 : ∀ k ∈ p, k < 8) (hO : OR35 w p) (hab : a < b) (hbn : b < n) (hge : p.getD a 0 ≤ p.getD b 0) (hgt : ∀ i, b < i → i < n → p.getD i 0 < p.getD a 0) (h : WP d m_N_nextOrder 9 [some (.ref 10), some (.int (nI n)), some (.int (nI a)), some (.int (nI b)), none, none, none] [] w Q) : ∀ (m j : Nat), j = b + m → j < n → WP d m_N_nextOrder 7 [some (.ref 10), some (.int (nI n)), some (.int (nI a)), some (.int (nI j)), none, none, none] [] w Q := by
  have hv : ∀ i, i < n → p.getD i 0 < 8 := fun i hi => by
    rw [gD_of (List.getElem?_eq_getElem (show i < p.length by omega))]; exact hb8 _ (List.getElem_mem _)
  intro m
  induction m with
  | zero =>
    intro j hj hjn
    have : j = b := by omega
    subst this
    have va := hv a (by omega)
    have vb := hv j (by omega)
    refine t_N_nextOrder_7 (vp_in_lt (by omega) (by decide)) (vp_in_lt (by omega) (by decide)) (fun _ => h) (fun g => ?_)
    rw [OR_at hO (by omega) h8, OR_at hO (by omega) h8, nI_leI (by omega) (by omega)] at g
    exact absurd hge g
  | succ m ih =>
    intro j hj hjn
    obtain ⟨j', rfl⟩ : ∃ k, j = k + 1 := ⟨j - 1, by omega⟩
    have va := hv a (by omega)
    have vb := hv (j' + 1) (by omega)
    have := hgt (j' + 1) (by omega) hjn
    refine t_N_nextOrder_7 (vp_in_lt (by omega) (by decide)) (vp_in_lt (by omega) (by decide)) (fun g => ?_) (fun g => t_N_nextOrder_8 ?_)
    · rw [OR_at hO (by omega) h8, OR_at hO (by omega) h8, nI_leI (by omega) (by omega)] at g
      omega
    · rw [pk_m1]
      exact ih j' (by omega) (by omega)
theorem s_N_last {d : Nat} {w : zW} {Q : zQ} {p : List Nat} (h8 : p.length ≤ 8) (hb : ∀ k ∈ p, k < 8) (hO : OR35 w p) (hd : p.Pairwise (· > ·)) (hq : Q (some (.int 0)) w) : WM d m_N_nextOrder 7 [.ref 10, .int (nI p.length)] w Q := by
  refine n_N_nextOrder (t_N_nextOrder_0 ?_)
  have h4 : WP d m_N_nextOrder 4 [some (.ref 10), some (.int (nI p.length)), some (.int (-1)), none, none, none, none] [] w Q := t_N_nextOrder_4 (fun g => absurd g (by decide)) (fun _ => t_N_nextOrder_5 hq)
  by_cases h1 : p.length ≤ 1
  · have hneg : nI p.length - 2 < 0 := pk_sneg (a := p.length) (b := 2) (by decide) (by omega)
    refine t_N_nextOrder_1 (fun _ => t_N_nextOrder_4 (fun g => absurd hneg (by rw [Int32.not_lt]; exact g)) (fun _ => t_N_nextOrder_5 hq)) (fun g => absurd hneg g)
  · rw [show nI p.length - 2 = nI (p.length - 2) from pk_sub (b := 2) (by omega)]
    refine lp_N_piv (a := none) h8 rfl hb hO (fun i _ hi => ?_) (fun x hx => by cases hx) h4 (p.length - 2) (by omega) (fun x hx => by cases hx)
    have := List.pairwise_iff_getElem.mp hd i (i + 1) (by omega) hi (by omega)
    rw [gD_of (List.getElem?_eq_getElem hi), gD_of (List.getElem?_eq_getElem (show i < p.length by omega))]
    exact this
theorem get_mid {P E : List Nat} {x i k : Nat} (h : (P ++ x :: E)[i]? = some k) : (i < P.length ∧ P[i]? = some k) ∨ (i = P.length ∧ k = x) ∨ (P.length < i ∧ E[i - P.length - 1]? = some k) := by
  by_cases q : i < P.length
  · rw [List.getElem?_append_left q] at h; exact Or.inl ⟨q, h⟩
  · rw [List.getElem?_append_right (by omega)] at h
    by_cases q2 : i = P.length
    · rw [q2, Nat.sub_self] at h
      injection h with h
      exact Or.inr (Or.inl ⟨q2, h.symm⟩)
    · rw [show i - P.length = (i - P.length - 1) + 1 by omega, List.getElem?_cons_succ] at h
      exact Or.inr (Or.inr ⟨by omega, h⟩)
theorem s_N_next {d : Nat} {w : zW} {Q : zQ} {p q : List Nat} (h8 : p.length ≤ 8) (hb : ∀ k ∈ p, k < 8) (hO : OR35 w p) (hnx : NX p q) (hq : ∀ w', OR35 w' q → EQX m35 m0L w w' → Q (some (.int 1)) w') : WM d m_N_nextOrder 7 [.ref 10, .int (nI p.length)] w Q := by
  obtain ⟨P, h, D1, x, D2, rfl, rfl, hdec, hhx, hD2⟩ := hnx
  have hlen : (P ++ h :: (D1 ++ x :: D2)).length = P.length + 1 + (D1.length + 1 + D2.length) := by simp only [List.length_append, List.length_cons]; omega
  have hpa : (P ++ h :: (D1 ++ x :: D2))[P.length]? = some h := by rw [List.getElem?_append_right (Nat.le_refl _), Nat.sub_self]; rfl
  have hpe : ∀ r, (P ++ h :: (D1 ++ x :: D2))[P.length + 1 + r]? = (D1 ++ x :: D2)[r]? := fun r => by
    rw [List.getElem?_append_right (by omega), show P.length + 1 + r - P.length = r + 1 by omega, List.getElem?_cons_succ]
  have hpb : (P ++ h :: (D1 ++ x :: D2))[P.length + 1 + D1.length]? = some x := by rw [hpe, List.getElem?_append_right (Nat.le_refl _), Nat.sub_self]; rfl
  have hdl : (D1 ++ x :: D2).length = D1.length + 1 + D2.length := by simp only [List.length_append, List.length_cons]; omega
  generalize hp : P ++ h :: (D1 ++ x :: D2) = p at *
  have hdv : ∀ r, r < D1.length + 1 + D2.length → p.getD (P.length + 1 + r) 0 = (D1 ++ x :: D2).getD r 0 := fun r hr => by
    rw [List.getD_eq_getElem?_getD, List.getD_eq_getElem?_getD, hpe]
  have hdd : ∀ r, r + 1 < D1.length + 1 + D2.length → (D1 ++ x :: D2).getD (r + 1) 0 < (D1 ++ x :: D2).getD r 0 := fun r hr => by
    have := List.pairwise_iff_getElem.mp hdec r (r + 1) (by omega) (by omega) (by omega)
    rw [gD_of (List.getElem?_eq_getElem (show r + 1 < (D1 ++ x :: D2).length by omega)), gD_of (List.getElem?_eq_getElem (show r < (D1 ++ x :: D2).length by omega))]
    exact this
  have ga := gD_of hpa
  have gb := gD_of hpb
  refine n_N_nextOrder (t_N_nextOrder_0 ?_)
  rw [show nI p.length - 2 = nI (p.length - 2) from pk_sub (b := 2) (by omega)]
  refine lp_N_piv (a := some P.length) h8 rfl hb hO (fun i hi hi2 => ?_) (fun y hy => ?_) (t_N_nextOrder_4 (fun _ => t_N_nextOrder_6 ?_) (fun g => absurd (nI_le (a := 0) (Nat.zero_le _) (by omega)) g)) (p.length - 2) (by omega) (fun y hy => by injection hy with hy; omega)
  · have hi := hi P.length rfl
    obtain ⟨r, rfl⟩ : ∃ r, i = P.length + 1 + r := ⟨i - P.length - 1, by omega⟩
    rw [show P.length + 1 + r + 1 = P.length + 1 + (r + 1) by omega, hdv _ (by omega), hdv _ (by omega)]
    exact hdd r (by omega)
  · injection hy with hy
    subst hy
    refine ⟨by omega, ?_⟩
    rw [ga, show P.length + 1 = P.length + 1 + 0 by omega, hdv 0 (by omega)]
    cases D1 with
    | nil => show h ≤ x; omega
    | cons e D1 =>
      have := (List.pairwise_cons.mp hdec).1 x (List.mem_append_right _ (List.mem_cons_self ..))
      show h ≤ e
      omega
  · rw [show nI p.length - 1 = nI (p.length - 1) from pk_sub (b := 1) (by omega)]
    refine lp_N_fj (a := P.length) (b := P.length + 1 + D1.length) h8 rfl hb hO (by omega) (by omega) (by rw [ga, gb]; omega) (fun i hi1 hi2 => ?_) ?_ D2.length (p.length - 1) (by omega) (by omega)
    · obtain ⟨r, rfl⟩ : ∃ r, i = P.length + 1 + r := ⟨i - P.length - 1, by omega⟩
      rw [ga, hdv r (by omega)]
      have e : (D1 ++ x :: D2)[r]? = D2[r - D1.length - 1]? := by
        rw [List.getElem?_append_right (by omega), show r - D1.length = (r - D1.length - 1) + 1 by omega, List.getElem?_cons_succ]; rfl
      have hr : r - D1.length - 1 < D2.length := by omega
      rw [List.getD_eq_getElem?_getD, e, List.getElem?_eq_getElem hr]
      exact hD2 _ (List.getElem_mem hr)
    · have i1 : vp_in (nI P.length) 8 := vp_in_lt (by omega) (by decide)
      have i2 : vp_in (nI (P.length + 1 + D1.length)) 8 := vp_in_lt (by omega) (by decide)
      refine t_N_nextOrder_9 i1 i2 i1 i2 ?_
      rw [n1, nI_clamp (by omega), nI_clamp (by omega), hO _ _ hpa, hO _ _ hpb, show nI p.length - 1 = nI (p.length - 1) from pk_sub (b := 1) (by omega)]
      refine lp_N_rev (w0 := w) (F0 := fun i => gI (sI (sI w 35 P.length (nI x)) 35 (P.length + 1 + D1.length) (nI h)) 35 i) (lo0 := P.length + 1) (hi0 := p.length - 1) (by omega) (by omega) (fun wa ha xa => hq wa (fun i k hk => ?_) xa) 8 (P.length + 1) (p.length - 1) _ _ (by omega) rfl (Nat.le_refl _) (by omega) (fun _ => rfl) (fun _ => rfl) ((EQX.rf.pI (o := 35) (k := P.length) _ rfl).pI (o := 35) (k := P.length + 1 + D1.length) _ rfl)
      -- the list behind the swap
      have hsw : ∀ i k, (P ++ x :: (D1 ++ h :: D2))[i]? = some k → gI (sI (sI w 35 P.length (nI x)) 35 (P.length + 1 + D1.length) (nI h)) 35 i = nI k := fun i k hk => by
        rw [gI_sI, gI_sI]
        rcases get_mid hk with ⟨z1, z2⟩ | ⟨z1, z2⟩ | ⟨z1, z2⟩
        · rw [if_neg (by omega), if_neg (by omega)]
          exact hO i k (by rw [← hp, List.getElem?_append_left z1]; exact z2)
        · rw [if_neg (by omega), if_pos ⟨rfl, z1⟩, z2]
        · rcases get_mid z2 with ⟨y1, y2⟩ | ⟨y1, y2⟩ | ⟨y1, y2⟩
          · rw [if_neg (by omega), if_neg (by omega)]
            refine hO i k ?_
            have := hpe (i - P.length - 1)
            rw [show P.length + 1 + (i - P.length - 1) = i by omega] at this
            rw [this, List.getElem?_append_left y1]; exact y2
          · rw [if_pos ⟨rfl, by omega⟩, y2]
          · rw [if_neg (by omega), if_neg (by omega)]
            refine hO i k ?_
            have := hpe (i - P.length - 1)
            rw [show P.length + 1 + (i - P.length - 1) = i by omega] at this
            rw [this, List.getElem?_append_right (by omega), show i - P.length - 1 - D1.length = (i - P.length - 1 - D1.length - 1) + 1 by omega, List.getElem?_cons_succ]
            exact y2
      rw [ha i]
      have hrev : D2.reverse ++ h :: D1.reverse = (D1 ++ h :: D2).reverse := by rw [List.reverse_append, List.reverse_cons, List.append_assoc]; rfl
      rw [hrev] at hk
      have hEl : (D1 ++ h :: D2).length = D1.length + 1 + D2.length := by simp only [List.length_append, List.length_cons]; omega
      rcases get_mid hk with ⟨z1, z2⟩ | ⟨z1, z2⟩ | ⟨z1, z2⟩
      · rw [if_neg (by omega)]
        exact hsw i k (by rw [List.getElem?_append_left z1]; exact z2)
      · rw [if_neg (by omega)]
        refine hsw i k ?_
        rw [z1, z2, List.getElem?_append_right (Nat.le_refl _), Nat.sub_self]; rfl
      · have hil := (List.getElem?_eq_some_iff.mp z2).1
        rw [List.length_reverse] at hil
        rw [List.getElem?_reverse hil] at z2
        rw [if_pos (by omega)]
        refine hsw _ k ?_
        rw [List.getElem?_append_right (by omega), show P.length + 1 + (p.length - 1) - i - P.length = (P.length + 1 + (p.length - 1) - i - P.length - 1) + 1 by omega, List.getElem?_cons_succ, show P.length + 1 + (p.length - 1) - i - P.length - 1 = (D1 ++ h :: D2).length - 1 - (i - P.length - 1) by omega]
        exact z2
