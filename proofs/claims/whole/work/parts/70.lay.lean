/-! ===== lay ===== -/
def layS (S : zS) (c : Nat) (v : Nat → Nat) : Nat → zS
  | 0 => S
  | k + 1 => putS (layS S c v k) (c + k) (v k) (roP (layS S c v k) (c + k) (v k))
theorem layS_ok {S : zS} {c n : Nat} {v : Nat → Nat} (hk : okS S) (hc : c + n ≤ 36) (hv : ∀ k, k < n → v k ≤ 9) : ∀ k, k ≤ n → okS (layS S c v k)
  | 0, _ => hk
  | k + 1, h => by
    have ih := layS_ok hk hc hv k (by omega)
    have hr := roP_ok (n := v k) ih (show c + k < 36 by omega)
    exact okS_put ih (by omega) (hv k (by omega)) hr.1 hr.2
theorem GC_fgt {w : zW} {S : zS} (h : GC w 1 S) : GC (sI w 1 8 0) 1 (wU S []) := by
  obtain ⟨a1, a2, a3, a4, a5, a6, a7, a8, a9⟩ := h
  refine ⟨fun x hx => ?_, fun x hx => ?_, a3, a4, a5, ?_, ?_, ?_, fun k e he => by cases he⟩
  · rw [gI_sI, if_neg (by omega)]; exact a1 x hx
  · rw [gI_sI, if_neg (by omega)]; exact a2 x hx
  · rw [gI_sI, if_neg (by omega)]; exact a6
  · rw [gI_sI, if_neg (by omega)]; exact a7
  · rw [gI_sI, if_pos ⟨rfl, rfl⟩]; rfl
theorem GN_fgt {w : zW} {S : zS} (h : GN w S) : GN (sI w 10 5 0) (wU S []) := by
  obtain ⟨a1, a2, a3, a4, a5, a6, a7⟩ := h
  refine ⟨a1, a2, a3, ?_, ?_, ?_, fun k e he => by cases he⟩
  · rw [gI_sI, if_neg (by omega)]; exact a4
  · rw [gI_sI, if_neg (by omega)]; exact a5
  · rw [gI_sI, if_pos ⟨rfl, rfl⟩]; rfl
theorem okS_fgt {S : zS} (h : okS S) : okS (wU S []) := okS_U (S := S) (u := unS S) h ⟨by simp, by simp⟩
theorem roP_N {S : zS} {c n : Nat} (hc : c < 64) (b : Bool) (hb : b = (decide (0 < n) && bt6 (roS S) c)) : (if b = true then roS S ||| b1 c else roS S &&& (b1 c ^^^ (-1))) = roP S c n := by
  subst hb
  unfold roP
  by_cases h : n = 0
  · subst h; simp
  · rw [if_neg h, decide_eq_true (show 0 < n by omega), Bool.true_and]
    cases e : bt6 (roS S) c with
    | true =>
      rw [if_pos rfl]
      apply bx_ext
      intro i _
      rw [bx_or, bx_b1 hc]
      by_cases q : i = c
      · subst q; rw [e]; rfl
      · simp [q]
    | false =>
      rw [if_neg (by decide)]
      apply bx_ext
      intro i _
      rw [bx_diff, bx_b1 hc]
      by_cases q : i = c
      · subst q; rw [e]; rfl
      · simp [q]
theorem lp_C_lay {d : Nat} {w0 : zW} {Q : zQ} {S : zS} {s c a n : Nat} {v : Nat → Nat} (hs : s < 4) (hc : c + n ≤ 36) (ha : a + n ≤ 36) (hv : ∀ k, k < n → v k ≤ 9 ∧ (gL w0 (19 + s) (a + k)).toInt32 = nI (v k)) (h : ∀ w', GC w' 1 (wU (layS S c v n) []) → EQX mCI mCL w0 w' → Q (some (.int (nI n))) w') : ∀ (m k : Nat) (w : zW), k + m = n → GC w 1 (layS S c v k) → EQX mCI mCL w0 w → WP (d + 1) m_C_lay 12 [some (.ref 0), some (.int (nI c)), none, none, some (.int (nI a)), some (.int (nI n)), none, some (.ref (5 + s)), some (.int (nI k))] [] w Q
  | 0, k, w, hk, hG, hx => by
    have e : k = n := by omega
    subst e
    exact t_C_lay_12 (fun _ => t_C_lay_15 (n_G_forget (t_G_forget_0 (t_C_lay_16 (h _ (GC_fgt hG) (hx.pI (o := 1) (k := 8) _ rfl)))))) (fun g => absurd (Int32.le_refl _) g)
  | m + 1, k, w, hk, hG, hx => by
    refine t_C_lay_12 (fun g => absurd g (nI_ge (show k < n by omega) (by omega))) (fun _ => t_C_lay_13 (zis_row hs) (zrf_ar hs) (by rw [nI_add]; exact zrf_in hs (vp_in_lt (by omega) (by decide))) ?_)
    have hm : mCL (19 + s) (a + k) = false := lt4 (P := fun s => mCL (19 + s) (a + k) = false) rfl rfl rfl rfl s hs
    rw [zrf_row hs, nI_add, nI_add, nI_clamp (by omega), hx.2 (19 + s) (a + k) hm, (hv k (by omega)).2]
    refine s_G_put hG (by omega) (hv k (by omega)).1 (fun wa ga xa => t_C_lay_14 ?_)
    rw [n1]
    exact lp_C_lay hs hc ha hv h m (k + 1) wa (by omega) ga (hx.tr xa)
theorem lp_N_lay2 {d : Nat} {w0 : zW} {Q : zQ} {S : zS} {s c a n : Nat} {v : Nat → Nat} (hs : s < 4) (hc : c + n ≤ 36) (ha : a + n ≤ 36) (hv : ∀ k, k < n → v k ≤ 9 ∧ (gL w0 41 (36 * s + a + k)).toInt32 = nI (v k)) (h : ∀ w', GN w' (wU (layS S c v n) []) → EQX mNI mNL w0 w' → Q (some (.int (nI n))) w') : ∀ (m k : Nat) (w : zW), k + m = n → GN w (layS S c v k) → EQX mNI mNL w0 w → WP (d + 1) m_N_lay 19 [some (.ref 10), some (.int (nI c)), none, none, none, some (.int (nI n)), none, some (.int (nI (36 * s + a))), some (.int (nI k)), none] [] w Q
  | 0, k, w, hk, hG, hx => by
    have e : k = n := by omega
    subst e
    exact t_N_lay_19 (fun _ => t_N_lay_27 (h _ (GN_fgt hG) (hx.pI (o := 10) (k := 5) _ rfl))) (fun g => absurd (Int32.le_refl _) g)
  | m + 1, k, w, hk, hG, hx => by
    have hval : (gL w 41 (nI (36 * s + a) + nI k).toNatClampNeg).toInt32 = nI (v k) := by
      rw [nI_add, nI_clamp (by omega), hx.2 41 _ rfl]; exact (hv k (by omega)).2
    have hle := (hv k (by omega)).1
    have go : ∀ (b : Bool) (z : Int32), z = zb b → b = (decide (0 < v k) && bt6 (roS (layS S c v k)) (c + k)) → WP (d + 1) m_N_lay 25 [some (.ref 10), some (.int (nI c)), none, none, none, some (.int (nI n)), none, some (.int (nI (36 * s + a))), some (.int (nI k)), none] [.int z, .int (nI (v k)), .int (nI (c + k)), .ref 10] w Q := by
      rintro b z rfl hb
      refine t_N_lay_25 (s_N_put (b := b) hG (by omega) (fun wa ga xa => t_N_lay_26 ?_))
      rw [roP_N (by omega) b hb] at ga
      rw [n1]
      exact lp_N_lay2 hs hc ha hv h m (k + 1) wa (by omega) ga (hx.tr xa)
    refine t_N_lay_19 (fun g => absurd g (nI_ge (show k < n by omega) (by omega))) (fun _ => t_N_lay_20 (by rw [nI_add]; exact vp_in_lt (by omega) (by decide)) (fun g => t_N_lay_24 ?_) (fun g => t_N_lay_21 ?_))
    · rw [hval, nI_add]
      rw [hval, nI_le0 (by omega)] at g
      exact go false 0 rfl (by rw [g]; rfl)
    · rw [hval, nI_add]
      rw [hval, nI_le0 (by omega)] at g
      have ero : gL w 10 2 = roS (layS S c v k) := hG.2.2.1
      rw [ero]
      refine s_N_has (by omega) (t_N_lay_22 (fun g2 => t_N_lay_24 (go false 0 rfl ?_)) (fun g2 => t_N_lay_23 (go true 1 rfl ?_)))
      · rw [zb_t.mp g2, Bool.and_false]
      · rw [zb_f.mp g2, decide_eq_true (show 0 < v k by omega)]; rfl
def arD (f : Nat → Int64) : Nat → Nat → Bool
  | 0, _ => true
  | m + 1, k => (decide (0 ≤ f k) && decide (f k ≤ 9)) && arD f m (k + 1)
theorem arD_t {f : Nat → Int64} : ∀ m k, arD f m k = true → ∀ i, k ≤ i → i < k + m → 0 ≤ f i ∧ f i ≤ 9
  | 0, k, _, i, h1, h2 => by omega
  | m + 1, k, h, i, h1, h2 => by
    unfold arD at h
    simp only [Bool.and_eq_true, decide_eq_true_eq] at h
    by_cases e : i = k
    · subst e; exact h.1
    · exact arD_t m (k + 1) h.2 i (by omega) (by omega)
theorem l09 {x : Int64} (h0 : 0 ≤ x) (h9 : x ≤ 9) : x.toInt32.toNatClampNeg ≤ 9 ∧ x.toInt32 = nI x.toInt32.toNatClampNeg := by
  obtain ⟨k, hk, rfl⟩ := pk_lOf (x := x) (by rw [Int64.not_lt]; exact h0)
  have : k ≤ 9 := (pk_lLE (b := 9) hk (by decide)).mp h9
  rw [lN_i, nI_clamp (by omega)]
  exact ⟨this, rfl⟩
theorem nlt64 {x : Int64} : ¬ x < 0 ↔ 0 ≤ x := Int64.not_lt
theorem lp_R_areDepths {d : Nat} {w : zW} {Q : zQ} {s a n : Nat} {f : Nat → Int64} (hs : s < 4) (ha : a + n ≤ 36) (hf : ∀ k, k < n → gL w (19 + s) (a + k) = f k) : ∀ (m k : Nat), k + m = n → Q (some (.int (zb (arD f m k)))) w → WP d m_R_areDepths 1 [some (.ref (5 + s)), some (.int (nI a)), some (.int (nI n)), some (.int (nI k))] [] w Q
  | 0, k, hk, h => by
    have e : k = n := by omega
    subst e
    exact t_R_areDepths_1 (fun _ => t_R_areDepths_6 h) (fun g => absurd (Int32.le_refl _) g)
  | m + 1, k, hk, h => by
    have hv : gL w (zrf (5 + s) 0) (nI a + nI k).toNatClampNeg = f k := by rw [zrf_row hs, nI_add, nI_clamp (by omega)]; exact hf k (by omega)
    have hin : vp_in (nI a + nI k) (zln (zrf (5 + s) 0)) := by rw [nI_add]; exact zrf_in hs (vp_in_lt (by omega) (by decide))
    unfold arD at h
    refine t_R_areDepths_1 (fun g => absurd g (nI_ge (show k < n by omega) (by omega))) (fun _ => t_R_areDepths_2 (zis_row hs) (zrf_ar hs) hin (fun g => t_R_areDepths_4 ?_) (fun g => t_R_areDepths_3 (zis_row hs) (zrf_ar hs) hin (fun g2 => t_R_areDepths_5 ?_) (fun g2 => t_R_areDepths_4 ?_)))
    · rw [hv] at g
      rw [decide_eq_false (fun q => nlt64.mpr q g)] at h
      exact h
    · rw [hv] at g g2
      rw [decide_eq_true (nlt64.mp g), decide_eq_true g2] at h
      rw [n1]
      exact lp_R_areDepths hs ha hf m (k + 1) (by omega) h
    · rw [hv] at g2
      rw [decide_eq_false g2, Bool.and_false] at h
      exact h
theorem lp_N_lay1 {d : Nat} {w : zW} {Q : zQ} {s c a n : Nat} {f : Nat → Int64} (hs : s < 4) (ha : a + n ≤ 36) (hf : ∀ k, k < n → gL w 41 (36 * s + a + k) = f k)
    (hT : arD f n 0 = true → WP (d + 1) m_N_lay 16 [some (.ref 10), some (.int (nI c)), none, none, none, some (.int (nI n)), some (.int 0), some (.int (nI (36 * s + a))), none, none] [] w Q)
    (hF : arD f n 0 = false → WP (d + 1) m_N_lay 16 [some (.ref 10), some (.int (nI c)), none, none, none, some (.int (nI n)), some (.int (-2)), some (.int (nI (36 * s + a))), none, none] [] w Q) : ∀ (m k : Nat), k + m = n → arD f m k = arD f n 0 → WP (d + 1) m_N_lay 9 [some (.ref 10), some (.int (nI c)), none, none, none, some (.int (nI n)), some (.int 0), some (.int (nI (36 * s + a))), some (.int (nI k)), none] [] w Q
  | 0, k, hk, h => by
    have e : k = n := by omega
    subst e
    exact t_N_lay_9 (fun _ => hT h.symm) (fun g => absurd (Int32.le_refl _) g)
  | m + 1, k, hk, h => by
    have hv : gL w 41 (nI (36 * s + a) + nI k).toNatClampNeg = f k := by rw [nI_add, nI_clamp (by omega)]; exact hf k (by omega)
    rw [arD] at h
    refine t_N_lay_9 (fun g => absurd g (nI_ge (show k < n by omega) (by omega))) (fun _ => t_N_lay_10 (fun q => absurd rfl q) (fun _ => t_N_lay_11 (by rw [nI_add]; exact vp_in_lt (by omega) (by decide)) ?_))
    rw [hv]
    refine s_N_in (t_N_lay_12 (fun u => t_N_lay_14 (t_N_lay_15 ?_)) (fun u => t_N_lay_13 (t_N_lay_15 ?_)))
    · rw [zb_t.mp u, Bool.false_and] at h
      exact t_N_lay_9 (fun _ => hF h.symm) (fun _ => t_N_lay_10 (fun _ => hF h.symm) (fun e => absurd e (by decide)))
    · rw [zb_f.mp u, Bool.true_and] at h
      rw [n1]
      exact lp_N_lay1 hs ha hf hT hF m (k + 1) (by omega) h
theorem n_lay_bad {d : Nat} {w : zW} {Q : zQ} {x y l f n : Int32} (hb : isC x = false ∨ (isS y && isS l) = false ∨ inI n 1 (36 - x) = false) (hq : Q (some (.int (-1))) w) : WM (d + 2) m_N_lay 10 [.ref 10, .int x, .int y, .int l, .int f, .int n] w Q := by
  refine n_N_lay (t_N_lay_0 (s_N_isCell (t_N_lay_1 (fun _ => t_N_lay_6 hq) (fun g => t_N_lay_2 (s_N_isSheet (t_N_lay_3 (fun _ => t_N_lay_6 hq) (fun g2 => t_N_lay_4 (s_N_inI (a := 1) (b := 36 - x) rfl (i2l_toInt _) (t_N_lay_5 (fun g3 => ?_) (fun _ => t_N_lay_6 hq))))))))))
  rcases hb with hb | hb | hb
  · rw [zb_f.mp g] at hb; cases hb
  · rw [zb_f.mp g2] at hb; cases hb
  · rw [zb_f.mp g3] at hb; cases hb
theorem n_lay_in {d : Nat} {w : zW} {Q : zQ} {x y l f n : Int32} (ha : isC x = true) (hb : (isS y && isS l) = true) (hc : inI n 1 (36 - x) = true) (hq : WP (d + 2) m_N_lay 7 [some (.ref 10), some (.int x), some (.int y), some (.int l), some (.int f), some (.int n), none, none, none, none] [] w Q) : WM (d + 2) m_N_lay 10 [.ref 10, .int x, .int y, .int l, .int f, .int n] w Q := by
  refine n_N_lay (t_N_lay_0 (s_N_isCell (t_N_lay_1 (fun g => absurd g (by rw [ha]; decide)) (fun g => t_N_lay_2 (s_N_isSheet (t_N_lay_3 (fun g => absurd g (by rw [hb]; decide)) (fun g2 => t_N_lay_4 (s_N_inI (a := 1) (b := 36 - x) rfl (i2l_toInt _) (t_N_lay_5 (fun g3 => hq) (fun g => absurd g (by rw [hc]; decide)))))))))))
theorem op_lay {d : Nat} {w : zW} {x y l f n : Int32} (h : RW w) : OPP (d + 2) m_C_lay 9 m_N_lay 10 [.ref 0, .int x, .int y, .int l, .int f, .int n] [.ref 10, .int x, .int y, .int l, .int f, .int n] w := by
  have hR := h
  obtain ⟨S, K, T, H, h1, h2, h3, h4, h5, h6⟩ := h
  have bad : (isC x = false ∨ (isS y && isS l) = false ∨ inI n 1 (36 - x) = false) → WM (d + 2) m_N_lay 10 [.ref 10, .int x, .int y, .int l, .int f, .int n] w (fun ra wa => some (.int (-1)) = ra ∧ RW wa ∧ SCR w wa) := fun hb => n_lay_bad hb ⟨rfl, hR, SCR.rf⟩
  refine n_C_lay (t_C_lay_0 (s_C_isCell (t_C_lay_1 (fun g => t_C_lay_4 (bad (Or.inl (zb_t.mp g)))) (fun g => t_C_lay_2 (fun g2 => t_C_lay_4 (bad (Or.inr (Or.inr (inI_f.mpr (Or.inl g2)))))) (fun g2 => t_C_lay_3 (fun g3 => t_C_lay_5 ?_) (fun g3 => t_C_lay_4 (bad (Or.inr (Or.inr (inI_f.mpr (Or.inr g3)))))))))))
  have hx := zb_f.mp g
  have hin := inI_t g2 g3
  cases hb : (isS y && isS l) with
  | false => exact s_C_refusalB hb (t_C_lay_6 (fun q => absurd q (by decide)) (fun _ => t_C_lay_7 (bad (Or.inr (Or.inl hb)))))
  | true =>
    have hb2 := hb
    rw [Bool.and_eq_true] at hb2
    obtain ⟨hy, hl⟩ := hb2
    obtain ⟨s, hs, rfl⟩ := isS_of hy
    obtain ⟨c, hc, rfl⟩ := isC_of hx
    have e36c : (36 : Int32) - nI c = nI (36 - c) := pk_sub (a := 36) (by omega)
    have hnn : ¬ n < 0 := by
      rw [Int32.lt_iff_toInt_lt] at g2 ⊢
      have e0 : (0 : Int32).toInt = 0 := by decide
      have e1 : (1 : Int32).toInt = 1 := by decide
      omega
    obtain ⟨nk, hnk, rfl⟩ := nI_of hnn
    rw [e36c] at g3
    have hnk2 : nk ≤ 36 - c := (nI_leI hnk (by omega)).mp g3
    have hin4 : vp_in (nI s) 4 := vp_in_lt hs (by decide)
    have nle : nI nk ≤ 36 := nI_le (b := 36) (by omega) (by decide)
    refine s_C_refusal rfl hs hl (h6 s hs).1 (t_C_lay_6 (fun q0 => ?_) (fun q0 => t_C_lay_7 ?_))
    · obtain ⟨q, eh, el, esp⟩ := refA_0 q0
      have hh := (h6 s hs).1
      rw [eh] at hh
      have hq36 : q.2 ≤ 36 := hh.2.2.2.2.2.2
      obtain ⟨a, b, rfl, eb, hab⟩ := spn_of hq36 esp
      have hbn : b = nk := ((nI_eqk (n := nk) (k := b) hnk (by omega)).mp eb).symm
      subst hbn
      have hfN : ∀ k, k < b → gL w 41 (36 * s + a + k) = gL w (19 + s) (a + k) := fun k hk => by
        rw [Nat.add_assoc]; exact ((h6 s hs).2 (a + k) (by omega)).symm
      refine t_C_lay_8 hin4 (zre_is hs) ?_
      rw [zre_row hs]
      refine n_R_areDepths (t_R_areDepths_0 (lp_R_areDepths (f := fun k => gL w (19 + s) (a + k)) hs (by omega) (fun _ _ => rfl) b 0 (by omega) (t_C_lay_9 (fun u => t_C_lay_11 ?_) (fun u => t_C_lay_10 ?_))))
      · have ht := arD_t b 0 (zb_f.mp u)
        have hv9 : ∀ k, k < b → (gL w (19 + s) (a + k)).toInt32.toNatClampNeg ≤ 9 ∧ (gL w (19 + s) (a + k)).toInt32 = nI (gL w (19 + s) (a + k)).toInt32.toNatClampNeg := fun k hk => l09 (ht k (by omega) (by omega)).1 (ht k (by omega) (by omega)).2
        refine lp_C_lay (S := S) (v := fun k => (gL w (19 + s) (a + k)).toInt32.toNatClampNeg) hs (by omega) (by omega) hv9 (fun wa ga xa => ?_) b 0 w (by omega) h2 EQX.rf
        have hm41 : ∀ k, gL wa 41 k = gL w 41 k := fun k => xa.2 41 k rfl
        have hHa : SH1 wa s (H s) := xa.cA.ksh.sht h6 s hs |>.1
        refine n_lay_in hx hb hin (t_N_lay_7 (s_N_lacksRow rfl hs hl hnn nle hHa (t_N_lay_8 ?_)))
        rw [q0, show (36 : Int32) * nI s + nI a = nI (36 * s + a) by rw [show (36 : Int32) = nI 36 from rfl, pk_mul, nI_add]]
        refine lp_N_lay1 (f := fun k => gL w (19 + s) (a + k)) hs (by omega) (fun k hk => by rw [hm41]; exact hfN k hk) (fun _ => t_N_lay_16 (fun _ => t_N_lay_18 ?_) (fun q => absurd (by decide) q)) (fun q => ?_) b 0 (by omega) rfl
        · refine lp_N_lay2 (S := S) (v := fun k => (gL w (19 + s) (a + k)).toInt32.toNatClampNeg) hs (by omega) (by omega) (fun k hk => by rw [hm41, hfN k hk]; exact hv9 k hk) (fun wb gb xb => ⟨rfl, ?_, xa.cA.scr.tr xb.nA.scr⟩) b 0 wa (by omega) (xa.gnC h3) EQX.rf
          have hxx := xa.cA.tr xb.nA
          exact ⟨_, K, T, H, okS_fgt (layS_ok h1 (n := b) (by omega) (fun k hk => (hv9 k hk).1) b (by omega)), xb.gcN ga, gb, hxx.kim.img h4, hxx.ktp.tap h5, hxx.ksh.sht h6⟩
        · rw [zb_f.mp u] at q; cases q
      · refine n_lay_in hx hb hin (t_N_lay_7 (s_N_lacksRow rfl hs hl hnn nle (h6 s hs).1 (t_N_lay_8 ?_)))
        rw [q0, show (36 : Int32) * nI s + nI a = nI (36 * s + a) by rw [show (36 : Int32) = nI 36 from rfl, pk_mul, nI_add]]
        refine lp_N_lay1 (f := fun k => gL w (19 + s) (a + k)) hs (by omega) hfN (fun q => ?_) (fun _ => t_N_lay_16 (fun q => absurd q (by decide)) (fun _ => t_N_lay_17 ⟨rfl, hR, SCR.rf⟩)) b 0 (by omega) rfl
        rw [zb_t.mp u] at q; cases q
    · refine n_lay_in hx hb hin (t_N_lay_7 (s_N_lacksRow rfl hs hl hnn nle (h6 s hs).1 (t_N_lay_8 ?_)))
      have fin : WP (d + 2) m_N_lay 16 [some (.ref 10), some (.int (nI c)), none, none, none, some (.int (nI nk)), some (.int (refA (H s) l f (nI nk))), some (.int (36 * nI s + f)), none, none] [] w (fun ra wa => some (.int (refA (H s) l f (nI nk))) = ra ∧ RW wa ∧ SCR w wa) := t_N_lay_16 (fun q => absurd (refA_nn.mp q) q0) (fun _ => t_N_lay_17 ⟨rfl, hR, SCR.rf⟩)
      exact t_N_lay_9 (fun _ => fin) (fun _ => t_N_lay_10 (fun _ => fin) (fun e => absurd e q0))
