/-! ===== copy ===== -/
theorem i64_sub {a b : Nat} (ha : a < 2 ^ 31) (hb : b < 2 ^ 31) : ((nI a).toInt64 - (nI b).toInt64).toInt = (a : Int) - b := by
  rw [Int64.toInt_sub, i2l_toInt, i2l_toInt, nI_toInt ha, nI_toInt hb]
  exact Int.bmod_eq_of_le (by omega) (by omega)
theorem spn_in2 {f n : Int32} {len : Nat} (hl : len ≤ 36) (hn : ¬ n < 0) : (decide ((0 : Int64) ≤ f.toInt64) && decide (f.toInt64 ≤ (nI len).toInt64 - n.toInt64)) = spn f n (nI len) := by
  obtain ⟨k, hk, rfl⟩ := nI_of hn
  have e0 : (0 : Int32).toInt = 0 := by decide
  have e1 : decide ((0 : Int64) ≤ f.toInt64) = decide (¬ f < 0) := by
    rw [decide_eq_decide, Int64.le_iff_toInt_le, Int32.lt_iff_toInt_lt, i2l_toInt]
    have e2 : (0 : Int64).toInt = 0 := by decide
    omega
  have e4 : decide (¬ nI k < 0) = true := decide_eq_true hn
  rw [e1]
  unfold spn
  rw [e4, Bool.and_true]
  by_cases h : len < k
  · by_cases hf : f < 0
    · rw [decide_eq_false (show ¬ ¬ f < 0 from fun q => q hf)]; rfl
    · have : ¬ f.toInt64 ≤ (nI len).toInt64 - (nI k).toInt64 := by
        rw [Int64.le_iff_toInt_le, i64_sub (by omega) hk, i2l_toInt]
        rw [Int32.lt_iff_toInt_lt] at hf
        omega
      rw [decide_eq_false this, Bool.and_false, decide_eq_false (show ¬ ¬ nI len < nI k from fun q => q (nI_lt h hk)), Bool.and_false, Bool.false_and]
  · rw [decide_eq_true (nI_nlt (a := len) (b := k) (by omega) (by omega)), Bool.and_true, pk_sub (by omega)]
    have : decide (f.toInt64 ≤ (nI len).toInt64 - (nI k).toInt64) = decide (¬ nI (len - k) < f) := by
      rw [decide_eq_decide, Int64.le_iff_toInt_le, i64_sub (by omega) hk, i2l_toInt, Int32.lt_iff_toInt_lt, nI_toInt (by omega)]
      omega
    rw [this]
theorem e36 (s i k : Nat) : (36 : Int32) * nI s + nI i + nI k = nI (36 * s + i + k) := by rw [show (36 : Int32) = nI 36 from rfl, pk_mul, nI_add, nI_add]
theorem lp_N_copy1 {d : Nat} {w0 : zW} {Q : zQ} {s i n t j : Nat} (hs : s < 4) (hi : i + n ≤ 36) (h : ∀ w', (∀ o k, gI w' o k = gI w0 o k) → (∀ o k, gL w' o k = if o = 42 ∧ k < n then gL w0 41 (36 * s + i + k) else gL w0 o k) → WP d m_N_copy 19 [some (.ref 10), none, none, some (.int (nI t)), some (.int (nI j)), some (.int (nI n)), none] [] w' Q) : ∀ (m k : Nat) (w : zW), k + m = n → (∀ o k, gI w o k = gI w0 o k) → (∀ o p, gL w o p = if o = 42 ∧ p < k then gL w0 41 (36 * s + i + p) else gL w0 o p) → WP d m_N_copy 17 [some (.ref 10), some (.int (nI s)), some (.int (nI i)), some (.int (nI t)), some (.int (nI j)), some (.int (nI n)), some (.int (nI k))] [] w Q
  | 0, k, w, hk, hI, hL => by
    have e : k = n := by omega
    subst e
    exact t_N_copy_17 (fun _ => h w hI hL) (fun g => absurd (Int32.le_refl _) g)
  | m + 1, k, w, hk, hI, hL => by
    refine t_N_copy_17 (fun g => absurd g (nI_ge (show k < n by omega) (by omega))) (fun _ => t_N_copy_18 (by rw [e36]; exact vp_in_lt (by omega) (by decide)) (vp_in_lt (by omega) (by decide)) ?_)
    rw [e36, n1, nI_clamp (by omega), nI_clamp (by omega)]
    refine lp_N_copy1 hs hi h m (k + 1) _ (by omega) hI (fun o p => ?_)
    rw [gL_sL, hL o p]
    by_cases e : o = 42
    · subst e
      by_cases e2 : p = k
      · subst e2
        rw [if_pos ⟨rfl, rfl⟩, if_pos ⟨rfl, by omega⟩, hL 41, if_neg (by omega)]
      · rw [if_neg (fun q => e2 q.2)]
        by_cases e3 : p < k
        · rw [if_pos ⟨rfl, e3⟩, if_pos ⟨rfl, by omega⟩]
        · rw [if_neg (fun q => e3 q.2), if_neg (fun q => e3 (by omega))]
    · rw [if_neg (fun q => e q.1), if_neg (fun q => e q.1), if_neg (fun q => e q.1)]
theorem lp_N_copy2 {d : Nat} {w0 : zW} {Q : zQ} {n t j : Nat} (ht : t < 4) (hj : j + n ≤ 36) (h : ∀ w', (∀ o k, gI w' o k = gI w0 o k) → (∀ o k, gL w' o k = if o = 41 ∧ 36 * t + j ≤ k ∧ k < 36 * t + j + n then gL w0 42 (k - (36 * t + j)) else gL w0 o k) → Q (some (.int (nI n))) w') : ∀ (m k : Nat) (w : zW), k + m = n → (∀ o k, gI w o k = gI w0 o k) → (∀ o p, gL w o p = if o = 41 ∧ 36 * t + j ≤ p ∧ p < 36 * t + j + k then gL w0 42 (p - (36 * t + j)) else gL w0 o p) → WP d m_N_copy 20 [some (.ref 10), none, none, some (.int (nI t)), some (.int (nI j)), some (.int (nI n)), some (.int (nI k))] [] w Q
  | 0, k, w, hk, hI, hL => by
    have e : k = n := by omega
    subst e
    exact t_N_copy_20 (fun _ => t_N_copy_22 (h w hI hL)) (fun g => absurd (Int32.le_refl _) g)
  | m + 1, k, w, hk, hI, hL => by
    refine t_N_copy_20 (fun g => absurd g (nI_ge (show k < n by omega) (by omega))) (fun _ => t_N_copy_21 (vp_in_lt (by omega) (by decide)) (by rw [e36]; exact vp_in_lt (by omega) (by decide)) ?_)
    rw [e36, n1, nI_clamp (by omega), nI_clamp (by omega)]
    refine lp_N_copy2 ht hj h m (k + 1) _ (by omega) hI (fun o p => ?_)
    rw [gL_sL, hL o p]
    by_cases e : o = 41
    · subst e
      by_cases e2 : p = 36 * t + j + k
      · rw [if_pos ⟨rfl, e2⟩, if_pos ⟨rfl, by omega, by omega⟩, hL 42, if_neg (by omega), show p - (36 * t + j) = k by omega]
      · rw [if_neg (fun q => e2 q.2)]
        by_cases e3 : 36 * t + j ≤ p ∧ p < 36 * t + j + k
        · rw [if_pos ⟨rfl, e3⟩, if_pos ⟨rfl, by omega, by omega⟩]
        · rw [if_neg (fun q => e3 q.2), if_neg (fun q => e3 ⟨q.2.1, by omega⟩)]
    · rw [if_neg (fun q => e q.1), if_neg (fun q => e q.1), if_neg (fun q => e q.1)]
theorem n_copy_bad {d : Nat} {w : zW} {Q : zQ} {x i y j n : Int32} (hb : (isS x && isS y) = false) (hq : Q (some (.int (-1))) w) : WM (d + 1) m_N_copy 7 [.ref 10, .int x, .int i, .int y, .int j, .int n] w Q := by
  refine n_N_copy (t_N_copy_0 (s_N_inI (a := 0) (b := 3) rfl rfl (t_N_copy_1 (fun g => t_N_copy_4 hq) (fun g => t_N_copy_2 (s_N_inI (a := 0) (b := 3) rfl rfl (t_N_copy_3 (fun g2 => ?_) (fun g2 => t_N_copy_4 hq)))))))
  have a1 : isS x = true := zb_f.mp g
  have a2 : isS y = true := zb_f.mp g2
  rw [a1, a2] at hb
  cases hb
theorem n_copy_in {d : Nat} {w : zW} {Q : zQ} {x i y j n : Int32} (hx : isS x = true) (hy : isS y = true) (hq : WP (d + 1) m_N_copy 5 [some (.ref 10), some (.int x), some (.int i), some (.int y), some (.int j), some (.int n), none] [] w Q) : WM (d + 1) m_N_copy 7 [.ref 10, .int x, .int i, .int y, .int j, .int n] w Q := by
  refine n_N_copy (t_N_copy_0 (s_N_inI (a := 0) (b := 3) rfl rfl (t_N_copy_1 (fun g => ?_) (fun g => t_N_copy_2 (s_N_inI (a := 0) (b := 3) rfl rfl (t_N_copy_3 (fun g2 => hq) (fun g2 => ?_)))))))
  · have : isS x = false := zb_t.mp g
    rw [hx] at this; cases this
  · have : isS y = false := zb_t.mp g2
    rw [hy] at this; cases this
theorem op_copy {d : Nat} {w : zW} {x i y j n : Int32} (h : RW w) : OPP (d + 1) m_C_copy 8 m_N_copy 7 [.ref 0, .int x, .int i, .int y, .int j, .int n] [.ref 10, .int x, .int i, .int y, .int j, .int n] w := by
  have hR := h
  obtain ⟨S, K, T, H, h1, h2, h3, h4, h5, h6⟩ := h
  refine n_C_copy (t_C_copy_0 (s_C_isSheet (t_C_copy_1 (fun g => t_C_copy_4 (n_copy_bad (by rw [zb_t.mp g]; rfl) ⟨rfl, hR, SCR.rf⟩)) (fun g => t_C_copy_2 (s_C_isSheet (t_C_copy_3 (fun g2 => ?_) (fun g2 => t_C_copy_4 (n_copy_bad (by rw [zb_t.mp g2, Bool.and_false]) ⟨rfl, hR, SCR.rf⟩))))))))
  have hx := zb_f.mp g
  have hy := zb_f.mp g2
  obtain ⟨s, hs, rfl⟩ := isS_of hx
  obtain ⟨t, ht, rfl⟩ := isS_of hy
  have hcs : (nI s).toNatClampNeg = s := nI_clamp (by omega)
  have hct : (nI t).toNatClampNeg = t := nI_clamp (by omega)
  have ins : vp_in (nI s) 4 := vp_in_lt hs (by decide)
  have int' : vp_in (nI t) 4 := vp_in_lt ht (by decide)
  have as' := (h6 s hs).1
  have at' := (h6 t ht).1
  have nulA : gI w 39 s < 0 → WM (d + 1) m_N_copy 7 [.ref 10, .int (nI s), .int i, .int (nI t), .int j, .int n] w (fun r2 w2 => some (.int (-11)) = r2 ∧ RW w2 ∧ SCR w w2) := fun q =>
    n_copy_in hx hy (t_N_copy_5 ins (fun _ => t_N_copy_7 ⟨rfl, hR, SCR.rf⟩) (fun q2 => absurd (by rw [hcs]; exact q) q2))
  have nulB : ¬ gI w 39 s < 0 → ¬ 0 ≤ gI w 39 t → WM (d + 1) m_N_copy 7 [.ref 10, .int (nI s), .int i, .int (nI t), .int j, .int n] w (fun r2 w2 => some (.int (-11)) = r2 ∧ RW w2 ∧ SCR w w2) := fun q q' =>
    n_copy_in hx hy (t_N_copy_5 ins (fun q2 => absurd (by rw [hcs] at q2; exact q2) q) (fun _ => t_N_copy_6 int' (fun q2 => absurd (by rw [hct] at q2; exact q2) q') (fun _ => t_N_copy_7 ⟨rfl, hR, SCR.rf⟩)))
  refine t_C_copy_5 ins int' (zre_is hs) (fun q1 => t_C_copy_7 ?_) (fun q1 => ?_)
  · rw [zre_row hs] at q1
    cases e : H s with
    | none => rw [e] at as'; exact nulA (by rw [as'.2]; decide)
    | some q => rw [e] at as'; rw [as'.1] at q1; exact absurd q1 (by decide)
  · rw [zre_row hs] at q1 ⊢
    rw [zre_row ht]
    cases e : H s with
    | none => rw [e] at as'; exact absurd as'.1 q1
    | some p =>
    rw [e] at as'
    obtain ⟨a1, a2, a3, a4, a5, a6, a7⟩ := as'
    have n39 : ¬ gI w 39 s < 0 := by rw [a2]; exact not_neg (by omega)
    refine t_C_copy_6 (zis_row ht) (fun q2 => ?_) (fun q2 => t_C_copy_7 ?_)
    · cases e' : H t with
      | none => rw [e'] at at'; exact absurd at'.1 q2
      | some p' =>
      rw [e'] at at'
      obtain ⟨b1', b2, b3, b4, b5, b6, b7⟩ := at'
      have n39t : 0 ≤ gI w 39 t := by rw [b2]; exact nI_le (a := 0) (Nat.zero_le _) (by omega)
      have inn : ∀ {Q : zQ}, WP (d + 1) m_N_copy 8 [some (.ref 10), some (.int (nI s)), some (.int i), some (.int (nI t)), some (.int j), some (.int n), none] [] w Q → WM (d + 1) m_N_copy 7 [.ref 10, .int (nI s), .int i, .int (nI t), .int j, .int n] w Q := fun q =>
        n_copy_in hx hy (t_N_copy_5 ins (fun q2 => absurd (by rw [hcs] at q2; exact q2) n39) (fun _ => t_N_copy_6 int' (fun _ => q) (fun q2 => absurd (by rw [hct]; exact n39t) q2)))
      refine t_C_copy_8 (zis_row hs) (zis_row ht) (fun q3 => ?_) (fun q3 => t_C_copy_9 (inn (t_N_copy_8 ins int' (fun q4 => absurd (by rw [hcs, hct, a2, b2] at q4; rw [a3, b3]; exact q4) q3) (fun _ => t_N_copy_9 ⟨rfl, hR, SCR.rf⟩))))
      have inn2 : ∀ {Q : zQ}, WP (d + 1) m_N_copy 10 [some (.ref 10), some (.int (nI s)), some (.int i), some (.int (nI t)), some (.int j), some (.int n), none] [] w Q → WM (d + 1) m_N_copy 7 [.ref 10, .int (nI s), .int i, .int (nI t), .int j, .int n] w Q := fun q =>
        inn (t_N_copy_8 ins int' (fun _ => q) (fun q4 => absurd (by rw [hcs, hct, a2, b2]; rw [a3, b3] at q3; exact q3) q4))
      have bad : (spn i n (nI p.2) && spn j n (nI p'.2)) = false → WM (d + 1) m_N_copy 7 [.ref 10, .int (nI s), .int i, .int (nI t), .int j, .int n] w (fun r2 w2 => some (.int (-13)) = r2 ∧ RW w2 ∧ SCR w w2) := fun hb => by
        refine inn2 (t_N_copy_10 (fun _ => t_N_copy_15 ⟨rfl, hR, SCR.rf⟩) (fun hn => t_N_copy_11 ins ?_))
        rw [hcs, a5]
        refine s_N_in (t_N_copy_12 (fun _ => t_N_copy_15 ⟨rfl, hR, SCR.rf⟩) (fun u1 => t_N_copy_13 int' ?_))
        rw [hct, b5]
        refine s_N_in (t_N_copy_14 (fun u2 => ?_) (fun _ => t_N_copy_15 ⟨rfl, hR, SCR.rf⟩))
        rw [spn_in2 a7 hn, zb_f] at u1
        rw [spn_in2 b7 hn, zb_f] at u2
        rw [u1, u2] at hb
        cases hb
      refine t_C_copy_10 (zis_row hs) (s_R_spans hs (t_C_copy_11 (fun v1 => t_C_copy_14 (bad ?_)) (fun v1 => t_C_copy_12 (zis_row ht) (s_R_spans ht (t_C_copy_13 (fun v2 => ?_) (fun v2 => t_C_copy_14 (bad ?_)))))))
      · rw [a4, zb_t] at v1; rw [v1]; rfl
      · rw [a4, zb_f] at v1
        rw [b4, zb_f] at v2
        obtain ⟨ik, nk, rfl, rfl, hi⟩ := spn_of a7 v1
        obtain ⟨jk, nk', rfl, en, hj⟩ := spn_of b7 v2
        have : nk = nk' := (nI_eqk (by omega) (by omega)).mp en
        subst this
        have hnn : ¬ nI nk < 0 := not_neg (by omega)
        refine t_C_copy_15 (zis_row hs) (zis_row ht) (zrf_ar hs) (zrf_ar ht) ⟨not_neg (by omega), not_neg (by omega), hnn, ?_, ?_⟩ (t_C_copy_16 ?_)
        · rw [zrf_row hs, zln_row hs, nI_clamp (by omega), nI_clamp (by omega)]; omega
        · rw [zrf_row ht, zln_row ht, nI_clamp (by omega), nI_clamp (by omega)]; omega
        · rw [zrf_row hs, zrf_row ht, nI_clamp (by omega), nI_clamp (by omega), nI_clamp (by omega)]
          have cI' : ∀ o k, gI (cL w (19 + s) (19 + t) ik jk nk) o k = gI w o k := fun _ _ => rfl
          have n39' : ¬ gI (cL w (19 + s) (19 + t) ik jk nk) 39 s < 0 := n39
          refine n_copy_in hx hy (t_N_copy_5 ins (fun q2 => absurd (by rw [hcs] at q2; exact q2) n39') (fun _ => t_N_copy_6 int' (fun _ => t_N_copy_8 ins int' (fun _ => t_N_copy_10 (fun q4 => absurd q4 hnn) (fun _ => t_N_copy_11 ins ?_)) (fun q4 => absurd ?_ q4)) (fun q2 => absurd (by rw [hct]; exact n39t) q2)))
          · rw [hcs, cI', a5]
            refine s_N_in (t_N_copy_12 (fun u1 => ?_) (fun u1 => t_N_copy_13 int' ?_))
            · rw [spn_in2 a7 hnn, v1] at u1; cases u1
            · rw [hct, cI', b5]
              refine s_N_in (t_N_copy_14 (fun u2 => t_N_copy_16 (lp_N_copy1 hs (n := nk) (by omega) (fun w3 i3 l3 => t_N_copy_19 (lp_N_copy2 ht (by omega) (fun w4 i4 l4 => ⟨rfl, ?_⟩) nk 0 _ (by omega) (fun _ _ => rfl) (fun o p => by rw [if_neg (by omega)]))) nk 0 _ (by omega) (fun _ _ => rfl) (fun o p => by rw [if_neg (by omega)]))) (fun u2 => absurd u2 (by rw [spn_in2 b7 hnn, v2]; decide)))
              · have x1 : EQX mSI mSL w w4 := ⟨fun o k _ => by rw [i4, i3, cI'], fun o k q => by
                  have o1 : ¬ o = 41 := fun e => by rw [e] at q; cases q
                  have o2 : ¬ o = 42 := fun e => by rw [e] at q; cases q
                  have o3 : ¬ o = 19 + t := fun e => by rw [e, mS_it ht] at q; cases q
                  rw [l4, if_neg (fun e => o1 e.1), l3, if_neg (fun e => o2 e.1), gL_cL, if_neg o3]⟩
                refine shG (H := H) x1 h1 h2 h3 h4 h5 (fun r hr => ?_)
                obtain ⟨c1, c2⟩ := h6 r hr
                refine ⟨SH1_keep c1 (fun k => by rw [i4, i3, cI']) (by rw [i4, i3, cI']) (by rw [i4, i3, cI']), fun m hm => ?_⟩
                rw [l4, if_neg (by omega), l3, if_neg (by omega), gL_cL, l4]
                by_cases er : r = t
                · subst er
                  rw [if_pos rfl]
                  by_cases em : jk ≤ m ∧ m < jk + nk
                  · rw [if_pos em, if_pos ⟨rfl, by omega, by omega⟩, l3, if_pos ⟨rfl, by omega⟩, gL_cL, if_neg (by omega), show 36 * s + ik + (36 * r + m - (36 * r + jk)) = 36 * s + (ik + (m - jk)) by omega]
                    exact (h6 s hs).2 (ik + (m - jk)) (by omega)
                  · rw [if_neg em, if_neg (fun q => em ⟨by omega, by omega⟩), l3, if_neg (by omega), gL_cL, if_neg (by omega)]
                    exact c2 m hm
                · rw [if_neg (by omega), if_neg (fun q => er (by omega)), l3, if_neg (by omega), gL_cL, if_neg (by omega)]
                  exact c2 m hm
          · rw [hcs, hct, cI', cI', a2, b2]; rw [a3, b3] at q3; exact q3
      · rw [b4, zb_t] at v2; rw [v2, Bool.and_false]
    · cases e' : H t with
      | none => rw [e'] at at'; exact nulB n39 (by rw [at'.2]; decide)
      | some p' => rw [e'] at at'; rw [at'.1] at q2; exact absurd q2 (by decide)
