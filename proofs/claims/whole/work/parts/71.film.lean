/-! ===== film, miscounted ===== -/
theorem getD_get {l : List Int64} {k : Nat} (h : k < l.length) : l.getD k 0 = l[k] := by rw [List.getD_eq_getElem?_getD, List.getElem?_eq_getElem h]; rfl
def tvF (S : zS) (h : Int64) : Int32 := txF (nI (raS S)) (roS S) (niS S) h
theorem lp_C_film {d : Nat} {w0 : zW} {Q : zQ} {S : zS} {s a : Nat} {q : Nat × Nat} {l : List Int64} (hs : s < 4) (hG : GC w0 1 S) (hH : SH1 w0 s (some q)) (ha : a + l.length ≤ q.2)
    (h : ∀ w', (∀ o k, gI w' o k = gI w0 o k) → (∀ o k, gL w' o k = if o = 19 + s ∧ a ≤ k ∧ k < a + l.length then asL (nI q.1) (tvF S (l.getD (k - a) 0)).toInt64 else gL w0 o k) → Q (some (.int (nI l.length))) w') : ∀ (m k : Nat) (r : Int64) (w : zW), k + m = l.length → comps (36 - k) r = l.drop k → (∀ o k, gI w o k = gI w0 o k) → (∀ o p, gL w o p = if o = 19 + s ∧ a ≤ p ∧ p < a + k then asL (nI q.1) (tvF S (l.getD (p - a) 0)).toInt64 else gL w0 o p) → WP (d + 3) m_C_film 5 [some (.ref 0), some (.int (nI s)), none, some (.int (nI a)), some (.int (nI l.length)), none, some (.long r), none, some (.int (nI k)), none, none] [] w Q
  | 0, k, r, w, hk, hr, hI, hL => by
    have e : k = l.length := by omega
    subst e
    exact t_C_film_5 (fun _ => t_C_film_10 (h w hI hL)) (fun g => absurd (Int32.le_refl _) g)
  | m + 1, k, r, w, hk, hr, hI, hL => by
    have hq36 : q.2 ≤ 36 := hH.2.2.2.2.2.2
    have hkl : k < l.length := by omega
    rw [List.drop_eq_getElem_cons hkl] at hr
    have hr0 : ¬ r = 0 := fun e => by rw [e, comps_0] at hr; cases hr
    rw [show 36 - k = (35 - k) + 1 by omega, comps_s hr0] at hr
    injection hr with hr1 hr2
    have e5 : gI w 1 5 = nI (raS S) := by rw [hI]; exact hG.2.2.2.2.2.1
    have e4 : gL w 1 4 = roS S := by rw [hL, if_neg (by omega)]; exact hG.2.2.2.2.1
    have e3 : gL w 1 3 = niS S := by rw [hL, if_neg (by omega)]; exact hG.2.2.2.1
    have hH1 : SH1 w s (some q) := SH1_keep hH (fun k => hI _ _) (hI _ _) (hI _ _)
    refine t_C_film_5 (fun g => absurd g (nI_ge hkl (by omega))) (fun _ => t_C_film_6 (s_P_firstHole (t_C_film_7 (vp_in_lt hs (by decide)) (s_G_taxOf (t_C_film_8 (zre_is hs) ?_)))))
    rw [zre_row hs, nI_add, hr1, e5, e4, e3]
    refine s_R_put hs hH1 (by omega) (t_C_film_9 ?_)
    rw [n1, ← hr1]
    refine lp_C_film hs hG hH ha h m (k + 1) _ _ (by omega) (by rw [show 36 - (k + 1) = 35 - k by omega]; exact hr2) hI (fun o p => ?_)
    rw [gL_sL, hL o p]
    by_cases e : o = 19 + s
    · by_cases ep : p = a + k
      · rw [if_pos ⟨e, ep⟩, if_pos ⟨e, by omega, by omega⟩, show p - a = k by omega, getD_get hkl, hr1]; rfl
      · rw [if_neg (fun z => ep z.2)]
        by_cases eq : a ≤ p ∧ p < a + k
        · rw [if_pos ⟨e, eq⟩, if_pos ⟨e, by omega, by omega⟩]
        · rw [if_neg (fun z => eq z.2), if_neg (fun z => eq ⟨z.2.1, by omega⟩)]
    · rw [if_neg (fun z => e z.1), if_neg (fun z => e z.1), if_neg (fun z => e z.1)]
theorem lp_N_film {d : Nat} {w0 : zW} {Q : zQ} {S : zS} {s a lk : Nat} {l : List Int64} (hs : s < 4) (ha : a + l.length ≤ 36) (hl : ∀ h ∈ l, SET h) (hn : gI w0 10 10 = nI l.length) (hh : ∀ k x, l[k]? = some x → gL w0 31 k = x) (e3 : gI w0 10 3 = nI (raS S)) (e2 : gL w0 10 2 = roS S) (e8 : gL w0 10 8 = niS S)
    (h : ∀ w', (∀ o k, gI w' o k = gI w0 o k) → (∀ o k, gL w' o k = if o = 41 ∧ 36 * s + a ≤ k ∧ k < 36 * s + a + l.length then asL (nI lk) (tvF S (l.getD (k - (36 * s + a)) 0)).toInt64 else gL w0 o k) → Q (some (.int (nI l.length))) w') : ∀ (m k : Nat) (w : zW), k + m = l.length → (∀ o k, gI w o k = gI w0 o k) → (∀ o p, gL w o p = if o = 41 ∧ 36 * s + a ≤ p ∧ p < 36 * s + a + k then asL (nI lk) (tvF S (l.getD (p - (36 * s + a)) 0)).toInt64 else gL w0 o p) → WP (d + 3) m_N_film 9 [some (.ref 10), some (.int (nI s)), some (.int (nI lk)), some (.int (nI a)), none, some (.int (nI k))] [] w Q
  | 0, k, w, hk, hI, hL => by
    have e : k = l.length := by omega
    subst e
    refine t_N_film_9 (fun _ => t_N_film_13 ?_) (fun g => absurd (by rw [hI, hn]; exact Int32.le_refl _) g)
    rw [hI, hn]
    exact h w hI hL
  | m + 1, k, w, hk, hI, hL => by
    have hkl : k < l.length := by omega
    have e31 : gL w 31 (nI k).toNatClampNeg = l[k] := by rw [nI_clamp (by omega), hL, if_neg (by omega)]; exact hh k _ (List.getElem?_eq_getElem hkl)
    have f3 : gI w 10 3 = nI (raS S) := by rw [hI]; exact e3
    have f2 : gL w 10 2 = roS S := by rw [hL, if_neg (by omega)]; exact e2
    have f8 : gL w 10 8 = niS S := by rw [hL, if_neg (by omega)]; exact e8
    refine t_N_film_9 (fun g => absurd g (by rw [hI, hn]; exact nI_ge hkl (by omega))) (fun _ => t_N_film_10 (vp_in_lt (by omega) (by decide)) ?_)
    rw [e31]
    refine s_N_taxOf (hl _ (List.getElem_mem hkl)) (t_N_film_11 (s_N_asLane (t_N_film_12 (by rw [e36]; exact vp_in_lt (by omega) (by decide)) ?_)))
    rw [f3, f2, f8, e36, n1, nI_clamp (by omega)]
    refine lp_N_film hs ha hl hn hh e3 e2 e8 h m (k + 1) _ (by omega) hI (fun o p => ?_)
    rw [gL_sL, hL o p]
    by_cases e : o = 41
    · by_cases ep : p = 36 * s + a + k
      · rw [if_pos ⟨e, ep⟩, if_pos ⟨e, by omega, by omega⟩, show p - (36 * s + a) = k by omega, getD_get hkl]; rfl
      · rw [if_neg (fun z => ep z.2)]
        by_cases eq : 36 * s + a ≤ p ∧ p < 36 * s + a + k
        · rw [if_pos ⟨e, eq⟩, if_pos ⟨e, by omega, by omega⟩]
        · rw [if_neg (fun z => eq z.2), if_neg (fun z => eq ⟨z.2.1, by omega⟩)]
    · rw [if_neg (fun z => e z.1), if_neg (fun z => e z.1), if_neg (fun z => e z.1)]
theorem hls_36 {S : zS} : (hls (opS S)).length ≤ 36 := Nat.le_trans (comps_len 36 _ (SET_op S)) (cn_set (SET_op S))
theorem op_film {d : Nat} {w : zW} {x l f : Int32} (h : RW w) : OPP (d + 4) m_C_film 11 m_N_film 6 [.ref 0, .int x, .int l, .int f] [.ref 10, .int x, .int l, .int f] w := by
  have hR := h
  obtain ⟨S, K, T, H, h1, h2, h3, h4, h5, h6⟩ := h
  have eo : gL w 1 2 = opS S := h2.2.2.1
  have hlen := hls_36 (S := S)
  have hnn : ¬ nI (hls (opS S)).length < 0 := not_neg (by omega)
  have nle : nI (hls (opS S)).length ≤ 36 := nI_le (b := 36) (by omega) (by decide)
  refine n_C_film (t_C_film_0 ?_)
  rw [eo]
  refine s_P_holesOf (t_C_film_1 ?_)
  cases hb : (isS x && isS l) with
  | false =>
    refine s_C_refusalB hb (t_C_film_2 (fun q => absurd q (by decide)) (fun _ => t_C_film_3 ?_))
    exact n_N_film (t_N_film_0 (s_N_isSheet (t_N_film_1 (fun g => absurd (by rw [hb]; rfl) g) (fun _ => t_N_film_2 ⟨rfl, hR, SCR.rf⟩))))
  | true =>
    have hb2 := hb
    rw [Bool.and_eq_true] at hb2
    obtain ⟨hx, hl⟩ := hb2
    obtain ⟨s, hs, rfl⟩ := isS_of hx
    obtain ⟨lk, hlk, rfl⟩ := isS_of hl
    -- the reference up to its refusal
    have toN : ∀ (wa : zW) (Q : zQ), GN wa S → (∀ wb wc, LKD wa wb S → FH wb wc (hls (opS S)) → EQX mRI mRL wa wc → WP (d + 4) m_N_film 5 [some (.ref 10), some (.int (nI s)), some (.int (nI lk)), some (.int f), none, none] [] wc Q) → WM (d + 4) m_N_film 6 [.ref 10, .int (nI s), .int (nI lk), .int f] wa Q := fun wa Q ga k => by
      refine n_N_film (t_N_film_0 (s_N_isSheet (t_N_film_1 (fun _ => t_N_film_3 (s_N_look ga h1 (fun wb hw => t_N_film_4 (s_N_findHoles (by rw [hw.1]; exact SET_op S) (fun wc hf => ?_))))) (fun g => absurd g (by rw [hb]; decide)))))
      rw [hw.1] at hf
      exact k wb wc hw hf (hw.eqx.tr hf.eqx)
    refine s_C_refusal rfl hs hl (h6 s hs).1 (t_C_film_2 (fun q0 => t_C_film_4 ?_) (fun q0 => t_C_film_3 ?_))
    · obtain ⟨q, eh, el, esp⟩ := refA_0 q0
      have hh := (h6 s hs).1
      rw [eh] at hh
      have hq36 : q.2 ≤ 36 := hh.2.2.2.2.2.2
      have hq4 : q.1 < 4 := hh.2.2.2.2.2.1
      have elk : q.1 = lk := (nI_eqk (by omega) (by omega)).mp el
      obtain ⟨a, b, rfl, eb, hab⟩ := spn_of hq36 esp
      have hbn : b = (hls (opS S)).length := ((nI_eqk (k := b) (by omega) (by omega)).mp eb).symm
      subst hbn
      rw [eo]
      refine lp_C_film (l := hls (opS S)) hs h2 hh hab (fun wa iA lA => ?_) (hls (opS S)).length 0 _ w (by omega) (by rw [List.drop_zero]; rfl) (fun _ _ => rfl) (fun o p => by rw [if_neg (by omega)])
      have xA : EQX mSI mSL w wa := ⟨fun o k _ => iA o k, fun o k z => by rw [lA, if_neg (fun e => by rw [e.1, mS_it hs] at z; cases z)]⟩
      have gA : GN wa S := GN_keep h3 ⟨iA 10 3, iA 10 5, iA 10 6⟩ (fun k => iA 28 k) (fun k => iA 29 k) (fun k => iA 30 k) (xA.2 10 2 rfl)
      refine toN wa _ gA (fun wb wc hw hf xc => t_N_film_5 ?_)
      have hIc : SH1 wc s (H s) := by
        refine SH1_keep (h6 s hs).1 (fun k => ?_) ?_ ?_
        · rw [xc.1 (5 + s) k (lt4 (P := fun s => mRI (5 + s) k = false) rfl rfl rfl rfl s hs)]; exact iA _ _
        · rw [xc.1 39 s rfl]; exact iA _ _
        · rw [xc.1 40 s rfl]; exact iA _ _
      have gC : GN wc S := xc.gnR gA
      rw [hf.1]
      refine s_N_lacksRow rfl hs hl hnn nle hIc (t_N_film_6 (fun _ => t_N_film_8 ?_) (fun z => absurd (refA_nn.mpr q0) z))
      refine lp_N_film (S := S) (l := hls (opS S)) hs (by omega) (fun z hz => comps_SET 36 _ (SET_op S) z hz) hf.1 hf.2.2.1 gC.2.2.2.1 gC.2.2.1 (by rw [hf.2.2.2.2 10 8 (by decide)]; exact hw.2.1) (fun wd iD lD => ⟨rfl, ?_⟩) (hls (opS S)).length 0 wc (by omega) (fun _ _ => rfl) (fun o p => by rw [if_neg (by omega)])
      have xD : EQX mSI mSL wc wd := ⟨fun o k _ => iD o k, fun o k z => by rw [lD, if_neg (fun e => by rw [e.1] at z; cases z)]⟩
      refine shG (H := H) ((xA.tr xc.rS).tr xD) h1 h2 h3 h4 h5 (fun t ht => ?_)
      obtain ⟨cA, cB⟩ := h6 t ht
      have m5 : ∀ k, mRI (5 + t) k = false := fun k => lt4 (P := fun s => mRI (5 + s) k = false) rfl rfl rfl rfl t ht
      have m19 : ∀ k, mRL (19 + t) k = false := fun k => lt4 (P := fun s => mRL (19 + s) k = false) rfl rfl rfl rfl t ht
      refine ⟨SH1_keep cA (fun k => by rw [iD, xc.1 _ _ (m5 k), iA]) (by rw [iD, xc.1 39 _ rfl, iA]) (by rw [iD, xc.1 40 _ rfl, iA]), fun j hj => ?_⟩
      rw [lD, if_neg (by omega), xc.2 _ _ (m19 j), lA, lD, xc.2 41 _ rfl, lA, elk]
      by_cases e : t = s ∧ a ≤ j ∧ j < a + (hls (opS S)).length
      · rw [if_pos ⟨by omega, e.2⟩, if_pos ⟨rfl, by omega, by omega⟩, show 36 * t + j - (36 * s + a) = j - a by omega]
      · rw [if_neg (fun z => e ⟨by omega, z.2⟩), if_neg (fun z => e ⟨by omega, by omega, by omega⟩), if_neg (by omega)]
        exact cB j hj
    · refine toN w _ h3 (fun wb wc hw hf xc => t_N_film_5 ?_)
      rw [hf.1]
      have hIc : SH1 wc s (H s) := SH1_keep (h6 s hs).1 (fun k => xc.1 (5 + s) k (lt4 (P := fun s => mRI (5 + s) k = false) rfl rfl rfl rfl s hs)) (xc.1 39 s rfl) (xc.1 40 s rfl)
      refine s_N_lacksRow rfl hs hl hnn nle hIc (t_N_film_6 (fun z => absurd (refA_nn.mp z) q0) (fun _ => t_N_film_7 ⟨rfl, ?_⟩))
      exact shG (H := H) xc.rS h1 h2 h3 h4 h5 (xc.rN.nA.ksh.sht h6)
/-! miscounted -/
def rgt (S : zS) (c t : Int64) : Bool := decide (¬ c < 0) && decide (c < 36) && bt6 (opS S) c.toInt32.toNatClampNeg && decide ((nI (cn (hoS S c.toInt32.toNatClampNeg))).toInt64 = t)
theorem l36 {x : Int64} (h0 : ¬ x < 0) (h9 : x < 36) : x.toInt32.toNatClampNeg < 36 ∧ x.toInt32 = nI x.toInt32.toNatClampNeg := by
  obtain ⟨k, hk, rfl⟩ := pk_lOf h0
  have : k < 36 := (pk_lLT (b := 36) hk (by decide)).mp h9
  rw [lN_i, nI_clamp (by omega)]
  exact ⟨this, rfl⟩
theorem s_C_isRight {d : Nat} {w : zW} {Q : zQ} {S : zS} {c t : Int64} (hG : GC w 1 S) (h : Q (some (.int (zb (rgt S c t)))) w) : WM (d + 3) m_C_isRight 7 [.ref 0, .long c, .long t] w Q := by
  have eo : gL w 1 2 = opS S := hG.2.2.1
  unfold rgt at h
  refine n_C_isRight (t_C_isRight_0 (fun g => t_C_isRight_2 ?_) (fun g => t_C_isRight_1 (fun g2 => t_C_isRight_3 ?_) (fun g2 => t_C_isRight_2 ?_)))
  · rw [decide_eq_false (fun q => q g)] at h; exact h
  · obtain ⟨hj, ej⟩ := l36 g g2
    rw [decide_eq_true g, decide_eq_true g2] at h
    generalize c.toInt32.toNatClampNeg = j at *
    rw [ej]
    refine s_G_holeAt (t_C_isRight_4 (fun z => t_C_isRight_8 (t_C_isRight_9 (Or.inl rfl) ?_)) (fun z => t_C_isRight_5 (s_J_bitCount (t_C_isRight_6 (fun y => t_C_isRight_8 (t_C_isRight_9 (Or.inl rfl) ?_)) (fun y => t_C_isRight_7 (t_C_isRight_9 (Or.inr rfl) ?_))))))
    · rw [eo, ho_0 hj] at z
      rw [z] at h; exact h
    · rw [eo] at y
      rw [decide_eq_false y, Bool.and_false] at h; exact h
    · rw [eo] at y z
      rw [ho_0 hj, Bool.not_eq_false] at z
      rw [decide_eq_true y, z] at h; exact h
  · rw [decide_eq_false g2, Bool.and_false] at h; exact h
def misF (S : zS) (f : Nat → Int64) (a : Nat) : Nat → Nat → Int32
  | 0, _ => -4
  | m + 1, k => if rgt S (f (a + 2 * k)) (f (a + 2 * k + 1)) = true then misF S f a m (k + 1) else nI k
theorem m2 (k : Nat) : (2 : Int32) * nI k = nI (2 * k) := pk_mul 2 k
theorem lp_C_mis {d : Nat} {w : zW} {Q : zQ} {S : zS} {s a n : Nat} {f : Nat → Int64} (hs : s < 4) (hG : GC w 1 S) (ha : a + 2 * n ≤ 36) (hf : ∀ k, k < 36 → gL w (19 + s) k = f k) : ∀ (m k : Nat), k + m = n → Q (some (.int (misF S f a m k))) w → WP (d + 4) m_C_miscounted 7 [some (.ref 0), none, none, some (.int (nI a)), some (.int (nI n)), none, some (.ref (19 + s)), some (.int (nI k)), none] [] w Q
  | 0, k, hk, h => by
    have e : k = n := by omega
    subst e
    exact t_C_miscounted_7 (fun _ => t_C_miscounted_12 h) (fun g => absurd (Int32.le_refl _) g)
  | m + 1, k, hk, h => by
    rw [misF] at h
    refine t_C_miscounted_7 (fun g => absurd g (nI_ge (show k < n by omega) (by omega))) (fun _ => t_C_miscounted_8 (zar_row hs) ?_ (zar_row hs) ?_ ?_)
    · rw [m2, nI_add, zln_row hs]; exact vp_in_lt (by omega) (by decide)
    · rw [m2, nI_add, n1, zln_row hs]; exact vp_in_lt (by omega) (by decide)
    · rw [m2, nI_add, n1, nI_clamp (by omega), nI_clamp (by omega), hf _ (by omega), hf _ (by omega)]
      refine s_C_isRight hG (t_C_miscounted_9 (fun g => t_C_miscounted_11 ?_) (fun g => t_C_miscounted_10 ?_))
      · rw [if_pos (zb_f.mp g)] at h
        rw [n1]
        exact lp_C_mis hs hG ha hf m (k + 1) (by omega) h
      · rw [if_neg (by rw [zb_t.mp g]; decide)] at h
        exact h
theorem rgt_in {c : Int64} : (decide ((0 : Int64) ≤ c) && decide (c ≤ 35)) = (decide (¬ c < 0) && decide (c < 36)) := by
  have e1 : decide ((0 : Int64) ≤ c) = decide (¬ c < 0) := by rw [decide_eq_decide, Int64.not_lt]
  have e2 : decide (c ≤ 35) = decide (c < 36) := by
    rw [decide_eq_decide, Int64.le_iff_toInt_le, Int64.lt_iff_toInt_lt]
    have a1 : (35 : Int64).toInt = 35 := by decide
    have a2 : (36 : Int64).toInt = 36 := by decide
    omega
  rw [e1, e2]
theorem lp_N_mis {d : Nat} {w : zW} {Q : zQ} {S : zS} {s a n : Nat} {f : Nat → Int64} (hs : s < 4) (e7 : gL w 10 7 = opS S) (ha : a + 2 * n ≤ 36) (hf : ∀ k, k < 36 → gL w 41 (36 * s + k) = f k) : ∀ (m k : Nat), k + m = n → Q (some (.int (misF S f a m k))) w → WP (d + 3) m_N_miscounted 10 [some (.ref 10), some (.int (nI s)), none, some (.int (nI a)), some (.int (nI n)), none, some (.int (nI k)), none, none, none, none, none] [] w Q
  | 0, k, hk, h => by
    have e : k = n := by omega
    subst e
    exact t_N_miscounted_10 (fun _ => t_N_miscounted_23 h) (fun g => absurd (Int32.le_refl _) g)
  | m + 1, k, hk, h => by
    rw [misF] at h
    have no : rgt S (f (a + 2 * k)) (f (a + 2 * k + 1)) = false → WP (d + 3) m_N_miscounted 19 [some (.ref 10), some (.int (nI s)), none, some (.int (nI a)), some (.int (nI n)), none, some (.int (nI k)), none, none, none, none, none] [] w Q := fun g => by
      rw [if_neg (by rw [g]; decide)] at h
      exact t_N_miscounted_19 (t_N_miscounted_20 (fun z => absurd rfl z) (fun _ => t_N_miscounted_21 h))
    have ei : (36 : Int32) * nI s + nI a + 2 * nI k = nI (36 * s + (a + 2 * k)) := by rw [m2, e36, Nat.add_assoc]
    refine t_N_miscounted_10 (fun g => absurd g (nI_ge (show k < n by omega) (by omega))) (fun _ => t_N_miscounted_11 ?_ ?_ ?_)
    · rw [ei]; exact vp_in_lt (by omega) (by decide)
    · rw [ei, n1]; exact vp_in_lt (by omega) (by decide)
    · rw [ei, n1, nI_clamp (by omega), nI_clamp (by omega), hf _ (by omega), show 36 * s + (a + 2 * k) + 1 = 36 * s + (a + 2 * k + 1) by omega, hf _ (by omega)]
      generalize f (a + 2 * k) = c at *
      generalize f (a + 2 * k + 1) = t at *
      refine s_N_in (t_N_miscounted_12 (fun g => no ?_) (fun g => t_N_miscounted_13 ?_))
      · rw [rgt_in] at g
        unfold rgt
        rw [zb_t.mp g]; rfl
      · rw [rgt_in] at g
        have g := zb_f.mp g
        have gg := g
        rw [Bool.and_eq_true, decide_eq_true_eq, decide_eq_true_eq] at gg
        obtain ⟨hj, ej⟩ := l36 gg.1 gg.2
        have er : rgt S c t = (bt6 (opS S) c.toInt32.toNatClampNeg && decide ((nI (cn (hoS S c.toInt32.toNatClampNeg))).toInt64 = t)) := by
          unfold rgt; rw [g, Bool.true_and]
        rw [er] at no h
        generalize c.toInt32.toNatClampNeg = j at *
        rw [ej, e7]
        refine s_N_has (by omega) (t_N_miscounted_14 (fun y => no (by rw [zb_t.mp y]; rfl)) (fun y => t_N_miscounted_15 ?_))
        rw [ej]
        refine s_N_holeAt (by rw [e7]; exact SET_op S) (t_N_miscounted_16 (s_N_ones (t_N_miscounted_17 (fun z => no ?_) (fun z => t_N_miscounted_18 (t_N_miscounted_20 (fun _ => t_N_miscounted_22 ?_) (fun q => absurd q (by decide)))))))
        · rw [e7] at z
          rw [decide_eq_false z, Bool.and_false]
        · rw [e7] at z
          rw [if_pos (by rw [decide_eq_true z, zb_f.mp y]; rfl)] at h
          rw [n1]
          exact lp_N_mis hs e7 ha hf m (k + 1) (by omega) h
theorem op_miscounted {d : Nat} {w : zW} {x l f n : Int32} (h : RW w) : OPP (d + 4) m_C_miscounted 9 m_N_miscounted 12 [.ref 0, .int x, .int l, .int f, .int n] [.ref 10, .int x, .int l, .int f, .int n] w := by
  have hR := h
  obtain ⟨S, K, T, H, h1, h2, h3, h4, h5, h6⟩ := h
  have bad : ((isS x && isS l) = false ∨ inI n 1 12 = false) → WM (d + 4) m_N_miscounted 12 [.ref 10, .int x, .int l, .int f, .int n] w (fun ra wa => some (.int (-1)) = ra ∧ RW wa ∧ SCR w wa) := fun hb => by
    refine n_N_miscounted (t_N_miscounted_0 (s_N_isSheet (t_N_miscounted_1 (fun _ => t_N_miscounted_4 ⟨rfl, hR, SCR.rf⟩) (fun g => t_N_miscounted_2 (s_N_inI (a := 1) (b := 12) rfl rfl (t_N_miscounted_3 (fun g2 => ?_) (fun _ => t_N_miscounted_4 ⟨rfl, hR, SCR.rf⟩)))))))
    rcases hb with hb | hb
    · rw [zb_f.mp g] at hb; cases hb
    · rw [zb_f.mp g2] at hb; cases hb
  refine n_C_miscounted (t_C_miscounted_0 (fun g => t_C_miscounted_2 (bad (Or.inr (inI_f.mpr (Or.inl g))))) (fun g => t_C_miscounted_1 (fun g2 => t_C_miscounted_3 ?_) (fun g2 => t_C_miscounted_2 (bad (Or.inr (inI_f.mpr (Or.inr g2)))))))
  have hin := inI_t g g2
  cases hb : (isS x && isS l) with
  | false => exact s_C_refusalB hb (t_C_miscounted_4 (fun q => absurd q (by decide)) (fun _ => t_C_miscounted_5 (bad (Or.inl hb))))
  | true =>
    have hb2 := hb
    rw [Bool.and_eq_true] at hb2
    obtain ⟨hx, hl⟩ := hb2
    obtain ⟨s, hs, rfl⟩ := isS_of hx
    have hnn : ¬ n < 0 := by
      rw [Int32.lt_iff_toInt_lt] at g ⊢
      have e0 : (0 : Int32).toInt = 0 := by decide
      have e1 : (1 : Int32).toInt = 1 := by decide
      omega
    obtain ⟨nk, hnk, rfl⟩ := nI_of2 (x := n) (M := 12) (n := 12) rfl hnn g2
    have nn2 : ¬ nI (2 * nk) < 0 := not_neg (by omega)
    have nle : nI (2 * nk) ≤ 36 := nI_le (b := 36) (by omega) (by decide)
    have inN : ∀ {Q : zQ}, WP (d + 4) m_N_miscounted 5 [some (.ref 10), some (.int (nI s)), some (.int l), some (.int f), some (.int (nI nk)), none, none, none, none, none, none, none] [] w Q → WM (d + 4) m_N_miscounted 12 [.ref 10, .int (nI s), .int l, .int f, .int (nI nk)] w Q := fun hq =>
      n_N_miscounted (t_N_miscounted_0 (s_N_isSheet (t_N_miscounted_1 (fun q => absurd q (by rw [hb]; decide)) (fun _ => t_N_miscounted_2 (s_N_inI (a := 1) (b := 12) rfl rfl (t_N_miscounted_3 (fun _ => hq) (fun q => absurd q (by rw [hin]; decide))))))))
    rw [m2]
    refine s_C_refusal rfl hs hl (h6 s hs).1 (t_C_miscounted_4 (fun q0 => t_C_miscounted_6 (vp_in_lt hs (by decide)) (zre_is hs) ?_) (fun q0 => t_C_miscounted_5 (inN (t_N_miscounted_5 ?_))))
    · obtain ⟨q, eh, el, esp⟩ := refA_0 q0
      have hh := (h6 s hs).1
      rw [eh] at hh
      have hq36 : q.2 ≤ 36 := hh.2.2.2.2.2.2
      obtain ⟨a, b, rfl, eb, hab⟩ := spn_of hq36 esp
      have hbn : b = 2 * nk := ((nI_eqk (k := b) (by omega) (by omega)).mp eb).symm
      subst hbn
      rw [zre_row hs, zrf_row hs]
      refine lp_C_mis (S := S) (f := fun k => gL w (19 + s) k) hs h2 (by omega) (fun _ _ => rfl) nk 0 (by omega) (inN (t_N_miscounted_5 ?_))
      rw [m2]
      refine s_N_lacksRow rfl hs hl nn2 nle (h6 s hs).1 (t_N_miscounted_6 (fun _ => t_N_miscounted_8 (s_N_look h3 h1 (fun wa hw => t_N_miscounted_9 ?_))) (fun z => absurd (refA_nn.mpr q0) z))
      refine lp_N_mis (S := S) (f := fun k => gL w (19 + s) k) hs hw.1 (by omega) (fun k hk => ?_) nk 0 (by omega) ⟨rfl, ?_⟩
      · rw [hw.2.2.2 41 _ (by omega)]; exact ((h6 s hs).2 k hk).symm
      · exact shG (H := H) hw.eqx.rS h1 h2 h3 h4 h5 (hw.eqx.rN.nA.ksh.sht h6)
    · rw [m2]
      exact s_N_lacksRow rfl hs hl nn2 nle (h6 s hs).1 (t_N_miscounted_6 (fun z => absurd (refA_nn.mp z) q0) (fun _ => t_N_miscounted_7 ⟨rfl, hR, SCR.rf⟩))
