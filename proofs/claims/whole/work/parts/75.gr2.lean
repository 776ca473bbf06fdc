/-! ===== a ground, the reference's reading; both ===== -/
theorem lt_fg {T : List Nat} {p m : Nat} (hT : okT T) (hm : m ≤ 9) : (fgA T p (48 + m) = none → inI (ltA T p - 48) 0 (nI m) = false) ∧ ∀ v, fgA T p (48 + m) = some v → inI (ltA T p - 48) 0 (nI m) = true ∧ ltA T p - 48 = nI v := by
  unfold fgA ltA
  cases e : T[sk T p]? with
  | none =>
    refine ⟨fun _ => ?_, fun v h => by cases h⟩
    exact inI_f.mpr (Or.inl (by decide))
  | some c =>
    obtain ⟨-, -, hc1, hc2⟩ := okT_lt hT e
    dsimp only
    by_cases h : 48 ≤ c ∧ c ≤ 48 + m
    · rw [if_pos h]
      have es : nI c - 48 = nI (c - 48) := pk_sub (a := c) (b := 48) h.1
      refine ⟨fun q => (by cases q), fun v q => ?_⟩
      injection q with q
      rw [es, q]
      exact ⟨inI_t (not_neg (by omega)) (nI_le (by omega) (by omega)), rfl⟩
    · rw [if_neg h]
      refine ⟨fun _ => ?_, fun v q => by cases q⟩
      by_cases h2 : c < 48
      · exact inI_f.mpr (Or.inl (pk_sneg (a := c) (b := 48) (by decide) h2))
      · have es : nI c - 48 = nI (c - 48) := pk_sub (a := c) (b := 48) (by omega)
        rw [es]
        exact inI_f.mpr (Or.inr (nI_ge (by omega) (by omega)))
def GE (w : zW) (l : List (Nat × Bool)) : Prop := ∀ i e, l[i]? = some e → gI w 33 i = nI (e.1 + if e.2 = true then 100 else 0)
theorem GE.qm {w w' : zW} {l : List (Nat × Bool)} (h : GE w l) (x : EQX mQI m0L w w') : GE w' l := fun i e he => by rw [x.1 33 i rfl]; exact h i e he
theorem TN.x33 {w : zW} {T : List Nat} {p : Nat} (h : TN w T p) (k : Nat) (v : Int32) : TN (sI w 33 k v) T p := ⟨by rw [gI_sI, if_neg (by omega)]; exact h.1, fun j c hc => by rw [gI_sI, if_neg (by omega)]; exact h.2.1 j c hc, by rw [gI_sI, if_neg (by omega)]; exact h.2.2⟩
theorem nxt_neg {T : List Nat} {p : Nat} (hT : okT T) (hp : p ≤ T.length) : ¬ 0 ≤ ltA T p ↔ ¬ sk T p < T.length := by
  unfold ltA
  cases e : T[sk T p]? with
  | none =>
    have := List.getElem?_eq_none_iff.mp e
    exact ⟨fun _ => by omega, fun _ => by decide⟩
  | some c =>
    obtain ⟨hj, -, hc1, hc2⟩ := okT_lt hT e
    exact ⟨fun q => absurd (nI_le (a := 0) (Nat.zero_le _) (by omega)) q, fun q => absurd hj q⟩
theorem lp_N_gr {d : Nat} {w0 : zW} {Q : zQ} {T : List Nat} {R : Nat ⊕ List (Nat × Bool)} (hT : okT T)
    (hF : ∀ q w', R = .inl q → q ≤ T.length → sk T q = q → TN w' T q → EQX mRI mRL w0 w' → Q (some (.int 0)) w')
    (hS : ∀ l q w', R = .inr l → q ≤ T.length → TN w' T q → GE w' l → EQX mRI mRL w0 w' → Q (some (.int 1)) w') : ∀ (n c p : Nat) (pre : List (Nat × Bool)) (w : zW), c + n = 36 → pre.length = c → p ≤ T.length → TN w T p → GE w pre → EQX mRI mRL w0 w → grL T n c p pre = R → WP (d + 2) m_N_readGround 1 [some (.ref 10), some (.int (nI c)), none] [] w Q
  | 0, c, p, pre, w, hc, hpl, hp, hC, hA, hx, hr => by
    have e : c = 36 := by omega
    subst e
    unfold grL at hr
    have hs := sk_le hp
    refine t_N_readGround_1 (fun _ => t_N_readGround_17 (s_N_nextLetter hT hp hC (fun wa ta xa => t_N_readGround_18 (fun g => t_N_readGround_20 (t_N_readGround_21 (Or.inl rfl) ?_)) (fun g => t_N_readGround_19 (t_N_readGround_21 (Or.inr rfl) ?_))))) (fun g => absurd (Int32.le_refl _) g)
    · have q : sk T p < T.length := Classical.byContradiction fun q => (nxt_neg hT hp).mpr q g
      rw [if_pos q] at hr
      exact hF _ wa hr.symm hs.2 (sk_sk hp) ta (hx.tr xa.qR)
    · have q := (nxt_neg hT hp).mp g
      rw [if_neg q] at hr
      exact hS _ _ wa hr.symm hs.2 ta (hA.qm xa) (hx.tr xa.qR)
  | n + 1, c, p, pre, w, hc, hpl, hp, hC, hA, hx, hr => by
    have hc36 : c < 36 := by omega
    have hlT := hT.1
    unfold grL at hr
    have key8 : ∀ (b : Nat) (wa : zW), slP T c p = some b → b ≤ T.length → TN wa T b → GE wa pre → EQX mRI mRL w0 wa → WP (d + 2) m_N_readGround 7 [some (.ref 10), some (.int (nI c)), none] [] wa Q := by
      intro b wa hsl hb ta ga xa
      have hsb := sk_le hb
      have eG : stG T c p = match fgA T b 57 with
        | none => .inl (sk T b)
        | some v => if v = 0 then .inr (0, false, fgP T b 57) else .inr (v, decide (T[sk T (fgP T b 57)]? = some 94), nxP T (fgP T b 57) 94) := by unfold stG; rw [hsl]; rfl
      obtain ⟨lf1, lf2⟩ := lt_fg (p := b) (m := 9) hT (by decide)
      refine t_N_readGround_7 (s_N_nextLetter hT hb ta (fun wb tb xb => t_N_readGround_8 (s_N_inI (a := 0) (b := 9) rfl rfl ?_)))
      cases ef : fgA T b 57 with
      | none =>
        rw [ef] at eG
        rw [eG] at hr
        refine t_N_readGround_9 (fun q => absurd (by rw [show inI (ltA T b - 48) 0 9 = false from lf1 ef]; rfl) q) (fun _ => t_N_readGround_10 ?_)
        exact hF _ wb hr.symm hsb.2 (sk_sk hb) tb (xa.tr xb.qR)
      | some v =>
        rw [ef] at eG
        dsimp only at eG
        obtain ⟨la, lb⟩ := lf2 v ef
        have hv := (fgA_of ef).2
        have hle := fgP_le (g := 57) hb
        have hpb : fgP T b 57 = sk T b + 1 := by unfold fgP; rw [ef]
        have tc : TN (sI wb 10 13 (nI (sk T b + 1))) T (fgP T b 57) := by rw [hpb]; exact tb.mv _
        have xc : EQX mRI mRL w0 (sI wb 10 13 (nI (sk T b + 1))) := (xa.tr xb.qR).pI (o := 10) (k := 13) _ rfl
        have gc : GE (sI wb 10 13 (nI (sk T b + 1))) pre := fun i e he => by rw [gI_sI, if_neg (by omega)]; exact (ga.qm xb) i e he
        rw [lb]
        refine t_N_readGround_9 (fun _ => ?_) (fun q => absurd q (by rw [← lb, show inI (ltA T b - 48) 0 9 = true from la]; decide))
        have key16 : ∀ (r : Bool) (p2 : Nat) (wd : zW) (z : Int32), stG T c p = .inr (v, r, p2) → p2 ≤ T.length → TN wd T p2 → GE wd pre → EQX mRI mRL w0 wd → z = nI (v + if r = true then 100 else 0) → WP (d + 2) m_N_readGround 16 [some (.ref 10), some (.int (nI c)), none] [.int z, .int (nI c), .ref 33] wd Q := by
          intro r p2 wd z e1 e2 e3 e4 e5 e6
          rw [e1] at hr
          refine t_N_readGround_16 (vp_in_lt (by omega) (by decide)) ?_
          rw [n1, nI_clamp (by omega)]
          refine lp_N_gr hT hF hS n (c + 1) _ _ _ (by omega) (by rw [List.length_append, List.length_singleton, hpl]) e2 (e3.x33 _ _) (fun i e he => ?_) (e5.pI (o := 33) (k := c) _ rfl) hr
          rw [gI_sI]
          rcases app_get he with ⟨q1, q2⟩ | ⟨q1, q2⟩
          · rw [if_neg (by omega)]; exact e4 i e q2
          · rw [if_pos ⟨rfl, by omega⟩, q2, e6]
        refine t_N_readGround_11 (fun q => t_N_readGround_15 ?_) (fun q => t_N_readGround_12 ?_)
        · rw [nI_le0 (by omega)] at q
          rw [if_pos q] at eG
          rw [tb.2.2, n1]
          exact key16 false _ _ _ (by rw [eG, q]) hle.2 tc gc xc rfl
        · rw [nI_le0 (by omega)] at q
          rw [if_neg q] at eG
          rw [tb.2.2, n1]
          refine s_N_takes (c := 94) rfl (by decide) hT hle.2 tc (fun wd td xd => t_N_readGround_13 (fun u => t_N_readGround_15 ?_) (fun u => t_N_readGround_14 ?_))
          · rw [zb_t.mp u] at eG
            exact key16 false _ _ _ eG (nxP_le hle.2 94).2 td (gc.qm xd) (xc.tr xd.qR) rfl
          · rw [zb_f.mp u] at eG
            refine key16 true _ _ _ eG (nxP_le hle.2 94).2 td (gc.qm xd) (xc.tr xd.qR) ?_
            rw [if_pos rfl, Nat.add_comm]; exact nI_add 100 v
    have e6 : zrm (nI c) 6 = nI (c % 6) := zrm_n (k := 6) (by omega) (by decide) (by decide)
    refine t_N_readGround_1 (fun g => absurd g (nI_ge (show c < 36 by omega) (by decide))) (fun _ => t_N_readGround_2 (fun g => key8 p w ?_ hp hC hA hx) (fun g => t_N_readGround_3 (fun g2 => key8 p w ?_ hp hC hA hx) (fun g2 => t_N_readGround_4 (s_N_takes (c := 47) rfl (by decide) hT hp hC (fun wa ta xa => t_N_readGround_5 (fun u => key8 _ wa ?_ (nxP_le hp 47).2 ta (hA.qm xa) (hx.tr xa.qR)) (fun u => t_N_readGround_6 ?_))))))
    · rw [nI_le0 (by omega)] at g
      unfold slP; rw [if_neg (by omega)]
    · rw [e6, nI_c0 (by omega)] at g2
      unfold slP; rw [if_neg (by omega)]
    · rw [nI_le0 (by omega)] at g
      rw [e6, nI_c0 (by omega)] at g2
      have u := of_decide_eq_true (zb_f.mp u)
      unfold slP nxP
      rw [if_pos ⟨by omega, g2⟩, if_pos u, if_pos u]
    · rw [nI_le0 (by omega)] at g
      rw [e6, nI_c0 (by omega)] at g2
      have u := of_decide_eq_false (zb_t.mp u)
      have e1 : slP T c p = none := by unfold slP; rw [if_pos ⟨by omega, g2⟩, if_neg u]
      have e2 : stG T c p = .inl (sk T p) := by unfold stG; rw [e1]
      rw [e2] at hr
      have hpn : nxP T p 47 = sk T p := by unfold nxP; rw [if_neg u]
      rw [hpn] at ta
      exact hF _ wa hr.symm (sk_le hp).2 (sk_sk hp) ta (hx.tr xa.qR)
/-! the new ground -/
def layG (S : zS) (v : Nat → Nat) : Nat → zS
  | 0 => S
  | k + 1 => putS (layG S v k) k (v k) (roP (layG S v k) k (v k))
def layN (S : zS) (v : Nat → Nat) (r : Nat → Bool) : Nat → zS
  | 0 => S
  | k + 1 => putS (layN S v r k) k (v k) (if r k = true then roS (layN S v r k) ||| b1 k else roS (layN S v r k) &&& (b1 k ^^^ (-1)))
theorem layG_fix (S : zS) (v : Nat → Nat) : ∀ k, owS (layG S v k) = owS S ∧ raS (layG S v k) = raS S ∧ drS (layG S v k) = drS S
  | 0 => ⟨rfl, rfl, rfl⟩
  | k + 1 => layG_fix S v k
theorem layN_fix (S : zS) (v : Nat → Nat) (r : Nat → Bool) : ∀ k, owS (layN S v r k) = owS S ∧ raS (layN S v r k) = raS S ∧ drS (layN S v r k) = drS S ∧ dpS (layN S v r k) = dpS (layG S v k)
  | 0 => ⟨rfl, rfl, rfl, rfl⟩
  | k + 1 => by
    obtain ⟨ha, hb, hc, hd⟩ := layN_fix S v r k
    refine ⟨ha, hb, hc, ?_⟩
    show up1 (dpS (layN S v r k)) k (v k) = up1 (dpS (layG S v k)) k (v k)
    rw [hd]
theorem layG_dp (S : zS) (v : Nat → Nat) : ∀ k i, dpS (layG S v k) i = if i < k then v i else dpS S i
  | 0, i => by rw [if_neg (by omega)]; rfl
  | k + 1, i => by
    show up1 (dpS (layG S v k)) k (v k) i = _
    unfold up1
    by_cases h : i = k
    · rw [if_pos h, if_pos (by omega), h]
    · rw [if_neg h, layG_dp S v k i]
      by_cases h2 : i < k
      · rw [if_pos h2, if_pos (by omega)]
      · rw [if_neg h2, if_neg (by omega)]
theorem layN_ro (S : zS) (v : Nat → Nat) (r : Nat → Bool) : ∀ k i, k ≤ 36 → bt6 (roS (layN S v r k)) i = if i < k then r i else bt6 (roS S) i
  | 0, i, _ => by rw [if_neg (by omega)]; rfl
  | k + 1, i, hk => by
    have ih := layN_ro S v r k i (by omega)
    show bt6 (if r k = true then roS (layN S v r k) ||| b1 k else roS (layN S v r k) &&& (b1 k ^^^ (-1))) i = _
    by_cases h : i = k
    · subst h
      rw [show (if i < i + 1 then r i else bt6 (roS S) i) = r i from if_pos (by omega)]
      cases e : r i with
      | true => rw [if_pos rfl, bx_or, bx_b1 (by omega), decide_eq_true rfl, Bool.or_true]
      | false => rw [if_neg (by decide), bx_diff, bx_b1 (by omega), decide_eq_true rfl]; simp
    · have e2 : (if i < k + 1 then r i else bt6 (roS S) i) = if i < k then r i else bt6 (roS S) i := by
        by_cases h2 : i < k
        · rw [if_pos h2, if_pos (by omega)]
        · rw [if_neg h2, if_neg (by omega)]
      rw [e2, ← ih]
      cases e : r k with
      | true => rw [if_pos rfl, bx_or, bx_b1 (by omega), decide_eq_false h, Bool.or_false]
      | false => rw [if_neg (by decide), bx_diff, bx_b1 (by omega), decide_eq_false h]; simp
def grS (S : zS) (l : List (Nat × Bool)) : zS := (dpS (layG S (vL l) 36), owS S, mk6 (rfB l), raS S, drS S, [])
theorem vL_of {l : List (Nat × Bool)} {i : Nat} {e : Nat × Bool} (h : l[i]? = some e) : vL l i = e.1 ∧ rfB l i = e.2 := by unfold vL rfB; rw [h]; exact ⟨rfl, rfl⟩
theorem grS_ok {S : zS} {l : List (Nat × Bool)} (hk : okS S) (hl : l.length = 36) (ho : okG l) : okS (grS S l) := by
  obtain ⟨a1, a2, a3, a4, a5, a6, a7, a8⟩ := hk
  have hv : ∀ c, c < 36 → vL l c ≤ 9 ∧ (rfB l c = true → 0 < vL l c) := fun c hc => by
    have e := List.getElem?_eq_getElem (l := l) (i := c) (by omega)
    obtain ⟨e1, e2⟩ := vL_of e
    rw [e1, e2]
    exact ho _ (List.getElem_mem _)
  refine ⟨fun c hc => ?_, a2, SET.mk _, fun c hc => ?_, a5, a6, (show (unS (grS S l)).length ≤ 10 from Nat.zero_le 10), fun e he => (by cases he)⟩
  · show dpS (layG S (vL l) 36) c ≤ 9
    rw [layG_dp, if_pos hc]; exact (hv c hc).1
  · have hc : bt6 (mk6 (rfB l)) c = true := hc
    rw [bx_mk, Bool.and_eq_true, decide_eq_true_eq] at hc
    show 0 < dpS (layG S (vL l) 36) c
    rw [layG_dp, if_pos hc.1]; exact (hv c hc.1).2 hc.2
theorem GC_gr {w : zW} {L : zS} {ro : Int64} (h : GC w 1 L) : GC (sI (sL w 1 4 ro) 1 8 0) 1 (dpS L, owS L, ro, raS L, drS L, []) := by
  obtain ⟨a1, a2, a3, a4, a5, a6, a7, a8, a9⟩ := h
  refine ⟨fun c hc => ?_, fun c hc => ?_, a3, a4, rfl, ?_, ?_, ?_, fun k e he => (by cases he)⟩
  · rw [gI_sI, if_neg (by omega)]; exact a1 c hc
  · rw [gI_sI, if_neg (by omega)]; exact a2 c hc
  · rw [gI_sI, if_neg (by omega)]; exact a6
  · rw [gI_sI, if_neg (by omega)]; exact a7
  · rw [gI_sI, if_pos ⟨rfl, rfl⟩]; rfl
theorem grS_is (S : zS) (l : List (Nat × Bool)) : (dpS (layG S (vL l) 36), owS (layG S (vL l) 36), mk6 (rfB l), raS (layG S (vL l) 36), drS (layG S (vL l) 36), []) = grS S l := by
  obtain ⟨f1, f2, f3⟩ := layG_fix S (vL l) 36
  unfold grS
  rw [f1, f2, f3]
theorem lp_G_become {d : Nat} {w0 : zW} {Q : zQ} {S : zS} {l : List (Nat × Bool)} {x : Int64} (hl : l.length = 36) (ho : okG l) (hA : GA w0 l) (hx : x = mk6 (rfB l)) (h : ∀ w', GC w' 1 (grS S l) → EQX mCI mCL w0 w' → Q none w') : ∀ (m k : Nat) (w : zW), k + m = 36 → GC w 1 (layG S (vL l) k) → EQX mCI mCL w0 w → WP (d + 1) m_G_become 1 [some (.ref 1), some (.ref 18), some (.long x), none, some (.int (nI k))] [] w Q
  | 0, k, w, hk, hG, hy => by
    have e : k = 36 := by omega
    subst e
    have g2 := GC_gr (ro := x) hG
    rw [hx, grS_is, ← hx] at g2
    exact t_G_become_1 (fun _ => t_G_become_5 (n_G_forget (t_G_forget_0 (t_G_become_6 (h _ g2 ((hy.pL (o := 1) (k := 4) _ rfl).pI (o := 1) (k := 8) _ rfl)))))) (fun g => absurd (Int32.le_refl _) g)
  | m + 1, k, w, hk, hG, hy => by
    have e := List.getElem?_eq_getElem (l := l) (i := k) (by omega)
    obtain ⟨e1, -⟩ := vL_of e
    have hv : gI w 18 (nI k).toNatClampNeg = nI (vL l k) := by rw [nI_clamp (by omega), hy.1 18 k rfl, hA k _ e, e1]
    refine t_G_become_1 (fun g => absurd g (nI_ge (show k < 36 by omega) (by decide))) (fun _ => t_G_become_2 (fun g => absurd g (nI_ge (show k < 41 by omega) (by decide))) (fun _ => t_G_become_3 (vp_in_lt (by omega) (by decide)) ?_))
    rw [hv]
    refine s_G_put hG (by omega) (by rw [e1]; exact (ho _ (List.getElem_mem _)).1) (fun wa ga xa => t_G_become_4 ?_)
    rw [n1]
    exact lp_G_become hl ho hA hx h m (k + 1) wa (by omega) ga (hy.tr xa)
theorem lp_N_ground {d : Nat} {w0 : zW} {Q : zQ} {S : zS} {l : List (Nat × Bool)} (hl : l.length = 36) (ho : okG l) (hA : GE w0 l) (h : ∀ w', GN w' (layN S (vL l) (rfB l) 36) → EQX mGI mGL w0 w' → WP (d + 1) m_N_ground 11 [some (.ref 10), none, none] [] w' Q) : ∀ (m k : Nat) (w : zW), k + m = 36 → GN w (layN S (vL l) (rfB l) k) → EQX mGI mGL w0 w → WP (d + 1) m_N_ground 5 [some (.ref 10), none, some (.int (nI k))] [] w Q
  | 0, k, w, hk, hG, hy => by
    have e : k = 36 := by omega
    subst e
    exact t_N_ground_5 (fun _ => h w hG hy) (fun g => absurd (Int32.le_refl _) g)
  | m + 1, k, w, hk, hG, hy => by
    have e := List.getElem?_eq_getElem (l := l) (i := k) (by omega)
    obtain ⟨e1, e2⟩ := vL_of e
    have hle := (ho _ (List.getElem_mem (l := l) (n := k) (by omega))).1
    rw [← e1] at hle
    have hv : gI w 33 (nI k).toNatClampNeg = nI (vL l k + if rfB l k = true then 100 else 0) := by rw [nI_clamp (by omega), hy.1 33 k rfl, hA k _ e, e1, e2]
    have hb : (if rfB l k = true then 100 else 0) ≤ 100 := by split <;> omega
    have hr : zrm (nI (vL l k + if rfB l k = true then 100 else 0)) 100 = nI (vL l k) := by
      have := zrm_n (a := vL l k + if rfB l k = true then 100 else 0) (k := 100) (by omega) (by decide) (by decide)
      rw [show (100 : Int32) = nI 100 from rfl, this]
      congr 1
      split <;> omega
    have go : ∀ z : Int32, z = zb (rfB l k) → WP (d + 1) m_N_ground 9 [some (.ref 10), none, some (.int (nI k))] [.int z, .int (nI (vL l k)), .int (nI k), .ref 10] w Q := by
      rintro z rfl
      refine t_N_ground_9 (u_N_put (b := rfB l k) hG (by omega) (fun wa ga xa => t_N_ground_10 ?_))
      rw [n1]
      exact lp_N_ground hl ho hA h m (k + 1) wa (by omega) ga (hy.tr xa)
    refine t_N_ground_5 (fun g => absurd g (nI_ge (show k < 36 by omega) (by decide))) (fun _ => t_N_ground_6 (vp_in_lt (by omega) (by decide)) (vp_in_lt (by omega) (by decide)) (fun g => t_N_ground_8 ?_) (fun g => t_N_ground_7 ?_))
    · rw [hv, show (99 : Int32) = nI 99 from rfl, nI_leI (by omega) (by decide)] at g
      rw [hv, hr]
      refine go 0 ?_
      cases e3 : rfB l k with
      | false => rfl
      | true => rw [e3, if_pos rfl] at g; omega
    · rw [hv, show (99 : Int32) = nI 99 from rfl, nI_leI (by omega) (by decide)] at g
      rw [hv, hr]
      refine go 1 ?_
      cases e3 : rfB l k with
      | true => rfl
      | false => rw [e3, if_neg (by decide)] at g; omega
theorem layN_is {S : zS} {l : List (Nat × Bool)} (hk : okS S) : wU (layN S (vL l) (rfB l) 36) [] = grS S l := by
  obtain ⟨f1, f2, f3, f4⟩ := layN_fix S (vL l) (rfB l) 36
  have f5 : roS (layN S (vL l) (rfB l) 36) = mk6 (rfB l) := by
    refine mk_eq (fun i hi => ?_) (fun i hi => ?_)
    · rw [layN_ro _ _ _ 36 i (by decide), if_neg (by omega)]; exact hk.2.2.1 i hi
    · rw [layN_ro _ _ _ 36 i (by decide), if_pos hi]
  unfold wU grS
  rw [f1, f2, f3, f4, f5]
theorem okG_nil : okG [] := fun e he => by cases he
theorem TAP_0 {w : zW} (ha : gI w 3 1 = 0) (hb : gI w 10 12 = 0) : TAP w [] := ⟨by decide, fun c hc => (by cases hc), ha, hb, fun j c hc => (by cases hc)⟩
/-- both tapes are empty, nothing else has changed -/
theorem tape_off {w wa wb wc : zW} {S : zS} {K : Option zS} {H : Nat → Option (Nat × Nat)} (h1 : okS S) (h2 : GC w 1 S) (h3 : GN w S) (h4 : IMG w K) (h6 : SHT w H) (xa : EQX mDI mDL w wa) (xb : EQX mRI mRL (sI wa 3 1 0) wb) (ha : wc = sI wb 10 12 0) : RW wc ∧ SCR w wc := by
  subst ha
  have x1 : EQX mUI mAL w (sI wa 3 1 0) := xa.dA.aU.pI (o := 3) (k := 1) _ rfl
  have x2 : EQX mUI mAL w (sI wb 10 12 0) := (x1.tr xb.rN.nA.aU).pI (o := 10) (k := 12) _ rfl
  refine x2.uRW h1 ?_ ?_ h4 (TAP_0 ?_ ?_) h6
  · have g1 := xa.gcD h2
    have g2 : GC (sI wa 3 1 0) 1 S := by refine GC_keep g1 (fun k => ?_) (fun k => ?_) (fun k => ?_) (fun k => ?_) (fun k => rfl) <;> rw [gI_sI, if_neg (by omega)]
    have g3 := xb.rN.gcN g2
    refine GC_keep g3 (fun k => ?_) (fun k => ?_) (fun k => ?_) (fun k => ?_) (fun k => rfl) <;> rw [gI_sI, if_neg (by omega)]
  · have g1 := xa.gnD h3
    have g2 : GN (sI wa 3 1 0) S := by refine GN_keep g1 ⟨?_, ?_, ?_⟩ (fun k => ?_) (fun k => ?_) (fun k => ?_) rfl <;> rw [gI_sI, if_neg (by omega)]
    have g3 := xb.gnR g2
    refine GN_keep g3 ⟨?_, ?_, ?_⟩ (fun k => ?_) (fun k => ?_) (fun k => ?_) rfl <;> rw [gI_sI, if_neg (by omega)]
  · rw [gI_sI, if_neg (by omega), xb.1 3 1 rfl, gI_sI, if_pos ⟨rfl, rfl⟩]
  · rw [gI_sI, if_pos ⟨rfl, rfl⟩]
theorem TAP.tc {w : zW} {T : List Nat} (h : TAP w T) (p : Nat) : TC (sI w 3 2 (nI p)) T p := ⟨by rw [gI_sI, if_neg (by omega)]; exact h.2.2.1, fun j c hc => by rw [gI_sI, if_neg (by omega)]; exact (h.2.2.2.2 j c hc).1, by rw [gI_sI, if_pos ⟨rfl, rfl⟩]⟩
theorem TAP.tn {w wa : zW} {T : List Nat} (h : TAP w T) (xa : EQX mUI mAL w wa) (x1 : gI wa 10 12 = gI w 10 12) (x2 : ∀ k, gI wa 32 k = gI w 32 k) (p : Nat) : TN (sI wa 10 13 (nI p)) T p := ⟨by rw [gI_sI, if_neg (by omega), x1]; exact h.2.2.2.1, fun j c hc => by rw [gI_sI, if_neg (by omega), x2]; exact (h.2.2.2.2 j c hc).2, by rw [gI_sI, if_pos ⟨rfl, rfl⟩]⟩
