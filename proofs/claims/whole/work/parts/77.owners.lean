/-! ===== owners as a text ===== -/
theorem fgA_sk {T : List Nat} {b g : Nat} (hb : b ≤ T.length) : fgA T (sk T b) g = fgA T b g := by unfold fgA; rw [sk_sk hb]
theorem fgP_sk {T : List Nat} {b g : Nat} (hb : b ≤ T.length) : fgP T (sk T b) g = fgP T b g := by unfold fgP; rw [fgA_sk hb, sk_sk hb]
def slO (T : List Nat) (c p : Nat) : Nat := if 0 < c ∧ c % 6 = 0 then nxP T p 47 else p
def stO (T : List Nat) (b : Nat) : Nat ⊕ (Nat × Nat) := if T[sk T b]? = some 45 then .inr (4, sk T b + 1) else match fgA T b 51 with
  | some v => .inr (v, sk T b + 1)
  | none => .inl (sk T b)
def owL (T : List Nat) : Nat → Nat → Nat → List Nat → Nat ⊕ List Nat
  | 0, _, p, pre => if sk T p < T.length then .inl (sk T p) else .inr pre
  | n + 1, c, p, pre => match stO T (slO T c p) with
    | .inl q => .inl q
    | .inr e => owL T n (c + 1) e.2 (pre ++ [e.1])
theorem slO_le {T : List Nat} {c p : Nat} (hp : p ≤ T.length) : slO T c p ≤ T.length := by
  unfold slO
  split
  · exact (nxP_le hp 47).2
  · exact hp
theorem stO_ok {T : List Nat} {b : Nat} (hb : b ≤ T.length) : (∀ q, stO T b = .inl q → q ≤ T.length) ∧ ∀ e, stO T b = .inr e → e.1 ≤ 4 ∧ e.2 ≤ T.length := by
  unfold stO
  split
  · rename_i h
    have := (List.getElem?_eq_some_iff.mp h).1
    exact ⟨fun q h => (by cases h), fun e h => by injection h with h; rw [← h]; exact ⟨Nat.le_refl _, by show sk T b + 1 ≤ _; omega⟩⟩
  · cases e2 : fgA T b 51 with
    | none => exact ⟨fun q h => by injection h with h; rw [← h]; exact (sk_le hb).2, fun e h => by cases h⟩
    | some v =>
      obtain ⟨f1, f2⟩ := fgA_of e2
      have := (List.getElem?_eq_some_iff.mp f1).1
      exact ⟨fun q h => (by cases h), fun e h => by injection h with h; rw [← h]; exact ⟨by show v ≤ 4; omega, by show sk T b + 1 ≤ _; omega⟩⟩
theorem owL_ok {T : List Nat} : ∀ (n c p : Nat) (pre : List Nat), p ≤ T.length → (∀ v ∈ pre, v ≤ 4) → (∀ q, owL T n c p pre = .inl q → q ≤ T.length) ∧ ∀ l, owL T n c p pre = .inr l → l.length = pre.length + n ∧ ∀ v ∈ l, v ≤ 4
  | 0, c, p, pre, hp, ho => by
    unfold owL
    split
    · exact ⟨fun q h => by injection h with h; rw [← h]; exact (sk_le hp).2, fun l h => by cases h⟩
    · exact ⟨fun q h => (by cases h), fun l h => by injection h with h; rw [← h]; exact ⟨rfl, ho⟩⟩
  | n + 1, c, p, pre, hp, ho => by
    obtain ⟨s1, s2⟩ := stO_ok (slO_le (c := c) hp)
    unfold owL
    cases es : stO T (slO T c p) with
    | inl b => exact ⟨fun q h => by injection h with h; rw [← h]; exact s1 _ es, fun l h => by cases h⟩
    | inr e =>
      obtain ⟨u1, u2⟩ := s2 e es
      have := owL_ok n (c + 1) e.2 (pre ++ [e.1]) u2 (fun v hv => by
        rcases List.mem_append.mp hv with hv | hv
        · exact ho v hv
        · rw [List.mem_singleton] at hv; rw [hv]; exact u1)
      rw [List.length_append, List.length_singleton] at this
      exact ⟨this.1, fun l h => ⟨by have := (this.2 l h).1; omega, (this.2 l h).2⟩⟩
def OA (o : Nat) (w : zW) (l : List Nat) : Prop := ∀ i v, l[i]? = some v → gI w o i = nI v
theorem OA.pm {w w' : zW} {l : List Nat} (h : OA 18 w l) (x : EQX mPI m0L w w') : OA 18 w' l := fun i e he => by rw [x.1 18 i rfl]; exact h i e he
theorem OA.qm {w w' : zW} {l : List Nat} (h : OA 33 w l) (x : EQX mQI m0L w w') : OA 33 w' l := fun i e he => by rw [x.1 33 i rfl]; exact h i e he
theorem OA.st {w : zW} {l : List Nat} {o c v : Nat} (h : OA o w l) (hl : l.length = c) : OA o (sI w o c (nI v)) (l ++ [v]) := fun i e he => by
  rw [gI_sI]
  rcases app_get he with ⟨q1, q2⟩ | ⟨q1, q2⟩
  · rw [if_neg (by omega)]; exact h i e q2
  · rw [if_pos ⟨rfl, by omega⟩, q2]
theorem lp_T_ow {d : Nat} {w0 : zW} {Q : zQ} {T : List Nat} {R : Nat ⊕ List Nat} (hT : okT T)
    (hF : ∀ q w', R = .inl q → EQX mDI mDL w0 w' → Q (some (.int ((-20) - nI q))) w')
    (hS : ∀ l w', R = .inr l → OA 18 w' l → EQX mDI mDL w0 w' → Q (some (.int 0)) w') : ∀ (n c p : Nat) (pre : List Nat) (w : zW), c + n = 36 → pre.length = c → p ≤ T.length → TC w T p → OA 18 w pre → EQX mDI mDL w0 w → owL T n c p pre = R → WP (d + 2) m_T_readOwners 1 [some (.ref 3), some (.int (nI c)), none] [] w Q
  | 0, c, p, pre, w, hc, hpl, hp, hC, hA, hx, hr => by
    have e : c = 36 := by omega
    subst e
    unfold owL at hr
    refine t_T_readOwners_1 (fun _ => t_T_readOwners_14 (s_T_faultBehind hT hp hC (fun wa ta xa => t_T_readOwners_15 ?_))) (fun g => absurd (Int32.le_refl _) g)
    by_cases q : sk T p < T.length
    · rw [if_pos q] at hr ⊢
      exact hF _ wa hr.symm (hx.tr xa.pD)
    · rw [if_neg q] at hr ⊢
      exact hS _ wa hr.symm (hA.pm xa) (hx.tr xa.pD)
  | n + 1, c, p, pre, w, hc, hpl, hp, hC, hA, hx, hr => by
    have hc36 : c < 36 := by omega
    have hlT := hT.1
    unfold owL at hr
    have key6 : ∀ (b : Nat) (wa : zW), slO T c p = b → b ≤ T.length → TC wa T b → OA 18 wa pre → EQX mDI mDL w0 wa → WP (d + 2) m_T_readOwners 6 [some (.ref 3), some (.int (nI c)), none] [] wa Q := by
      intro b wa hsl hb ta ga xa
      rw [hsl] at hr
      have hsb := sk_le hb
      have key13 : ∀ (v p2 : Nat) (wd : zW) (z : Int32), stO T b = .inr (v, p2) → z = nI v → p2 ≤ T.length → TC wd T p2 → OA 18 wd pre → EQX mDI mDL w0 wd → WP (d + 2) m_T_readOwners 10 [some (.ref 3), some (.int (nI c)), none] [.int z] wd Q := by
        intro v p2 wd z e1 ez e2 e3 e4 e5
        subst ez
        rw [e1] at hr
        have hv4 := ((stO_ok hb).2 _ e1).1
        refine t_T_readOwners_10 (fun _ => t_T_readOwners_13 (vp_in_lt (by omega) (by decide)) ?_) (fun q => absurd (nI_le (a := 0) (Nat.zero_le _) (by have : v ≤ 4 := hv4; omega)) q)
        rw [n1, nI_clamp (by omega)]
        exact lp_T_ow hT hF hS n (c + 1) _ _ _ (by omega) (by rw [List.length_append, List.length_singleton, hpl]) e2 (e3.x18 _ _) (e4.st hpl) (e5.pI (o := 18) (k := c) _ rfl) hr
      refine t_T_readOwners_6 (s_T_isNext (c := 45) rfl (by decide) hT hb ta (fun wb tb xb => t_T_readOwners_7 (fun u => t_T_readOwners_9 ?_) (fun u => t_T_readOwners_8 ?_)))
      · have u := of_decide_eq_false (zb_t.mp u)
        have hpn : nxP T b 45 = sk T b := by unfold nxP; rw [if_neg u]
        rw [hpn] at tb
        refine s_T_nextFigure (g := 51) rfl (by decide) hT hsb.2 tb (fun wc tc xc => ?_)
        rw [fgA_sk hb]
        rw [fgP_sk hb] at tc
        have hle := fgP_le (g := 51) hb
        have xx := (xa.tr xb.pD).tr xc.pD
        cases ef : fgA T b 51 with
        | none =>
          have e1 : stO T b = .inl (sk T b) := by unfold stO; rw [if_neg u, ef]
          have hpb : fgP T b 51 = sk T b := by unfold fgP; rw [ef]
          rw [e1] at hr
          refine t_T_readOwners_10 (fun q => absurd q (by decide)) (fun _ => t_T_readOwners_11 (n_T_fault (t_T_fault_0 (t_T_readOwners_12 ?_))))
          rw [tc.2.2, hpb]
          exact hF _ wc hr.symm xx
        | some v =>
          have e1 : stO T b = .inr (v, sk T b + 1) := by unfold stO; rw [if_neg u, ef]
          have hpb : fgP T b 51 = sk T b + 1 := by unfold fgP; rw [ef]
          rw [hpb] at tc hle
          exact key13 v _ wc _ e1 rfl hle.2 tc ((ga.pm xb).pm xc) xx
      · have u := of_decide_eq_true (zb_f.mp u)
        have hpn : nxP T b 45 = sk T b + 1 := by unfold nxP; rw [if_pos u]
        have hle := nxP_le hb 45
        rw [hpn] at tb hle
        exact key13 4 _ wb _ (by unfold stO; rw [if_pos u]) rfl hle.2 tb (ga.pm xb) (xa.tr xb.pD)
    have e6 : zrm (nI c) 6 = nI (c % 6) := zrm_n (k := 6) (by omega) (by decide) (by decide)
    refine t_T_readOwners_1 (fun g => absurd g (nI_ge (show c < 36 by omega) (by decide))) (fun _ => t_T_readOwners_2 (fun g => key6 p w ?_ hp hC hA hx) (fun g => t_T_readOwners_3 (fun g2 => key6 p w ?_ hp hC hA hx) (fun g2 => t_T_readOwners_4 (s_T_isNext (c := 47) rfl (by decide) hT hp hC (fun wa ta xa => t_T_readOwners_5 (key6 _ wa ?_ (nxP_le hp 47).2 ta (hA.pm xa) (hx.tr xa.pD)))))))
    · rw [nI_le0 (by omega)] at g
      unfold slO; rw [if_neg (by omega)]
    · rw [e6, nI_c0 (by omega)] at g2
      unfold slO; rw [if_neg (by omega)]
    · rw [nI_le0 (by omega)] at g
      rw [e6, nI_c0 (by omega)] at g2
      unfold slO
      rw [if_pos ⟨by omega, g2⟩]
theorem lt_fg2 {T : List Nat} {p : Nat} (hT : okT T) : (fgA T p 51 = none → inI (ltA T p) 48 51 = false) ∧ ∀ v, fgA T p 51 = some v → inI (ltA T p) 48 51 = true ∧ ltA T p = nI (v + 48) := by
  unfold fgA ltA
  cases e : T[sk T p]? with
  | none =>
    refine ⟨fun _ => ?_, fun v h => by cases h⟩
    exact inI_f.mpr (Or.inl (by decide))
  | some c =>
    obtain ⟨-, -, hc1, hc2⟩ := okT_lt hT e
    dsimp only
    by_cases h : 48 ≤ c ∧ c ≤ 51
    · rw [if_pos h]
      refine ⟨fun q => (by cases q), fun v q => ?_⟩
      injection q with q
      have : v + 48 = c := by omega
      rw [this]
      exact ⟨inI_t (nI_nlt (b := 48) h.1 (by omega)) (nI_le (b := 51) h.2 (by decide)), rfl⟩
    · rw [if_neg h]
      refine ⟨fun _ => ?_, fun v q => by cases q⟩
      by_cases h2 : c < 48
      · exact inI_f.mpr (Or.inl (nI_lt (b := 48) h2 (by decide)))
      · exact inI_f.mpr (Or.inr (nI_ge (a := 51) (by omega) (by omega)))
theorem lp_N_ow {d : Nat} {w0 : zW} {Q : zQ} {T : List Nat} {R : Nat ⊕ List Nat} (hT : okT T)
    (hF : ∀ q w', R = .inl q → q ≤ T.length → sk T q = q → TN w' T q → EQX mRI mRL w0 w' → Q (some (.int 0)) w')
    (hS : ∀ l q w', R = .inr l → q ≤ T.length → TN w' T q → OA 33 w' l → EQX mRI mRL w0 w' → Q (some (.int 1)) w') : ∀ (n c p : Nat) (pre : List Nat) (w : zW), c + n = 36 → pre.length = c → p ≤ T.length → TN w T p → OA 33 w pre → EQX mRI mRL w0 w → owL T n c p pre = R → WP (d + 2) m_N_readOwners 1 [some (.ref 10), some (.int (nI c)), none] [] w Q
  | 0, c, p, pre, w, hc, hpl, hp, hC, hA, hx, hr => by
    have e : c = 36 := by omega
    subst e
    unfold owL at hr
    have hs := sk_le hp
    refine t_N_readOwners_1 (fun _ => t_N_readOwners_15 (s_N_nextLetter hT hp hC (fun wa ta xa => t_N_readOwners_16 (fun g => t_N_readOwners_18 (t_N_readOwners_19 (Or.inl rfl) ?_)) (fun g => t_N_readOwners_17 (t_N_readOwners_19 (Or.inr rfl) ?_))))) (fun g => absurd (Int32.le_refl _) g)
    · have q : sk T p < T.length := Classical.byContradiction fun q => (nxt_neg hT hp).mpr q g
      rw [if_pos q] at hr
      exact hF _ wa hr.symm hs.2 (sk_sk hp) ta (hx.tr xa.qR)
    · have q := (nxt_neg hT hp).mp g
      rw [if_neg q] at hr
      exact hS _ _ wa hr.symm hs.2 ta (hA.qm xa) (hx.tr xa.qR)
  | n + 1, c, p, pre, w, hc, hpl, hp, hC, hA, hx, hr => by
    have hc36 : c < 36 := by omega
    have hlT := hT.1
    unfold owL at hr
    have key6 : ∀ (b : Nat) (wa : zW), slO T c p = b → b ≤ T.length → TN wa T b → OA 33 wa pre → EQX mRI mRL w0 wa → WP (d + 2) m_N_readOwners 6 [some (.ref 10), some (.int (nI c)), none] [] wa Q := by
      intro b wa hsl hb ta ga xa
      rw [hsl] at hr
      have hsb := sk_le hb
      obtain ⟨lf1, lf2⟩ := lt_fg2 (p := b) hT
      have e45 : ltA T b = 45 ↔ T[sk T b]? = some 45 := ltA_is (c := 45) hT (by decide)
      refine t_N_readOwners_6 (s_N_nextLetter hT hb ta (fun wb tb xb => ?_))
      have xx := xa.tr xb.qR
      have key14 : ∀ (v : Nat) (z : Int32), stO T b = .inr (v, sk T b + 1) → z = nI v → WP (d + 2) m_N_readOwners 14 [some (.ref 10), some (.int (nI c)), none] [.int z, .int (nI c), .ref 33] (sI wb 10 13 (nI (sk T b + 1))) Q := by
        intro v z e1 ez
        subst ez
        have hp2 := ((stO_ok hb).2 _ e1).2
        rw [e1] at hr
        refine t_N_readOwners_14 (vp_in_lt (by omega) (by decide)) ?_
        rw [n1, nI_clamp (by omega)]
        refine lp_N_ow hT hF hS n (c + 1) _ _ _ (by omega) (by rw [List.length_append, List.length_singleton, hpl]) hp2 ((tb.mv _).x33 _ _) (OA.st (fun i e he => ?_) hpl) ((xx.pI (o := 10) (k := 13) _ rfl).pI (o := 33) (k := c) _ rfl) hr
        rw [gI_sI, if_neg (by omega)]; exact (ga.qm xb) i e he
      refine t_N_readOwners_7 (fun u => t_N_readOwners_11 (fun z => absurd u z) (fun _ => t_N_readOwners_12 ?_)) (fun u => t_N_readOwners_8 (s_N_inI (a := 48) (b := 51) rfl rfl ?_))
      · rw [e45] at u
        rw [tb.2.2, n1]
        exact key14 4 _ (by unfold stO; rw [if_pos u]) rfl
      · have u' : ¬ T[sk T b]? = some 45 := fun q => u (e45.mpr q)
        cases ef : fgA T b 51 with
        | none =>
          have e1 : stO T b = .inl (sk T b) := by unfold stO; rw [if_neg u', ef]
          rw [e1] at hr
          exact t_N_readOwners_9 (fun q => absurd (by rw [lf1 ef]; rfl) q) (fun _ => t_N_readOwners_10 (hF _ wb hr.symm hsb.2 (sk_sk hb) tb xx))
        | some v =>
          obtain ⟨la, lb⟩ := lf2 v ef
          have e1 : stO T b = .inr (v, sk T b + 1) := by unfold stO; rw [if_neg u', ef]
          refine t_N_readOwners_9 (fun _ => t_N_readOwners_11 (fun _ => t_N_readOwners_13 ?_) (fun z => absurd z u)) (fun q => absurd q (by rw [la]; decide))
          rw [tb.2.2, n1, lb]
          refine key14 v _ e1 ?_
          have := pk_sub (a := v + 48) (b := 48) (by omega)
          rw [show v + 48 - 48 = v by omega] at this
          exact this
    have e6 : zrm (nI c) 6 = nI (c % 6) := zrm_n (k := 6) (by omega) (by decide) (by decide)
    refine t_N_readOwners_1 (fun g => absurd g (nI_ge (show c < 36 by omega) (by decide))) (fun _ => t_N_readOwners_2 (fun g => key6 p w ?_ hp hC hA hx) (fun g => t_N_readOwners_3 (fun g2 => key6 p w ?_ hp hC hA hx) (fun g2 => t_N_readOwners_4 (s_N_takes (c := 47) rfl (by decide) hT hp hC (fun wa ta xa => t_N_readOwners_5 (key6 _ wa ?_ (nxP_le hp 47).2 ta (hA.qm xa) (hx.tr xa.qR)))))))
    · rw [nI_le0 (by omega)] at g
      unfold slO; rw [if_neg (by omega)]
    · rw [e6, nI_c0 (by omega)] at g2
      unfold slO; rw [if_neg (by omega)]
    · rw [nI_le0 (by omega)] at g
      rw [e6, nI_c0 (by omega)] at g2
      unfold slO
      rw [if_pos ⟨by omega, g2⟩]
/-! what it does -/
def owT (S : zS) (l : List Nat) : zS := (dpS S, fun c => l.getD c 0, roS S, raS S, drS S, unS S)
theorem gD_of {l : List Nat} {i v : Nat} (h : l[i]? = some v) : l.getD i 0 = v := by rw [List.getD_eq_getElem?_getD, h]; rfl
theorem cn_mkn (p : Nat → Bool) {n : Nat} (hn : n < 64) : cn (mkn p (n + 1)) = cn (mkn p n) + (if p n = true then 1 else 0) := by
  show cn (if p n = true then mkn p n ||| b1 n else mkn p n) = _
  by_cases h : p n = true
  · rw [if_pos h, if_pos h, cn_del hn (show bt6 (mkn p n ||| b1 n) n = true by rw [bx_or, bx_b1 hn]; simp)]
    congr 2
    apply bx_ext
    intro i hi
    rw [bx_diff, bx_or, bx_b1 hn, bx_mkn p n i (by omega)]
    by_cases e : i = n
    · subst e; simp
    · simp [e]
  · rw [if_neg h, if_neg h]; rfl
def cntO (l : List Nat) : Nat → Nat
  | 0 => 0
  | k + 1 => cntO l k + (if l.getD k 0 < 4 then 1 else 0)
theorem cnt_la {l : List Nat} (hl : ∀ k, k < 36 → l.getD k 0 ≤ 4) : ∀ k, k ≤ 36 → cntO l k + cn (mkn (fun c => decide (l.getD c 0 = 4)) k) = k
  | 0, _ => by show 0 + cn 0 = 0; rw [cn_0]
  | k + 1, h => by
    have ih := cnt_la hl k (by omega)
    have := hl k (by omega)
    rw [cn_mkn _ (by omega)]
    unfold cntO
    simp only [decide_eq_true_eq]
    by_cases e : l.getD k 0 = 4
    · rw [if_pos e, if_neg (by omega)]; omega
    · rw [if_neg e, if_pos (by omega)]; omega
def m29 (o _ : Nat) : Bool := o == 29
theorem lp_N_owners {d : Nat} {w0 : zW} {Q : zQ} {l : List Nat} (hl : l.length = 36) (h4 : ∀ v ∈ l, v ≤ 4) (hA : OA 33 w0 l) (h : ∀ w', (∀ i, i < 36 → gI w' 29 i = nI (l.getD i 0)) → EQX m29 m0L w0 w' → Q (some (.int (nI (cntO l 36)))) w') : ∀ (m k : Nat) (w : zW), k + m = 36 → (∀ i, i < k → gI w 29 i = nI (l.getD i 0)) → EQX m29 m0L w0 w → WP d m_N_owners 5 [some (.ref 10), none, some (.int (nI (cntO l k))), some (.int (nI k))] [] w Q
  | 0, k, w, hk, hG, hy => by
    have e : k = 36 := by omega
    subst e
    exact t_N_owners_5 (fun _ => t_N_owners_10 (h w hG hy)) (fun g => absurd (Int32.le_refl _) g)
  | m + 1, k, w, hk, hG, hy => by
    have e := List.getElem?_eq_getElem (l := l) (i := k) (by omega)
    have ev := gD_of e
    have hle : l.getD k 0 ≤ 4 := by rw [ev]; exact h4 _ (List.getElem_mem _)
    have hv : gI w 33 (nI k).toNatClampNeg = nI (l.getD k 0) := by rw [nI_clamp (by omega), hy.1 33 k rfl, hA k _ e, ev]
    have go : ∀ z : Int32, z = nI (if l.getD k 0 < 4 then 1 else 0) → WP d m_N_owners 9 [some (.ref 10), none, none, some (.int (nI k))] [.int z, .int (nI (cntO l k))] (sI w 29 k (nI (l.getD k 0))) Q := by
      rintro z rfl
      refine t_N_owners_9 ?_
      rw [nI_add, n1]
      refine lp_N_owners hl h4 hA h m (k + 1) _ (by omega) (fun i hi => ?_) (hy.pI (o := 29) (k := k) _ rfl)
      rw [gI_sI]
      by_cases q : i = k
      · rw [if_pos ⟨rfl, q⟩, q]
      · rw [if_neg (fun z => q z.2)]; exact hG i (by omega)
    refine t_N_owners_5 (fun g => absurd g (nI_ge (show k < 36 by omega) (by decide))) (fun _ => t_N_owners_6 (vp_in_lt (by omega) (by decide)) (vp_in_lt (by omega) (by decide)) (vp_in_lt (by omega) (by decide)) (fun g => t_N_owners_8 ?_) (fun g => t_N_owners_7 ?_))
    · have g : (4 : Int32) ≤ gI w 33 (nI k).toNatClampNeg := g
      rw [hv, show (4 : Int32) = nI 4 from rfl, nI_leI (by decide) (by omega)] at g
      rw [hv, nI_clamp (by omega)]
      exact go 0 (by rw [if_neg (by omega)]; rfl)
    · have g : ¬ (4 : Int32) ≤ gI w 33 (nI k).toNatClampNeg := g
      rw [hv, show (4 : Int32) = nI 4 from rfl, nI_leI (by decide) (by omega)] at g
      rw [hv, nI_clamp (by omega)]
      exact go 1 (by rw [if_pos (by omega)]; rfl)
theorem op_owners {d : Nat} {w : zW} (h : RW w) : OPP (d + 3) m_C_owners 2 m_N_owners 4 [.ref 0] [.ref 10] w := by
  obtain ⟨S, K, T, H, h1, h2, h3, h4, h5, h6⟩ := h
  have hT := h5.ok
  have hlT := hT.1
  obtain ⟨hle, hok⟩ := owL_ok (T := T) 36 0 0 [] (Nat.zero_le _) (fun v hv => by cases hv)
  refine n_C_owners (t_C_owners_0 (n_T_readOwners (t_T_readOwners_0 (lp_T_ow (w0 := w) (T := T) (R := owL T 36 0 0 []) hT (fun q wa hr xa => ?_) (fun l wa hr ga xa => ?_) 36 0 0 [] _ rfl rfl (Nat.zero_le _) (h5.tc 0) (fun i e he => (by cases he)) (EQX.rf.pI (o := 3) (k := 2) _ rfl) rfl))))
  · have hq := hle q hr
    refine t_C_owners_1 (n_T_wipe (t_T_wipe_0 (t_C_owners_2 (fun e => absurd e (flt_ne (by omega)).1) (fun _ => t_C_owners_3 ?_))))
    refine n_N_owners (t_N_owners_0 (n_N_readOwners (t_N_readOwners_0 (lp_N_ow (w0 := sI wa 3 1 0) (T := T) (R := owL T 36 0 0 []) hT (fun q' wb hr' hq' hs' tb xb => ?_) (fun l q' wb hr' => ?_) 36 0 0 [] _ rfl rfl (Nat.zero_le _) (tape_tn h5 xa EQX.rf 0) (fun i e he => (by cases he)) (EQX.rf.pI (o := 10) (k := 13) _ rfl) rfl))))
    · rw [hr] at hr'
      injection hr' with hr'
      subst hr'
      refine t_N_owners_1 (s_N_end (b := false) rfl hT hq' tb (fun wc tc xc => t_N_owners_2 (fun e => absurd e ?_) (fun _ => t_N_owners_3 ⟨?_, ?_⟩)))
      · rw [if_neg (by decide), hs']; exact (flt_ne (by omega)).2
      · rw [if_neg (by decide), hs']
      · exact tape_off h1 h2 h3 h4 h6 xa (xb.tr xc.qR) rfl
    · rw [hr] at hr'; cases hr'
  · obtain ⟨hl, ho⟩ := hok l hr
    have hl : l.length = 36 := by simpa using hl
    have hgl : ∀ k, k < 36 → ∃ v, l[k]? = some v ∧ l.getD k 0 = v ∧ v ≤ 4 := fun k hk => ⟨l[k], List.getElem?_eq_getElem (by omega), gD_of (List.getElem?_eq_getElem (by omega)), ho _ (List.getElem_mem _)⟩
    have g2 : GC (sI wa 3 1 0) 1 S := GC_i (xa.gcD h2) (by decide)
    have g3 : GC (cI (sI wa 3 1 0) 18 12 0 0 36) 1 (owT S l) := by
      obtain ⟨a1, a2, a3, a4, a5, a6, a7, a8, a9⟩ := g2
      refine ⟨fun c hc => ?_, fun c hc => ?_, a3, a4, a5, ?_, ?_, ?_, fun j e he => ?_⟩
      · rw [gI_cI, if_neg (by omega)]; exact a1 c hc
      · obtain ⟨v, e1, e2, e3⟩ := hgl c hc
        rw [gI_cI, if_pos (by omega), if_pos (by omega), gI_sI, if_neg (by omega), show 0 + (c - 0) = c by omega, ga c v e1]
        show _ = nI (l.getD c 0)
        rw [e2]
      · rw [gI_cI, if_neg (by omega)]; exact a6
      · rw [gI_cI, if_neg (by omega)]; exact a7
      · rw [gI_cI, if_neg (by omega)]; exact a8
      · rw [gI_cI, if_neg (by omega)]; exact a9 j e he
    have xb : EQX mCI mCL (sI wa 3 1 0) (cI (sI wa 3 1 0) 18 12 0 0 36) := EQX.rf.xI (fun _ => rfl)
    have hk : okS (owT S l) := by
      obtain ⟨a1, a2, a3, a4, a5, a6, a7, a8⟩ := h1
      refine ⟨a1, fun c hc => ?_, a3, a4, a5, a6, a7, a8⟩
      obtain ⟨v, e1, e2, e3⟩ := hgl c hc
      show l.getD c 0 ≤ 4
      rw [e2]; exact e3
    have hcnt := cnt_la (l := l) (fun k hk => by obtain ⟨v, e1, e2, e3⟩ := hgl k hk; rw [e2]; exact e3) 36 (Nat.le_refl _)
    refine t_C_owners_1 (n_T_wipe (t_T_wipe_0 (t_C_owners_2 (fun _ => t_C_owners_4 (t_C_owners_5 (s_G_landOf (o := 4) (by decide) g3 hk (t_C_owners_6 (s_J_bitCount (t_C_owners_7 ?_)))))) (fun e => absurd rfl e))))
    have eans : (36 : Int32) - nI (cn (laS (owT S l) 4)) = nI (cntO l 36) := by
      have hh : cntO l 36 + cn (laS (owT S l) 4) = 36 := hcnt
      rw [show (36 : Int32) = nI 36 from rfl, pk_sub (by omega)]
      congr 1
      omega
    rw [eans]
    refine n_N_owners (t_N_owners_0 (n_N_readOwners (t_N_readOwners_0 (lp_N_ow (w0 := cI (sI wa 3 1 0) 18 12 0 0 36) (T := T) (R := owL T 36 0 0 []) hT (fun q' wc hr' => ?_) (fun l' q' wc hr' hq' tc gc xc => ?_) 36 0 0 [] _ rfl rfl (Nat.zero_le _) (tape_tn h5 xa xb 0) (fun i e he => (by cases he)) (EQX.rf.pI (o := 10) (k := 13) _ rfl) rfl))))
    · rw [hr] at hr'; cases hr'
    · rw [hr] at hr'
      injection hr' with hr'
      subst hr'
      refine t_N_owners_1 (s_N_end (b := true) rfl hT hq' tc (fun wd td xd => t_N_owners_2 (fun _ => t_N_owners_4 ?_) (fun e => absurd (by rw [if_pos rfl]; decide) e)))
      have xcd := xc.tr xd.qR
      have hGE : OA 33 (sI wd 10 12 0) l := fun i e he => by rw [gI_sI, if_neg (by omega)]; exact (gc.qm xd) i e he
      refine lp_N_owners hl ho hGE (fun we gE xe => ⟨rfl, ?_⟩) 36 0 _ rfl (fun i hi => by omega) EQX.rf
      have gN := tape_gn h3 xa xb xcd
      have xe' : EQX mNI mNL (sI wd 10 12 0) we := ⟨fun o k q => xe.1 o k (by
        cases e : m29 o k with
        | false => rfl
        | true => unfold m29 at e; rw [beq_iff_eq] at e; rw [e] at q; cases q), fun o k _ => xe.2 o k rfl⟩
      refine tape_on h4 h6 hk xa xb g3 xcd xe' ?_
      obtain ⟨b1', b2, b3, b4, b5, b6, b7⟩ := gN
      refine ⟨fun c hc => ?_, fun c hc => gE c hc, ?_, ?_, ?_, ?_, fun j e he => ?_⟩
      · rw [xe.1 28 c rfl]; exact b1' c hc
      · rw [xe.2 10 2 rfl]; exact b3
      · rw [xe.1 10 3 rfl]; exact b4
      · rw [xe.1 10 6 rfl]; exact b5
      · rw [xe.1 10 5 rfl]; exact b6
      · rw [xe.1 30 _ rfl, xe.1 30 _ rfl, xe.1 30 _ rfl]; exact b7 j e he
