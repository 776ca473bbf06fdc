/-! ===== round ===== -/
theorem EQX.r35 {w w' : zW} (h : EQX m35 m0L w w') : EQX mRI mRL w w' := ⟨fun o k q => h.1 o k (by
    cases e : m35 o k with
    | false => rfl
    | true => unfold m35 at e; rw [beq_iff_eq] at e; rw [e] at q; cases q), fun o k _ => h.2 o k rfl⟩
def N37 (w : zW) (l : List Int64) : Prop := ∀ c k, c < 36 → k < l.length → gI w 37 (8 * c + k) = nI (gM l k c)
/-- the reference's table of nearest cells -/
theorem lp_N_tab {d : Nat} {w0 : zW} {Q : zQ} {op : Int64} {l : List Int64} {x i : Int32} (hH : HOK op l) (h31 : ∀ k, k < l.length → gL w0 31 k = l.getD k 0)
    (hq : ∀ w', N37 w' l → EQX (fun o _ => o == 37) m0L w0 w' → WP (d + 3) m_N_round 13 [some (.ref 10), some (.int x), some (.int i), some (.int (nI l.length)), none, none, none, none] [] w' Q) : ∀ (m k : Nat) (w : zW), k + m = 36 * l.length → (∀ c j, c < 36 → j < l.length → c * l.length + j < k → gI w 37 (8 * c + j) = nI (gM l j c)) → EQX (fun o _ => o == 37) m0L w0 w → WP (d + 3) m_N_round 10 [some (.ref 10), some (.int x), some (.int i), some (.int (nI l.length)), some (.int (nI k)), none, none, none] [] w Q
  | 0, k, w, hk, hT, hx => by
    have h8 := hH.1
    have e36 : (36 : Int32) * nI l.length = nI (36 * l.length) := pk_mul 36 l.length
    refine t_N_round_10 (fun _ => hq w (fun c j hc hj => hT c j hc hj ?_) hx) (fun g => absurd (by rw [e36]; exact nI_le (by omega) (by omega)) g)
    have : c * l.length ≤ 35 * l.length := Nat.mul_le_mul_right _ (by omega)
    omega
  | m + 1, k, w, hk, hT, hx => by
    have h8 := hH.1
    have e36 : (36 : Int32) * nI l.length = nI (36 * l.length) := pk_mul 36 l.length
    have hn : 0 < l.length := by
      cases hl : l.length with
      | zero => rw [hl] at hk; omega
      | succ z => omega
    have hmod := Nat.mod_lt k hn
    have hdiv : k / l.length < 36 := Nat.div_lt_of_lt_mul (by rw [Nat.mul_comm]; omega)
    have hdm := Nat.div_add_mod k l.length
    have hne : ¬ nI l.length = 0 := fun e => by have := (nI_eqk (k := 0) (by omega) (by decide)).mp e; omega
    have er : zrm (nI k) (nI l.length) = nI (k % l.length) := zrm_n (by omega) hn (by omega)
    have ed : nI k / nI l.length = nI (k / l.length) := pk_div (by omega) hn (by omega)
    obtain ⟨a1, a2, a3⟩ := hH.2.1 _ hmod
    have ei : (8 : Int32) * nI (k / l.length) + nI (k % l.length) = nI (8 * (k / l.length) + k % l.length) := by rw [show (8 : Int32) = nI 8 from rfl, pk_mul, nI_add]
    refine t_N_round_10 (fun g => absurd g (by rw [e36]; exact nI_ge (by omega) (by omega))) (fun _ => t_N_round_11 hne hne hne (by rw [er]; exact vp_in_lt (by omega) (by decide)) hne ?_)
    rw [er, ed, nI_clamp (by omega), hx.2 31 _ rfl, h31 _ hmod, ei]
    refine s_N_near a1 a2 hdiv (t_N_round_12 (vp_in_lt (by omega) (by decide)) ?_)
    rw [n1, nI_clamp (by omega)]
    refine lp_N_tab hH h31 hq m (k + 1) _ (by omega) (fun c j hc hj hcj => ?_) (hx.pI (o := 37) (k := 8 * (k / l.length) + k % l.length) _ rfl)
    rw [gI_sI]
    by_cases q : c * l.length + j = k
    · have e1 : k / l.length = c := by rw [← q, Nat.mul_comm, Nat.mul_add_div hn, Nat.div_eq_of_lt hj, Nat.add_zero]
      have e2 : k % l.length = j := by rw [← q, Nat.mul_comm, Nat.mul_add_mod, Nat.mod_eq_of_lt hj]
      rw [if_pos ⟨rfl, by rw [e1, e2]⟩, e1, e2]; rfl
    · rw [if_neg (fun z => ?_)]
      · exact hT c j hc hj (by omega)
      · have z2 := z.2
        have ec : c = k / l.length := by omega
        have ej : j = k % l.length := by omega
        apply q
        rw [ec, ej, Nat.mul_comm]
        exact hdm
theorem lp_N_id {d : Nat} {w0 : zW} {Q : zQ} {n : Nat} {x i : Int32} (h8 : n ≤ 8) (hq : ∀ w', OR35 w' (List.range n) → EQX m35 m0L w0 w' → WP d m_N_round 16 [some (.ref 10), some (.int x), some (.int i), some (.int (nI n)), none, none, none, none] [] w' Q) : ∀ (m k : Nat) (w : zW), k + m = n → (∀ j, j < k → gI w 35 j = nI j) → EQX m35 m0L w0 w → WP d m_N_round 14 [some (.ref 10), some (.int x), some (.int i), some (.int (nI n)), some (.int (nI k)), none, none, none] [] w Q
  | 0, k, w, hk, hT, hx => by
    have e : k = n := by omega
    subst e
    refine t_N_round_14 (fun _ => hq w (fun j c hc => ?_) hx) (fun g => absurd (Int32.le_refl _) g)
    have hj := (List.getElem?_eq_some_iff.mp hc).1
    rw [List.length_range] at hj
    rw [List.getElem?_range hj] at hc
    injection hc with hc
    rw [← hc]; exact hT j hj
  | m + 1, k, w, hk, hT, hx => by
    refine t_N_round_14 (fun g => absurd g (nI_ge (show k < n by omega) (by omega))) (fun _ => t_N_round_15 (vp_in_lt (by omega) (by decide)) ?_)
    rw [n1, nI_clamp (by omega)]
    refine lp_N_id h8 hq m (k + 1) _ (by omega) (fun j hj => ?_) (hx.pI (o := 35) (k := k) _ rfl)
    rw [gI_sI]
    by_cases q : j = k
    · rw [if_pos ⟨rfl, q⟩, q]
    · rw [if_neg (fun z => q z.2)]; exact hT j (by omega)
def OB (w : zW) (p : List Nat) : Prop := ∀ i k, p[i]? = some k → gI w 36 i = nI k
theorem lp_N_keep {d : Nat} {w0 : zW} {Q : zQ} {p : List Nat} {x i s : Int32} (h8 : p.length ≤ 8) (hO : OR35 w0 p) (hq : ∀ w', OB w' p → EQX (fun o _ => o == 36) m0L w0 w' → WP d m_N_round 24 [some (.ref 10), some (.int x), some (.int i), some (.int (nI p.length)), some (.int s), none, none, none] [] w' Q) : ∀ (m k : Nat) (w : zW), k + m = p.length → (∀ j c, j < k → p[j]? = some c → gI w 36 j = nI c) → EQX (fun o _ => o == 36) m0L w0 w → WP d m_N_round 22 [some (.ref 10), some (.int x), some (.int i), some (.int (nI p.length)), some (.int s), none, none, some (.int (nI k))] [] w Q
  | 0, k, w, hk, hT, hx => by
    have e : k = p.length := by omega
    subst e
    exact t_N_round_22 (fun _ => hq w (fun j c hc => hT j c (List.getElem?_eq_some_iff.mp hc).1 hc) hx) (fun g => absurd (Int32.le_refl _) g)
  | m + 1, k, w, hk, hT, hx => by
    refine t_N_round_22 (fun g => absurd g (nI_ge (show k < p.length by omega) (by omega))) (fun _ => t_N_round_23 (vp_in_lt (by omega) (by decide)) (vp_in_lt (by omega) (by decide)) ?_)
    rw [n1, nI_clamp (by omega)]
    refine lp_N_keep h8 hO hq m (k + 1) _ (by omega) (fun j c hj hc => ?_) (hx.pI (o := 36) (k := k) _ rfl)
    rw [gI_sI]
    by_cases q : j = k
    · rw [if_pos ⟨rfl, q⟩, hx.1 35 k rfl]
      exact hO k c (by rw [← q]; exact hc)
    · rw [if_neg (fun z => q z.2)]; exact hT j c (by omega) hc
/-- the reference's best so far -/
def LST (w : zW) (le : Int32) (st : Nat × List Nat) : Prop := (le = -1 ∧ st = (1000, [])) ∨ (le = nI st.1 ∧ st.1 < 1000 ∧ OB w st.2)
theorem lp_N_orders {d : Nat} {w0 : zW} {Q : zQ} {op : Int64} {l : List Int64} {at' : Nat} {i : Int32} (hH : HOK op l) (hat : at' < 36) {R : Nat × List Nat} {wL : zW}
    (hq : ∀ w' le, LST w' le R → EQX mRI mRL w0 w' → (∀ k, gL w' 31 k = gL wL 31 k) → WP (d + 3) m_N_round 26 [some (.ref 10), none, some (.int i), some (.int (nI l.length)), some (.int le), none, none, none] [] w' Q) : ∀ (L : List (List Nat)) (p : List Nat) (st : Nat × List Nat) (le : Int32) (w : zW), CI (p :: L) → (∀ q ∈ p :: L, q.Perm (List.range l.length)) → (p :: L).getLast? = some (List.range l.length).reverse → (p :: L).foldl (fbS (gM l) 0 at' []) st = R → OR35 w p → N37 w l → LST w le st → EQX mRI mRL w0 w → (∀ k, gL w 31 k = gL wL 31 k) → WP (d + 3) m_N_round 18 [some (.ref 10), some (.int (nI at')), some (.int i), some (.int (nI l.length)), some (.int le), none, none, none] [] w Q := by
  have h8 := hH.1
  have hgm : ∀ k c, k < l.length → gM l k c < 36 := fun k c hk => by
    obtain ⟨a1, a2, a3⟩ := hH.2.1 k hk
    exact (nr_mem a1 a2 c).2.2
  intro L
  induction L with
  | nil =>
    intro p st le w hC hP hlast hf hO h37 hL hx h31
    have hpp := hP p (List.mem_cons_self ..)
    have hpl : p.length = l.length := by rw [hpp.length_eq, List.length_range]
    have hpk : ∀ k ∈ p, k < l.length := fun k hk => List.mem_range.mp (hpp.subset hk)
    have hcl := cst_le hgm p at' hat hpk
    have e37 : (p :: ([] : List (List Nat))).foldl (fbS (gM l) 0 at' []) st = fbS (gM l) 0 at' [] st p := rfl
    rw [e37] at hf
    have hrev : p = (List.range l.length).reverse := Option.some.inj hlast
    have hdec : p.Pairwise (· > ·) := by rw [hrev, List.pairwise_reverse]; exact List.pairwise_lt_range
    have fin : ∀ (wa : zW) (la : Int32), LST wa la R → OR35 wa p → EQX mRI mRL w0 wa → (∀ k, gL wa 31 k = gL w 31 k) → WP (d + 3) m_N_round 24 [some (.ref 10), some (.int (nI at')), some (.int i), some (.int (nI l.length)), some (.int la), none, none, none] [] wa Q := fun wa la ha hoa xa x31 => by
      refine t_N_round_24 ?_
      rw [← hpl]
      refine s_N_last (by omega) (fun k hk => by have := hpk k hk; omega) hoa hdec (t_N_round_25 (t_N_round_17 (fun _ => ?_) (fun g => absurd rfl g)))
      rw [hpl]
      exact hq wa la ha xa (fun k => (x31 k).trans (h31 k))
    have upd : cst (gM l) at' p < st.1 → WP (d + 3) m_N_round 21 [some (.ref 10), some (.int (nI at')), some (.int i), some (.int (nI l.length)), none, none, some (.int (nI (cst (gM l) at' p))), none] [] w Q := fun hlt => by
      have e : fbS (gM l) 0 at' [] st p = (cst (gM l) at' p, p) := by
        unfold fbS; rw [if_pos (by omega), Nat.zero_add]; rfl
      rw [e] at hf
      refine t_N_round_21 ?_
      rw [← hpl]
      refine lp_N_keep (by omega) hO (fun wa oa xa => ?_) p.length 0 w (by omega) (fun j c hj => by omega) EQX.rf
      rw [hpl]
      have xr : EQX mRI mRL w wa := ⟨fun o k q => xa.1 o k (by
        cases e : (o == 36) with
        | false => exact e
        | true => rw [beq_iff_eq] at e; rw [e] at q; cases q), fun o k _ => xa.2 o k rfl⟩
      refine fin wa _ (by rw [← hf]; exact Or.inr ⟨rfl, by show cst (gM l) at' p < 1000; omega, oa⟩) (fun j c hc => by rw [xa.1 35 j rfl]; exact hO j c hc) (hx.tr xr) (fun k => xa.2 31 k rfl)
    refine t_N_round_18 (n_N_stepsOf (t_N_stepsOf_0 (lp_N_steps (n := l.length) h8 hpl hpk hgm hO h37 l.length 0 at' 0 (by omega) hat (t_N_round_19 (fun g => ?_) (fun g => t_N_round_20 (fun g2 => ?_) (fun g2 => ?_))))))
    all_goals (try rw [List.drop_zero, Nat.zero_add])
    · rcases hL with ⟨h1, h2⟩ | ⟨h1, h2, h3⟩
      · exact upd (by rw [h2]; show cst (gM l) at' p < 1000; omega)
      · rw [h1] at g; exact absurd g (not_neg (by omega))
    · rcases hL with ⟨h1, h2⟩ | ⟨h1, h2, h3⟩
      · rw [h1] at g; exact absurd (by decide) g
      · have g2 : le ≤ nI (0 + cst (gM l) at' (p.drop 0)) := g2
        rw [List.drop_zero, Nat.zero_add, h1, nI_leI (by omega) (by omega)] at g2
        have e : fbS (gM l) 0 at' [] st p = st := if_neg (by omega)
        rw [e] at hf
        exact fin w le (by rw [← hf]; exact Or.inr ⟨h1, h2, h3⟩) hO hx (fun _ => rfl)
    · rcases hL with ⟨h1, h2⟩ | ⟨h1, h2, h3⟩
      · exact upd (by rw [h2]; show cst (gM l) at' p < 1000; omega)
      · have g2 : ¬ le ≤ nI (0 + cst (gM l) at' (p.drop 0)) := g2
        rw [List.drop_zero, Nat.zero_add, h1, nI_leI (by omega) (by omega)] at g2
        exact upd (by omega)
  | cons q L ih =>
    intro p st le w hC hP hlast hf hO h37 hL hx h31
    have hpp := hP p (List.mem_cons_self ..)
    have hpl : p.length = l.length := by rw [hpp.length_eq, List.length_range]
    have hpk : ∀ k ∈ p, k < l.length := fun k hk => List.mem_range.mp (hpp.subset hk)
    have hcl := cst_le hgm p at' hat hpk
    rw [List.foldl_cons] at hf
    have fin : ∀ (wa : zW) (la : Int32), LST wa la (fbS (gM l) 0 at' [] st p) → OR35 wa p → N37 wa l → EQX mRI mRL w0 wa → (∀ k, gL wa 31 k = gL w 31 k) → WP (d + 3) m_N_round 24 [some (.ref 10), some (.int (nI at')), some (.int i), some (.int (nI l.length)), some (.int la), none, none, none] [] wa Q := fun wa la ha hoa h37a xa x31 => by
      refine t_N_round_24 ?_
      rw [← hpl]
      refine s_N_next (by omega) (fun k hk => by have := hpk k hk; omega) hoa hC.1 (fun wb ob xb => t_N_round_25 (t_N_round_17 (fun g => absurd g (by decide)) (fun _ => ?_)))
      rw [hpl]
      refine ih q _ la wb hC.2 (fun z hz => hP z (List.mem_cons_of_mem _ hz)) (by rw [List.getLast?_cons_cons] at hlast; exact hlast) hf ob (fun c k hc hk => by rw [xb.1 37 _ rfl]; exact h37a c k hc hk) ?_ (xa.tr xb.r35) (fun k => by rw [xb.2 31 k rfl, x31 k]; exact h31 k)
      rcases ha with ha | ⟨h1, h2, h3⟩
      · exact Or.inl ha
      · exact Or.inr ⟨h1, h2, fun j c hc => by rw [xb.1 36 j rfl]; exact h3 j c hc⟩
    have upd : cst (gM l) at' p < st.1 → WP (d + 3) m_N_round 21 [some (.ref 10), some (.int (nI at')), some (.int i), some (.int (nI l.length)), none, none, some (.int (nI (cst (gM l) at' p))), none] [] w Q := fun hlt => by
      have e : fbS (gM l) 0 at' [] st p = (cst (gM l) at' p, p) := by
        unfold fbS; rw [if_pos (by omega), Nat.zero_add]; rfl
      refine t_N_round_21 ?_
      rw [← hpl]
      refine lp_N_keep (by omega) hO (fun wa oa xa => ?_) p.length 0 w (by omega) (fun j c hj => by omega) EQX.rf
      rw [hpl]
      have xr : EQX mRI mRL w wa := ⟨fun o k q => xa.1 o k (by
        cases e : (o == 36) with
        | false => exact e
        | true => rw [beq_iff_eq] at e; rw [e] at q; cases q), fun o k _ => xa.2 o k rfl⟩
      refine fin wa _ (by rw [e]; exact Or.inr ⟨rfl, by show cst (gM l) at' p < 1000; omega, oa⟩) (fun j c hc => by rw [xa.1 35 j rfl]; exact hO j c hc) (fun c k hc hk => by rw [xa.1 37 _ rfl]; exact h37 c k hc hk) (hx.tr xr) (fun k => xa.2 31 k rfl)
    refine t_N_round_18 (n_N_stepsOf (t_N_stepsOf_0 (lp_N_steps (n := l.length) h8 hpl hpk hgm hO h37 l.length 0 at' 0 (by omega) hat (t_N_round_19 (fun g => ?_) (fun g => t_N_round_20 (fun g2 => ?_) (fun g2 => ?_))))))
    all_goals (try rw [List.drop_zero, Nat.zero_add])
    · rcases hL with ⟨h1, h2⟩ | ⟨h1, h2, h3⟩
      · exact upd (by rw [h2]; show cst (gM l) at' p < 1000; omega)
      · rw [h1] at g; exact absurd g (not_neg (by omega))
    · rcases hL with ⟨h1, h2⟩ | ⟨h1, h2, h3⟩
      · rw [h1] at g; exact absurd (by decide) g
      · have g2 : le ≤ nI (0 + cst (gM l) at' (p.drop 0)) := g2
        rw [List.drop_zero, Nat.zero_add, h1, nI_leI (by omega) (by omega)] at g2
        have e : fbS (gM l) 0 at' [] st p = st := if_neg (by omega)
        exact fin w le (by rw [e]; exact Or.inr ⟨h1, h2, h3⟩) hO h37 hx (fun _ => rfl)
    · rcases hL with ⟨h1, h2⟩ | ⟨h1, h2, h3⟩
      · exact upd (by rw [h2]; show cst (gM l) at' p < 1000; omega)
      · have g2 : ¬ le ≤ nI (0 + cst (gM l) at' (p.drop 0)) := g2
        rw [List.drop_zero, Nat.zero_add, h1, nI_leI (by omega) (by omega)] at g2
        exact upd (by omega)
theorem fold_mem {g : Nat → Nat → Nat} {at' : Nat} : ∀ (L : List (List Nat)) (st : Nat × List Nat), L.foldl (fbS g 0 at' []) st = st ∨ ∃ p ∈ L, (L.foldl (fbS g 0 at' []) st).2 = p
  | [], st => Or.inl rfl
  | p :: L, st => by
    rw [List.foldl_cons]
    rcases fold_mem L (fbS g 0 at' [] st p) with h | ⟨q, hq, h⟩
    · rw [h]
      unfold fbS
      split
      · exact Or.inr ⟨p, List.mem_cons_self .., rfl⟩
      · exact Or.inl rfl
    · exact Or.inr ⟨q, List.mem_cons_of_mem _ hq, h⟩
theorem rn_perm {op : Int64} {at' : Nat} (hop : SET op) (h8 : (hls op).length ≤ 8) (hat : at' < 36) : (rnR op at').2.Perm (List.range (hls op).length) := by
  have hH := hok_hls hop h8
  obtain ⟨-, hhead, -⟩ := pl_chain (hls op).length (List.range (hls op).length) List.length_range List.pairwise_lt_range
  have hgm : ∀ k c, k < (hls op).length → gM (hls op) k c < 36 := fun k c hk => by
    obtain ⟨a1, a2, a3⟩ := hH.2.1 k hk
    exact (nr_mem a1 a2 c).2.2
  unfold rnR
  cases hL : plF (hls op).length (List.range (hls op).length) with
  | nil => rw [hL] at hhead; cases hhead
  | cons p L =>
    have hP : ∀ q ∈ p :: L, q.Perm (List.range (hls op).length) := fun q hq => pl_perm _ _ q List.length_range (by rw [hL]; exact hq)
    have hpp := hP p (List.mem_cons_self ..)
    have hcl := cst_le hgm p at' hat (fun k hk => List.mem_range.mp (hpp.subset hk))
    rw [hpp.length_eq, List.length_range] at hcl
    rw [List.foldl_cons]
    have e : fbS (gM (hls op)) 0 at' [] (1000, []) p = (cst (gM (hls op)) at' p, p) := by
      unfold fbS; rw [if_pos (by show 0 + cst (gM (hls op)) at' p < 1000; omega), Nat.zero_add]; rfl
    rw [e]
    rcases fold_mem (g := gM (hls op)) (at' := at') L (cst (gM (hls op)) at' p, p) with h | ⟨q, hq, h⟩
    · rw [h]; exact hpp
    · rw [h]; exact hP q (List.mem_cons_of_mem _ hq)
def roundA (S : zS) (x i : Int32) : Int32 := if isC x = true ∧ inI i (-1) 7 = true then (if 8 < (hls (opS S)).length then -3 else if nI (hls (opS S)).length ≤ i then -4 else if 0 ≤ i then nI (lo6 ((hls (opS S)).getD ((rnR (opS S) x.toNatClampNeg).2.getD i.toNatClampNeg 0) 0)) else nI (rnR (opS S) x.toNatClampNeg).1) else -1
theorem op_round {d : Nat} {w : zW} {x i : Int32} (h : RW w) : OPP (d + 13) m_C_round 4 m_N_round 8 [.ref 0, .int x, .int i] [.ref 10, .int x, .int i] w := by
  have lt8 : ∀ {i : Int32}, i < 8 ↔ i ≤ 7 := fun {i} => by
    rw [Int32.le_iff_toInt_le, Int32.lt_iff_toInt_lt]
    have e9 : (7 : Int32).toInt = 7 := by decide
    have e10 : (8 : Int32).toInt = 8 := by decide
    omega
  refine opQ (f := fun S => .int (roundA S x i)) (fun S Q hG hk q => ?_) (fun S w Q hG hk q => ?_) h
  · have e2 : gL w 1 2 = opS S := hG.2.2.1
    have hS := SET_op S
    have h36 := hls_36 (S := S)
    have bad : ¬ (isC x = true ∧ inI i (-1) 7 = true) → WP (d + 13) m_C_round 4 [none, none, none, none] [] w Q := fun hb => t_C_round_4 (q _ w (by simp only [roundA, if_neg hb]) EQX.rf)
    refine n_C_round (t_C_round_0 (s_C_isCell (t_C_round_1 (fun g => bad (fun z => ?_)) (fun g => t_C_round_2 (fun g2 => bad (fun z => ?_)) (fun g2 => t_C_round_3 (fun g3 => t_C_round_5 ?_) (fun g3 => bad (fun z => ?_)))))))
    · rw [z.1] at g; cases g
    · rw [inI_f.mpr (Or.inl g2)] at z; cases z.2
    · have hx := zb_f.mp g
      have hi := inI_t g2 (lt8.mp g3)
      obtain ⟨a, ha, rfl⟩ := isC_of hx
      have hca : (nI a).toNatClampNeg = a := nI_clamp (by omega)
      have eA : roundA S (nI a) i = if 8 < (hls (opS S)).length then -3 else if nI (hls (opS S)).length ≤ i then -4 else if 0 ≤ i then nI (lo6 ((hls (opS S)).getD ((rnR (opS S) a).2.getD i.toNatClampNeg 0) 0)) else nI (rnR (opS S) a).1 := by
        unfold roundA; rw [if_pos ⟨hx, hi⟩, hca]
      rw [eA] at q
      rw [e2]
      refine s_P_holesOf (t_C_round_6 (fun g4 => t_C_round_8 (fun g5 => t_C_round_10 ?_) (fun g5 => t_C_round_9 (q _ w ?_ EQX.rf))) (fun g4 => t_C_round_7 (q _ w ?_ EQX.rf)))
      · have h8 : (hls (opS S)).length ≤ 8 := (nI_leI (b := 8) (by omega) (by decide)).mp g4
        rw [if_neg (by omega), if_neg (by rw [Int32.not_le]; exact g5)] at q
        rw [e2, show d + 12 = d + (8 - (hls (opS S)).length) + (hls (opS S)).length + 4 by omega]
        refine s_M_walk hS h8 ha (fun wa hb xa => t_C_round_11 (fun g6 => ?_) (fun g6 => t_C_round_12 (t_C_round_14 (q _ wa ?_ xa))))
        · obtain ⟨e, hik⟩ := pick_i g6
          have hin : i.toNatClampNeg < (hls (opS S)).length := by rw [e, nI_ltI hik (by omega)] at g5; exact g5
          refine t_C_round_13 (by rw [e]; exact vp_in_lt (by omega) (by decide)) (t_C_round_14 (q _ wa ?_ xa))
          rw [if_pos g6]
          have hpp := rn_perm hS h8 ha
          have hil : i.toNatClampNeg < (rnR (opS S) a).2.length := by rw [hpp.length_eq, List.length_range]; exact hin
          rw [hb.2 _ _ (List.getElem?_eq_getElem hil), gD_of (List.getElem?_eq_getElem hil)]
        · rw [if_neg g6, hb.1]
      · have h8 : (hls (opS S)).length ≤ 8 := (nI_leI (b := 8) (by omega) (by decide)).mp g4
        rw [if_neg (by omega), if_pos (by rw [Int32.not_lt] at g5; exact g5)]
      · rw [if_pos (Nat.lt_of_not_le fun z => g4 (nI_le (b := 8) z (by decide)))]
    · rw [inI_f.mpr (Or.inr (fun y => g3 (lt8.mpr y)))] at z; cases z.2
  · have hS := SET_op S
    have h36 := hls_36 (S := S)
    have bad : ¬ (isC x = true ∧ inI i (-1) 7 = true) → WP (d + 13) m_N_round 4 [none, none, none, none, none, none, none, none] [] w Q := fun hb => t_N_round_4 (q _ w (by simp only [roundA, if_neg hb]) EQX.rf)
    refine n_N_round (t_N_round_0 (s_N_isCell (t_N_round_1 (fun g => bad (fun z => ?_)) (fun g => t_N_round_2 (s_N_inI (a := -1) (b := 7) rfl rfl (t_N_round_3 (fun g2 => t_N_round_5 (s_N_look hG hk (fun wa hw => t_N_round_6 (s_N_findHoles (by rw [hw.1]; exact hS) (fun wb hf => ?_))))) (fun g2 => bad (fun z => ?_))))))))
    · rw [z.1] at g; cases g
    · have hx := zb_f.mp g
      have hi := zb_f.mp g2
      obtain ⟨a, ha, rfl⟩ := isC_of hx
      have hca : (nI a).toNatClampNeg = a := nI_clamp (by omega)
      have eA : roundA S (nI a) i = if 8 < (hls (opS S)).length then -3 else if nI (hls (opS S)).length ≤ i then -4 else if 0 ≤ i then nI (lo6 ((hls (opS S)).getD ((rnR (opS S) a).2.getD i.toNatClampNeg 0) 0)) else nI (rnR (opS S) a).1 := by
        unfold roundA; rw [if_pos ⟨hx, hi⟩, hca]
      rw [eA] at q
      rw [hw.1] at hf
      have xb : EQX mRI mRL w wb := hw.eqx.tr hf.eqx
      refine t_N_round_7 (fun g4 => t_N_round_9 ?_) (fun g4 => t_N_round_8 (q _ wb ?_ xb))
      · rw [hf.1] at g4 ⊢
        have h8 : (hls (opS S)).length ≤ 8 := (nI_leI (b := 8) (by omega) (by decide)).mp g4
        have hH := hok_hls hS h8
        have h31 : ∀ k, k < (hls (opS S)).length → gL wb 31 k = (hls (opS S)).getD k 0 := fun k hk => by
          rw [hf.2.2.1 k _ (List.getElem?_eq_getElem hk), getD_get hk]
        have x37 : ∀ {u u' : zW}, EQX (fun o _ => o == 37) m0L u u' → EQX mRI mRL u u' := fun x => ⟨fun o k z => x.1 o k (by
          cases e : (o == 37) with
          | false => exact e
          | true => rw [beq_iff_eq] at e; rw [e] at z; cases z), fun o k _ => x.2 o k rfl⟩
        refine lp_N_tab (d := d + 10) hH h31 (fun wc hc xc => t_N_round_13 (lp_N_id (n := (hls (opS S)).length) h8 (fun wd hd xd => t_N_round_16 (t_N_round_17 (fun z => absurd z (by decide)) (fun _ => ?_))) (hls (opS S)).length 0 wc (by omega) (fun j hj => by omega) EQX.rf)) (36 * (hls (opS S)).length) 0 wb (by omega) (fun c j hc hj hcj => by omega) EQX.rf
        obtain ⟨hci, hhead, hlast⟩ := pl_chain (hls (opS S)).length (List.range (hls (opS S)).length) List.length_range List.pairwise_lt_range
        cases hL : plF (hls (opS S)).length (List.range (hls (opS S)).length) with
        | nil => rw [hL] at hhead; cases hhead
        | cons p L =>
          have hpr : p = List.range (hls (opS S)).length := by rw [hL] at hhead; exact Option.some.inj hhead
          refine lp_N_orders (d := d + 10) (w0 := w) (l := hls (opS S)) (at' := a) (R := rnR (opS S) a) (wL := wb) hH ha (fun we le hle xe y31 => ?_) L p (1000, []) (-1) wd (by rw [← hL]; exact hci) (fun z hz => pl_perm _ _ z List.length_range (by rw [hL]; exact hz)) (by rw [← hL]; exact hlast) (by rw [← hL]; rfl) (by rw [hpr]; exact hd) (fun c k hc' hk' => by rw [xd.1 37 _ rfl]; exact hc c k hc' hk') (Or.inl ⟨rfl, rfl⟩) ((xb.tr (x37 xc)).tr xd.r35) (fun k => by rw [xd.2 31 k rfl, xc.2 31 k rfl])
          have hpp := rn_perm hS h8 ha
          rw [if_neg (by omega)] at q
          have hle2 : le = nI (rnR (opS S) a).1 ∧ OB we (rnR (opS S) a).2 := by
            rcases hle with ⟨-, h2⟩ | ⟨h1, -, h3⟩
            · have hH2 := hok_hls hS h8
              have hgm : ∀ k c, k < (hls (opS S)).length → gM (hls (opS S)) k c < 36 := fun k c hk => by
                obtain ⟨a1, a2, a3⟩ := hH2.2.1 k hk
                exact (nr_mem a1 a2 c).2.2
              exfalso
              have hPp := pl_perm _ _ p List.length_range (show p ∈ plF (hls (opS S)).length (List.range (hls (opS S)).length) by rw [hL]; exact List.mem_cons_self ..)
              have hcl := cst_le hgm p a ha (fun k hk => List.mem_range.mp (hPp.subset hk))
              rw [hPp.length_eq, List.length_range] at hcl
              have hmono : ∀ (M : List (List Nat)) (z : Nat × List Nat), (M.foldl (fbS (gM (hls (opS S))) 0 a []) z).1 ≤ z.1 := by
                intro M
                induction M with
                | nil => intro z; exact Nat.le_refl _
                | cons y M ihM =>
                  intro z
                  rw [List.foldl_cons]
                  refine Nat.le_trans (ihM _) ?_
                  unfold fbS
                  split
                  · rename_i hz; exact Nat.le_of_lt hz
                  · exact Nat.le_refl _
              have h1000 : (rnR (opS S) a).1 = 1000 := by rw [h2]
              unfold rnR at h1000
              rw [hL, List.foldl_cons] at h1000
              have := hmono L (fbS (gM (hls (opS S))) 0 a [] (1000, []) p)
              rw [h1000] at this
              unfold fbS at this
              rw [if_pos (by show 0 + cst (gM (hls (opS S))) a p < 1000; omega)] at this
              have this : 1000 ≤ 0 + cst (gM (hls (opS S))) a p := this
              omega
            · exact ⟨h1, h3⟩
          refine t_N_round_26 (fun g6 => t_N_round_28 (fun g7 => t_N_round_31 (t_N_round_32 (q _ we ?_ xe))) (fun g7 => ?_)) (fun g6 => t_N_round_27 (t_N_round_32 (q _ we ?_ xe)))
          · rw [if_pos g7]
          · obtain ⟨e, hik⟩ := pick_i g6
            have hin : i.toNatClampNeg < (hls (opS S)).length := Nat.lt_of_not_le fun z => g7 (by rw [e]; exact nI_le z hik)
            have hil : i.toNatClampNeg < (rnR (opS S) a).2.length := by rw [hpp.length_eq, List.length_range]; exact hin
            have hk' : (rnR (opS S) a).2[i.toNatClampNeg] < (hls (opS S)).length := List.mem_range.mp (hpp.subset (List.getElem_mem hil))
            have e36 := hle2.2 _ _ (List.getElem?_eq_getElem hil)
            refine t_N_round_29 (by rw [e]; exact vp_in_lt (by omega) (by decide)) (by rw [e36]; exact vp_in_lt (by omega) (by decide)) ?_
            rw [e36, nI_clamp (by omega)]
            have e31 : gL we 31 (rnR (opS S) a).2[i.toNatClampNeg] = (hls (opS S)).getD (rnR (opS S) a).2[i.toNatClampNeg] 0 := by rw [y31]; exact h31 _ hk'
            rw [e31]
            obtain ⟨a1, a2, a3⟩ := hH.2.1 _ hk'
            refine s_N_least a2 a1 (t_N_round_30 (t_N_round_32 (q _ we ?_ xe)))
            rw [if_neg g7, if_pos g6, gD_of (List.getElem?_eq_getElem hil)]
          · rw [if_neg (fun z => ?_), if_neg g6, hle2.1]
            refine g6 ?_
            have := nI_le (a := 0) (Nat.zero_le (hls (opS S)).length) (by omega)
            exact Int32.le_trans this z
      · rw [hf.1] at g4
        rw [if_pos (Nat.lt_of_not_le fun z => g4 (nI_le (b := 8) z (by decide)))]
    · rw [zb_t.mp g2] at z; cases z.2
