/-! ===== a day ===== -/
def kdA (T : List Nat) (p : Nat) : Option Nat := if T[sk T p]? = some 100 then some 0 else if T[sk T p]? = some 102 then some 1 else if T[sk T p]? = some 114 then some 2 else none
def stD (T : List Nat) (p : Nat) : Nat ⊕ (Nat × Nat × Nat) := match kdA T p with
  | none => .inl (sk T p)
  | some k => match fgA T (sk T p + 1) 53 with
    | none => .inl (sk T (sk T p + 1))
    | some r => match fgA T (sk T (sk T p + 1) + 1) 53 with
      | none => .inl (sk T (sk T (sk T p + 1) + 1))
      | some c => .inr (k, 6 * r + c, sk T (sk T (sk T p + 1) + 1) + 1)
theorem kdA_lt {T : List Nat} {p k : Nat} (h : kdA T p = some k) : sk T p < T.length ∧ k < 3 := by
  unfold kdA at h
  split at h
  · rename_i e; injection h with h; exact ⟨(List.getElem?_eq_some_iff.mp e).1, by omega⟩
  · split at h
    · rename_i e; injection h with h; exact ⟨(List.getElem?_eq_some_iff.mp e).1, by omega⟩
    · split at h
      · rename_i e; injection h with h; exact ⟨(List.getElem?_eq_some_iff.mp e).1, by omega⟩
      · cases h
theorem stD_ok {T : List Nat} {p : Nat} (hp : p ≤ T.length) : (∀ q, stD T p = .inl q → q ≤ T.length) ∧ ∀ e, stD T p = .inr e → e.1 < 3 ∧ e.2.1 < 36 ∧ p + 3 ≤ e.2.2 ∧ e.2.2 ≤ T.length := by
  have hs := sk_le hp
  unfold stD
  cases ek : kdA T p with
  | none => exact ⟨fun q h => by injection h with h; rw [← h]; exact hs.2, fun e h => by cases h⟩
  | some k =>
    obtain ⟨hk1, hk2⟩ := kdA_lt ek
    have hs2 := sk_le (T := T) (p := sk T p + 1) (by omega)
    dsimp only
    cases er : fgA T (sk T p + 1) 53 with
    | none => exact ⟨fun q h => by injection h with h; rw [← h]; exact hs2.2, fun e h => by cases h⟩
    | some r =>
      obtain ⟨f1, f2⟩ := fgA_of er
      have f3 := (List.getElem?_eq_some_iff.mp f1).1
      have hs3 := sk_le (T := T) (p := sk T (sk T p + 1) + 1) (by omega)
      dsimp only
      cases ec : fgA T (sk T (sk T p + 1) + 1) 53 with
      | none => exact ⟨fun q h => by injection h with h; rw [← h]; exact hs3.2, fun e h => by cases h⟩
      | some c =>
        obtain ⟨f4, f5⟩ := fgA_of ec
        have f6 := (List.getElem?_eq_some_iff.mp f4).1
        refine ⟨fun q h => (by cases h), fun e h => ?_⟩
        injection h with h
        rw [← h]
        refine ⟨hk2, ?_, ?_, ?_⟩
        · show 6 * r + c < 36; omega
        · show p + 3 ≤ sk T (sk T (sk T p + 1) + 1) + 1; omega
        · show sk T (sk T (sk T p + 1) + 1) + 1 ≤ T.length; omega
/-- where a repair ends, and how it is told -/
def rpP (R : Nat ⊕ (Nat × Nat × Nat)) : Nat := match R with
  | .inl q => q
  | .inr e => e.2.2
def rpV (R : Nat ⊕ (Nat × Nat × Nat)) : Int32 := match R with
  | .inl _ => -1
  | .inr e => nI (e.1 * 36 + e.2.1)
theorem s_T_nextRepair {d : Nat} {w : zW} {Q : zQ} {T : List Nat} {p : Nat} (hT : okT T) (hp : p ≤ T.length) (hC : TC w T p) (h : ∀ w', TC w' T (rpP (stD T p)) → EQX mPI m0L w w' → Q (some (.int (rpV (stD T p)))) w') : WM (d + 2) m_T_nextRepair 4 [.ref 3] w Q := by
  have hs := sk_le hp
  have hlT := hT.1
  have key : ∀ (k : Nat) (z : Int32) (wa : zW), kdA T p = some k → z = nI k → TC wa T (sk T p + 1) → EQX mPI m0L w wa → WP (d + 2) m_T_nextRepair 10 [some (.ref 3), none, none, none] [.int z] wa Q := by
    intro k z wa ek ez ta xa
    subst ez
    obtain ⟨hk1, hk2⟩ := kdA_lt ek
    have hp1 : sk T p + 1 ≤ T.length := by omega
    have hs2 := sk_le hp1
    refine t_T_nextRepair_10 (fun _ => t_T_nextRepair_12 (s_T_nextFigure (g := 53) rfl (by decide) hT hp1 ta (fun wb tb xb => ?_))) (fun q => absurd (nI_le (a := 0) (Nat.zero_le _) (by omega)) q)
    cases er : fgA T (sk T p + 1) 53 with
    | none =>
      have e1 : stD T p = .inl (sk T (sk T p + 1)) := by unfold stD; rw [ek]; dsimp only; rw [er]
      have hpb : fgP T (sk T p + 1) 53 = sk T (sk T p + 1) := by unfold fgP; rw [er]
      rw [e1] at h
      rw [hpb] at tb
      exact t_T_nextRepair_13 (fun q => absurd q (by decide)) (fun _ => t_T_nextRepair_14 (h wb tb (xa.tr xb)))
    | some r =>
      obtain ⟨f1, f2⟩ := fgA_of er
      have f3 := (List.getElem?_eq_some_iff.mp f1).1
      have hpb : fgP T (sk T p + 1) 53 = sk T (sk T p + 1) + 1 := by unfold fgP; rw [er]
      have hp2 : sk T (sk T p + 1) + 1 ≤ T.length := by omega
      rw [hpb] at tb
      refine t_T_nextRepair_13 (fun _ => t_T_nextRepair_15 (s_T_nextFigure (g := 53) rfl (by decide) hT hp2 tb (fun wc tc xc => ?_))) (fun q => absurd (nI_le (a := 0) (Nat.zero_le _) (by omega)) q)
      cases ec : fgA T (sk T (sk T p + 1) + 1) 53 with
      | none =>
        have e1 : stD T p = .inl (sk T (sk T (sk T p + 1) + 1)) := by unfold stD; rw [ek]; dsimp only; rw [er]; dsimp only; rw [ec]
        have hpc : fgP T (sk T (sk T p + 1) + 1) 53 = sk T (sk T (sk T p + 1) + 1) := by unfold fgP; rw [ec]
        rw [e1] at h
        rw [hpc] at tc
        exact t_T_nextRepair_16 (fun q => absurd q (by decide)) (fun _ => t_T_nextRepair_17 (t_T_nextRepair_19 (h wc tc ((xa.tr xb).tr xc))))
      | some c =>
        obtain ⟨f4, f5⟩ := fgA_of ec
        have e1 : stD T p = .inr (k, 6 * r + c, sk T (sk T (sk T p + 1) + 1) + 1) := by unfold stD; rw [ek]; dsimp only; rw [er]; dsimp only; rw [ec]
        have hpc : fgP T (sk T (sk T p + 1) + 1) 53 = sk T (sk T (sk T p + 1) + 1) + 1 := by unfold fgP; rw [ec]
        rw [e1] at h
        rw [hpc] at tc
        refine t_T_nextRepair_16 (fun _ => t_T_nextRepair_18 (t_T_nextRepair_19 ?_)) (fun q => absurd (nI_le (a := 0) (Nat.zero_le _) (by omega)) q)
        have ev : nI k * 36 + fgV (some r) * 6 + fgV (some c) = nI (k * 36 + (6 * r + c)) := by
          show nI k * nI 36 + nI r * nI 6 + nI c = _
          rw [pk_mul, pk_mul, nI_add, nI_add, Nat.mul_comm r 6, Nat.add_assoc]
        rw [ev]
        exact h wc tc ((xa.tr xb).tr xc)
  have e1 : nxP T (sk T p) 100 = nxP T p 100 := by unfold nxP; rw [sk_sk hp]
  refine n_T_nextRepair (t_T_nextRepair_0 (s_T_isNext (c := 100) rfl (by decide) hT hp hC (fun wa ta xa => t_T_nextRepair_1 (fun u => t_T_nextRepair_3 ?_) (fun u => t_T_nextRepair_2 ?_))))
  · have u := of_decide_eq_false (zb_t.mp u)
    have hpn : nxP T p 100 = sk T p := by unfold nxP; rw [if_neg u]
    rw [hpn] at ta
    refine s_T_isNext (c := 102) rfl (by decide) hT hs.2 ta (fun wb tb xb => t_T_nextRepair_4 (fun u2 => t_T_nextRepair_6 ?_) (fun u2 => t_T_nextRepair_5 ?_))
    · have u2 := of_decide_eq_false (zb_t.mp u2)
      rw [sk_sk hp] at u2
      have hpn : nxP T (sk T p) 102 = sk T p := by unfold nxP; rw [sk_sk hp, if_neg u2]
      rw [hpn] at tb
      refine s_T_isNext (c := 114) rfl (by decide) hT hs.2 tb (fun wc tc xc => t_T_nextRepair_7 (fun u3 => t_T_nextRepair_9 ?_) (fun u3 => t_T_nextRepair_8 ?_))
      · have u3 := of_decide_eq_false (zb_t.mp u3)
        rw [sk_sk hp] at u3
        have hpn : nxP T (sk T p) 114 = sk T p := by unfold nxP; rw [sk_sk hp, if_neg u3]
        rw [hpn] at tc
        have e2 : stD T p = .inl (sk T p) := by unfold stD kdA; rw [if_neg u, if_neg u2, if_neg u3]
        rw [e2] at h
        exact t_T_nextRepair_10 (fun q => absurd q (by decide)) (fun _ => t_T_nextRepair_11 (h wc tc ((xa.tr xb).tr xc)))
      · have u3 := of_decide_eq_true (zb_f.mp u3)
        rw [sk_sk hp] at u3
        have hpn : nxP T (sk T p) 114 = sk T p + 1 := by unfold nxP; rw [sk_sk hp, if_pos u3]
        rw [hpn] at tc
        exact key 2 _ wc (by unfold kdA; rw [if_neg u, if_neg u2, if_pos u3]) rfl tc ((xa.tr xb).tr xc)
    · have u2 := of_decide_eq_true (zb_f.mp u2)
      rw [sk_sk hp] at u2
      have hpn : nxP T (sk T p) 102 = sk T p + 1 := by unfold nxP; rw [sk_sk hp, if_pos u2]
      rw [hpn] at tb
      exact key 1 _ wb (by unfold kdA; rw [if_neg u, if_pos u2]) rfl tb (xa.tr xb)
  · have u := of_decide_eq_true (zb_f.mp u)
    have hpn : nxP T p 100 = sk T p + 1 := by unfold nxP; rw [if_pos u]
    rw [hpn] at ta
    exact key 0 _ wa (by unfold kdA; rw [if_pos u]) rfl ta xa
/-- the reference's letter of a kind -/
def chK (k : Nat) : Nat := if k = 0 then 100 else if k = 1 then 102 else 114
def mVI (o k : Nat) : Bool := (o == 10 && k == 13) || o == 33
theorem EQX.vR {w w' : zW} (h : EQX mVI m0L w w') : EQX mRI mRL w w' := ⟨fun o k q => h.1 o k (by
    cases e : mVI o k with
    | false => rfl
    | true =>
      unfold mVI at e
      simp only [Bool.or_eq_true, Bool.and_eq_true, beq_iff_eq] at e
      rcases e with e | e
      · rw [e.1, e.2] at q; cases q
      · rw [e] at q; cases q), fun o k _ => h.2 o k rfl⟩
theorem EQX.qV {w w' : zW} (h : EQX mQI m0L w w') : EQX mVI m0L w w' := ⟨fun o k q => h.1 o k (by
    unfold mVI at q
    rw [Bool.or_eq_false_iff] at q
    exact q.1), fun o k _ => h.2 o k rfl⟩
theorem s_N_readAct {d : Nat} {w : zW} {Q : zQ} {T : List Nat} {p m : Nat} (hm : m < 80) (h14 : gI w 10 14 = nI m) (hT : okT T) (hp : p ≤ T.length) (hC : TN w T p)
    (hF : ∀ q w', stD T p = .inl q → q ≤ T.length → sk T q = q → TN w' T q → EQX mVI m0L w w' → Q (some (.int 0)) w')
    (hS : ∀ e w', stD T p = .inr e → TN w' T e.2.2 → gI w' 33 m = nI (100 * chK e.1 + e.2.1) → (∀ i, ¬ i = m → gI w' 33 i = gI w 33 i) → EQX mVI m0L w w' → Q (some (.int 1)) w') : WM (d + 1) m_N_readAct 4 [.ref 10] w Q := by
  have hs := sk_le hp
  have hlT := hT.1
  have e100 : ltA T p = 100 ↔ T[sk T p]? = some 100 := ltA_is (c := 100) hT (by decide)
  have e102 : ltA T p = 102 ↔ T[sk T p]? = some 102 := ltA_is (c := 102) hT (by decide)
  have e114 : ltA T p = 114 ↔ T[sk T p]? = some 114 := ltA_is (c := 114) hT (by decide)
  refine n_N_readAct (t_N_readAct_0 (s_N_nextLetter hT hp hC (fun wa ta xa => ?_)))
  have key : ∀ (k : Nat), kdA T p = some k → ltA T p = nI (chK k) → WP (d + 1) m_N_readAct 5 [some (.ref 10), some (.int (ltA T p)), none, none] [] wa Q := by
    intro k ek el
    obtain ⟨hk1, hk2⟩ := kdA_lt ek
    have hp1 : sk T p + 1 ≤ T.length := by omega
    have hs2 := sk_le hp1
    obtain ⟨lf1, lf2⟩ := lt_fg (p := sk T p + 1) (m := 5) hT (by decide)
    refine t_N_readAct_5 ?_
    rw [ta.2.2, n1]
    refine s_N_nextLetter hT hp1 (ta.mv _) (fun wb tb xb => t_N_readAct_6 (s_N_inI (a := 0) (b := 5) rfl rfl ?_))
    have xab : EQX mVI m0L w wb := (xa.qV.pI (o := 10) (k := 13) _ rfl).tr xb.qV
    cases er : fgA T (sk T p + 1) 53 with
    | none =>
      have e1 : stD T p = .inl (sk T (sk T p + 1)) := by unfold stD; rw [ek]; dsimp only; rw [er]
      exact t_N_readAct_7 (fun q => absurd (by rw [show inI (ltA T (sk T p + 1) - 48) 0 5 = false from lf1 er]; rfl) q) (fun _ => t_N_readAct_8 (hF _ wb e1 hs2.2 (sk_sk hp1) tb xab))
    | some r =>
      obtain ⟨f1, f2⟩ := fgA_of er
      have f3 := (List.getElem?_eq_some_iff.mp f1).1
      have hp2 : sk T (sk T p + 1) + 1 ≤ T.length := by omega
      have hs3 := sk_le hp2
      obtain ⟨la, lb⟩ := lf2 r er
      obtain ⟨lf3, lf4⟩ := lt_fg (p := sk T (sk T p + 1) + 1) (m := 5) hT (by decide)
      refine t_N_readAct_7 (fun _ => t_N_readAct_9 ?_) (fun q => absurd q (by rw [show inI (ltA T (sk T p + 1) - 48) 0 5 = true from la]; decide))
      rw [tb.2.2, n1, lb]
      refine s_N_nextLetter hT hp2 (tb.mv _) (fun wc tc xc => t_N_readAct_10 (s_N_inI (a := 0) (b := 5) rfl rfl ?_))
      have xac : EQX mVI m0L w wc := (xab.pI (o := 10) (k := 13) _ rfl).tr xc.qV
      cases ec : fgA T (sk T (sk T p + 1) + 1) 53 with
      | none =>
        have e1 : stD T p = .inl (sk T (sk T (sk T p + 1) + 1)) := by unfold stD; rw [ek]; dsimp only; rw [er]; dsimp only; rw [ec]
        exact t_N_readAct_11 (fun q => absurd (by rw [show inI (ltA T (sk T (sk T p + 1) + 1) - 48) 0 5 = false from lf3 ec]; rfl) q) (fun _ => t_N_readAct_12 (hF _ wc e1 hs3.2 (sk_sk hp2) tc xac))
      | some c =>
        obtain ⟨f4, f5⟩ := fgA_of ec
        obtain ⟨lc, ld⟩ := lf4 c ec
        have e1 : stD T p = .inr (k, 6 * r + c, sk T (sk T (sk T p + 1) + 1) + 1) := by unfold stD; rw [ek]; dsimp only; rw [er]; dsimp only; rw [ec]
        have i14 : gI wc 10 14 = nI m := by
          rw [xac.1 10 14 rfl]; exact h14
        refine t_N_readAct_11 (fun _ => t_N_readAct_13 (by rw [i14]; exact vp_in_lt hm (by decide)) ?_) (fun q => absurd q (by rw [show inI (ltA T (sk T (sk T p + 1) + 1) - 48) 0 5 = true from lc]; decide))
        have ev : (100 : Int32) * ltA T p + 6 * nI r + (ltA T (sk T (sk T p + 1) + 1) - 48) = nI (100 * chK k + (6 * r + c)) := by
          rw [el, ld, show (100 : Int32) = nI 100 from rfl, show (6 : Int32) = nI 6 from rfl, pk_mul, pk_mul, nI_add, nI_add, Nat.add_assoc]
        rw [tc.2.2, n1, i14, nI_clamp (by omega), ev]
        refine hS _ _ e1 ((tc.mv _).x33 _ _) ?_ (fun i hi => ?_) ((xac.pI (o := 10) (k := 13) _ rfl).pI (o := 33) (k := m) _ rfl)
        · rw [gI_sI, if_pos ⟨rfl, rfl⟩]
        · rw [gI_sI, if_neg (fun z => hi z.2), gI_sI, if_neg (by omega), xc.1 33 i rfl, gI_sI, if_neg (by omega), xb.1 33 i rfl, gI_sI, if_neg (by omega), xa.1 33 i rfl]
  refine t_N_readAct_1 (fun u => key 0 ?_ ?_) (fun u => t_N_readAct_2 (fun u2 => key 1 ?_ ?_) (fun u2 => t_N_readAct_3 (fun u3 => key 2 ?_ ?_) (fun u3 => t_N_readAct_4 ?_)))
  · unfold kdA; rw [if_pos (e100.mp u)]
  · rw [u]; rfl
  · unfold kdA; rw [if_neg (fun q => u (e100.mpr q)), if_pos (e102.mp u2)]
  · rw [u2]; rfl
  · unfold kdA; rw [if_neg (fun q => u (e100.mpr q)), if_neg (fun q => u2 (e102.mpr q)), if_pos (e114.mp u3)]
  · rw [u3]; rfl
  · refine hF _ wa ?_ hs.2 (sk_sk hp) ta xa.qV
    unfold stD kdA
    rw [if_neg (fun q => u (e100.mpr q)), if_neg (fun q => u2 (e102.mpr q)), if_neg (fun q => u3 (e114.mpr q))]
/-! all of it -/
def dyL (T : List Nat) : Nat → Nat → List (Nat × Nat) → Nat ⊕ List (Nat × Nat)
  | 0, p, _ => .inl p
  | n + 1, p, pre => match stD T p with
    | .inl q => .inl q
    | .inr e => if T[sk T e.2.2]? = some 59 then dyL T n (sk T e.2.2 + 1) (pre ++ [(e.1, e.2.1)]) else if sk T e.2.2 < T.length then .inl (sk T e.2.2) else .inr (pre ++ [(e.1, e.2.1)])
def okD (l : List (Nat × Nat)) : Prop := ∀ e ∈ l, e.1 < 3 ∧ e.2 < 36
theorem okD_app {pre : List (Nat × Nat)} {e : Nat × Nat} (h : okD pre) (he : e.1 < 3 ∧ e.2 < 36) : okD (pre ++ [e]) := fun b hb => by
  rcases List.mem_append.mp hb with hb | hb
  · exact h b hb
  · rw [List.mem_singleton] at hb; rw [hb]; exact he
theorem dyL_ok {T : List Nat} (hlT : T.length ≤ 160) : ∀ (n p : Nat) (pre : List (Nat × Nat)), p ≤ T.length → 4 * pre.length ≤ p → okD pre → (∀ q, dyL T n p pre = .inl q → q ≤ T.length) ∧ ∀ l, dyL T n p pre = .inr l → l.length ≤ 40 ∧ okD l
  | 0, p, pre, hp, h4, ho => by
    unfold dyL
    exact ⟨fun q h => by injection h with h; omega, fun l h => by cases h⟩
  | n + 1, p, pre, hp, h4, ho => by
    obtain ⟨s1, s2⟩ := stD_ok hp
    unfold dyL
    cases es : stD T p with
    | inl b => exact ⟨fun q h => by injection h with h; rw [← h]; exact s1 _ es, fun l h => by cases h⟩
    | inr e =>
      obtain ⟨u1, u2, u3, u4⟩ := s2 e es
      have hs := sk_le u4
      dsimp only
      split
      · rename_i hc
        have hcl := (List.getElem?_eq_some_iff.mp hc).1
        exact dyL_ok hlT n _ _ (by omega) (by rw [List.length_append, List.length_singleton]; omega) (okD_app ho ⟨u1, u2⟩)
      · split
        · exact ⟨fun q h => by injection h with h; omega, fun l h => by cases h⟩
        · refine ⟨fun q h => (by cases h), fun l h => ?_⟩
          injection h with h
          rw [← h]
          exact ⟨by rw [List.length_append, List.length_singleton]; omega, okD_app ho ⟨u1, u2⟩⟩
def DA (w : zW) (l : List (Nat × Nat)) : Prop := gI w 3 5 = nI l.length ∧ ∀ i e, l[i]? = some e → gI w 18 i = nI (e.1 * 36 + e.2)
def DE (w : zW) (l : List (Nat × Nat)) : Prop := gI w 10 14 = nI l.length ∧ ∀ i e, l[i]? = some e → gI w 33 i = nI (100 * chK e.1 + e.2)
theorem DA.pm {w w' : zW} {l : List (Nat × Nat)} (h : DA w l) (x : EQX mPI m0L w w') : DA w' l := ⟨by rw [x.1 3 5 rfl]; exact h.1, fun i e he => by rw [x.1 18 i rfl]; exact h.2 i e he⟩
theorem DE.qm {w w' : zW} {l : List (Nat × Nat)} (h : DE w l) (x : EQX mQI m0L w w') : DE w' l := ⟨by rw [x.1 10 14 rfl]; exact h.1, fun i e he => by rw [x.1 33 i rfl]; exact h.2 i e he⟩
theorem lp_T_day {d : Nat} {w0 : zW} {Q : zQ} {T : List Nat} {R : Nat ⊕ List (Nat × Nat)} (hT : okT T)
    (hF : ∀ q w', R = .inl q → EQX mDI mDL w0 w' → Q (some (.int ((-20) - nI q))) w')
    (hS : ∀ l w', R = .inr l → DA w' l → EQX mDI mDL w0 w' → Q (some (.int 0)) w') : ∀ (n p : Nat) (pre : List (Nat × Nat)) (w : zW), pre.length + n = 41 → p ≤ T.length → 4 * pre.length ≤ p → TC w T p → DA w pre → EQX mDI mDL w0 w → dyL T n p pre = R → WP (d + 3) m_T_readDay 1 [some (.ref 3), some (.int (nI pre.length)), none] [] w Q
  | 0, p, pre, w, hn, hp, h4, hC, hA, hx, hr => by
    have := hT.1
    omega
  | n + 1, p, pre, w, hn, hp, h4, hC, hA, hx, hr => by
    have hlT := hT.1
    obtain ⟨s1, s2⟩ := stD_ok hp
    unfold dyL at hr
    refine t_T_readDay_1 (fun g => absurd g (nI_ge (show pre.length < 41 by omega) (by decide))) (fun _ => t_T_readDay_2 (s_T_nextRepair hT hp hC (fun wa ta xa => ?_)))
    cases es : stD T p with
    | inl b =>
      rw [es] at hr ta
      have ta : TC wa T b := ta
      refine t_T_readDay_3 (fun q => absurd q (show ¬ (0 : Int32) ≤ -1 by decide)) (fun _ => t_T_readDay_4 (n_T_fault (t_T_fault_0 (t_T_readDay_5 ?_))))
      rw [ta.2.2]
      exact hF _ wa hr.symm (hx.tr xa.pD)
    | inr e =>
      obtain ⟨u1, u2, u3, u4⟩ := s2 e es
      rw [es] at hr ta
      have ta : TC wa T e.2.2 := ta
      dsimp only at hr
      have hs := sk_le u4
      refine t_T_readDay_3 (fun _ => t_T_readDay_6 (vp_in_lt (by omega) (by decide)) ?_) (fun q => absurd (nI_le (a := 0) (Nat.zero_le _) (by omega)) q)
      rw [nI_clamp (by omega)]
      have hA1 := hA.pm xa
      rw [hA1.1, n1]
      have tb : TC (sI (sI wa 18 pre.length (rpV (.inr e))) 3 5 (nI (pre.length + 1))) T e.2.2 := ⟨by rw [gI_sI, if_neg (by omega)]; exact (ta.x18 _ _).1, fun j c hc => by rw [gI_sI, if_neg (by omega)]; exact (ta.x18 _ _).2.1 j c hc, by rw [gI_sI, if_neg (by omega)]; exact (ta.x18 _ _).2.2⟩
      have hB : DA (sI (sI wa 18 pre.length (rpV (.inr e))) 3 5 (nI (pre.length + 1))) (pre ++ [(e.1, e.2.1)]) := by
        refine ⟨by rw [gI_sI, if_pos ⟨rfl, rfl⟩, List.length_append, List.length_singleton], fun i b hb => ?_⟩
        rw [gI_sI, if_neg (by omega), gI_sI]
        rcases app_get hb with ⟨q1, q2⟩ | ⟨q1, q2⟩
        · rw [if_neg (by omega)]; exact hA1.2 i b q2
        · rw [if_pos ⟨rfl, by omega⟩, q2]; rfl
      have xb : EQX mDI mDL w0 (sI (sI wa 18 pre.length (rpV (.inr e))) 3 5 (nI (pre.length + 1))) := ((hx.tr xa.pD).pI (o := 18) (k := pre.length) _ rfl).pI (o := 3) (k := 5) _ rfl
      refine s_T_isNext (c := 59) rfl (by decide) hT u4 tb (fun wc tc xc => t_T_readDay_7 (fun u => t_T_readDay_9 ?_) (fun u => t_T_readDay_8 (t_T_readDay_10 ?_)))
      · have u := of_decide_eq_true (zb_f.mp u)
        have hcl := (List.getElem?_eq_some_iff.mp u).1
        rw [if_pos u] at hr
        have hpn : nxP T e.2.2 59 = sk T e.2.2 + 1 := by unfold nxP; rw [if_pos u]
        rw [hpn] at tc
        rw [n1, show pre.length + 1 = (pre ++ [(e.1, e.2.1)]).length by rw [List.length_append, List.length_singleton]]
        exact lp_T_day hT hF hS n _ _ wc (by rw [List.length_append, List.length_singleton]; omega) (by omega) (by rw [List.length_append, List.length_singleton]; omega) tc (hB.pm xc) (xb.tr xc.pD) hr
      · have u := of_decide_eq_false (zb_t.mp u)
        rw [if_neg u] at hr
        have hpn : nxP T e.2.2 59 = sk T e.2.2 := by unfold nxP; rw [if_neg u]
        rw [hpn] at tc
        refine s_T_faultBehind hT hs.2 tc (fun wd td xd => t_T_readDay_11 ?_)
        rw [sk_sk u4]
        by_cases q : sk T e.2.2 < T.length
        · rw [if_pos q] at hr ⊢
          exact hF _ wd hr.symm ((xb.tr xc.pD).tr xd.pD)
        · rw [if_neg q] at hr ⊢
          exact hS _ wd hr.symm ((hB.pm xc).pm xd) ((xb.tr xc.pD).tr xd.pD)
theorem lp_N_day {d : Nat} {w0 : zW} {Q : zQ} {T : List Nat} {R : Nat ⊕ List (Nat × Nat)} (hT : okT T)
    (hF : ∀ q w', R = .inl q → q ≤ T.length → sk T q = q → TN w' T q → EQX mRI mRL w0 w' → Q (some (.int 0)) w')
    (hS : ∀ l q w', R = .inr l → q ≤ T.length → TN w' T q → DE w' l → EQX mRI mRL w0 w' → Q (some (.int 1)) w') : ∀ (n p : Nat) (pre : List (Nat × Nat)) (w : zW), pre.length + n = 41 → p ≤ T.length → 4 * pre.length ≤ p → TN w T p → DE w pre → EQX mRI mRL w0 w → dyL T n p pre = R → WP (d + 2) m_N_readDay 1 [some (.ref 10), some (.int 1)] [] w Q
  | 0, p, pre, w, hn, hp, h4, hC, hA, hx, hr => by
    have := hT.1
    omega
  | n + 1, p, pre, w, hn, hp, h4, hC, hA, hx, hr => by
    have hlT := hT.1
    obtain ⟨s1, s2⟩ := stD_ok hp
    unfold dyL at hr
    refine t_N_readDay_1 (fun g => absurd g (by decide)) (fun _ => t_N_readDay_2 (s_N_readAct (m := pre.length) (by omega) hA.1 hT hp hC (fun q wa es hq hsq ta xa => ?_) (fun e wa es ta h33 hoth xa => ?_)))
    · rw [es] at hr
      exact t_N_readDay_3 (fun q => absurd rfl q) (fun _ => t_N_readDay_4 (hF _ wa hr.symm hq hsq ta (hx.tr xa.vR)))
    · obtain ⟨u1, u2, u3, u4⟩ := s2 e es
      rw [es] at hr
      dsimp only at hr
      have hs := sk_le u4
      have i14 : gI wa 10 14 = nI pre.length := by rw [xa.1 10 14 rfl]; exact hA.1
      refine t_N_readDay_3 (fun _ => t_N_readDay_5 ?_) (fun q => absurd q (by decide))
      rw [i14, n1]
      have tb : TN (sI wa 10 14 (nI (pre.length + 1))) T e.2.2 := ⟨by rw [gI_sI, if_neg (by omega)]; exact ta.1, fun j c hc => by rw [gI_sI, if_neg (by omega)]; exact ta.2.1 j c hc, by rw [gI_sI, if_neg (by omega)]; exact ta.2.2⟩
      have hB : DE (sI wa 10 14 (nI (pre.length + 1))) (pre ++ [(e.1, e.2.1)]) := by
        refine ⟨by rw [gI_sI, if_pos ⟨rfl, rfl⟩, List.length_append, List.length_singleton], fun i b hb => ?_⟩
        rw [gI_sI, if_neg (by omega)]
        rcases app_get hb with ⟨q1, q2⟩ | ⟨q1, q2⟩
        · rw [hoth i (by omega)]; exact hA.2 i b q2
        · rw [q1, q2]; exact h33
      have xb : EQX mRI mRL w0 (sI wa 10 14 (nI (pre.length + 1))) := (hx.tr xa.vR).pI (o := 10) (k := 14) _ rfl
      refine s_N_takes (c := 59) rfl (by decide) hT u4 tb (fun wc tc xc => t_N_readDay_6 ?_)
      by_cases u : T[sk T e.2.2]? = some 59
      · have hcl := (List.getElem?_eq_some_iff.mp u).1
        rw [if_pos u] at hr
        have hpn : nxP T e.2.2 59 = sk T e.2.2 + 1 := by unfold nxP; rw [if_pos u]
        rw [hpn] at tc
        rw [decide_eq_true u]
        exact lp_N_day hT hF hS n _ _ wc (by rw [List.length_append, List.length_singleton]; omega) (by omega) (by rw [List.length_append, List.length_singleton]; omega) tc (hB.qm xc) (xb.tr xc.qR) hr
      · rw [if_neg u] at hr
        have hpn : nxP T e.2.2 59 = sk T e.2.2 := by unfold nxP; rw [if_neg u]
        rw [hpn] at tc
        rw [decide_eq_false u]
        refine t_N_readDay_1 (fun _ => t_N_readDay_7 (s_N_nextLetter hT hs.2 tc (fun wd td xd => ?_))) (fun g => absurd rfl g)
        rw [sk_sk u4] at td
        have xx := (xb.tr xc.qR).tr xd.qR
        refine t_N_readDay_8 (fun g => t_N_readDay_10 (t_N_readDay_11 (Or.inl rfl) ?_)) (fun g => t_N_readDay_9 (t_N_readDay_11 (Or.inr rfl) ?_))
        · have q : sk T (sk T e.2.2) < T.length := Classical.byContradiction fun q => (nxt_neg hT hs.2).mpr q g
          rw [sk_sk u4] at q
          rw [if_pos q] at hr
          exact hF _ wd hr.symm hs.2 (sk_sk u4) td xx
        · have q := (nxt_neg hT hs.2).mp g
          rw [sk_sk u4] at q
          rw [if_neg q] at hr
          exact hS _ _ wd hr.symm hs.2 td ((hB.qm xc).qm xd) xx
