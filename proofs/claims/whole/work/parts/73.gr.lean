/-! ===== type; grounds as texts ===== -/
theorem TAP.ok {w : zW} {T : List Nat} (h : TAP w T) : okT T := ⟨h.1, h.2.1⟩
theorem zch_n {c : Nat} (h : c < 65536) : zch (nI c) = nI c := by
  unfold zch
  rw [pk_char, pk_tn (by omega), Nat.mod_eq_of_lt h]
theorem nar_c (x : Int32) : vp_nar .char (zch x) = zch x := pk_vc x
/-- tapes, and all that a call may change -/
def mUI (o k : Nat) : Bool := mAI o k || (o == 3 && k == 1) || (o == 10 && k == 12) || o == 17 || o == 32
theorem EQX.aU {w w' : zW} (h : EQX mAI mAL w w') : EQX mUI mAL w w' := h.widen (fun o k q => by unfold mUI at q; simp only [Bool.or_eq_false_iff] at q; exact q.1.1.1.1) (fun _ _ q => q)
theorem EQX.uRW {w w' : zW} (x : EQX mUI mAL w w') {S : zS} {K : Option zS} {T : List Nat} {H : Nat → Option (Nat × Nat)} (hS : okS S) (g1 : GC w' 1 S) (g2 : GN w' S) (h4 : IMG w K) (h5 : TAP w' T) (h6 : SHT w H) : RW w' ∧ SCR w w' :=
  ⟨⟨S, K, T, H, hS, g1, g2, KIM.img ⟨x.1 0 2 rfl, x.1 10 20 rfl, fun k => x.1 2 k rfl, fun k => x.1 14 k rfl, fun k => x.1 15 k rfl, fun k => x.1 16 k rfl, fun k => x.1 38 k rfl, fun k => x.2 2 k rfl, x.2 10 21 rfl⟩ h4, h5,
    KSH.sht ⟨lt4 (fun k => x.1 5 k rfl) (fun k => x.1 6 k rfl) (fun k => x.1 7 k rfl) (fun k => x.1 8 k rfl), fun k => x.1 39 k rfl, fun k => x.1 40 k rfl, lt4 (fun k => x.2 19 k rfl) (fun k => x.2 20 k rfl) (fun k => x.2 21 k rfl) (fun k => x.2 22 k rfl), fun k => x.2 41 k rfl⟩ h6⟩,
   fun k => x.1 43 k rfl, fun k => x.1 44 k rfl⟩
theorem op_type {d : Nat} {w : zW} {x : Int32} (h : RW w) : OPP (d + 1) m_C_type 2 m_N_type 2 [.ref 0, .int x] [.ref 10, .int x] w := by
  have hR := h
  obtain ⟨S, K, T, H, h1, h2, h3, h4, h5, h6⟩ := h
  have hT := h5.ok
  have hlen := hT.1
  have bad : inI x 32 126 = false → WM (d + 1) m_N_type 2 [.ref 10, .int x] w (fun ra wa => some (.int (-1)) = ra ∧ RW wa ∧ SCR w wa) := fun hb =>
    n_N_type (t_N_type_0 (s_N_inI (a := 32) (b := 126) rfl rfl (t_N_type_1 (fun g => absurd (by rw [hb]; rfl) g) (fun _ => t_N_type_2 ⟨rfl, hR, SCR.rf⟩))))
  refine n_C_type (t_C_type_0 (fun g => t_C_type_2 (bad (inI_f.mpr (Or.inl g)))) (fun g => t_C_type_1 (fun g2 => t_C_type_3 ?_) (fun g2 => t_C_type_2 (bad (inI_f.mpr (Or.inr g2))))))
  have hin := inI_t g g2
  have hx0 : ¬ x < 0 := by
    rw [Int32.lt_iff_toInt_lt] at g ⊢
    have e0 : (0 : Int32).toInt = 0 := by decide
    have e1 : (32 : Int32).toInt = 32 := by decide
    omega
  obtain ⟨c, hc, rfl⟩ := nI_of2 (x := x) (M := 126) (n := 126) rfl hx0 g2
  have hc32 : 32 ≤ c := Nat.le_of_not_lt fun q => g (nI_lt (b := 32) q (by decide))
  rw [zch_n (by omega)]
  have e1 : gI w 3 1 = nI T.length := h5.2.2.1
  have e2 : gI w 10 12 = nI T.length := h5.2.2.2.1
  have inN : ∀ {wa : zW} {Q : zQ}, WP (d + 1) m_N_type 3 [some (.ref 10), some (.int (nI c))] [] wa Q → WM (d + 1) m_N_type 2 [.ref 10, .int (nI c)] wa Q := fun hq =>
    n_N_type (t_N_type_0 (s_N_inI (a := 32) (b := 126) rfl rfl (t_N_type_1 (fun _ => hq) (fun q => absurd q (by rw [hin]; decide)))))
  refine n_T_add (t_T_add_0 (fun g3 => t_T_add_2 ?_ (t_C_type_4 ?_)) (fun g3 => t_T_add_1 (t_C_type_4 (inN (t_N_type_3 (fun q => ?_) (fun _ => t_N_type_4 ⟨rfl, hR, SCR.rf⟩))))))
  · rw [e1, show (160 : Int32) = nI 160 from rfl, nI_ltI (by omega) (by decide)] at g3
    rw [e1]; exact vp_in_lt g3 (by decide)
  · rw [e1, show (160 : Int32) = nI 160 from rfl, nI_ltI (by omega) (by decide)] at g3
    rw [e1, n1, nI_clamp (by omega), show vp_nar .char (nI c) = nI c by have := nar_c (nI c); rwa [zch_n (by omega)] at this]
    have e2' : gI (sI (sI w 17 T.length (nI c)) 3 1 (nI (T.length + 1))) 10 12 = nI T.length := by rw [gI_sI, if_neg (by omega), gI_sI, if_neg (by omega)]; exact e2
    refine inN (t_N_type_3 (fun _ => t_N_type_5 (by rw [e2']; exact vp_in_lt g3 (by decide)) ⟨?_, ?_⟩) (fun q => ?_))
    · rw [e2', n1]
    · rw [e2', n1, nI_clamp (by omega)]
      have xA : EQX mUI mAL w (sI (sI (sI (sI w 17 T.length (nI c)) 3 1 (nI (T.length + 1))) 32 T.length (nI c)) 10 12 (nI (T.length + 1))) := (((EQX.rf.pI _ rfl).pI _ rfl).pI _ rfl).pI _ rfl
      refine xA.uRW (T := T ++ [c]) h1 ?_ ?_ h4 ⟨?_, ?_, ?_, ?_, ?_⟩ h6
      · refine GC_keep h2 (fun k => ?_) (fun k => ?_) (fun k => ?_) (fun k => ?_) (fun k => rfl) <;> rw [gI_sI, if_neg (by omega), gI_sI, if_neg (by omega), gI_sI, if_neg (by omega), gI_sI, if_neg (by omega)]
      · refine GN_keep h3 ⟨?_, ?_, ?_⟩ (fun k => ?_) (fun k => ?_) (fun k => ?_) rfl <;> rw [gI_sI, if_neg (by omega), gI_sI, if_neg (by omega), gI_sI, if_neg (by omega), gI_sI, if_neg (by omega)]
      · rw [List.length_append, List.length_singleton]; omega
      · intro b hb
        rcases List.mem_append.mp hb with hb | hb
        · exact hT.2 b hb
        · rw [List.mem_singleton] at hb; omega
      · rw [gI_sI, if_neg (by omega), gI_sI, if_neg (by omega), gI_sI, if_pos ⟨rfl, rfl⟩, List.length_append, List.length_singleton]
      · rw [gI_sI, if_pos ⟨rfl, rfl⟩, List.length_append, List.length_singleton]
      · intro j b hb
        simp only [gI_sI]
        by_cases q : j < T.length
        · rw [List.getElem?_append_left q] at hb
          rw [if_neg (by omega), if_neg (by omega), if_neg (by omega), if_neg (by omega), if_neg (by omega), if_neg (by omega), if_neg (by omega), if_neg (by omega)]
          exact h5.2.2.2.2 j b hb
        · rw [List.getElem?_append_right (by omega)] at hb
          have hj := (List.getElem?_eq_some_iff.mp hb).1
          rw [List.length_singleton] at hj
          have : j = T.length := by omega
          subst this
          simp at hb
          subst hb
          rw [if_neg (by omega), if_neg (by omega), if_neg (by omega), if_pos (by simp), if_neg (by omega), if_pos (by simp)]
          exact ⟨rfl, rfl⟩
    · rw [e2', show (160 : Int32) = nI 160 from rfl, nI_eqk (by omega) (by decide)] at q
      omega
  · rw [e1, show (160 : Int32) = nI 160 from rfl, nI_ltI (by omega) (by decide)] at g3
    rw [e2, show (160 : Int32) = nI 160 from rfl, nI_eqk (by omega) (by decide)] at q
    omega
/-! a ground -/
def slP (T : List Nat) (c p : Nat) : Option Nat := if 0 < c ∧ c % 6 = 0 then (if T[sk T p]? = some 47 then some (sk T p + 1) else none) else some p
def stG (T : List Nat) (c p : Nat) : Nat ⊕ (Nat × Bool × Nat) := match slP T c p with
  | none => .inl (sk T p)
  | some b => match fgA T b 57 with
    | none => .inl (sk T b)
    | some v => if v = 0 then .inr (0, false, fgP T b 57) else .inr (v, decide (T[sk T (fgP T b 57)]? = some 94), nxP T (fgP T b 57) 94)
def grL (T : List Nat) : Nat → Nat → Nat → List (Nat × Bool) → Nat ⊕ List (Nat × Bool)
  | 0, _, p, pre => if sk T p < T.length then .inl (sk T p) else .inr pre
  | n + 1, c, p, pre => match stG T c p with
    | .inl q => .inl q
    | .inr e => grL T n (c + 1) e.2.2 (pre ++ [(e.1, e.2.1)])
def okG (l : List (Nat × Bool)) : Prop := ∀ e ∈ l, e.1 ≤ 9 ∧ (e.2 = true → 0 < e.1)
theorem stG_ok {T : List Nat} {c p : Nat} {e : Nat × Bool × Nat} (h : stG T c p = .inr e) : e.1 ≤ 9 ∧ (e.2.1 = true → 0 < e.1) := by
  unfold stG at h
  split at h
  · cases h
  · split at h
    · cases h
    · rename_i v hv
      have := (fgA_of hv).2
      split at h
      · injection h with h; subst h; exact ⟨by omega, fun q => by cases q⟩
      · injection h with h; subst h; exact ⟨by omega, fun _ => by omega⟩
theorem grL_ok {T : List Nat} : ∀ (n c p : Nat) (pre l : List (Nat × Bool)), grL T n c p pre = .inr l → okG pre → l.length = pre.length + n ∧ okG l
  | 0, c, p, pre, l, h, hp => by
    unfold grL at h
    split at h
    · cases h
    · injection h with h; subst h; exact ⟨rfl, hp⟩
  | n + 1, c, p, pre, l, h, hp => by
    unfold grL at h
    split at h
    · cases h
    · rename_i e he
      have := grL_ok n (c + 1) e.2.2 _ l h (fun b hb => by
        rcases List.mem_append.mp hb with hb | hb
        · exact hp b hb
        · rw [List.mem_singleton] at hb; subst hb; exact stG_ok he)
      rw [List.length_append, List.length_singleton] at this
      exact ⟨by omega, this.2⟩
def rfB (l : List (Nat × Bool)) (i : Nat) : Bool := match l[i]? with
  | some e => e.2
  | none => false
def vL (l : List (Nat × Bool)) (i : Nat) : Nat := match l[i]? with
  | some e => e.1
  | none => 0
theorem rfB_app {l : List (Nat × Bool)} {e : Nat × Bool} (i : Nat) : rfB (l ++ [e]) i = if i = l.length then e.2 else rfB l i := by
  unfold rfB
  by_cases h : i < l.length
  · rw [List.getElem?_append_left h, if_neg (by omega)]
  · rw [List.getElem?_append_right (by omega)]
    by_cases q : i = l.length
    · rw [if_pos q, q]; simp
    · rw [if_neg q, List.getElem?_eq_none (by simp; omega), List.getElem?_eq_none (by omega)]
theorem app_get {α : Type} {l : List α} {e : α} {i : Nat} {b : α} (h : (l ++ [e])[i]? = some b) : (i < l.length ∧ l[i]? = some b) ∨ (i = l.length ∧ b = e) := by
  by_cases q : i < l.length
  · rw [List.getElem?_append_left q] at h; exact Or.inl ⟨q, h⟩
  · rw [List.getElem?_append_right (by omega)] at h
    have hj := (List.getElem?_eq_some_iff.mp h).1
    rw [List.length_singleton] at hj
    have e1 : i = l.length := by omega
    subst e1
    simp at h
    exact Or.inr ⟨rfl, h.symm⟩
def GA (w : zW) (l : List (Nat × Bool)) : Prop := ∀ i e, l[i]? = some e → gI w 18 i = nI e.1
def GB (w : zW) (l : List (Nat × Bool)) : Prop := ∀ i, bt6 (gL w 3 4) i = rfB l i
theorem EQX.pD {w w' : zW} (h : EQX mPI m0L w w') : EQX mDI mDL w w' := ⟨fun o k q => h.1 o k (by
    cases e : mPI o k with
    | false => rfl
    | true =>
      unfold mPI at e
      simp only [Bool.and_eq_true, beq_iff_eq] at e
      rw [e.1, e.2] at q; cases q), fun o k _ => h.2 o k rfl⟩
theorem EQX.qR {w w' : zW} (h : EQX mQI m0L w w') : EQX mRI mRL w w' := ⟨fun o k q => h.1 o k (by
    cases e : mQI o k with
    | false => rfl
    | true =>
      unfold mQI at e
      simp only [Bool.and_eq_true, beq_iff_eq] at e
      rw [e.1, e.2] at q; cases q), fun o k _ => h.2 o k rfl⟩
theorem GA.pm {w w' : zW} {l : List (Nat × Bool)} (h : GA w l) (x : EQX mPI m0L w w') : GA w' l := fun i e he => by rw [x.1 18 i rfl]; exact h i e he
theorem GB.pm {w w' : zW} {l : List (Nat × Bool)} (h : GB w l) (x : EQX mPI m0L w w') : GB w' l := fun i => by rw [x.2 3 4 rfl]; exact h i
theorem TC.x18 {w : zW} {T : List Nat} {p : Nat} (h : TC w T p) (k : Nat) (v : Int32) : TC (sI w 18 k v) T p := ⟨by rw [gI_sI, if_neg (by omega)]; exact h.1, fun j c hc => by rw [gI_sI, if_neg (by omega)]; exact h.2.1 j c hc, by rw [gI_sI, if_neg (by omega)]; exact h.2.2⟩
theorem lp_T_gr {d : Nat} {w0 : zW} {Q : zQ} {T : List Nat} {R : Nat ⊕ List (Nat × Bool)} (hT : okT T)
    (hF : ∀ q w', R = .inl q → EQX mDI mDL w0 w' → Q (some (.int ((-20) - nI q))) w')
    (hS : ∀ l w', R = .inr l → GA w' l → GB w' l → EQX mDI mDL w0 w' → Q (some (.int 0)) w') : ∀ (n c p : Nat) (pre : List (Nat × Bool)) (w : zW), c + n = 36 → pre.length = c → p ≤ T.length → TC w T p → GA w pre → GB w pre → EQX mDI mDL w0 w → grL T n c p pre = R → WP (d + 2) m_T_readGround 1 [some (.ref 3), some (.int (nI c)), none] [] w Q
  | 0, c, p, pre, w, hc, hpl, hp, hC, hA, hB, hx, hr => by
    have e : c = 36 := by omega
    subst e
    unfold grL at hr
    refine t_T_readGround_1 (fun _ => t_T_readGround_17 (s_T_faultBehind hT hp hC (fun wa ta xa => t_T_readGround_18 ?_))) (fun g => absurd (Int32.le_refl _) g)
    by_cases q : sk T p < T.length
    · rw [if_pos q] at hr ⊢
      exact hF _ wa hr.symm (hx.tr xa.pD)
    · rw [if_neg q] at hr ⊢
      exact hS _ wa hr.symm (hA.pm xa) (hB.pm xa) (hx.tr xa.pD)
  | n + 1, c, p, pre, w, hc, hpl, hp, hC, hA, hB, hx, hr => by
    have hc36 : c < 36 := by omega
    have hlT := hT.1
    unfold grL at hr
    have key8 : ∀ (b : Nat) (wa : zW), slP T c p = some b → b ≤ T.length → TC wa T b → GA wa pre → GB wa pre → EQX mDI mDL w0 wa → WP (d + 2) m_T_readGround 8 [some (.ref 3), some (.int (nI c)), none] [] wa Q := by
      intro b wa hsl hb ta ga gb xa
      have eG : stG T c p = match fgA T b 57 with
        | none => .inl (sk T b)
        | some v => if v = 0 then .inr (0, false, fgP T b 57) else .inr (v, decide (T[sk T (fgP T b 57)]? = some 94), nxP T (fgP T b 57) 94) := by unfold stG; rw [hsl]
      refine t_T_readGround_8 (s_T_nextFigure (g := 57) rfl (by decide) hT hb ta (fun wb tb xb => ?_))
      cases ef : fgA T b 57 with
      | none =>
        rw [ef] at eG
        rw [eG] at hr
        refine t_T_readGround_9 (fun q => absurd q (by decide)) (fun _ => t_T_readGround_10 (n_T_fault (t_T_fault_0 (t_T_readGround_11 ?_))))
        have hpb : fgP T b 57 = sk T b := by unfold fgP; rw [ef]
        rw [tb.2.2, hpb]
        exact hF _ wb hr.symm (xa.tr xb.pD)
      | some v =>
        rw [ef] at eG
        have hv := (fgA_of ef).2
        have hle := fgP_le (g := 57) hb
        refine t_T_readGround_9 (fun _ => t_T_readGround_12 (vp_in_lt (by omega) (by decide)) (fun q => t_T_readGround_16 ?_) (fun q => t_T_readGround_13 ?_)) (fun q => absurd (nI_le (a := 0) (Nat.zero_le _) (by omega)) q)
        · have q : nI v ≤ 0 := q
          rw [nI_le0 (by omega)] at q
          subst q
          dsimp only at eG
          rw [if_pos rfl] at eG
          rw [eG] at hr
          rw [n1, nI_clamp (by omega)]
          refine lp_T_gr hT hF hS n (c + 1) _ _ _ (by omega) (by rw [List.length_append, List.length_singleton, hpl]) hle.2 (tb.x18 _ _) (fun i e he => ?_) (fun i => ?_) ((xa.tr xb.pD).pI (o := 18) (k := c) _ rfl) hr
          · rw [gI_sI]
            rcases app_get he with ⟨q1, q2⟩ | ⟨q1, q2⟩
            · rw [if_neg (by omega)]; exact (ga.pm xb) i e q2
            · rw [if_pos ⟨rfl, by omega⟩, q2]; rfl
          · rw [gL_sI, rfB_app, (gb.pm xb) i]
            by_cases q : i = pre.length
            · rw [if_pos q]; unfold rfB; rw [List.getElem?_eq_none (by omega)]
            · rw [if_neg q]
        · have q : ¬ nI v ≤ 0 := q
          rw [nI_le0 (by omega)] at q
          dsimp only at eG
          rw [if_neg q] at eG
          rw [eG] at hr
          rw [nI_clamp (by omega)]
          refine s_T_isNext (c := 94) rfl (by decide) hT hle.2 (tb.x18 _ _) (fun wc tc xc => ?_)
          have hA2 : ∀ b : Bool, GA (sI wb 18 c (nI v)) (pre ++ [(v, b)]) := fun b i e he => by
            rw [gI_sI]
            rcases app_get he with ⟨q1, q2⟩ | ⟨q1, q2⟩
            · rw [if_neg (by omega)]; exact (ga.pm xb) i e q2
            · rw [if_pos ⟨rfl, by omega⟩, q2]
          have hB2 : ∀ i, bt6 (gL wc 3 4) i = rfB pre i := fun i => by rw [xc.2 3 4 rfl, gL_sI]; exact (gb.pm xb) i
          have xx : EQX mDI mDL w0 wc := (((xa.tr xb.pD).pI (o := 18) (k := c) _ rfl)).tr xc.pD
          have hle3 := nxP_le hle.2 94
          refine t_T_readGround_14 (fun u => t_T_readGround_16 ?_) (fun u => t_T_readGround_15 (t_T_readGround_16 ?_))
          · rw [zb_t.mp u] at hr
            rw [n1]
            refine lp_T_gr hT hF hS n (c + 1) _ _ wc (by omega) (by rw [List.length_append, List.length_singleton, hpl]) hle3.2 tc ((hA2 false).pm xc) (fun i => ?_) xx hr
            rw [hB2, rfB_app]
            by_cases q : i = pre.length
            · rw [if_pos q]; unfold rfB; rw [List.getElem?_eq_none (by omega)]
            · rw [if_neg q]
          · rw [zb_f.mp u] at hr
            rw [n1]
            refine lp_T_gr hT hF hS n (c + 1) _ _ _ (by omega) (by rw [List.length_append, List.length_singleton, hpl]) hle3.2 tc (fun i e he => ((hA2 true).pm xc : GA wc _) i e he) (fun i => ?_) (xx.pL (o := 3) (k := 4) _ rfl) hr
            rw [gL_sL, if_pos ⟨rfl, rfl⟩, bx_or, hB2, show zsl 1 (nI c) = b1 c from rfl, bx_b1 (by omega), rfB_app]
            by_cases q : i = pre.length
            · rw [if_pos q, decide_eq_true (by omega), Bool.or_true]
            · rw [if_neg q, decide_eq_false (by omega), Bool.or_false]
    have e6 : zrm (nI c) 6 = nI (c % 6) := zrm_n (k := 6) (by omega) (by decide) (by decide)
    refine t_T_readGround_1 (fun g => absurd g (nI_ge (show c < 36 by omega) (by decide))) (fun _ => t_T_readGround_2 (fun g => key8 p w ?_ hp hC hA hB hx) (fun g => t_T_readGround_3 (fun g2 => key8 p w ?_ hp hC hA hB hx) (fun g2 => t_T_readGround_4 (s_T_isNext (c := 47) rfl (by decide) hT hp hC (fun wa ta xa => t_T_readGround_5 (fun u => key8 _ wa ?_ (nxP_le hp 47).2 ta (hA.pm xa) (hB.pm xa) (hx.tr xa.pD)) (fun u => t_T_readGround_6 (n_T_fault (t_T_fault_0 (t_T_readGround_7 ?_)))))))))
    · rw [nI_le0 (by omega)] at g
      unfold slP; rw [if_neg (by omega)]
    · rw [e6, nI_c0 (by omega)] at g2
      unfold slP; rw [if_neg (by omega)]
    · rw [nI_le0 (by omega)] at g
      rw [e6, nI_c0 (by omega)] at g2
      have u := of_decide_eq_true (zb_f.mp u)
      unfold slP nxP
      rw [if_pos ⟨by omega, g2⟩, if_pos u, if_pos u]
    · rw [nI_le0 (by omega)] at g
      rw [e6, nI_c0 (by omega)] at g2
      have u := of_decide_eq_false (zb_t.mp u)
      have e1 : slP T c p = none := by unfold slP; rw [if_pos ⟨by omega, g2⟩, if_neg u]
      have e2 : stG T c p = .inl (sk T p) := by unfold stG; rw [e1]
      rw [e2] at hr
      have hpn : nxP T p 47 = sk T p := by unfold nxP; rw [if_neg u]
      rw [ta.2.2, hpn]
      exact hF _ wa hr.symm (hx.tr xa.pD)
