/-! ===== rounds: the county's mole ===== -/
theorem comps_sub : ∀ (n : Nat) (x : Int64), SET x → ∀ h ∈ comps n x, sub6 h x
  | 0, x, _, h, hh => by cases hh
  | n + 1, x, hx, h, hh => by
    by_cases e : x = 0
    · rw [e, comps_0] at hh; cases hh
    · rw [comps_s e] at hh
      rcases List.mem_cons.mp hh with hh | hh
      · rw [hh]; exact cl_sub hx
      · exact (comps_sub n _ (hx.diff _) h hh).tr (fun i hi => by rw [bx_diff, Bool.and_eq_true] at hi; exact hi.1)
theorem comps_disj : ∀ (n : Nat) (x : Int64), SET x → (comps n x).Pairwise (fun h k => ∀ i, bt6 h i = true → bt6 k i = false)
  | 0, x, _ => List.Pairwise.nil
  | n + 1, x, hx => by
    by_cases e : x = 0
    · rw [e, comps_0]; exact List.Pairwise.nil
    · rw [comps_s e]
      refine List.pairwise_cons.mpr ⟨fun k hk i hi => ?_, comps_disj n _ (hx.diff _)⟩
      cases q : bt6 k i with
      | false => rfl
      | true =>
        have := comps_sub n _ (hx.diff _) k hk i q
        rw [bx_diff, hi] at this
        simp at this
theorem pw_get {l : List Int64} {r : Int64 → Int64 → Prop} (h : l.Pairwise r) {j k : Nat} (hjk : j < k) (hk : k < l.length) : r (l.getD j 0) (l.getD k 0) := by
  rw [getD_get (by omega), getD_get hk]
  exact List.pairwise_iff_getElem.mp h j k (by omega) hk hjk
/-- the holes of a ground -/
def HOK (op : Int64) (l : List Int64) : Prop := l.length ≤ 8 ∧ (∀ k, k < l.length → SET (l.getD k 0) ∧ ¬ l.getD k 0 = 0 ∧ sub6 (l.getD k 0) op) ∧ ∀ j k i, j < l.length → k < l.length → ¬ j = k → bt6 (l.getD j 0) i = true → bt6 (l.getD k 0) i = false
theorem hok_hls {op : Int64} (hop : SET op) (h8 : (hls op).length ≤ 8) : HOK op (hls op) := by
  refine ⟨h8, fun k hk => ?_, fun j k i hj hk hjk hi => ?_⟩
  · rw [getD_get hk]
    have hm := List.getElem_mem hk
    exact ⟨comps_SET 36 _ hop _ hm, hls_ne hop hm, comps_sub 36 _ hop _ hm⟩
  · have hd : (hls op).Pairwise (fun h k => ∀ i, bt6 h i = true → bt6 k i = false) := comps_disj 36 op hop
    by_cases q : j < k
    · exact pw_get hd q hk i hi
    · cases e : bt6 ((hls op).getD k 0) i with
      | false => rfl
      | true =>
        have := pw_get hd (show k < j by omega) hj i e
        rw [hi] at this; cases this
/-! how far the others are at least -/
def apU (h op : Int64) (c a : Nat) : Nat := if bt6 (op &&& (h ^^^ (-1))) c = true then (if stp c (nrF h c) < a then stp c (nrF h c) else a) else a
def apO (h op : Int64) : Nat → Nat → Nat → Nat
  | 0, _, a => a
  | n + 1, c, a => apO h op n (c + 1) (apU h op c a)
theorem apO_s (h op : Int64) (n c a : Nat) : apO h op (n + 1) c a = apO h op n (c + 1) (apU h op c a) := rfl
def apF (h op : Int64) : Nat := apO h op 36 0 1000
theorem apU_le (h op : Int64) (c a : Nat) : apU h op c a ≤ a := by
  unfold apU
  split
  · split <;> omega
  · exact Nat.le_refl _
theorem apO_le (h op : Int64) : ∀ n c a, apO h op n c a ≤ a
  | 0, c, a => Nat.le_refl _
  | n + 1, c, a => Nat.le_trans (apO_le h op n (c + 1) _) (apU_le h op c a)
theorem apO_at {h op : Int64} {i : Nat} (hi : bt6 op i = true) (hh : bt6 h i = false) : ∀ n c a, c ≤ i → i < c + n → apO h op n c a ≤ stp i (nrF h i)
  | 0, c, a, h1, h2 => by omega
  | n + 1, c, a, h1, h2 => by
    rw [apO_s]
    by_cases e : c = i
    · subst e
      refine Nat.le_trans (apO_le h op n (c + 1) _) ?_
      unfold apU
      rw [if_pos (by rw [bx_diff, hi, hh]; rfl)]
      split <;> omega
    · exact apO_at hi hh n (c + 1) _ (by omega) (by omega)
/-- one hole measured -/
theorem lp_M_measure {d : Nat} {w0 : zW} {Q : zQ} {op h : Int64} {k : Nat} (hk : k < 8) (hs : SET h) (h0 : ¬ h = 0) (h23 : gL w0 23 k = h)
    (hq : ∀ w', gI w' 24 k = nI (apF h op) → (∀ c, c < 36 → gI w' 25 (k * 36 + c) = nI (nrF h c)) → (∀ o i, ¬ (o = 24 ∧ i = k) → ¬ (o = 25 ∧ k * 36 ≤ i ∧ i < k * 36 + 36) → gI w' o i = gI w0 o i) → (∀ o i, gL w' o i = gL w0 o i) → Q none w') : ∀ (n c a : Nat) (w : zW), c + n = 36 → a ≤ 1000 → apO h op n c a = apF h op → gI w 24 k = nI a → (∀ e, e < c → gI w 25 (k * 36 + e) = nI (nrF h e)) → (∀ o i, ¬ (o = 24 ∧ i = k) → ¬ (o = 25 ∧ k * 36 ≤ i ∧ i < k * 36 + 36) → gI w o i = gI w0 o i) → (∀ o i, gL w o i = gL w0 o i) → WP (d + 3) m_M_measure 1 [some (.ref 9), some (.int (nI k)), some (.long op), none, some (.int (nI c)), none] [] w Q
  | 0, c, a, w, hn, ha, hr, g1, g2, g3, g4 => by
    have e : c = 36 := by omega
    subst e
    have hr : a = apF h op := hr
    rw [hr] at g1
    exact t_M_measure_1 (fun _ => t_M_measure_9 (hq w g1 g2 g3 g4)) (fun g => absurd (Int32.le_refl _) g)
  | n + 1, c, a, w, hn, ha, hr, g1, g2, g3, g4 => by
    have hc : c < 36 := by omega
    obtain ⟨m1, m2', m3⟩ := nr_mem hs h0 c
    have hsl := stp_le hc m3
    have hcl : (nI k).toNatClampNeg = k := nI_clamp (by omega)
    have ei : nI k * 36 + nI c = nI (k * 36 + c) := by rw [show (36 : Int32) = nI 36 from rfl, pk_mul, nI_add]
    rw [apO_s] at hr
    have hak := apU_le h op c a
    have nx : ∀ (wa : zW), gI wa 24 k = nI (apU h op c a) → (∀ o i, ¬ (o = 24 ∧ i = k) → gI wa o i = gI (sI w 25 (k * 36 + c) (nI (nrF h c))) o i) → (∀ o i, gL wa o i = gL w o i) → WP (d + 3) m_M_measure 8 [some (.ref 9), some (.int (nI k)), some (.long op), none, some (.int (nI c)), none] [] wa Q := by
      intro wa e1 e2 e3
      refine t_M_measure_8 ?_
      rw [n1]
      refine lp_M_measure hk hs h0 h23 hq n (c + 1) _ wa (by omega) (by omega) hr e1 (fun e he => ?_) (fun o i q1 q2 => ?_) (fun o i => by rw [e3]; exact g4 o i)
      · rw [e2 _ _ (by omega), gI_sI]
        by_cases q : e = c
        · rw [if_pos ⟨rfl, by omega⟩, q]
        · rw [if_neg (by omega)]; exact g2 e (by omega)
      · rw [e2 o i q1, gI_sI, if_neg (fun z => q2 ⟨z.1, by omega, by omega⟩)]
        exact g3 o i q1 q2
    refine t_M_measure_1 (fun g => absurd g (nI_ge (show c < 36 by omega) (by decide))) (fun _ => t_M_measure_2 (vp_in_lt hk (by decide)) ?_)
    rw [hcl, g4, h23]
    refine s_M_near hs h0 hc (t_M_measure_3 (by rw [ei]; exact vp_in_lt (by omega) (by decide)) (vp_in_lt hk (by decide)) ?_)
    rw [hcl, g4, h23, ei, nI_clamp (by omega)]
    have g1' : gI (sI w 25 (k * 36 + c) (nI (nrF h c))) 24 k = nI a := by rw [gI_sI, if_neg (by omega)]; exact g1
    refine s_P_has (by omega) (t_M_measure_4 (fun g => nx _ ?_ (fun _ _ _ => rfl) (fun _ _ => rfl)) (fun g => t_M_measure_5 (vp_in_lt hk (by decide)) (s_M_steps hc m3 (t_M_measure_6 (t_M_measure_7 (vp_in_lt hk (by decide)) (nx _ ?_ (fun o i q => ?_) (fun _ _ => rfl)))))))
    · rw [g1']
      unfold apU
      rw [if_neg (by rw [zb_t.mp g]; decide)]
    · rw [hcl, gI_sI, if_pos ⟨rfl, rfl⟩, g1']
      unfold apU
      rw [if_pos (zb_f.mp g)]
      by_cases q : stp c (nrF h c) < a
      · rw [if_pos q, if_pos (nI_lt q (by omega))]
      · rw [if_neg q, if_neg (nI_nlt (by omega) (by omega))]
    · rw [hcl, gI_sI, if_neg q]
theorem s_M_measure {d : Nat} {w : zW} {Q : zQ} {op h : Int64} {k : Nat} (hk : k < 8) (hs : SET h) (h0 : ¬ h = 0) (h23 : gL w 23 k = h)
    (hq : ∀ w', gI w' 24 k = nI (apF h op) → (∀ c, c < 36 → gI w' 25 (k * 36 + c) = nI (nrF h c)) → (∀ o i, ¬ (o = 24 ∧ i = k) → ¬ (o = 25 ∧ k * 36 ≤ i ∧ i < k * 36 + 36) → gI w' o i = gI w o i) → (∀ o i, gL w' o i = gL w o i) → Q none w') : WM (d + 3) m_M_measure 6 [.ref 9, .int (nI k), .long op] w Q := by
  refine n_M_measure (t_M_measure_0 (vp_in_lt hk (by decide)) ?_)
  rw [nI_clamp (by omega)]
  refine lp_M_measure hk hs h0 h23 hq 36 0 1000 _ rfl (Nat.le_refl _) rfl ?_ (fun e he => by omega) (fun o i q1 q2 => ?_) (fun _ _ => rfl)
  · rw [gI_sI, if_pos ⟨rfl, rfl⟩]; rfl
  · rw [gI_sI, if_neg q1]
/-! who has been visited -/
def ib (v : Int32) (g : Nat) : Bool := v.toBitVec.getLsbD g
theorem ik_sh : ∀ k, k < 8 → ((nI k &&& 31).toBitVec.smod 32).toNat = k := by decide +kernel
theorem ib_ext {x y : Int32} (h : ∀ i, i < 32 → ib x i = ib y i) : x = y := by
  apply Int32.toBitVec_inj.mp
  apply BitVec.eq_of_getLsbD_eq
  intro i hi
  exact h i hi
theorem ib_1 : ∀ i, i < 32 → ib 1 i = decide (i = 0) := by decide +kernel
theorem ib_sr {k : Nat} (hk : k < 8) (v : Int32) (i : Nat) (hi : k + i < 32) : ib (v >>> (nI k &&& 31)) i = ib v (k + i) := by
  unfold ib
  rw [Int32.toBitVec_shiftRight, BitVec.sshiftRight_eq', ik_sh k hk, BitVec.getLsbD_sshiftRight]
  simp [show i < 32 by omega, hi]
theorem ib_get {k : Nat} (hk : k < 8) (v : Int32) : ((v >>> (nI k &&& 31)) &&& 1) = 0 ↔ ib v k = false := by
  have ha : ∀ (x y : Int32) (i : Nat), ib (x &&& y) i = (ib x i && ib y i) := fun x y i => by simp [ib]
  have h0 : ∀ i, ib 0 i = false := fun i => by simp [ib]
  constructor
  · intro h
    have := congrArg (fun z => ib z 0) h
    simp only [ha, ib_1 0 (by decide), h0] at this
    rw [ib_sr hk v 0 (by omega)] at this
    simpa using this
  · intro h
    apply ib_ext
    intro i hi
    rw [ha, ib_1 i hi, h0]
    by_cases e : i = 0
    · subst e; rw [ib_sr hk v 0 (by omega)]; simp [h]
    · simp [e]
theorem ib_sh1 : ∀ k, k < 8 → ∀ g, g < 32 → ib (1 <<< (nI k &&& 31)) g = decide (g = k) := by decide +kernel
theorem ib_set {k g : Nat} (hk : k < 8) (hg : g < 32) (v : Int32) : ib (v ||| (1 <<< (nI k &&& 31))) g = (ib v g || decide (g = k)) := by
  rw [← ib_sh1 k hk g hg]
  simp [ib]
/-! the mole's memory -/
def MO (w : zW) (op : Int64) (l : List Int64) : Prop := gI w 9 5 = nI l.length ∧ (∀ k, k < l.length → gL w 23 k = l.getD k 0) ∧ (∀ k, k < l.length → gI w 24 k = nI (apF (l.getD k 0) op)) ∧ ∀ k c, k < l.length → c < 36 → gI w 25 (k * 36 + c) = nI (nrF (l.getD k 0) c)
def gM (l : List Int64) (k c : Nat) : Nat := nrF (l.getD k 0) c
def mZI (o k : Nat) : Bool := (o == 9 && k == 6) || o == 26 || o == 27
theorem MO.k {w w' : zW} {op : Int64} {l : List Int64} (h : MO w op l) (x : EQX mZI m0L w w') : MO w' op l := ⟨by rw [x.1 9 5 rfl]; exact h.1, fun k hk => by rw [x.2 23 k rfl]; exact h.2.1 k hk, fun k hk => by rw [x.1 24 k rfl]; exact h.2.2.1 k hk, fun k c hk hc => by rw [x.1 25 _ rfl]; exact h.2.2.2 k c hk hc⟩
/-- what is best so far -/
def BS (w : zW) (l : List Int64) (st : Nat × List Nat) : Prop := gI w 9 6 = nI st.1 ∧ ∀ i k, st.2[i]? = some k → gI w 27 i = nI (lo6 (l.getD k 0))
def RO (w : zW) (pre : List Nat) : Prop := ∀ i k, pre[i]? = some k → gI w 26 i = nI k
theorem lp_M_leaf {d : Nat} {w0 : zW} {Q : zQ} {op : Int64} {l : List Int64} {pre : List Nat} (hH : HOK op l) (hM : MO w0 op l) (hp : pre.length = l.length) (hpl : ∀ k ∈ pre, k < l.length) (hR : RO w0 pre)
    (hq : ∀ w', (∀ i k, pre[i]? = some k → gI w' 27 i = nI (lo6 (l.getD k 0))) → EQX (fun o _ => o == 27) m0L w0 w' → Q none w') : ∀ (m i : Nat) (w : zW), i + m = l.length → (∀ j k, j < i → pre[j]? = some k → gI w 27 j = nI (lo6 (l.getD k 0))) → EQX (fun o _ => o == 27) m0L w0 w → WP (d + 2) m_M_seek 5 [some (.ref 9), none, none, none, none, none, some (.int (nI i)), none] [] w Q
  | 0, i, w, hi, h27, hx => by
    have h8 := hH.1
    have e : i = l.length := by omega
    subst e
    exact t_M_seek_5 (fun _ => t_M_seek_8 (hq w (fun j k hk => h27 j k (by have := (List.getElem?_eq_some_iff.mp hk).1; omega) hk) hx)) (fun g => absurd (by rw [hx.1 9 5 rfl, hM.1]; exact Int32.le_refl _) g)
  | m + 1, i, w, hi, h27, hx => by
    have h8 := hH.1
    have hil : i < pre.length := by omega
    have hk := hpl _ (List.getElem_mem hil)
    have e26 : gI w 26 (nI i).toNatClampNeg = nI pre[i] := by rw [nI_clamp (by omega), hx.1 26 i rfl]; exact hR i _ (List.getElem?_eq_getElem hil)
    refine t_M_seek_5 (fun g => absurd g (by rw [hx.1 9 5 rfl, hM.1]; exact nI_ge (by omega) (by omega))) (fun _ => t_M_seek_6 (vp_in_lt (by omega) (by decide)) (by rw [e26]; exact vp_in_lt (by omega) (by decide)) ?_)
    rw [e26, nI_clamp (by omega), hx.2 23 _ rfl, hM.2.1 _ hk]
    refine s_P_least (hH.2.1 _ hk).2.1 (t_M_seek_7 (vp_in_lt (by omega) (by decide)) ?_)
    rw [n1, nI_clamp (by omega)]
    refine lp_M_leaf hH hM hp hpl hR hq m (i + 1) _ (by omega) (fun j k hj hjk => ?_) (hx.pI (o := 27) (k := i) _ rfl)
    rw [gI_sI]
    by_cases q : j = i
    · rw [if_pos ⟨rfl, q⟩]
      rw [q, List.getElem?_eq_getElem hil] at hjk
      injection hjk with hjk
      rw [hjk]
    · rw [if_neg (fun z => q z.2)]; exact h27 j k (by omega) hjk
theorem m27 {w w' : zW} (h : EQX (fun o _ => o == 27) m0L w w') : EQX mZI m0L w w' := ⟨fun o k q => h.1 o k (by
    unfold mZI at q
    simp only [Bool.or_eq_false_iff] at q
    exact q.2), h.2⟩
/-- what is still to be visited, below h and from h on -/
def BEEN (v : Int32) (n : Nat) (R : List Nat) : Prop := ∀ k, k < n → (ib v k = false ↔ k ∈ R)
theorem s_M_seek {op : Int64} {l : List Int64} (hop : SET op) (hH : HOK op l) : ∀ (m d : Nat) (at' : Nat) (pre R : List Nat) (v : Int32) (s ah : Nat) (st : Nat × List Nat) (w : zW) (Q : zQ), R.length = m → pre.length + m = l.length → at' < 36 → (∀ k ∈ pre, k < l.length) → R.Pairwise (· < ·) → (∀ k ∈ R, k < l.length) → BEEN v l.length R → ah = sA (fun k => apF (l.getD k 0) op) R → s ≤ 10 * pre.length → st.1 ≤ 1000 → (0 < pre.length → ∃ j, j < l.length ∧ j ∉ R ∧ bt6 (l.getD j 0) at' = true) → (pre.length = 0 → m = 0 → s < st.1) → MO w op l → RO w pre → BS w l st →
    (∀ w', BS w' l ((plF m R).foldl (fbS (gM l) s at' pre) st) → RO w' pre → EQX mZI m0L w w' → Q none w') → WM (d + m + 3) m_M_seek 8 [.ref 9, .int (nI at'), .int v, .int (nI s), .int (nI ah), .int (nI pre.length)] w Q := by
  have h8 := hH.1
  have hgm : ∀ k c, k < l.length → gM l k c < 36 ∧ bt6 (l.getD k 0) (gM l k c) = true := fun k c hk => by
    obtain ⟨a1, a2, a3⟩ := hH.2.1 k hk
    obtain ⟨b1', b2, b3⟩ := nr_mem a1 a2 c
    exact ⟨b3, b2⟩
  have hap : ∀ j k c, j < l.length → k < l.length → ¬ j = k → bt6 (l.getD j 0) c = true → apF (l.getD k 0) op ≤ stp c (gM l k c) := fun j k c hj hk hjk hc =>
    apO_at ((hH.2.1 j hj).2.2 c hc) (hH.2.2 j k c hj hk hjk hc) 36 0 1000 (Nat.zero_le _) (by have := (hH.2.1 j hj).1.lt hc; omega)
  have sal : ∀ R : List Nat, sA (fun k => apF (l.getD k 0) op) R ≤ 1000 * R.length := fun R => by
    induction R with
    | nil => exact Nat.le_refl _
    | cons k R ih =>
      have : apF (l.getD k 0) op ≤ 1000 := apO_le _ _ 36 0 1000
      show (apF (l.getD k 0) op :: R.map _).sum ≤ 1000 * (R.length + 1)
      rw [List.sum_cons]
      have ih : (R.map (fun k => apF (l.getD k 0) op)).sum ≤ 1000 * R.length := ih
      omega
  intro m
  induction m with
  | zero =>
    intro d at' pre R v s ah st w Q hR hpl hat hpre hso hRl hbe hah hs hst hin hnp hM hro hbs hq
    have hR0 : R = [] := List.length_eq_zero_iff.mp hR
    subst hR0
    have hah0 : ah = 0 := hah
    subst hah0
    have hpl0 : pre.length = l.length := by omega
    have e : (plF 0 []).foldl (fbS (gM l) s at' pre) st = fbS (gM l) s at' pre st [] := rfl
    rw [e] at hq
    have leaf : s < st.1 → WP (d + 3) m_M_seek 3 [some (.ref 9), some (.int (nI at')), some (.int v), some (.int (nI s)), some (.int (nI 0)), some (.int (nI pre.length)), none, none] [] w Q := fun hlt => by
      have e2 : fbS (gM l) s at' pre st [] = (s, pre) := by
        unfold fbS
        rw [if_pos (by show s + 0 < st.1; omega), List.append_nil]; rfl
      rw [e2] at hq
      refine t_M_seek_3 (fun g => absurd g (by rw [hM.1, hpl0]; exact nI_nlt (Nat.le_refl _) (by omega))) (fun _ => t_M_seek_4 ?_)
      have xs : EQX mZI m0L w (sI w 9 6 (nI s)) := EQX.rf.pI (o := 9) (k := 6) _ rfl
      refine lp_M_leaf (d := d + 1) hH (hM.k xs) hpl0 hpre (fun i k hk => by rw [gI_sI, if_neg (by omega)]; exact hro i k hk) (fun wa h27 xa => hq wa ⟨?_, h27⟩ (fun i k hk => ?_) (xs.tr (m27 xa))) l.length 0 _ (by omega) (fun j k hj => by omega) EQX.rf
      · rw [xa.1 9 6 rfl, gI_sI, if_pos ⟨rfl, rfl⟩]
      · rw [xa.1 26 i rfl, gI_sI, if_neg (by omega)]; exact hro i k hk
    refine n_M_seek (t_M_seek_0 (fun g => leaf ?_) (fun g => t_M_seek_1 (fun g2 => leaf ?_) (fun g2 => t_M_seek_2 ?_)))
    · rw [nI_le0 (by omega)] at g
      exact hnp g rfl
    · rw [hbs.1, nI_add, nI_ltI (by omega) (by omega)] at g2
      omega
    · rw [hbs.1, nI_add, nI_ltI (by omega) (by omega)] at g2
      have e2 : fbS (gM l) s at' pre st [] = st := if_neg (by show ¬ s + 0 < st.1; omega)
      rw [e2] at hq
      exact hq w hbs hro EQX.rf
  | succ m ih =>
    intro d at' pre R v s ah st w Q hR hpl hat hpre hso hRl hbe hah hs hst hin hnp hM hro hbs hq
    have hsal := sal R
    rw [plF_s] at hq
    -- the row of tries
    have loop : ∀ (q h : Nat) (A B : List Nat) (st1 : Nat × List Nat) (w1 : zW), h + q = l.length → A ++ B = R → (∀ k ∈ A, k < h) → (∀ k ∈ B, h ≤ k) → st1.1 ≤ 1000 → BS w1 l st1 → RO w1 pre → EQX mZI m0L w w1 → (blkG (plF m) A B).foldl (fbS (gM l) s at' pre) st1 = (blkG (plF m) [] R).foldl (fbS (gM l) s at' pre) st → WP (d + (m + 1) + 3) m_M_seek 10 [some (.ref 9), some (.int (nI at')), some (.int v), some (.int (nI s)), some (.int (nI ah)), some (.int (nI pre.length)), some (.int (nI h)), none] [] w1 Q := by
      intro q
      induction q with
      | zero =>
        intro h A B st1 w1 hh hAB hA hB hst1 hb1 hr1 hx1 hf
        have e : h = l.length := by omega
        subst e
        have hB0 : B = [] := by
          cases B with
          | nil => rfl
          | cons b B =>
            have b1' := hB b (List.mem_cons_self ..)
            have b2 := hRl b (by rw [← hAB]; exact List.mem_append_right _ (List.mem_cons_self ..))
            omega
        subst hB0
        have hf : st1 = (blkG (plF m) [] R).foldl (fbS (gM l) s at' pre) st := hf
        rw [hf] at hb1
        exact t_M_seek_10 (fun _ => t_M_seek_16 (hq w1 hb1 hr1 hx1)) (fun g => absurd (by rw [hx1.1 9 5 rfl, hM.1]; exact Int32.le_refl _) g)
      | succ q ihq =>
        intro h A B st1 w1 hh hAB hA hB hst1 hb1 hr1 hx1 hf
        have hhl : h < l.length := by omega
        have hM1 := hM.k hx1
        refine t_M_seek_10 (fun g => absurd g (by rw [hM1.1]; exact nI_ge hhl (by omega))) (fun _ => t_M_seek_11 (fun g => ?_) (fun g => t_M_seek_12 (t_M_seek_15 ?_)))
        · rw [ib_get (by omega), hbe h hhl] at g
          have hhB : h ∈ B := by
            rw [← hAB] at g
            rcases List.mem_append.mp g with g | g
            · have := hA h g; omega
            · exact g
          -- h is the first of B
          obtain ⟨B', rfl⟩ : ∃ B', B = h :: B' := by
            cases B with
            | nil => cases hhB
            | cons b B' =>
              have b1' := hB b (List.mem_cons_self ..)
              rcases List.mem_cons.mp hhB with z | z
              · exact ⟨B', by rw [z]⟩
              · have hpw := (List.pairwise_append.mp (by rw [hAB]; exact hso)).2.1
                have := (List.pairwise_cons.mp hpw).1 h z
                omega
          have hRp : (A ++ B').Pairwise (· < ·) := by
            have hp1 := List.pairwise_append.mp (show (A ++ h :: B').Pairwise (· < ·) by rw [hAB]; exact hso)
            exact List.pairwise_append.mpr ⟨hp1.1, (List.pairwise_cons.mp hp1.2.1).2, fun a ha b hb => hp1.2.2 a ha b (List.mem_cons_of_mem _ hb)⟩
          have hhA : h ∉ A ++ B' := fun z => by
            rcases List.mem_append.mp z with z | z
            · have := hA h z; omega
            · have hp1 := List.pairwise_append.mp (show (A ++ h :: B').Pairwise (· < ·) by rw [hAB]; exact hso)
              have := (List.pairwise_cons.mp hp1.2.1).1 h z; omega
          have hperm : (h :: (A ++ B')).Perm R := by rw [← hAB]; exact List.perm_middle.symm
          have hsum : sA (fun k => apF (l.getD k 0) op) R = apF (l.getD h 0) op + sA (fun k => apF (l.getD k 0) op) (A ++ B') := by
            rw [← sA_perm hperm]; unfold sA; rw [List.map_cons, List.sum_cons]
          obtain ⟨gm1, gm2⟩ := hgm h at' hhl
          have hlenR : (A ++ B').length = m := by
            have := hperm.length_eq
            rw [List.length_cons] at this
            omega
          have ei : nI h * 36 + nI at' = nI (h * 36 + at') := by rw [show (36 : Int32) = nI 36 from rfl, pk_mul, nI_add]
          have e25 : gI w1 25 (nI h * 36 + nI at').toNatClampNeg = nI (gM l h at') := by rw [ei, nI_clamp (by omega)]; exact hM1.2.2.2 h at' hhl hat
          refine t_M_seek_13 (vp_in_lt (by omega) (by decide)) (by rw [ei]; exact vp_in_lt (by omega) (by decide)) ?_
          rw [e25, nI_clamp (by omega)]
          have hstp := stp_le hat gm1
          refine s_M_steps hat gm1 (t_M_seek_14 (vp_in_lt (by omega) (by decide)) ?_)
          have x2 : EQX mZI m0L w1 (sI w1 26 pre.length (nI h)) := EQX.rf.pI (o := 26) (k := pre.length) _ rfl
          have hM2 := hM1.k x2
          rw [nI_clamp (by omega), hM2.2.2.1 h hhl, nI_add, n1, hah, hsum, pk_sub (Nat.le_add_right _ _), show apF (l.getD h 0) op + sA (fun k => apF (l.getD k 0) op) (A ++ B') - apF (l.getD h 0) op = sA (fun k => apF (l.getD k 0) op) (A ++ B') by omega, show nI (pre.length + 1) = nI (pre ++ [h]).length by rw [List.length_append, List.length_singleton]]
          have hr2 : RO (sI w1 26 pre.length (nI h)) (pre ++ [h]) := fun i k hk => by
            rw [gI_sI]
            rcases app_get hk with ⟨q1, q2⟩ | ⟨q1, q2⟩
            · rw [if_neg (by omega)]; exact hr1 i k q2
            · rw [if_pos ⟨rfl, q1⟩, q2]
          have hb2 : BS (sI w1 26 pre.length (nI h)) l st1 := ⟨by rw [gI_sI, if_neg (by omega)]; exact hb1.1, fun i k hk => by rw [gI_sI, if_neg (by omega)]; exact hb1.2 i k hk⟩
          have hmem : ∀ k, k ∈ A ++ B' → k ∈ R := fun k hk => hperm.subset (List.mem_cons_of_mem _ hk)
          refine ih d (gM l h at') (pre ++ [h]) (A ++ B') _ (s + stp at' (gM l h at')) _ st1 _ _ hlenR (by rw [List.length_append, List.length_singleton]; omega) gm1 (fun k hk => ?_) hRp (fun k hk => hRl k (hmem k hk)) (fun k hk => ?_) rfl (by rw [List.length_append, List.length_singleton]; omega) hst1 (fun _ => ⟨h, hhl, hhA, gm2⟩) (fun z => by rw [List.length_append, List.length_singleton] at z; omega) hM2 hr2 hb2 (fun wa ba ra xa => t_M_seek_15 ?_)
          · rcases List.mem_append.mp hk with hk | hk
            · exact hpre k hk
            · rw [List.mem_singleton] at hk; omega
          · rw [ib_set (by omega) (by omega), Bool.or_eq_false_iff, hbe k hk, decide_eq_false_iff_not]
            constructor
            · rintro ⟨z1, z2⟩
              have := hperm.mem_iff.mpr z1
              rcases List.mem_cons.mp this with z | z
              · exact absurd z z2
              · exact z
            · intro z
              exact ⟨hmem k z, fun y => hhA (by rw [← y]; exact z)⟩
          · rw [← hsum, ← hah, n1]
            have hfold : (blkG (plF m) A (h :: B')).foldl (fbS (gM l) s at' pre) st1 = (blkG (plF m) (A ++ [h]) B').foldl (fbS (gM l) s at' pre) ((plF m (A ++ B')).foldl (fbS (gM l) (s + stp at' (gM l h at')) (gM l h at') (pre ++ [h])) st1) := by
              show ((plF m (A ++ B')).map (h :: ·) ++ blkG (plF m) (A ++ [h]) B').foldl _ _ = _
              rw [List.foldl_append, List.foldl_map]
              congr 2
              funext a p
              unfold fbS
              have e1 : s + cst (gM l) at' (h :: p) = s + stp at' (gM l h at') + cst (gM l) (gM l h at') p := by
                show s + (stp at' (gM l h at') + cst (gM l) (gM l h at') p) = _
                omega
              rw [e1, show pre ++ h :: p = pre ++ [h] ++ p by rw [List.append_assoc]; rfl]
            rw [hfold] at hf
            refine ihq (h + 1) (A ++ [h]) B' _ wa (by omega) (by rw [List.append_assoc]; exact hAB) (fun k hk => ?_) (fun k hk => ?_) ?_ ba (fun i k hk => ?_) ((hx1.tr x2).tr xa) hf
            · rcases List.mem_append.mp hk with hk | hk
              · have := hA k hk; omega
              · rw [List.mem_singleton] at hk; omega
            · have b1' := hB k (List.mem_cons_of_mem _ hk)
              have : ¬ k = h := fun z => hhA (by rw [← z]; exact List.mem_append_right _ hk)
              omega
            · have : ∀ (L : List (List Nat)) (z : Nat × List Nat), z.1 ≤ 1000 → (L.foldl (fbS (gM l) (s + stp at' (gM l h at')) (gM l h at') (pre ++ [h])) z).1 ≤ 1000 := by
                intro L
                induction L with
                | nil => intro z hz; exact hz
                | cons p L ihL =>
                  intro z hz
                  rw [List.foldl_cons]
                  refine ihL _ ?_
                  unfold fbS
                  split
                  · show s + stp at' (gM l h at') + cst (gM l) (gM l h at') p ≤ 1000
                    omega
                  · exact hz
              exact this _ _ hst1
            · refine ra i k ?_
              rw [List.getElem?_append_left (List.getElem?_eq_some_iff.mp hk).1]; exact hk
        · rw [ib_get (by omega), Bool.not_eq_false] at g
          rw [n1]
          have hhR : h ∉ R := fun z => by rw [← hbe h hhl, g] at z; cases z
          refine ihq (h + 1) A B st1 w1 (by omega) hAB (fun k hk => by have := hA k hk; omega) (fun k hk => ?_) hst1 hb1 hr1 hx1 hf
          have b1' := hB k hk
          have : ¬ k = h := fun z => hhR (by rw [← hAB, ← z]; exact List.mem_append_right _ hk)
          omega
    have go : WP (d + (m + 1) + 3) m_M_seek 3 [some (.ref 9), some (.int (nI at')), some (.int v), some (.int (nI s)), some (.int (nI ah)), some (.int (nI pre.length)), none, none] [] w Q := by
      refine t_M_seek_3 (fun _ => t_M_seek_9 ?_) (fun g => absurd (by rw [hM.1]; exact nI_lt (by omega) (by omega)) g)
      exact loop l.length 0 [] R st w (by omega) rfl (fun k hk => by cases hk) (fun k _ => Nat.zero_le _) hst hbs hro EQX.rf rfl
    refine n_M_seek (t_M_seek_0 (fun _ => go) (fun g => t_M_seek_1 (fun _ => go) (fun g2 => t_M_seek_2 ?_)))
    rw [nI_le0 (by omega)] at g
    rw [hbs.1, nI_add, nI_ltI (by omega) (by omega)] at g2
    obtain ⟨j, hj, hjR, hja⟩ := hin (by omega)
    have : (blkG (plF m) [] R).foldl (fbS (gM l) s at' pre) st = st := by
      refine fb_none _ (fun p hp => ?_)
      have hpp := pl_perm (m + 1) R p hR hp
      have hnd : p.Nodup := hpp.nodup_iff.mpr (hso.imp (fun h => Nat.ne_of_lt h))
      have := cst_ge (g := gM l) (ap := fun k => apF (l.getD k 0) op) (inH := fun k c => bt6 (l.getD k 0) c = true) (n := l.length) (fun k c hk => (hgm k c hk).2) hap p at' j hj hja (fun z => hjR (hpp.subset z)) hnd (fun k hk => hRl k (hpp.subset hk))
      rw [sA_perm hpp] at this
      omega
    rw [this] at hq
    exact hq w hbs hro EQX.rf
