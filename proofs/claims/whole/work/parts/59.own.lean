/-! ===== owners: part, pays, worth, loophole ===== -/
theorem nI_eqo {a b : Nat} (ha : a < 2 ^ 31) (hb : b < 2 ^ 31) : nI a = nI b ↔ a = b := by
  constructor
  · intro e
    have h1 := nI_clamp ha
    rw [e, nI_clamp hb] at h1
    exact h1.symm
  · intro e; rw [e]
theorem lp_G_landOf {d : Nat} {w : zW} {Q : zQ} {S : zS} {o : Nat} (ho : o < 2 ^ 31) (hG : GC w 1 S) (hk : okS S) (h : Q (some (.long (laS S o))) w) : ∀ (n j : Nat), j + n = 36 → WP d m_G_landOf 1 [some (.ref 1), some (.int (nI o)), some (.long (mkn (fun c => decide (owS S c = o)) j)), none, some (.int (nI j))] [] w Q
  | 0, j, hj => by
    have e : j = 36 := by omega
    subst e
    exact t_G_landOf_1 (fun _ => t_G_landOf_5 h) (fun g => absurd (Int32.le_refl _) g)
  | n + 1, j, hj => by
    have hjl : j < 36 := by omega
    have e : gI w 12 (nI j).toNatClampNeg = nI o ↔ owS S j = o := by
      rw [nI_clamp (by omega), show gI w 12 j = nI (owS S j) from hG.2.1 j hjl]
      have := hk.2.1 j hjl
      exact nI_eqo (by omega) ho
    refine t_G_landOf_1 (fun g => absurd g (nI_ge (show j < 36 by omega) (by decide))) (fun _ => t_G_landOf_2 (vp_in_lt (by omega) (by decide)) (fun g => t_G_landOf_4 ?_) (fun g => t_G_landOf_3 (t_G_landOf_4 ?_)))
    · rw [e] at g
      have := lp_G_landOf (d := d) ho hG hk h n (j + 1) (by omega)
      rw [← mkn_or _ j 0 (by simp [g]), show ∀ x : Int64, x ||| 0 = x from fun x => by simp, ← n1] at this
      exact this
    · rw [e] at g
      have := lp_G_landOf (d := d) ho hG hk h n (j + 1) (by omega)
      rw [← mkn_or _ j (b1 j) (by simp [g]), ← n1] at this
      exact this
theorem s_G_landOf {d : Nat} {w : zW} {Q : zQ} {S : zS} {o : Nat} (ho : o < 2 ^ 31) (hG : GC w 1 S) (hk : okS S) (h : Q (some (.long (laS S o))) w) : WM d m_G_landOf 5 [.ref 1, .int (nI o)] w Q :=
  n_G_landOf (t_G_landOf_0 (lp_G_landOf ho hG hk h 36 0 rfl))
theorem lp_N_owned {d : Nat} {w : zW} {Q : zQ} {S : zS} {o : Nat} (ho : o < 2 ^ 31) (hG : GN w S) (hk : okS S) (h : Q (some (.long (laS S o))) w) : ∀ (n j : Nat), j + n = 36 → WP d m_N_owned 1 [some (.ref 10), some (.int (nI o)), some (.long (mkn (fun c => decide (owS S c = o)) j)), none, some (.int (nI j))] [] w Q
  | 0, j, hj => by
    have e : j = 36 := by omega
    subst e
    exact t_N_owned_1 (fun _ => t_N_owned_6 h) (fun g => absurd (Int32.le_refl _) g)
  | n + 1, j, hj => by
    have hjl : j < 36 := by omega
    have e : gI w 29 (nI j).toNatClampNeg = nI o ↔ owS S j = o := by
      rw [nI_clamp (by omega), show gI w 29 j = nI (owS S j) from hG.2.1 j hjl]
      have := hk.2.1 j hjl
      exact nI_eqo (by omega) ho
    refine t_N_owned_1 (fun g => absurd g (nI_ge (show j < 36 by omega) (by decide))) (fun _ => t_N_owned_2 (vp_in_lt (by omega) (by decide)) (fun g => t_N_owned_4 (t_N_owned_5 ?_)) (fun g => t_N_owned_3 (t_N_owned_5 ?_)))
    · rw [e] at g
      have := lp_N_owned (d := d) ho hG hk h n (j + 1) (by omega)
      rw [← mkn_or _ j 0 (by simp [g]), ← n1] at this
      exact this
    · rw [e] at g
      have := lp_N_owned (d := d) ho hG hk h n (j + 1) (by omega)
      rw [← mkn_or _ j (b1 j) (by simp [g]), ← n1] at this
      exact this
theorem s_N_owned {d : Nat} {w : zW} {Q : zQ} {S : zS} {o : Nat} (ho : o < 2 ^ 31) (hG : GN w S) (hk : okS S) (h : Q (some (.long (laS S o))) w) : WM d m_N_owned 5 [.ref 10, .int (nI o)] w Q :=
  n_N_owned (t_N_owned_0 (lp_N_owned ho hG hk h 36 0 rfl))
theorem s_C_isOwner {d : Nat} {w : zW} {Q : zQ} {x : Int32} (h : Q (some (.int (zb (inI x 0 3)))) w) : WM d m_C_isOwner 1 [.int x] w Q := by
  have e4 : ∀ x : Int32, (4 : Int32) ≤ x ↔ ¬ x ≤ 3 := fun x => by rw [Int32.le_iff_toInt_le, Int32.le_iff_toInt_le]; show (4 : Int) ≤ _ ↔ ¬ _ ≤ (3 : Int); omega
  refine n_C_isOwner (t_C_isOwner_0 (fun g => t_C_isOwner_3 (t_C_isOwner_4 (Or.inl rfl) ?_)) (fun g => t_C_isOwner_1 (fun g2 => t_C_isOwner_3 (t_C_isOwner_4 (Or.inl rfl) ?_)) (fun g2 => t_C_isOwner_2 (t_C_isOwner_4 (Or.inr rfl) ?_))))
  · rw [inI_f.mpr (Or.inl g)] at h; exact h
  · rw [inI_f.mpr (Or.inr ((e4 x).mp g2))] at h; exact h
  · have g3 : x ≤ 3 := Decidable.byContradiction fun q => g2 ((e4 x).mpr q)
    rw [inI_t g g3] at h; exact h
/-! the part of one -/
abbrev txH (S : zS) (h : Int64) : Int32 := txF (nI (raS S)) (roS S) (niS S) h
def prtA (S : zS) (h : Int64) (o : Nat) : Int32 := if cn (rimF h &&& (laS S 4 ^^^ (-1))) = 0 then 0 else txH S h * nI (cn (rimF h &&& laS S o)) / nI (cn (rimF h &&& (laS S 4 ^^^ (-1))))
theorem nI_c0 {k : Nat} (hk : k ≤ 64) : nI k = 0 ↔ k = 0 := nI_eqk (k := 0) (by omega) (by decide)
theorem s_G_partOf {d : Nat} {w : zW} {Q : zQ} {S : zS} {o : Nat} {x : Int64} (ho : o < 2 ^ 31) (hG : GC w 1 S) (hk : okS S) (h : Q (some (.int (prtA S x o))) w) : WM (d + 3) m_G_partOf 7 [.ref 1, .long x, .int (nI o)] w Q := by
  have e3 : gL w 1 3 = niS S := hG.2.2.2.1
  have e4 : gL w 1 4 = roS S := hG.2.2.2.2.1
  have e5 : gI w 1 5 = nI (raS S) := hG.2.2.2.2.2.1
  unfold prtA at h
  have hc := cn_64 (rimF x &&& (laS S 4 ^^^ (-1)))
  refine n_G_partOf (t_G_partOf_0 (s_P_rimOf (t_G_partOf_1 (s_G_landOf (o := 4) (by decide) hG hk (t_G_partOf_2 (s_J_bitCount (t_G_partOf_3 (fun g => t_G_partOf_5 (s_G_taxOf (t_G_partOf_6 (s_G_landOf ho hG hk (t_G_partOf_7 (s_J_bitCount (t_G_partOf_8 g ?_))))))) (fun g => t_G_partOf_4 ?_))))))))
  · rw [nI_c0 hc] at g
    rw [if_neg g] at h
    rw [e3, e4, e5]
    exact h
  · rw [nI_c0 hc] at g
    rw [if_pos g] at h
    exact h
theorem s_N_partOf {d : Nat} {w : zW} {Q : zQ} {S : zS} {o : Nat} {s : Int64} (ho : o < 2 ^ 31) (hG : GN w S) (hk : okS S) (e7 : gL w 10 7 = opS S) (e8 : gL w 10 8 = niS S) (h : Q (some (.int (prtA S (cl s (opS S)) o))) w) : WM (d + 3) m_N_partOf 7 [.ref 10, .long (cl s (opS S)), .int (nI o)] w Q := by
  have e4 : gL w 10 2 = roS S := hG.2.2.1
  have e3 : gI w 10 3 = nI (raS S) := hG.2.2.2.1
  unfold prtA at h
  have hc := cn_64 (rimF (cl s (opS S)) &&& (laS S 4 ^^^ (-1)))
  refine n_N_partOf (t_N_partOf_0 (s_N_rimOf (SET_op S) e7 (t_N_partOf_1 (s_N_owned (o := 4) (by decide) hG hk (t_N_partOf_2 (s_N_ones (t_N_partOf_3 (fun g => t_N_partOf_5 (s_N_taxOf (SET.cl _ (SET_op S)) (t_N_partOf_6 (s_N_owned ho hG hk (t_N_partOf_7 (s_N_ones (t_N_partOf_8 g (t_N_partOf_9 ?_)))))))) (fun g => t_N_partOf_4 (t_N_partOf_9 ?_)))))))))
  · rw [nI_c0 hc] at g
    rw [if_neg g] at h
    rw [e3, e4, e8]
    exact h
  · rw [nI_c0 hc] at g
    rw [if_pos g] at h
    exact h
def partA (S : zS) (x o : Int32) : Int32 := if isC x = true ∧ inI o 0 3 = true then (if bt6 (opS S) x.toNatClampNeg = true then prtA S (hoS S x.toNatClampNeg) o.toNatClampNeg else -2) else -1
theorem op_part {d : Nat} {w : zW} {x k : Int32} (h : RW w) : OPP (d + 4) m_C_part 5 m_N_part 3 [.ref 0, .int x, .int k] [.ref 10, .int x, .int k] w := by
  refine opQ (f := fun S => .int (partA S x k)) (fun S Q hG hk q => ?_) (fun S w Q hG hk q => ?_) h
  · have e2 : gL w 1 2 = opS S := hG.2.2.1
    have bad : (¬ (isC x = true ∧ inI k 0 3 = true)) → (Value.int (-1) : Value) = .int (partA S x k) := fun g => by unfold partA; rw [if_neg g]
    refine n_C_part (t_C_part_0 (s_C_isCell (t_C_part_1 (fun g => t_C_part_4 (q _ w (bad (fun e => by rw [zb_t.mp g] at e; cases e.1)) EQX.rf)) (fun g => t_C_part_2 (s_C_isOwner (t_C_part_3 (fun g1 => ?_) (fun g1 => t_C_part_4 (q _ w (bad (fun e => by rw [zb_t.mp g1] at e; cases e.2)) EQX.rf))))))))
    have g := zb_f.mp g
    have g3 := zb_f.mp g1
    obtain ⟨c, hc, rfl⟩ := isC_of g
    obtain ⟨o, ho, rfl⟩ := inI_of (n := 3) rfl g3
    have hcl : (nI c).toNatClampNeg = c := nI_clamp (by omega)
    have hol : (nI o).toNatClampNeg = o := nI_clamp (by omega)
    refine t_C_part_5 (s_G_holeAt (t_C_part_6 (fun g4 => t_C_part_8 (s_G_partOf (by omega) hG hk (t_C_part_9 (q _ w ?_ EQX.rf)))) (fun g4 => t_C_part_7 (t_C_part_9 (q _ w ?_ EQX.rf)))))
    · rw [e2, ho_0 hc, Bool.not_eq_false] at g4
      simp only [partA, g, g3, hcl, hol, e2, g4, and_self, if_true]
    · rw [e2, ho_0 hc] at g4
      simp only [partA, g, g3, hcl, g4, and_self, if_true]; rfl
  · have bad : (¬ (isC x = true ∧ inI k 0 3 = true)) → (Value.int (-1) : Value) = .int (partA S x k) := fun g => by unfold partA; rw [if_neg g]
    refine n_N_part (t_N_part_0 (s_N_isCell (t_N_part_1 (fun g => t_N_part_4 (q _ w (bad (fun e => by rw [zb_t.mp g] at e; cases e.1)) EQX.rf)) (fun g => t_N_part_2 (s_N_inI (a := 0) (b := 3) rfl rfl (t_N_part_3 (fun g1 => t_N_part_5 (s_N_look hG hk (fun w1 hw => ?_))) (fun g1 => t_N_part_4 (q _ w (bad (fun e => by rw [zb_t.mp g1] at e; cases e.2)) EQX.rf))))))))
    have g := zb_f.mp g
    have g3 := zb_f.mp g1
    obtain ⟨c, hc, rfl⟩ := isC_of g
    obtain ⟨o, ho, rfl⟩ := inI_of (n := 3) rfl g3
    have hcl : (nI c).toNatClampNeg = c := nI_clamp (by omega)
    have hol : (nI o).toNatClampNeg = o := nI_clamp (by omega)
    have hx := hw.eqx
    have e7 : gL w1 10 7 = opS S := hw.1
    refine t_N_part_6 (s_N_has (by omega) (t_N_part_7 (fun g4 => t_N_part_11 (t_N_part_12 (q _ w1 ?_ hx))) (fun g4 => t_N_part_8 (s_N_holeAt (by rw [e7]; exact SET_op S) (t_N_part_9 ?_)))))
    · rw [e7, zb_t] at g4
      simp only [partA, g, g3, hcl, g4, and_self, if_true]; rfl
    · rw [e7, zb_f] at g4
      rw [e7]
      refine s_N_partOf (by omega) (hw.gn hG) hk e7 hw.2.1 (t_N_part_10 (t_N_part_12 (q _ w1 ?_ hx)))
      simp only [partA, g, g3, hcl, hol, g4, and_self, if_true]
/-! all parts -/
def prS (S : zS) (o : Nat) (l : List Int64) (s : Int32) : Int32 := l.foldl (fun s h => s + prtA S h o) s
theorem comps_mem {t h : Int64} (ht : SET t) : ∀ (n : Nat) (x : Int64), CLO x t → h ∈ comps n x → ∃ i, bt6 x i = true ∧ h = cl (b1 i) t
  | 0, x, _, hh => by simp [comps] at hh
  | n + 1, x, hx, hh => by
    by_cases g : x = 0
    · rw [g, comps_0] at hh
      simp at hh
    · have hl := (lo6_spec g).2.1
      have e : cl (x &&& -x) x = cl (b1 (lo6 x)) t := by rw [first_eq g]; exact CLO_cl ht hx (b1_and_sub hl)
      rw [comps_s g] at hh
      rcases List.mem_cons.mp hh with rfl | hh
      · exact ⟨lo6 x, hl, e⟩
      · rw [e] at hh
        obtain ⟨i, hi, q⟩ := comps_mem ht n _ (hx.diff ht _) hh
        rw [bx_diff, Bool.and_eq_true] at hi
        exact ⟨i, hi.1, q⟩
theorem hls_mem {t h : Int64} (ht : SET t) (hh : h ∈ hls t) : ∃ i, bt6 t i = true ∧ h = cl (b1 i) t := comps_mem ht 36 t CLO.rf hh
theorem lp_G_partOfAll {d : Nat} {w : zW} {Q : zQ} {S : zS} {o : Nat} (ho : o < 2 ^ 31) (hG : GC w 1 S) (hk : okS S) : ∀ (n j : Nat) (x : Int64) (s : Int32), j + n = 36 → Q (some (.int (prS S o (comps n x) s))) w → WP (d + 4) m_G_partOfAll 1 [some (.ref 1), some (.int (nI o)), some (.int s), some (.long x), none, some (.int (nI j)), none, none] [] w Q
  | 0, j, x, s, hj, h => by
    have e : j = 36 := by omega
    subst e
    exact t_G_partOfAll_1 (fun _ => t_G_partOfAll_6 h) (fun g => absurd (Int32.le_refl _) g)
  | n + 1, j, x, s, hj, h => by
    refine t_G_partOfAll_1 (fun g => absurd g (nI_ge (show j < 36 by omega) (by decide))) (fun _ => t_G_partOfAll_2 (fun g => t_G_partOfAll_6 ?_) (fun g => t_G_partOfAll_3 (s_P_firstHole (t_G_partOfAll_4 (s_G_partOf ho hG hk (t_G_partOfAll_5 ?_))))))
    · rw [g, comps_0] at h; exact h
    · rw [comps_s g] at h
      rw [n1]
      exact lp_G_partOfAll ho hG hk n (j + 1) _ _ (by omega) h
theorem lp_N_pays {d : Nat} {w w0 : zW} {Q : zQ} {S : zS} {o : Nat} {l : List Int64} (ho : o < 2 ^ 31) (hG : GN w S) (hk : okS S) (e7 : gL w 10 7 = opS S) (e8 : gL w 10 8 = niS S) (hl : ∀ h ∈ l, ∃ s, h = cl s (opS S)) (hf : FH w0 w l) : ∀ (n j : Nat) (s : Int32), j + n = l.length → Q (some (.int (prS S o (l.drop j) s))) w → WP (d + 4) m_N_pays 6 [some (.ref 10), some (.int (nI o)), some (.int s), some (.int (nI j))] [] w Q
  | 0, j, s, hj, h => by
    have hle := hf.2.1
    refine t_N_pays_6 (fun _ => t_N_pays_9 ?_) (fun g => absurd ?_ g)
    · rw [List.drop_eq_nil_of_le (by omega)] at h
      exact h
    · rw [hf.1, show j = l.length by omega]; exact Int32.le_refl _
  | n + 1, j, s, hj, h => by
    have hle := hf.2.1
    have hjl : j < l.length := by omega
    refine t_N_pays_6 (fun g => absurd g (by rw [hf.1]; exact nI_ge hjl (by omega))) (fun _ => t_N_pays_7 (vp_in_lt (by omega) (by decide)) ?_)
    rw [nI_clamp (by omega), hf.2.2.1 j _ (List.getElem?_eq_getElem hjl)]
    obtain ⟨c, hc⟩ := hl _ (List.getElem_mem hjl)
    rw [List.drop_eq_getElem_cons hjl, hc] at h
    rw [hc]
    refine s_N_partOf ho hG hk e7 e8 (t_N_pays_8 ?_)
    rw [n1]
    exact lp_N_pays ho hG hk e7 e8 hl hf n (j + 1) _ (by omega) h
def paysA (S : zS) (o : Int32) : Int32 := if inI o 0 3 = true then prS S o.toNatClampNeg (hls (opS S)) 0 else -1
theorem op_pays {d : Nat} {w : zW} {k : Int32} (h : RW w) : OPP (d + 5) m_C_pays 2 m_N_pays 4 [.ref 0, .int k] [.ref 10, .int k] w := by
  refine opQ (f := fun S => .int (paysA S k)) (fun S Q hG hk q => ?_) (fun S w Q hG hk q => ?_) h
  · have e2 : gL w 1 2 = opS S := hG.2.2.1
    refine n_C_pays (t_C_pays_0 (s_C_isOwner (t_C_pays_1 (fun g => t_C_pays_4 (t_C_pays_5 (q _ w ?_ EQX.rf))) (fun g => ?_))))
    · simp only [paysA, zb_t.mp g]; rfl
    · have g := zb_f.mp g
      obtain ⟨o, ho, rfl⟩ := inI_of (n := 3) rfl g
      have hol : (nI o).toNatClampNeg = o := nI_clamp (by omega)
      refine t_C_pays_2 (n_G_partOfAll (t_G_partOfAll_0 (lp_G_partOfAll (by omega) hG hk 36 0 _ 0 rfl (t_C_pays_3 (t_C_pays_5 (q _ w ?_ EQX.rf))))))
      simp only [paysA, g, hol, e2, if_true]; rfl
  · refine n_N_pays (t_N_pays_0 (s_N_inI (a := 0) (b := 3) rfl rfl (t_N_pays_1 (fun g => t_N_pays_3 (s_N_look hG hk (fun w1 hw => ?_))) (fun g => t_N_pays_2 (q _ w ?_ EQX.rf)))))
    · have g := zb_f.mp g
      obtain ⟨o, ho, rfl⟩ := inI_of (n := 3) rfl g
      have hol : (nI o).toNatClampNeg = o := nI_clamp (by omega)
      have hG1 := hw.gn hG
      have e7 : gL w1 10 7 = opS S := hw.1
      refine t_N_pays_4 (s_N_findHoles (by rw [e7]; exact SET_op S) (fun w2 hf => t_N_pays_5 ?_))
      rw [e7] at hf
      refine lp_N_pays (by omega) (hf.eqx.gnR hG1) hk ((hf.2.2.2.2 10 7 (by decide)).trans e7) ((hf.2.2.2.2 10 8 (by decide)).trans hw.2.1) (fun h hh => ?_) hf (hls (opS S)).length 0 0 (Nat.zero_add _) (q _ w2 ?_ (hw.eqx.tr hf.eqx))
      · obtain ⟨i, _, e⟩ := hls_mem (SET_op S) hh
        exact ⟨_, e⟩
      · simp only [paysA, g, hol, if_true, List.drop_zero]
    · simp only [paysA, zb_t.mp g]; rfl
/-! worth -/
def worthA (S : zS) (o : Int32) : Int32 := if inI o 0 3 = true then txT S (opS S) - txT S (opS S &&& (laS S o.toNatClampNeg ^^^ (-1))) else -100001
theorem op_worth {d : Nat} {w : zW} {k : Int32} (h : RW w) : OPP (d + 5) m_C_worth 4 m_N_worth 3 [.ref 0, .int k] [.ref 10, .int k] w := by
  refine opQ (f := fun S => .int (worthA S k)) (fun S Q hG hk q => ?_) (fun S w Q hG hk q => ?_) h
  · have e2 : gL w 1 2 = opS S := hG.2.2.1
    have e3 : gL w 1 3 = niS S := hG.2.2.2.1
    have e4 : gL w 1 4 = roS S := hG.2.2.2.2.1
    have e5 : gI w 1 5 = nI (raS S) := hG.2.2.2.2.2.1
    refine n_C_worth (t_C_worth_0 (s_C_isOwner (t_C_worth_1 (fun g => ?_) (fun g => t_C_worth_2 (q _ w ?_ EQX.rf)))))
    · have g := zb_f.mp g
      obtain ⟨o, ho, rfl⟩ := inI_of (n := 3) rfl g
      have hol : (nI o).toNatClampNeg = o := nI_clamp (by omega)
      refine t_C_worth_3 (s_G_landOf (by omega) hG hk (t_C_worth_4 (s_G_taxOfAll (t_C_worth_5 (s_G_taxOfAll (t_C_worth_6 (q _ w ?_ EQX.rf)))))))
      simp only [worthA, g, hol, e2, e3, e4, e5, if_true, txT]
    · simp only [worthA, zb_t.mp g]; rfl
  · refine n_N_worth (t_N_worth_0 (s_N_inI (a := 0) (b := 3) rfl rfl (t_N_worth_1 (fun g => t_N_worth_3 (s_N_look hG hk (fun w1 hw => ?_))) (fun g => t_N_worth_2 (q _ w ?_ EQX.rf)))))
    · have g := zb_f.mp g
      obtain ⟨o, ho, rfl⟩ := inI_of (n := 3) rfl g
      have hol : (nI o).toNatClampNeg = o := nI_clamp (by omega)
      have hG1 := hw.gn hG
      have e7 : gL w1 10 7 = opS S := hw.1
      have e8 : gL w1 10 8 = niS S := hw.2.1
      have e4 : gL w1 10 2 = roS S := hG1.2.2.1
      have e3 : gI w1 10 3 = nI (raS S) := hG1.2.2.2.1
      refine t_N_worth_4 (s_N_taxOfAll (by rw [e7]; exact SET_op S) (fun w2 hf => t_N_worth_5 (s_N_owned (by omega) (hf.eqx.gnR hG1) hk (t_N_worth_6 ?_))))
      have f7 : gL w2 10 7 = opS S := (hf.2.2.2.2 10 7 (by decide)).trans e7
      rw [f7]
      have hS : SET (opS S &&& (laS S o ^^^ (-1))) := (SET_op S).diff _
      refine s_N_taxOfAll (by rw [gL_sL, if_pos ⟨rfl, rfl⟩]; exact hS) (fun w3 hf3 => t_N_worth_7 (q _ w3 ?_ ?_))
      · rw [gL_sL, if_neg (by decide), gL_sL, if_neg (by decide), gL_sL, if_pos ⟨rfl, rfl⟩, gI_sL, hf.2.2.2.2 10 2 (by decide), hf.2.2.2.2 10 8 (by decide), hf.2.2.2.1 10 3 (by decide), e3, e4, e7, e8]
        simp only [worthA, g, hol, if_true, txT]
      · exact (((hw.eqx.tr hf.eqx).pL (o := 10) (k := 7) _ rfl)).tr hf3.eqx
    · simp only [worthA, zb_t.mp g]; rfl
/-! the loophole -/
def lpA (S : zS) : Nat → Int32 × Int32
  | 0 => (-4, txT S (opS S))
  | n + 1 => if dpS S n = 0 then (if (lpA S n).2 ≤ txT S (opS S ||| b1 n) then lpA S n else (nI n, txT S (opS S ||| b1 n))) else lpA S n
theorem lp_C_loophole {d : Nat} {w : zW} {Q : zQ} {S : zS} (hG : GC w 1 S) (h : Q (some (.int (lpA S 36).1)) w) : ∀ (n j : Nat), j + n = 36 → WP (d + 4) m_C_loophole 2 [some (.ref 0), some (.int (lpA S j).1), some (.int (lpA S j).2), some (.int (nI j)), none] [] w Q
  | 0, j, hj => by
    have e : j = 36 := by omega
    subst e
    exact t_C_loophole_2 (fun _ => t_C_loophole_10 h) (fun g => absurd (Int32.le_refl _) g)
  | n + 1, j, hj => by
    have hjl : j < 36 := by omega
    have e2 : gL w 1 2 = opS S := hG.2.2.1
    have e3 : gL w 1 3 = niS S := hG.2.2.2.1
    have e4 : gL w 1 4 = roS S := hG.2.2.2.2.1
    have e5 : gI w 1 5 = nI (raS S) := hG.2.2.2.2.2.1
    have ih := lp_C_loophole (d := d) hG h n (j + 1) (by omega)
    refine t_C_loophole_2 (fun g => absurd g (nI_ge (show j < 36 by omega) (by decide))) (fun _ => t_C_loophole_3 (s_P_has (by omega) (t_C_loophole_4 (fun g => t_C_loophole_6 (s_G_taxOfAll (t_C_loophole_7 (fun g2 => t_C_loophole_9 ?_) (fun g2 => t_C_loophole_8 (t_C_loophole_9 ?_))))) (fun g => t_C_loophole_5 (t_C_loophole_9 ?_)))))
    · rw [e2, zb_t, bx_op hjl, decide_eq_false_iff_not] at g
      rw [e2, e3, e4, e5] at g2
      have e : lpA S (j + 1) = lpA S j := by
        show (if dpS S j = 0 then _ else _) = _
        rw [if_pos (by omega)]; exact if_pos g2
      rw [n1, ← e]; exact ih
    · rw [e2, zb_t, bx_op hjl, decide_eq_false_iff_not] at g
      rw [e2, e3, e4, e5] at g2
      have e : lpA S (j + 1) = (nI j, txT S (opS S ||| b1 j)) := by
        show (if dpS S j = 0 then _ else _) = _
        rw [if_pos (by omega)]; exact if_neg g2
      rw [e] at ih
      rw [n1, e2, e3, e4, e5]; exact ih
    · rw [e2, zb_f, bx_op hjl, decide_eq_true_eq] at g
      have e : lpA S (j + 1) = lpA S j := by
        show (if dpS S j = 0 then _ else _) = _
        rw [if_neg (by omega)]
      rw [n1, ← e]; exact ih
theorem or_del {x : Int64} {j : Nat} (hj : j < 64) (h : bt6 x j = false) : (x ||| b1 j) &&& (b1 j ^^^ (-1)) = x := by
  apply bx_ext
  intro i _
  rw [bx_diff, bx_or, bx_b1 hj]
  by_cases e : i = j
  · subst e; simp [h]
  · simp [e]
theorem lp_N_loophole {d : Nat} {w0 : zW} {Q : zQ} {S : zS} (h : ∀ w, EQX mRI mRL w0 w → Q (some (.int (lpA S 36).1)) w) : ∀ (n j : Nat) (w : zW), j + n = 36 → EQX mRI mRL w0 w → GN w S → okS S → gL w 10 7 = opS S → gL w 10 8 = niS S → WP (d + 5) m_N_loophole 3 [some (.ref 10), some (.int (lpA S j).2), some (.int (lpA S j).1), some (.int (nI j)), none] [] w Q
  | 0, j, w, hj, hx, hG, hk, e7, e8 => by
    have e : j = 36 := by omega
    subst e
    exact t_N_loophole_3 (fun _ => t_N_loophole_14 (h w hx)) (fun g => absurd (Int32.le_refl _) g)
  | n + 1, j, w, hj, hx, hG, hk, e7, e8 => by
    have hjl : j < 36 := by omega
    have hd : gI w 28 (nI j).toNatClampNeg = 0 ↔ dpS S j = 0 := by
      rw [nI_clamp (by omega), show gI w 28 j = nI (dpS S j) from hG.1 j hjl]
      have := hk.1 j hjl
      exact nI_c0 (by omega)
    refine t_N_loophole_3 (fun g => absurd g (nI_ge (show j < 36 by omega) (by decide))) (fun _ => t_N_loophole_4 (vp_in_lt (by omega) (by decide)) (fun g => t_N_loophole_13 ?_) (fun g => t_N_loophole_5 (s_N_taxOfAll ?_ (fun w2 hf => ?_))))
    · rw [hd] at g
      have e : lpA S (j + 1) = lpA S j := by
        show (if dpS S j = 0 then _ else _) = _
        rw [if_neg g]
      rw [n1, ← e]; exact lp_N_loophole h n (j + 1) w (by omega) hx hG hk e7 e8
    · rw [gL_sL, if_pos ⟨rfl, rfl⟩, e7]; exact (SET_op S).or (SET.one hjl)
    · rw [hd] at g
      have e4 : gL w 10 2 = roS S := hG.2.2.1
      have e3 : gI w 10 3 = nI (raS S) := hG.2.2.2.1
      have f7 : gL w2 10 7 = opS S ||| b1 j := by
        rw [hf.2.2.2.2 10 7 (by decide), gL_sL, if_pos ⟨rfl, rfl⟩, e7]; rfl
      have ej : opS S ||| zsl 1 (nI j) = opS S ||| b1 j := rfl
      rw [gL_sL, if_neg (by decide), gL_sL, if_neg (by decide), gL_sL, if_pos ⟨rfl, rfl⟩, gI_sL, e3, e4, e7, e8, ej]
      have del : (opS S ||| b1 j) &&& (zsl 1 (nI j) ^^^ (-1)) = opS S := or_del (by omega) (by rw [bx_op hjl, decide_eq_false_iff_not]; omega)
      have hx2 : EQX mRI mRL w0 (sL w2 10 7 (gL w2 10 7 &&& (zsl 1 (nI j) ^^^ (-1)))) := (((hx.pL (o := 10) (k := 7) _ rfl).tr hf.eqx).pL (o := 10) (k := 7) _ rfl)
      have hG2 : GN (sL w2 10 7 (gL w2 10 7 &&& (zsl 1 (nI j) ^^^ (-1)))) S := (((EQX.rf.pL (o := 10) (k := 7) _ rfl).tr hf.eqx).pL (o := 10) (k := 7) _ rfl).gnR hG
      have ih := lp_N_loophole (d := d) h n (j + 1) _ (by omega) hx2 hG2 hk (by rw [gL_sL, if_pos ⟨rfl, rfl⟩, f7, del]) (by rw [gL_sL, if_neg (by decide), hf.2.2.2.2 10 8 (by decide), gL_sL, if_neg (by decide), e8])
      refine t_N_loophole_6 (fun g2 => t_N_loophole_8 (t_N_loophole_9 (fun _ => t_N_loophole_11 (t_N_loophole_12 (t_N_loophole_13 ?_))) (fun g3 => absurd g2 g3))) (fun g2 => t_N_loophole_7 (t_N_loophole_9 (fun g3 => absurd g3 g2) (fun _ => t_N_loophole_10 (t_N_loophole_12 (t_N_loophole_13 ?_)))))
      · have e : lpA S (j + 1) = lpA S j := by
          show (if dpS S j = 0 then _ else _) = _
          rw [if_pos g]; exact if_pos g2
        rw [n1, ← e]; exact ih
      · have e : lpA S (j + 1) = (nI j, txT S (opS S ||| b1 j)) := by
          show (if dpS S j = 0 then _ else _) = _
          rw [if_pos g]; exact if_neg g2
        rw [e] at ih
        rw [n1]; exact ih
theorem op_loophole {d : Nat} {w : zW} (h : RW w) : OPP (d + 5) m_C_loophole 5 m_N_loophole 5 [.ref 0] [.ref 10] w := by
  refine opQ (f := fun S => .int (lpA S 36).1) (fun S Q hG hk q => ?_) (fun S w Q hG hk q => ?_) h
  · have e2 : gL w 1 2 = opS S := hG.2.2.1
    have e3 : gL w 1 3 = niS S := hG.2.2.2.1
    have e4 : gL w 1 4 = roS S := hG.2.2.2.2.1
    have e5 : gI w 1 5 = nI (raS S) := hG.2.2.2.2.2.1
    refine n_C_loophole (t_C_loophole_0 (s_G_taxOfAll (t_C_loophole_1 ?_)))
    rw [e2, e3, e4, e5]
    exact lp_C_loophole hG (q _ w rfl EQX.rf) 36 0 rfl
  · refine n_N_loophole (t_N_loophole_0 (s_N_look hG hk (fun w1 hw => ?_)))
    have hG1 := hw.gn hG
    have e7 : gL w1 10 7 = opS S := hw.1
    have e8 : gL w1 10 8 = niS S := hw.2.1
    have e4 : gL w1 10 2 = roS S := hG1.2.2.1
    have e3 : gI w1 10 3 = nI (raS S) := hG1.2.2.2.1
    refine t_N_loophole_1 (s_N_taxOfAll (by rw [e7]; exact SET_op S) (fun w2 hf => t_N_loophole_2 ?_))
    rw [e3, e4, e7, e8]
    exact lp_N_loophole (S := S) (fun w3 hx => q _ w3 rfl hx) 36 0 w2 rfl (hw.eqx.tr hf.eqx) (hf.eqx.gnR hG1) hk ((hf.2.2.2.2 10 7 (by decide)).trans e7) ((hf.2.2.2.2 10 8 (by decide)).trans e8)
