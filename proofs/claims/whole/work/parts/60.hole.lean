/-! ===== hole, border, cut ===== -/
theorem cl1_ind {t : Int64} (ht : SET t) {c : Nat} (hc : c < 64) {P : Nat → Prop} (h0 : bt6 t c = true → P c) (hs : ∀ i j, P i → bt6 t i = true → adj i j = true → bt6 t j = true → P j) {k : Nat} (hk : bt6 (cl (b1 c) t) k = true) : P k := by
  refine (cl_is (s := b1 c) ht).1.2.2 P (fun i hi => ?_) hs k hk
  rw [bx_and, bx_b1 hc, Bool.and_eq_true, decide_eq_true_eq] at hi
  obtain ⟨e, h2⟩ := hi
  subst e
  exact h0 h2
theorem cl1_step {t s : Int64} (ht : SET t) {i j : Nat} (hi : bt6 (cl s t) i = true) (ha : adj i j = true) (hj : bt6 t j = true) : bt6 (cl s t) j = true := (cl_is (s := s) ht).closed ht hi ha hj
theorem cl1_sub {t s : Int64} (ht : SET t) {j : Nat} (hj : bt6 (cl s t) j = true) : sub6 (cl (b1 j) t) (cl s t) := fun _ hk => cl1_ind ht (bx_lt hj) (P := fun k => bt6 (cl s t) k = true) (fun _ => hj) (fun _ _ q _ ha hb => cl1_step ht q ha hb) hk
theorem cl_root {t : Int64} (ht : SET t) {i j : Nat} (hi : i < 64) (hj : bt6 (cl (b1 i) t) j = true) : cl (b1 j) t = cl (b1 i) t := by
  refine (cl1_sub ht hj).eq ?_
  have h1 : bt6 t j = true ∧ bt6 (cl (b1 j) t) i = true := by
    refine cl1_ind ht hi (P := fun k => bt6 t k = true ∧ bt6 (cl (b1 k) t) i = true) (fun q => ⟨q, cl1_mem ht q⟩) (fun k l q hk ha hl => ⟨hl, ?_⟩) hj
    refine cl1_sub ht ?_ i q.2
    exact cl1_step ht (cl1_mem ht hl) (by rw [adj_symm]; exact ha) hk
  exact cl1_sub ht h1.2
theorem cl1_eq {t : Int64} (ht : SET t) {i j l : Nat} (hi : i < 64) (hj : j < 64) (h1 : bt6 (cl (b1 i) t) l = true) (h2 : bt6 (cl (b1 j) t) l = true) : cl (b1 i) t = cl (b1 j) t := by rw [← cl_root ht hi h1, cl_root ht hj h2]
theorem cl1_tr {t : Int64} (ht : SET t) {c k : Nat} (hc : c < 64) (hk : bt6 (cl (b1 c) t) k = true) : bt6 t c = true := Decidable.byContradiction fun q => by
  rw [Bool.not_eq_true] at q
  exact cl1_ind ht hc (P := fun _ => False) (fun e => by rw [q] at e; cases e) (fun _ _ e _ _ _ => e) hk
theorem bx_eq0 {x : Int64} (h : ∀ i, bt6 x i = false) : x = 0 := bx_ext fun i _ => by rw [h i, bx_0]
theorem bx_some {x : Int64} {i : Nat} (h : bt6 x i = true) : ¬ x = 0 := fun e => by rw [e, bx_0] at h; cases h
/-- within: one cell of a hole, or all -/
theorem wit_bit (O : Int64) (i : Nat) : bt6 (witF O) i = (decide (i < 36) && !bt6 O i && !bt6 (cl 68208171135 (68719476735 &&& (O ^^^ (-1)))) i) := by
  unfold witF
  rw [bx_diff, bx_diff, bx_all]
theorem wit_all {t : Int64} (ht : SET t) {a c k : Nat} (hc : c < 64) (hk : bt6 (cl (b1 c) t) k = true) (hw : bt6 (witF (cl (b1 a) t)) k = true) : sub6 (cl (b1 c) t) (witF (cl (b1 a) t)) := by
  rw [← cl_root ht hc hk]
  have hS : SET (68719476735 &&& (cl (b1 a) t ^^^ (-1))) := SET.all.and _
  intro i hi
  refine cl1_ind ht (bx_lt hk) (P := fun i => bt6 (witF (cl (b1 a) t)) i = true) (fun _ => hw) (fun i j q hti ha htj => ?_) hi
  rw [wit_bit, Bool.and_eq_true, Bool.and_eq_true, decide_eq_true_eq, Bool.not_eq_true', Bool.not_eq_true'] at q ⊢
  have hj : bt6 (cl (b1 a) t) j = false := Bool.not_eq_true _ ▸ (fun e => by
    have := cl1_step ht e (by rw [adj_symm]; exact ha) hti
    rw [q.1.2] at this; cases this)
  refine ⟨⟨ht.lt htj, hj⟩, Bool.not_eq_true _ ▸ (fun e => ?_)⟩
  have := cl1_step hS e (by rw [adj_symm]; exact ha) (by rw [bx_diff, bx_all, q.1.2]; simpa using q.1.1)
  rw [q.2] at this; cases this
theorem nest_eq {t : Int64} (ht : SET t) {a c : Nat} (hc : bt6 t c = true) : (¬ witF (cl (b1 a) t) &&& cl (b1 c) t = 0) ↔ (¬ cl (b1 a) t = cl (b1 c) t ∧ cl (b1 c) t &&& (witF (cl (b1 a) t) ^^^ (-1)) = 0) := by
  have hc64 : c < 64 := bx_lt hc
  constructor
  · intro h
    obtain ⟨i, _, hi⟩ := bx_ne0 h
    rw [bx_and, Bool.and_eq_true] at hi
    have hs := wit_all ht hc64 hi.2 hi.1
    refine ⟨fun e => ?_, bx_eq0 fun k => ?_⟩
    · rw [wit_bit, e, hi.2] at hi
      simp at hi
    · rw [bx_diff]
      cases q : bt6 (cl (b1 c) t) k with
      | false => rfl
      | true => rw [hs k q]; rfl
  · intro h
    have hm := cl1_mem ht hc
    refine bx_some (i := c) ?_
    rw [bx_and, hm, Bool.and_true]
    cases q : bt6 (witF (cl (b1 a) t)) c with
    | true => rfl
    | false =>
      have := congrArg (fun z => bt6 z c) h.2
      simp only [bx_diff, bx_0, hm, q] at this
      cases this
/-! the broadest square -/
def ero (x : Int64) : Int64 := (x &&& zus (x &&& (-1090785346)) 1) &&& zus (x &&& zus (x &&& (-1090785346)) 1) 6
def brd : Nat → Int64 → Nat
  | 0, _ => 0
  | n + 1, x => if x = 0 then 0 else brd n (ero x) + 1
theorem SET.ero {x : Int64} (hx : SET x) : SET (ero x) := (hx.and _).and _
theorem zus_1 (x : Int64) (i : Nat) : bt6 (zus x 1) i = bt6 x (1 + i) := bx_us (k := 1) (by decide) x i
theorem zus_6 (x : Int64) (i : Nat) : bt6 (zus x 6) i = bt6 x (6 + i) := bx_us (k := 6) (by decide) x i
theorem SET.us1 {x : Int64} (hx : SET x) : SET (zus x 1) := fun i h => by rw [zus_1]; exact hx _ (by omega)
theorem eroN {x : Int64} (hx : SET x) : ((x &&& zsr (x &&& (-1090785346)) 1) &&& zsr x 6) &&& zsr (zsr (x &&& (-1090785346)) 1) 6 = ero x := by
  have e1 : zsr (x &&& (-1090785346)) 1 = zus (x &&& (-1090785346)) 1 := zsr_us (k := 1) (hx.and _) (by decide)
  have e2 : zsr x 6 = zus x 6 := zsr_us (k := 6) hx (by decide)
  have e3 : zsr (zus (x &&& (-1090785346)) 1) 6 = zus (zus (x &&& (-1090785346)) 1) 6 := zsr_us (k := 6) (hx.and _).us1 (by decide)
  rw [e1, e2, e3]
  unfold ero
  apply bx_ext
  intro i _
  simp only [bx_and, zus_6]
  cases bt6 x i <;> cases bt6 (zus (x &&& (-1090785346)) 1) i <;> simp
theorem ero_col {x : Int64} (hx : SET x) {m : Nat} (h : ∀ i, bt6 x i = true → i % 6 < m + 1) : ∀ i, bt6 (ero x) i = true → i % 6 < m := fun i hi => by
  unfold ero at hi
  simp only [bx_and, Bool.and_eq_true, zus_1] at hi
  have h1 := hi.1.2.1
  have h2 := hi.1.2.2
  rw [bx_mL (hx.lt h1), decide_eq_true_eq] at h2
  have := h _ h1
  omega
theorem lp_P_broadestIn {d : Nat} {w : zW} {Q : zQ} : ∀ (m b : Nat) (x : Int64), b + m = 6 → Q (some (.int (nI (b + brd m x)))) w → SET x → (∀ i, bt6 x i = true → i % 6 < m) → WP d m_P_broadestIn 1 [none, none, some (.int (nI b)), some (.long x), none, none, none] [] w Q
  | 0, b, x, hb, h, hx, hc => by
    have e : x = 0 := bx_eq0 fun i => Bool.not_eq_true _ ▸ (fun q => by have := hc i q; omega)
    exact t_P_broadestIn_1 (fun _ => t_P_broadestIn_4 h) (fun g => absurd e g)
  | m + 1, b, x, hb, h, hx, hc => by
    refine t_P_broadestIn_1 (fun g => t_P_broadestIn_4 ?_) (fun g => t_P_broadestIn_2 (fun g2 => absurd g2 (nI_ge (show b < 6 by omega) (by decide))) (fun _ => t_P_broadestIn_3 ?_))
    · simp only [brd, if_pos g] at h; exact h
    · simp only [brd, if_neg g] at h
      rw [n1]
      exact lp_P_broadestIn m (b + 1) (ero x) (by omega) (by rw [show b + 1 + brd m (ero x) = b + (brd m (ero x) + 1) by omega]; exact h) hx.ero (ero_col hx hc)
theorem s_P_broadestIn {d : Nat} {w : zW} {Q : zQ} {x : Int64} (hx : SET x) (h : Q (some (.int (nI (brd 6 x)))) w) : WM d m_P_broadestIn 7 [.long x] w Q :=
  n_P_broadestIn (t_P_broadestIn_0 (lp_P_broadestIn 6 0 x rfl (by rw [Nat.zero_add]; exact h) hx (fun i _ => by omega)))
theorem lp_N_largestOf {d : Nat} {w : zW} {Q : zQ} : ∀ (m b : Nat) (x : Int64), b + m = 6 → Q (some (.int (nI (b + brd m x)))) w → SET x → (∀ i, bt6 x i = true → i % 6 < m) → WP d m_N_largestOf 1 [none, none, some (.int (nI b)), some (.long x), none, some (.int (nI (b + 1))), none, none] [] w Q
  | 0, b, x, hb, h, hx, hc => by
    have e : x = 0 := bx_eq0 fun i => Bool.not_eq_true _ ▸ (fun q => by have := hc i q; omega)
    exact t_N_largestOf_1 (fun _ => t_N_largestOf_3 h) (fun g => absurd e g)
  | m + 1, b, x, hb, h, hx, hc => by
    refine t_N_largestOf_1 (fun g => t_N_largestOf_3 ?_) (fun g => t_N_largestOf_2 ?_)
    · simp only [brd, if_pos g] at h; exact h
    · simp only [brd, if_neg g] at h
      rw [n1, eroN hx]
      exact lp_N_largestOf m (b + 1) (ero x) (by omega) (by rw [show b + 1 + brd m (ero x) = b + (brd m (ero x) + 1) by omega]; exact h) hx.ero (ero_col hx hc)
theorem s_N_largestOf {d : Nat} {w : zW} {Q : zQ} {x : Int64} (hx : SET x) (h : Q (some (.int (nI (brd 6 x)))) w) : WM d m_N_largestOf 8 [.long x] w Q :=
  n_N_largestOf (t_N_largestOf_0 (lp_N_largestOf 6 0 x rfl (by rw [Nat.zero_add]; exact h) hx (fun i _ => by omega)))
/-! the owner of a hole -/
def owF (S : zS) (h : Int64) : Nat → Int32 × Int32
  | 0 => (4, 0)
  | n + 1 => if nI (cn (rimF h &&& laS S n)) ≤ (owF S h n).2 then owF S h n else (nI n, nI (cn (rimF h &&& laS S n)))
theorem lp_G_ownerOf {d : Nat} {w : zW} {Q : zQ} {S : zS} {x : Int64} (hG : GC w 1 S) (hk : okS S) (h : Q (some (.int (owF S x 4).1)) w) : ∀ (n j : Nat), j + n = 4 → WP (d + 1) m_G_ownerOf 2 [some (.ref 1), none, none, some (.long (rimF x)), none, some (.int (owF S x j).1), some (.int (owF S x j).2), some (.int (nI j)), none] [] w Q
  | 0, j, hj => by
    have e : j = 4 := by omega
    subst e
    exact t_G_ownerOf_2 (fun _ => t_G_ownerOf_8 h) (fun g => absurd (Int32.le_refl _) g)
  | n + 1, j, hj => by
    have ih := lp_G_ownerOf (d := d) hG hk h n (j + 1) (by omega)
    refine t_G_ownerOf_2 (fun g => absurd g (nI_ge (show j < 4 by omega) (by decide))) (fun _ => t_G_ownerOf_3 (s_G_landOf (by omega) hG hk (t_G_ownerOf_4 (s_J_bitCount (t_G_ownerOf_5 (fun g => t_G_ownerOf_7 ?_) (fun g => t_G_ownerOf_6 (t_G_ownerOf_7 ?_)))))))
    · rw [show owF S x (j + 1) = owF S x j from if_pos g] at ih
      rw [n1]; exact ih
    · rw [show owF S x (j + 1) = _ from if_neg g] at ih
      rw [n1]; exact ih
theorem s_G_ownerOf {d : Nat} {w : zW} {Q : zQ} {S : zS} {x : Int64} (hG : GC w 1 S) (hk : okS S) (h : Q (some (.int (owF S x 4).1)) w) : WM (d + 2) m_G_ownerOf 9 [.ref 1, .long x] w Q :=
  n_G_ownerOf (t_G_ownerOf_0 (s_P_rimOf (t_G_ownerOf_1 (lp_G_ownerOf hG hk h 4 0 rfl))))
theorem lp_N_ownerOf {d : Nat} {w : zW} {Q : zQ} {S : zS} {s : Int64} (hG : GN w S) (hk : okS S) (e7 : gL w 10 7 = opS S) (h : Q (some (.int (owF S (cl s (opS S)) 4).1)) w) : ∀ (n j : Nat), j + n = 4 → WP (d + 2) m_N_ownerOf 1 [some (.ref 10), some (.long (cl s (opS S))), none, some (.int (owF S (cl s (opS S)) j).1), some (.int (owF S (cl s (opS S)) j).2), some (.int (nI j)), none] [] w Q
  | 0, j, hj => by
    have e : j = 4 := by omega
    subst e
    exact t_N_ownerOf_1 (fun _ => t_N_ownerOf_12 h) (fun g => absurd (Int32.le_refl _) g)
  | n + 1, j, hj => by
    have ih := lp_N_ownerOf (d := d) hG hk e7 h n (j + 1) (by omega)
    refine t_N_ownerOf_1 (fun g => absurd g (nI_ge (show j < 4 by omega) (by decide))) (fun _ => t_N_ownerOf_2 (s_N_rimOf (SET_op S) e7 (t_N_ownerOf_3 (s_N_owned (by omega) hG hk (t_N_ownerOf_4 (s_N_ones (t_N_ownerOf_5 (fun g => t_N_ownerOf_7 (t_N_ownerOf_8 (fun _ => t_N_ownerOf_10 (t_N_ownerOf_11 ?_)) (fun g2 => absurd g g2))) (fun g => t_N_ownerOf_6 (t_N_ownerOf_8 (fun g2 => absurd g2 g) (fun _ => t_N_ownerOf_9 (t_N_ownerOf_11 ?_)))))))))))
    · rw [show owF S (cl s (opS S)) (j + 1) = owF S (cl s (opS S)) j from if_pos g] at ih
      rw [n1]; exact ih
    · rw [show owF S (cl s (opS S)) (j + 1) = _ from if_neg g] at ih
      rw [n1]; exact ih
/-! how many are around -/
def nsF (x : Int64) (l : List Int64) (s : Int32) : Int32 := l.foldl (fun s o => if witF o &&& x = 0 then s else s + 1) s
theorem lp_P_nestedIn {d : Nat} {w : zW} {Q : zQ} {x : Int64} : ∀ (n j : Nat) (r : Int64) (s : Int32), j + n = 36 → Q (some (.int (nsF x (comps n r) s))) w → WP (d + 3) m_P_nestedIn 1 [some (.long x), none, none, none, some (.int s), some (.long r), none, some (.int (nI j)), none, none] [] w Q
  | 0, j, r, s, hj, h => by
    have e : j = 36 := by omega
    subst e
    exact t_P_nestedIn_1 (fun _ => t_P_nestedIn_8 h) (fun g => absurd (Int32.le_refl _) g)
  | n + 1, j, r, s, hj, h => by
    refine t_P_nestedIn_1 (fun g => absurd g (nI_ge (show j < 36 by omega) (by decide))) (fun _ => t_P_nestedIn_2 (fun g => t_P_nestedIn_8 ?_) (fun g => t_P_nestedIn_3 (s_P_firstHole (t_P_nestedIn_4 (s_P_withinOf (t_P_nestedIn_5 (fun g2 => t_P_nestedIn_7 ?_) (fun g2 => t_P_nestedIn_6 (t_P_nestedIn_7 ?_))))))))
    · rw [g, comps_0] at h; exact h
    · rw [comps_s g, show nsF x (_ :: _) s = nsF x _ (if witF (cl (r &&& -r) r) &&& x = 0 then s else s + 1) from rfl, if_pos g2] at h
      rw [n1]
      exact lp_P_nestedIn n (j + 1) _ _ (by omega) h
    · rw [comps_s g, show nsF x (_ :: _) s = nsF x _ (if witF (cl (r &&& -r) r) &&& x = 0 then s else s + 1) from rfl, if_neg g2] at h
      rw [n1]
      exact lp_P_nestedIn n (j + 1) _ _ (by omega) h
theorem s_P_nestedIn {d : Nat} {w : zW} {Q : zQ} {x t : Int64} (h : Q (some (.int (nsF x (hls t) 0))) w) : WM (d + 3) m_P_nestedIn 10 [.long x, .long t] w Q :=
  n_P_nestedIn (t_P_nestedIn_0 (lp_P_nestedIn 36 0 t 0 rfl h))
theorem lp_N_nestedOf {d : Nat} {w w0 : zW} {Q : zQ} {S : zS} {c : Nat} {l : List Int64} (hc : bt6 (opS S) c = true) (hl : ∀ h ∈ l, ∃ a, h = cl (b1 a) (opS S)) (hf : FH w0 w l) : ∀ (n j : Nat) (s : Int32), j + n = l.length → Q (some (.int (nsF (hoS S c) (l.drop j) s))) w → WP (d + 3) m_N_nestedOf 2 [some (.ref 10), some (.long (hoS S c)), none, some (.int s), some (.int (nI j))] [] w Q
  | 0, j, s, hj, h => by
    have hle := hf.2.1
    refine t_N_nestedOf_2 (fun _ => t_N_nestedOf_9 ?_) (fun g => absurd ?_ g)
    · rw [List.drop_eq_nil_of_le (by omega)] at h
      exact h
    · rw [hf.1, show j = l.length by omega]; exact Int32.le_refl _
  | n + 1, j, s, hj, h => by
    have hle := hf.2.1
    have hjl : j < l.length := by omega
    obtain ⟨a, ha⟩ := hl _ (List.getElem_mem hjl)
    have e31 : gL w 31 (nI j).toNatClampNeg = cl (b1 a) (opS S) := by rw [nI_clamp (by omega), hf.2.2.1 j _ (List.getElem?_eq_getElem hjl), ha]
    rw [List.drop_eq_getElem_cons hjl, ha, show nsF (hoS S c) (_ :: _) s = nsF (hoS S c) _ (if witF (cl (b1 a) (opS S)) &&& hoS S c = 0 then s else s + 1) from rfl] at h
    have hn := nest_eq (SET_op S) (a := a) hc
    have go : ∀ v : Int32, (if witF (cl (b1 a) (opS S)) &&& hoS S c = 0 then s else s + 1) = s + v → WP (d + 3) m_N_nestedOf 8 [some (.ref 10), some (.long (hoS S c)), none, none, some (.int (nI j))] [.int v, .int s] w Q := fun v hv => by
      refine t_N_nestedOf_8 ?_
      rw [n1]
      rw [hv] at h
      exact lp_N_nestedOf hc hl hf n (j + 1) _ (by omega) h
    refine t_N_nestedOf_2 (fun g => absurd g (by rw [hf.1]; exact nI_ge hjl (by omega))) (fun _ => t_N_nestedOf_3 (vp_in_lt (by omega) (by decide)) (fun g => t_N_nestedOf_7 (go 0 ?_)) (fun g => t_N_nestedOf_4 (vp_in_lt (by omega) (by decide)) (s_N_withinOf (t_N_nestedOf_5 (fun g2 => t_N_nestedOf_7 (go 0 ?_)) (fun g2 => t_N_nestedOf_6 (go 1 ?_))))))
    · rw [e31] at g
      rw [if_pos (Decidable.byContradiction fun q => (hn.mp q).1 g)]; simp
    · rw [e31] at g2
      rw [if_pos (Decidable.byContradiction fun q => g2 (hn.mp q).2)]; simp
    · rw [e31] at g g2
      rw [if_neg (hn.mpr ⟨g, g2⟩)]
def holeA (S : zS) (x k : Int32) : Int32 := if isC x = true ∧ inI k 0 7 = true then (if bt6 (opS S) x.toNatClampNeg = true then
    (if k = 0 then nI (cn (hoS S x.toNatClampNeg)) else if k = 1 then kdF (roS S) (niS S) (hoS S x.toNatClampNeg) else if k = 2 then txH S (hoS S x.toNatClampNeg) else if k = 3 then fenF (hoS S x.toNatClampNeg) else if k = 4 then nI (cn (rimF (hoS S x.toNatClampNeg))) else if k = 5 then (owF S (hoS S x.toNatClampNeg) 4).1 else if k = 6 then nsF (hoS S x.toNatClampNeg) (hls (opS S)) 0 else nI (brd 6 (hoS S x.toNatClampNeg))) else -2) else -1
theorem op_hole {d : Nat} {w : zW} {x k : Int32} (h : RW w) : OPP (d + 5) m_C_hole 5 m_N_hole 5 [.ref 0, .int x, .int k] [.ref 10, .int x, .int k] w := by
  refine opQ (f := fun S => .int (holeA S x k)) (fun S Q hG hk q => ?_) (fun S w Q hG hk q => ?_) h
  · have e2 : gL w 1 2 = opS S := hG.2.2.1
    have e3 : gL w 1 3 = niS S := hG.2.2.2.1
    have e4 : gL w 1 4 = roS S := hG.2.2.2.2.1
    have e5 : gI w 1 5 = nI (raS S) := hG.2.2.2.2.2.1
    have bad : (¬ (isC x = true ∧ inI k 0 7 = true)) → (Value.int (-1) : Value) = .int (holeA S x k) := fun g => by unfold holeA; rw [if_neg g]
    refine n_C_hole (t_C_hole_0 (s_C_isCell (t_C_hole_1 (fun g => t_C_hole_4 (q _ w (bad (fun e => by rw [zb_t.mp g] at e; cases e.1)) EQX.rf)) (fun g => t_C_hole_2 (fun g1 => t_C_hole_4 (q _ w (bad (fun e => by rw [inI_f.mpr (Or.inl g1)] at e; cases e.2)) EQX.rf)) (fun g1 => t_C_hole_3 (fun g2 => ?_) (fun g2 => t_C_hole_4 (q _ w (bad (fun e => by rw [inI_f.mpr (Or.inr g2)] at e; cases e.2)) EQX.rf)))))))
    have g := zb_f.mp g
    have g3 := inI_t g1 g2
    obtain ⟨c, hc, rfl⟩ := isC_of g
    have hcl : (nI c).toNatClampNeg = c := nI_clamp (by omega)
    refine t_C_hole_5 (s_G_holeAt (t_C_hole_6 (fun g4 => ?_) (fun g4 => t_C_hole_7 (q _ w ?_ EQX.rf))))
    · rw [e2, ho_0 hc, Bool.not_eq_false] at g4
      rw [e2]
      refine t_C_hole_8 (fun e => t_C_hole_9 (s_J_bitCount (t_C_hole_10 (q _ w ?_ EQX.rf)))) (fun e => t_C_hole_11 (s_G_kindOf (t_C_hole_12 (q _ w ?_ EQX.rf)))) (fun e => t_C_hole_13 (s_G_taxOf (t_C_hole_14 (q _ w ?_ EQX.rf)))) (fun e => t_C_hole_15 (s_P_fenceOf (t_C_hole_16 (q _ w ?_ EQX.rf)))) (fun e => t_C_hole_17 (s_P_rimOf (t_C_hole_18 (s_J_bitCount (t_C_hole_19 (q _ w ?_ EQX.rf)))))) (fun e => t_C_hole_20 (s_G_ownerOf hG hk (t_C_hole_21 (q _ w ?_ EQX.rf)))) (fun e => t_C_hole_22 (s_P_nestedIn (t_C_hole_23 (q _ w ?_ EQX.rf)))) (fun a0 a1 a2 a3 a4 a5 a6 => t_C_hole_24 (s_P_broadestIn (SET.cl _ (SET_op S)) (t_C_hole_25 (q _ w ?_ EQX.rf))))
      all_goals (try subst e); simp only [holeA, g, g3, hcl, e2, e3, e4, e5, g4, and_self, if_true]
      all_goals try rfl
      simp only [a0, a1, a2, a3, a4, a5, a6, if_false]
    · rw [e2, ho_0 hc] at g4
      simp only [holeA, g, g3, hcl, g4, and_self, if_true]; rfl
  · have bad : (¬ (isC x = true ∧ inI k 0 7 = true)) → (Value.int (-1) : Value) = .int (holeA S x k) := fun g => by unfold holeA; rw [if_neg g]
    refine n_N_hole (t_N_hole_0 (s_N_isCell (t_N_hole_1 (fun g => t_N_hole_4 (q _ w (bad (fun e => by rw [zb_t.mp g] at e; cases e.1)) EQX.rf)) (fun g => t_N_hole_2 (s_N_inI (a := 0) (b := 7) rfl rfl (t_N_hole_3 (fun g1 => t_N_hole_5 (s_N_look hG hk (fun w1 hw => ?_))) (fun g1 => t_N_hole_4 (q _ w (bad (fun e => by rw [zb_t.mp g1] at e; cases e.2)) EQX.rf))))))))
    have g := zb_f.mp g
    have g3 := zb_f.mp g1
    obtain ⟨c, hc, rfl⟩ := isC_of g
    have hcl : (nI c).toNatClampNeg = c := nI_clamp (by omega)
    have hx := hw.eqx
    have hG1 := hw.gn hG
    have e7 : gL w1 10 7 = opS S := hw.1
    have e8 : gL w1 10 8 = niS S := hw.2.1
    have e4 : gL w1 10 2 = roS S := hG1.2.2.1
    have e3 : gI w1 10 3 = nI (raS S) := hG1.2.2.2.1
    have hS : SET (hoS S c) := SET.cl _ (SET_op S)
    refine t_N_hole_6 (s_N_has (by omega) (t_N_hole_7 (fun g4 => t_N_hole_9 (s_N_holeAt (by rw [e7]; exact SET_op S) ?_)) (fun g4 => t_N_hole_8 (q _ w1 ?_ hx))))
    · rw [e7, zb_f] at g4
      rw [e7]
      refine t_N_hole_10 (fun e => t_N_hole_11 (s_N_ones (t_N_hole_12 (q _ w1 ?_ hx)))) (fun e => t_N_hole_13 (s_N_kindOf (t_N_hole_14 (q _ w1 ?_ hx)))) (fun e => t_N_hole_15 (s_N_taxOf hS (t_N_hole_16 (q _ w1 ?_ hx)))) (fun e => t_N_hole_17 (s_N_fenceOf hS (t_N_hole_18 (q _ w1 ?_ hx)))) (fun e => t_N_hole_19 (s_N_rimOf (SET_op S) e7 (t_N_hole_20 (s_N_ones (t_N_hole_21 (q _ w1 ?_ hx)))))) (fun e => t_N_hole_22 (n_N_ownerOf (t_N_ownerOf_0 (lp_N_ownerOf hG1 hk e7 (t_N_hole_23 (q _ w1 ?_ hx)) 4 0 rfl)))) (fun e => t_N_hole_24 (n_N_nestedOf (t_N_nestedOf_0 (s_N_findHoles (by rw [e7]; exact SET_op S) (fun w2 hf => t_N_nestedOf_1 ?_))))) (fun a0 a1 a2 a3 a4 a5 a6 => t_N_hole_26 (s_N_largestOf hS (t_N_hole_27 (q _ w1 ?_ hx))))
      · subst e; simp only [holeA, g, g3, hcl, g4, and_self, if_true]
      · subst e; simp only [holeA, g, g3, hcl, g4, e4, e8, and_self, if_true]; rfl
      · subst e; simp only [holeA, g, g3, hcl, g4, e4, e8, e3, and_self, if_true]; rfl
      · subst e; simp only [holeA, g, g3, hcl, g4, and_self, if_true]; rfl
      · subst e; simp only [holeA, g, g3, hcl, g4, and_self, if_true]; rfl
      · subst e; simp only [holeA, g, g3, hcl, g4, and_self, if_true]; rfl
      · rw [e7] at hf
        refine lp_N_nestedOf g4 (fun h hh => ?_) hf (hls (opS S)).length 0 0 (Nat.zero_add _) (t_N_hole_25 (q _ w2 ?_ (hx.tr hf.eqx)))
        · obtain ⟨i, _, e⟩ := hls_mem (SET_op S) hh
          exact ⟨_, e⟩
        · subst e; simp only [holeA, g, g3, hcl, g4, and_self, if_true]; rfl
      · simp only [holeA, g, g3, hcl, g4, a0, a1, a2, a3, a4, a5, a6, and_self, if_true, if_false]
    · rw [e7, zb_t] at g4
      simp only [holeA, g, g3, hcl, g4, and_self, if_true]; rfl
