/-! ===== rounds: steps, rows of holes in order ===== -/
def dif (a b : Nat) : Nat := (a - b) + (b - a)
def stp (a b : Nat) : Nat := dif (a / 6) (b / 6) + dif (a % 6) (b % 6)
theorem stp_sym (a b : Nat) : stp a b = stp b a := by unfold stp dif; omega
theorem stp_le {a b : Nat} (ha : a < 36) (hb : b < 36) : stp a b ≤ 10 := by unfold stp dif; omega
theorem abs6 : ∀ p, p < 6 → ∀ q, q < 6 → (if (0 : Int32) ≤ nI p - nI q then nI p - nI q else 0 - (nI p - nI q)) = nI (dif p q) := by decide +kernel
theorem d6 {a : Nat} (h : a < 36) : nI a / 6 = nI (a / 6) ∧ zrm (nI a) 6 = nI (a % 6) := ⟨pk_div (d := 6) (by omega) (by decide) (by decide), zrm_n (k := 6) (by omega) (by decide) (by decide)⟩
theorem s_M_steps {d : Nat} {w : zW} {Q : zQ} {a b : Nat} (ha : a < 36) (hb : b < 36) (h : Q (some (.int (nI (stp a b)))) w) : WM (d + 1) m_M_steps 2 [.int (nI a), .int (nI b)] w Q := by
  refine n_M_steps (t_M_steps_0 (t_M_steps_1 (t_M_steps_2 ?_)))
  rw [(d6 ha).1, (d6 ha).2, (d6 hb).1, (d6 hb).2, abs6 _ (by omega) _ (by omega), abs6 _ (by omega) _ (by omega), nI_add]
  exact h
theorem s_N_off {d : Nat} {w : zW} {Q : zQ} {a b : Nat} (ha : a < 6) (hb : b < 6) (h : Q (some (.int (nI (dif a b)))) w) : WM d m_N_off 2 [.int (nI a), .int (nI b)] w Q := by
  refine n_N_off (t_N_off_0 (fun g => t_N_off_2 (t_N_off_3 ?_)) (fun g => t_N_off_1 (t_N_off_3 ?_)))
  · have g := (nI_leI (by omega) (by omega)).mp g
    rw [pk_sub g, show b - a = dif a b by unfold dif; omega]
    exact h
  · have g : b ≤ a := Nat.le_of_not_le fun q => g (nI_le q (by omega))
    rw [pk_sub g, show a - b = dif a b by unfold dif; omega]
    exact h
theorem s_N_apart {d : Nat} {w : zW} {Q : zQ} {a b : Nat} (ha : a < 36) (hb : b < 36) (h : Q (some (.int (nI (stp a b)))) w) : WM (d + 1) m_N_apart 2 [.int (nI a), .int (nI b)] w Q := by
  refine n_N_apart (t_N_apart_0 ?_)
  rw [(d6 ha).1, (d6 hb).1]
  refine s_N_off (by omega) (by omega) (t_N_apart_1 ?_)
  rw [(d6 ha).2, (d6 hb).2]
  refine s_N_off (by omega) (by omega) (t_N_apart_2 ?_)
  rw [nI_add]
  exact h
/-! the nearest cell -/
def nrU (h : Int64) (f c : Nat) (b : Option Nat) : Option Nat := if bt6 h c = true then (match b with | none => some c | some x => if stp f c < stp f x then some c else some x) else b
def lsF (f : Nat) (b : Option Nat) : Nat := match b with
  | none => 1000
  | some x => stp f x
def nrO (h : Int64) (f : Nat) : Nat → Nat → Option Nat → Option Nat
  | 0, _, b => b
  | n + 1, c, b => nrO h f n (c + 1) (nrU h f c b)
theorem nrO_s (h : Int64) (f n c : Nat) (b : Option Nat) : nrO h f (n + 1) c b = nrO h f n (c + 1) (nrU h f c b) := rfl
def nrF (h : Int64) (f : Nat) : Nat := (nrO h f 36 0 none).getD 0
theorem nrO_in {h : Int64} {f : Nat} : ∀ (n c : Nat) (b : Option Nat), (∀ x, b = some x → bt6 h x = true) → ((∃ x, b = some x) ∨ ∃ i, c ≤ i ∧ i < c + n ∧ bt6 h i = true) → ∃ x, nrO h f n c b = some x ∧ bt6 h x = true
  | 0, c, b, hb, he => by
    rcases he with ⟨x, hx⟩ | ⟨i, h1, h2, _⟩
    · exact ⟨x, hx, hb x hx⟩
    · omega
  | n + 1, c, b, hb, he => by
    rw [nrO_s]
    unfold nrU
    by_cases hc : bt6 h c = true
    · rw [if_pos hc]
      cases b with
      | none => exact nrO_in n (c + 1) _ (fun x hx => by injection hx with hx; rw [← hx]; exact hc) (Or.inl ⟨c, rfl⟩)
      | some y =>
        dsimp only
        by_cases q : stp f c < stp f y
        · rw [if_pos q]
          exact nrO_in n (c + 1) _ (fun x hx => by injection hx with hx; rw [← hx]; exact hc) (Or.inl ⟨c, rfl⟩)
        · rw [if_neg q]
          exact nrO_in n (c + 1) _ hb (Or.inl ⟨y, rfl⟩)
    · rw [if_neg hc]
      refine nrO_in n (c + 1) b hb ?_
      rcases he with he | ⟨i, h1, h2, h3⟩
      · exact Or.inl he
      · refine Or.inr ⟨i, ?_, by omega, h3⟩
        have : ¬ i = c := fun e => hc (by rw [← e]; exact h3)
        omega
theorem nr_mem {h : Int64} (hs : SET h) (h0 : ¬ h = 0) (f : Nat) : nrO h f 36 0 none = some (nrF h f) ∧ bt6 h (nrF h f) = true ∧ nrF h f < 36 := by
  obtain ⟨i, hi, hb⟩ := hs.ne0 h0
  obtain ⟨x, e, hx⟩ := nrO_in (h := h) (f := f) 36 0 none (fun x hx => by cases hx) (Or.inr ⟨i, by omega, by omega, hb⟩)
  have e2 : nrF h f = x := by unfold nrF; rw [e]; rfl
  rw [e2]
  exact ⟨e, hx, hs.lt hx⟩
theorem lp_M_near {d : Nat} {w : zW} {Q : zQ} {h : Int64} {f : Nat} (hf : f < 36) : ∀ (n c : Nat) (b : Option Nat), c + n = 36 → (∀ x, b = some x → x < 36) → Q (some (.int (nI ((nrO h f n c b).getD f)))) w → WP (d + 2) m_M_nearestOf 1 [some (.long h), none, some (.int (nI f)), some (.int (nI (b.getD f))), some (.int (nI (lsF f b))), some (.int (nI c))] [] w Q
  | 0, c, b, hn, hb, hq => by
    have e : c = 36 := by omega
    subst e
    exact t_M_nearestOf_1 (fun _ => t_M_nearestOf_9 hq) (fun g => absurd (Int32.le_refl _) g)
  | n + 1, c, b, hn, hb, hq => by
    have hc : c < 36 := by omega
    rw [nrO_s] at hq
    have nx : ∀ b' : Option Nat, (∀ x, b' = some x → x < 36) → b' = nrU h f c b → WP (d + 2) m_M_nearestOf 8 [some (.long h), none, some (.int (nI f)), some (.int (nI (b'.getD f))), some (.int (nI (lsF f b'))), some (.int (nI c))] [] w Q := by
      intro b' hb' e
      rw [← e] at hq
      refine t_M_nearestOf_8 ?_
      rw [n1]
      exact lp_M_near hf n (c + 1) b' (by omega) hb' hq
    have hlt : (lsF f b) ≤ 1000 := by
      cases b with
      | none => exact Nat.le_refl _
      | some x => have := stp_le hf (hb x rfl); show stp f x ≤ 1000; omega
    have hsc := stp_le hf hc
    refine t_M_nearestOf_1 (fun g => absurd g (nI_ge (show c < 36 by omega) (by decide))) (fun _ => t_M_nearestOf_2 (s_P_has (by omega) (t_M_nearestOf_3 (fun g => nx b hb ?_) (fun g => t_M_nearestOf_4 (s_M_steps hf hc (t_M_nearestOf_5 (fun g2 => nx b hb ?_) (fun g2 => t_M_nearestOf_6 (s_M_steps hf hc (t_M_nearestOf_7 (nx (some c) (fun x hx => ?_) ?_))))))))))
    · unfold nrU; rw [if_neg (by rw [zb_t.mp g]; decide)]
    · rw [nI_leI (by omega) (by omega)] at g2
      unfold nrU
      rw [if_pos (zb_f.mp g)]
      cases b with
      | none => have g2 : 1000 ≤ stp f c := g2; omega
      | some x => have g2 : stp f x ≤ stp f c := g2; dsimp only; rw [if_neg (by omega)]
    · injection hx with hx; omega
    · rw [nI_leI (by omega) (by omega)] at g2
      unfold nrU
      rw [if_pos (zb_f.mp g)]
      cases b with
      | none => rfl
      | some x => have g2 : ¬ stp f x ≤ stp f c := g2; dsimp only; rw [if_pos (by omega)]
theorem s_M_near {d : Nat} {w : zW} {Q : zQ} {h : Int64} {f : Nat} (hs : SET h) (h0 : ¬ h = 0) (hf : f < 36) (hq : Q (some (.int (nI (nrF h f)))) w) : WM (d + 2) m_M_nearestOf 6 [.long h, .int (nI f)] w Q :=
  n_M_nearestOf (t_M_nearestOf_0 (lp_M_near hf 36 0 none rfl (fun x hx => by cases hx) (by rw [(nr_mem hs h0 f).1]; exact hq)))
theorem lp_N_near {d : Nat} {w : zW} {Q : zQ} {h : Int64} {f : Nat} (hs : SET h) (h0 : ¬ h = 0) (hf : f < 36) : ∀ (n c : Nat) (b : Option Nat), c + n = 36 → (∀ x, b = some x → x < 36) → (b = none → c ≤ lo6 h) → Q (some (.int (nI ((nrO h f n c b).getD (lo6 h))))) w → WP (d + 2) m_N_nearest 2 [some (.long h), none, some (.int (nI f)), some (.int (nI (b.getD (lo6 h)))), some (.int (nI c))] [] w Q
  | 0, c, b, hn, hb, hlo, hq => by
    have e : c = 36 := by omega
    subst e
    exact t_N_nearest_2 (fun _ => t_N_nearest_11 hq) (fun g => absurd (Int32.le_refl _) g)
  | n + 1, c, b, hn, hb, hlo, hq => by
    have hc : c < 36 := by omega
    have hl36 := lo6_set hs h0
    obtain ⟨-, hlo2, hlo3⟩ := lo6_spec h0
    rw [nrO_s] at hq
    have hb36 : b.getD (lo6 h) < 36 := by
      cases b with
      | none => exact hl36
      | some x => exact hb x rfl
    have hfirst : b = none → bt6 h c = true → c = lo6 h := fun e1 e2 => by
      have := hlo e1
      refine Nat.le_antisymm this (Nat.le_of_not_lt fun q => ?_)
      rw [hlo3 c q] at e2; cases e2
    have nx : ∀ (b' : Option Nat) (v : Nat), (∀ x, b' = some x → x < 36) → (b' = none → c + 1 ≤ lo6 h) → b' = nrU h f c b → v = b'.getD (lo6 h) → WP (d + 2) m_N_nearest 10 [some (.long h), none, some (.int (nI f)), none, some (.int (nI c))] [.int (nI v)] w Q := by
      intro b' v hb' hlo' e ev
      subst ev
      rw [← e] at hq
      refine t_N_nearest_10 ?_
      rw [n1]
      exact lp_N_near hs h0 hf n (c + 1) b' (by omega) hb' hlo' hq
    have hsc := stp_le hc hf
    have hsb := stp_le hb36 hf
    refine t_N_nearest_2 (fun g => absurd g (nI_ge (show c < 36 by omega) (by decide))) (fun _ => t_N_nearest_3 (s_N_has (by omega) (t_N_nearest_4 (fun g => t_N_nearest_9 (nx b _ hb (fun e => ?_) ?_ rfl)) (fun g => t_N_nearest_5 (s_N_apart hc hf (t_N_nearest_6 (s_N_apart hb36 hf (t_N_nearest_7 (fun g2 => t_N_nearest_9 ?_) (fun g2 => t_N_nearest_8 ?_)))))))))
    · have := hlo e
      refine Nat.lt_of_le_of_ne this (fun q => ?_)
      rw [← q, zb_t.mp g] at hlo2; cases hlo2
    · unfold nrU; rw [if_neg (by rw [zb_t.mp g]; decide)]
    · rw [nI_leI (by omega) (by omega)] at g2
      have g := zb_f.mp g
      cases b with
      | none =>
        have e := hfirst rfl g
        exact nx (some c) _ (fun x hx => by injection hx with hx; omega) (fun q => by cases q) (by unfold nrU; rw [if_pos g]) (by rw [e]; rfl)
      | some y =>
        have g2 : stp y f ≤ stp c f := g2
        refine nx (some y) _ hb (fun q => by cases q) ?_ rfl
        unfold nrU
        rw [if_pos g]
        dsimp only
        rw [if_neg (by rw [stp_sym f c, stp_sym f y]; omega)]
    · rw [nI_leI (by omega) (by omega)] at g2
      have g := zb_f.mp g
      cases b with
      | none =>
        have e := hfirst rfl g
        exact nx (some c) _ (fun x hx => by injection hx with hx; omega) (fun q => by cases q) (by unfold nrU; rw [if_pos g]) rfl
      | some y =>
        have g2 : ¬ stp y f ≤ stp c f := g2
        refine nx (some c) _ (fun x hx => by injection hx with hx; omega) (fun q => by cases q) ?_ rfl
        unfold nrU
        rw [if_pos g]
        dsimp only
        rw [if_pos (by rw [stp_sym f c, stp_sym f y]; omega)]
theorem s_N_near {d : Nat} {w : zW} {Q : zQ} {h : Int64} {f : Nat} (hs : SET h) (h0 : ¬ h = 0) (hf : f < 36) (hq : Q (some (.int (nI (nrF h f)))) w) : WM (d + 2) m_N_nearest 5 [.long h, .int (nI f)] w Q :=
  n_N_nearest (t_N_nearest_0 (s_N_least h0 hs (t_N_nearest_1 (lp_N_near hs h0 hf 36 0 none rfl (fun x hx => by cases hx) (fun _ => Nat.zero_le _) (by rw [(nr_mem hs h0 f).1]; exact hq)))))
/-! all orders, the first first -/
def blkG (f : List Nat → List (List Nat)) : List Nat → List Nat → List (List Nat)
  | _, [] => []
  | A, h :: B => (f (A ++ B)).map (h :: ·) ++ blkG f (A ++ [h]) B
def plF : Nat → List Nat → List (List Nat)
  | 0, _ => [[]]
  | n + 1, R => blkG (plF n) [] R
theorem plF_s (n : Nat) (R : List Nat) : plF (n + 1) R = blkG (plF n) [] R := rfl
theorem blk_perm {f : List Nat → List (List Nat)} (hf : ∀ R p, p ∈ f R → p.Perm R) : ∀ (B A : List Nat) (p : List Nat), p ∈ blkG f A B → p.Perm (A ++ B)
  | [], A, p, h => by cases h
  | h :: B, A, p, hp => by
    unfold blkG at hp
    rcases List.mem_append.mp hp with hp | hp
    · obtain ⟨q, hq, rfl⟩ := List.mem_map.mp hp
      exact ((hf _ q hq).cons h).trans List.perm_middle.symm
    · have := blk_perm hf B (A ++ [h]) p hp
      rw [List.append_assoc] at this
      exact this
theorem pl_perm : ∀ (n : Nat) (R p : List Nat), R.length = n → p ∈ plF n R → p.Perm R := by
  intro n
  induction n with
  | zero =>
    intro R p hn hp
    have hR : R = [] := List.length_eq_zero_iff.mp hn
    have hp : p ∈ [[]] := hp
    rw [List.mem_singleton] at hp
    rw [hp, hR]
  | succ n ih =>
    intro R p hn hp
    rw [plF_s] at hp
    have : ∀ (B A : List Nat) (p : List Nat), (A ++ B).length = n + 1 → p ∈ blkG (plF n) A B → p.Perm (A ++ B) := by
      intro B
      induction B with
      | nil => intro A p _ hp; cases hp
      | cons h B ihB =>
        intro A p hl hp
        unfold blkG at hp
        rw [List.length_append, List.length_cons] at hl
        rcases List.mem_append.mp hp with hp | hp
        · obtain ⟨q, hq, rfl⟩ := List.mem_map.mp hp
          exact ((ih _ q (by rw [List.length_append]; omega) hq).cons h).trans List.perm_middle.symm
        · have := ihB (A ++ [h]) p (by rw [List.length_append, List.length_append, List.length_singleton]; omega) hp
          rw [List.append_assoc] at this
          exact this
    exact this R [] p hn hp
def cst (g : Nat → Nat → Nat) : Nat → List Nat → Nat
  | _, [] => 0
  | at', k :: r => stp at' (g k at') + cst g (g k at') r
def fbS (g : Nat → Nat → Nat) (s at' : Nat) (pre : List Nat) (st : Nat × List Nat) (p : List Nat) : Nat × List Nat := if s + cst g at' p < st.1 then (s + cst g at' p, pre ++ p) else st
theorem fb_none {g : Nat → Nat → Nat} {s at' : Nat} {pre : List Nat} {st : Nat × List Nat} : ∀ (L : List (List Nat)), (∀ p ∈ L, st.1 ≤ s + cst g at' p) → L.foldl (fbS g s at' pre) st = st
  | [], _ => rfl
  | p :: L, h => by
    rw [List.foldl_cons]
    have : fbS g s at' pre st p = st := if_neg (by have := h p (List.mem_cons_self ..); omega)
    rw [this]
    exact fb_none L (fun q hq => h q (List.mem_cons_of_mem _ hq))
def sA (ap : Nat → Nat) (l : List Nat) : Nat := (l.map ap).sum
theorem sA_perm {ap : Nat → Nat} {l m : List Nat} (h : l.Perm m) : sA ap l = sA ap m := by
  unfold sA
  induction h with
  | nil => rfl
  | cons x _ ih => simp only [List.map_cons, List.sum_cons, ih]
  | swap x y l => simp only [List.map_cons, List.sum_cons]; omega
  | trans _ _ ih1 ih2 => exact ih1.trans ih2
theorem cst_ge {g : Nat → Nat → Nat} {ap : Nat → Nat} {inH : Nat → Nat → Prop} {n : Nat} (hg : ∀ k c, k < n → inH k (g k c)) (hap : ∀ j k c, j < n → k < n → ¬ j = k → inH j c → ap k ≤ stp c (g k c)) : ∀ (p : List Nat) (at' j : Nat), j < n → inH j at' → j ∉ p → p.Nodup → (∀ k ∈ p, k < n) → sA ap p ≤ cst g at' p
  | [], at', j, _, _, _, _, _ => Nat.zero_le _
  | k :: r, at', j, hj, hin, hjp, hnd, hlt => by
    have hk := hlt k (List.mem_cons_self ..)
    obtain ⟨nd1, nd2⟩ := List.nodup_cons.mp hnd
    have h1 := hap j k at' hj hk (fun e => hjp (by rw [e]; exact List.mem_cons_self ..)) hin
    have h2 := cst_ge hg hap r (g k at') k hk (hg k at' hk) nd1 nd2 (fun m hm => hlt m (List.mem_cons_of_mem _ hm))
    show (ap k :: r.map ap).sum ≤ stp at' (g k at') + cst g (g k at') r
    rw [List.sum_cons]
    have h2 : (r.map ap).sum ≤ cst g (g k at') r := h2
    omega
theorem cst_le {g : Nat → Nat → Nat} {n : Nat} (hg : ∀ k c, k < n → g k c < 36) : ∀ (p : List Nat) (at' : Nat), at' < 36 → (∀ k ∈ p, k < n) → cst g at' p ≤ 10 * p.length
  | [], at', _, _ => Nat.zero_le _
  | k :: r, at', ha, hlt => by
    have hk := hg k at' (hlt k (List.mem_cons_self ..))
    have h1 := stp_le ha hk
    have h2 := cst_le hg r (g k at') hk (fun m hm => hlt m (List.mem_cons_of_mem _ hm))
    show stp at' (g k at') + cst g (g k at') r ≤ 10 * (k :: r).length
    rw [List.length_cons]; omega
/-! one after another -/
def NX (l l' : List Nat) : Prop := ∃ (P : List Nat) (h : Nat) (D1 : List Nat) (x : Nat) (D2 : List Nat), l = P ++ h :: (D1 ++ x :: D2) ∧ l' = P ++ x :: (D2.reverse ++ h :: D1.reverse) ∧ (D1 ++ x :: D2).Pairwise (· > ·) ∧ h < x ∧ ∀ y ∈ D2, y < h
def CI : List (List Nat) → Prop
  | [] => True
  | [_] => True
  | p :: q :: r => NX p q ∧ CI (q :: r)
theorem CI_app : ∀ (L1 L2 : List (List Nat)), CI L1 → CI L2 → (∀ p q, L1.getLast? = some p → L2.head? = some q → NX p q) → CI (L1 ++ L2)
  | [], L2, _, h2, _ => h2
  | [p], L2, _, h2, hj => by
    cases L2 with
    | nil => trivial
    | cons q r => exact ⟨hj p q rfl rfl, h2⟩
  | p :: q :: r, L2, h1, h2, hj => ⟨h1.1, CI_app (q :: r) L2 h1.2 h2 (fun a b ha hb => hj a b (by rw [List.getLast?_cons_cons]; exact ha) hb)⟩
theorem NX_cons {h : Nat} {p q : List Nat} (hn : NX p q) : NX (h :: p) (h :: q) := by
  obtain ⟨P, a, D1, x, D2, e1, e2, e3⟩ := hn
  exact ⟨h :: P, a, D1, x, D2, by rw [e1]; rfl, by rw [e2]; rfl, e3⟩
theorem CI_map {h : Nat} : ∀ (L : List (List Nat)), CI L → CI (L.map (h :: ·))
  | [], _ => trivial
  | [_], _ => trivial
  | p :: q :: r, hc => ⟨NX_cons hc.1, CI_map (q :: r) hc.2⟩
theorem pl_chain : ∀ (n : Nat) (R : List Nat), R.length = n → R.Pairwise (· < ·) → CI (plF n R) ∧ (plF n R).head? = some R ∧ (plF n R).getLast? = some R.reverse := by
  intro n
  induction n with
  | zero =>
    intro R hn _
    have hR : R = [] := List.length_eq_zero_iff.mp hn
    subst hR
    exact ⟨trivial, rfl, rfl⟩
  | succ n ih =>
    intro R hn hs
    rw [plF_s]
    have key : ∀ (B : List Nat) (h : Nat) (A : List Nat), (A ++ h :: B).length = n + 1 → (A ++ h :: B).Pairwise (· < ·) → CI (blkG (plF n) A (h :: B)) ∧ (blkG (plF n) A (h :: B)).head? = some (h :: (A ++ B)) ∧ (blkG (plF n) A (h :: B)).getLast? = some ((A ++ h :: B).reverse) := by
      intro B
      induction B with
      | nil =>
        intro h A hl hp
        have hsub : (A ++ []).Pairwise (· < ·) := by
          rw [List.append_nil]
          exact (List.pairwise_append.mp hp).1
        obtain ⟨i1, i2, i3⟩ := ih (A ++ []) (by rw [List.length_append, List.length_cons] at hl; rw [List.length_append]; exact Nat.succ.inj hl) hsub
        have e : blkG (plF n) A [h] = (plF n (A ++ [])).map (h :: ·) := by
          show (plF n (A ++ [])).map (h :: ·) ++ [] = _
          rw [List.append_nil]
        rw [e]
        refine ⟨CI_map _ i1, ?_, ?_⟩
        · rw [List.head?_map, i2]; rfl
        · rw [List.getLast?_map, i3, List.append_nil, List.reverse_append]; rfl
      | cons x B ihB =>
        intro h A hl hp
        have hl' := hl
        rw [List.length_append, List.length_cons, List.length_cons] at hl'
        have hp1 := List.pairwise_append.mp hp
        have hp2 := List.pairwise_cons.mp hp1.2.1
        have hsub : (A ++ x :: B).Pairwise (· < ·) := List.pairwise_append.mpr ⟨hp1.1, hp2.2, fun a ha b hb => hp1.2.2 a ha b (List.mem_cons_of_mem _ hb)⟩
        obtain ⟨i1, i2, i3⟩ := ih (A ++ x :: B) (by rw [List.length_append, List.length_cons]; omega) hsub
        have hre : A ++ [h] ++ x :: B = A ++ h :: x :: B := by rw [List.append_assoc]; rfl
        obtain ⟨j1, j2, j3⟩ := ihB x (A ++ [h]) (by rw [hre]; exact hl) (by rw [hre]; exact hp)
        have e : blkG (plF n) A (h :: x :: B) = (plF n (A ++ x :: B)).map (h :: ·) ++ blkG (plF n) (A ++ [h]) (x :: B) := rfl
        rw [e]
        refine ⟨CI_app _ _ (CI_map _ i1) j1 (fun p q hpl hqh => ?_), ?_, ?_⟩
        · rw [List.getLast?_map, i3] at hpl
          rw [j2] at hqh
          injection hpl with hpl
          injection hqh with hqh
          refine ⟨[], h, B.reverse, x, A.reverse, ?_, ?_, ?_, hp2.1 x (List.mem_cons_self ..), fun y hy => hp1.2.2 y (List.mem_reverse.mp hy) h (List.mem_cons_self ..)⟩
          · rw [← hpl, List.reverse_append, List.reverse_cons, List.append_assoc]; rfl
          · rw [← hqh, List.reverse_reverse, List.reverse_reverse, List.append_assoc]; rfl
          · have : B.reverse ++ x :: A.reverse = (A ++ x :: B).reverse := by rw [List.reverse_append, List.reverse_cons, List.append_assoc]; rfl
            rw [this, List.pairwise_reverse]
            exact hsub
        · rw [List.head?_append, List.head?_map, i2]; rfl
        · rw [List.getLast?_append, j3, hre]; rfl
    cases R with
    | nil => cases hn
    | cons h B => exact key B h [] hn hs
