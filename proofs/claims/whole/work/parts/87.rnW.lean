/-! ===== rounds: the walk; the reference's orders ===== -/
theorem lp_M_holes {d : Nat} {w0 : zW} {Q : zQ} {op : Int64} {at' : Nat} {l : List Int64} (h8 : l.length ≤ 8) (hq : ∀ w', gI w' 9 5 = nI l.length → (∀ k, k < l.length → gL w' 23 k = l.getD k 0) → EQX mDI mDL w0 w' → WP (d + 3) m_M_walk 5 [some (.ref 9), some (.int (nI at')), some (.long op), none, none, none, none, none] [] w' Q) : ∀ (m k : Nat) (r : Int64) (w : zW), k + m = l.length → comps (36 - k) r = l.drop k → gI w 9 5 = nI k → (∀ j, j < k → gL w 23 j = l.getD j 0) → EQX mDI mDL w0 w → WP (d + 3) m_M_walk 1 [some (.ref 9), some (.int (nI at')), some (.long op), none, some (.long r), none, none, none] [] w Q
  | 0, k, r, w, hk, hr, g1, g2, hx => by
    have e : k = l.length := by omega
    subst e
    rw [List.drop_length] at hr
    have hr0 : r = 0 := Classical.byContradiction fun q => by
      rw [show 36 - l.length = (35 - l.length) + 1 by omega, comps_s q] at hr
      cases hr
    exact t_M_walk_1 (fun _ => hq w g1 g2 hx) (fun g => absurd hr0 g)
  | m + 1, k, r, w, hk, hr, g1, g2, hx => by
    have hkl : k < l.length := by omega
    rw [List.drop_eq_getElem_cons hkl] at hr
    have hr0 : ¬ r = 0 := fun e => by rw [e, comps_0] at hr; cases hr
    rw [show 36 - k = (35 - k) + 1 by omega, comps_s hr0] at hr
    injection hr with hr1 hr2
    refine t_M_walk_1 (fun g => absurd g hr0) (fun _ => t_M_walk_2 (fun g => absurd g (by rw [g1]; exact nI_ge (b := 8) (by omega) (by decide))) (fun _ => t_M_walk_3 (s_P_firstHole (t_M_walk_4 (by rw [g1]; exact vp_in_lt (by omega) (by decide)) ?_))))
    rw [g1, n1, nI_clamp (by omega)]
    refine lp_M_holes h8 hq m (k + 1) _ _ (by omega) (by rw [show 36 - (k + 1) = 35 - k by omega]; exact hr2) ?_ (fun j hj => ?_) ((hx.pL (o := 23) (k := k) _ rfl).pI (o := 9) (k := 5) _ rfl)
    · rw [gI_sI, if_pos ⟨rfl, rfl⟩]
    · rw [gL_sI, gL_sL]
      by_cases q : j = k
      · rw [if_pos ⟨rfl, q⟩, q, getD_get hkl, hr1]
      · rw [if_neg (fun z => q z.2)]; exact g2 j (by omega)
theorem lp_M_all {d : Nat} {w0 : zW} {Q : zQ} {op : Int64} {at' : Nat} {l : List Int64} (hH : HOK op l) (hq : ∀ w', MO w' op l → EQX mDI mDL w0 w' → WP (d + 4) m_M_walk 9 [some (.ref 9), some (.int (nI at')), none, none, none, none, some (.int (nI (sA (fun k => apF (l.getD k 0) op) (List.range l.length)))), none] [] w' Q) : ∀ (m k : Nat) (w : zW), k + m = l.length → gI w 9 5 = nI l.length → (∀ j, j < l.length → gL w 23 j = l.getD j 0) → (∀ j, j < k → gI w 24 j = nI (apF (l.getD j 0) op)) → (∀ j c, j < k → c < 36 → gI w 25 (j * 36 + c) = nI (nrF (l.getD j 0) c)) → EQX mDI mDL w0 w → WP (d + 4) m_M_walk 6 [some (.ref 9), some (.int (nI at')), some (.long op), none, none, none, some (.int (nI (sA (fun k => apF (l.getD k 0) op) (List.range k)))), some (.int (nI k))] [] w Q
  | 0, k, w, hk, g1, g2, g3, g4, hx => by
    have e : k = l.length := by omega
    subst e
    exact t_M_walk_6 (fun _ => hq w ⟨g1, g2, g3, g4⟩ hx) (fun g => absurd (by rw [g1]; exact Int32.le_refl _) g)
  | m + 1, k, w, hk, g1, g2, g3, g4, hx => by
    have h8 := hH.1
    have hkl : k < l.length := by omega
    obtain ⟨a1, a2, a3⟩ := hH.2.1 k hkl
    refine t_M_walk_6 (fun g => absurd g (by rw [g1]; exact nI_ge hkl (by omega))) (fun _ => t_M_walk_7 (s_M_measure (by omega) a1 a2 (g2 k hkl) (fun wa b1' b2 b3 b4 => t_M_walk_8 (vp_in_lt (by omega) (by decide)) ?_)))
    have es : sA (fun k => apF (l.getD k 0) op) (List.range k) + apF (l.getD k 0) op = sA (fun k => apF (l.getD k 0) op) (List.range (k + 1)) := by
      unfold sA
      rw [List.range_succ, List.map_append, List.sum_append]
      show _ = _ + ([apF (l.getD k 0) op] : List Nat).sum
      rw [List.sum_singleton]
    rw [nI_clamp (by omega), b1', nI_add, es, n1]
    refine lp_M_all hH hq m (k + 1) wa (by omega) ?_ (fun j hj => ?_) (fun j hj => ?_) (fun j c hj hc => ?_) (hx.tr ⟨fun o i q => b3 o i (fun z => by rw [z.1] at q; cases q) (fun z => by rw [z.1] at q; cases q), fun o i _ => b4 o i⟩)
    · rw [b3 9 5 (by omega) (by omega)]; exact g1
    · rw [b4]; exact g2 j hj
    · by_cases q : j = k
      · rw [q]; exact b1'
      · rw [b3 24 j (fun z => q z.2) (by omega)]; exact g3 j (by omega)
    · by_cases q : j = k
      · rw [q]; exact b2 c hc
      · rw [b3 25 _ (by omega) (by omega)]; exact g4 j c (by omega) hc
def rnR (op : Int64) (at' : Nat) : Nat × List Nat := (plF (hls op).length (List.range (hls op).length)).foldl (fbS (gM (hls op)) 0 at' []) (1000, [])
theorem s_M_walk {d : Nat} {w : zW} {Q : zQ} {op : Int64} {at' : Nat} (hop : SET op) (h8 : (hls op).length ≤ 8) (hat : at' < 36) (hq : ∀ w', BS w' (hls op) (rnR op at') → EQX mDI mDL w w' → Q none w') : WM (d + (hls op).length + 4) m_M_walk 8 [.ref 9, .int (nI at'), .long op] w Q := by
  have hH := hok_hls hop h8
  refine n_M_walk (t_M_walk_0 (lp_M_holes (d := d + (hls op).length + 1) (l := hls op) h8 (fun wa g1 g2 xa => t_M_walk_5 (lp_M_all (d := d + (hls op).length) hH (fun wb mb xb => t_M_walk_9 ?_) (hls op).length 0 wa (by omega) g1 g2 (fun j hj => by omega) (fun j c hj => by omega) xa)) (hls op).length 0 op _ (by omega) (by rw [List.drop_zero]; rfl) (by rw [gI_sI, if_pos ⟨rfl, rfl⟩]; rfl) (fun j hj => by omega) (EQX.rf.pI (o := 9) (k := 5) _ rfl)))
  have x1 : EQX mZI m0L wb (sI wb 9 6 1000) := EQX.rf.pI (o := 9) (k := 6) _ rfl
  refine s_M_seek (l := hls op) hop hH (hls op).length d at' [] (List.range (hls op).length) 0 0 _ (1000, []) _ _ List.length_range (by simp) hat (fun k hk => by cases hk) List.pairwise_lt_range (fun k hk => List.mem_range.mp hk) (fun k hk => ?_) rfl (Nat.zero_le _) (Nat.le_refl _) (fun z => by cases z) (fun _ _ => by decide) (mb.k x1) (fun i k hk => by cases hk) ⟨by rw [gI_sI, if_pos ⟨rfl, rfl⟩]; rfl, fun i k hk => by cases hk⟩ (fun wc bc _ xc => t_M_walk_10 (hq wc ?_ ?_))
  · constructor
    · intro _; exact List.mem_range.mpr hk
    · intro _; simp [ib]
  · unfold rnR; exact bc
  · have xz : ∀ {u u' : zW}, EQX mZI m0L u u' → EQX mDI mDL u u' := fun x => ⟨fun o k z => x.1 o k (by
      cases e : mZI o k with
      | false => rfl
      | true =>
        unfold mZI at e
        simp only [Bool.or_eq_true, Bool.and_eq_true, beq_iff_eq] at e
        rcases e with (e | e) | e
        · rw [e.1, e.2] at z; cases z
        · rw [e] at z; cases z
        · rw [e] at z; cases z), fun o k _ => x.2 o k rfl⟩
    exact (xb.tr (xz x1)).tr (xz xc)
