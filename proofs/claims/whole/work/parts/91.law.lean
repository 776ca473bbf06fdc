/-! ===== the law ===== -/
theorem law_c0 {d : Nat} {w : zW} {Q : zQ} {i L : Nat} (hL : L ≤ 384) (hi : i + 6 ≤ L) (h44 : gI w 44 0 = nI L) (hR : RW w) (h : ∀ w2, RW w2 → zfix w w2 → WP (d + 14) m_L_law 150 (lwL (nI i)) [] w2 Q) : WP (d + 14) m_L_law 2 (lwL (nI i)) [] w Q := by
  refine t_L_law_2 (lw_in (k := 1) rfl h44 hL hi (by decide)) (law_int (by decide +kernel) (by decide +kernel) (op_dig (d := d + 10) hR) (fun w1 v hf hh => t_L_law_3 (lw_in (k := 1) rfl (by rw [← h44]; exact hf.2 0) hL hi (by decide)) ?_) (fun w2 v hh => t_L_law_4 (fun _ => hh) (fun g => absurd rfl g)) h)
  have e : ∀ k, gI w1 43 k = gI w 43 k := hf.1
  simp only [e]
  exact hh
theorem law_c1 {d : Nat} {w : zW} {Q : zQ} {i L : Nat} (hL : L ≤ 384) (hi : i + 6 ≤ L) (h44 : gI w 44 0 = nI L) (hR : RW w) (h : ∀ w2, RW w2 → zfix w w2 → WP (d + 14) m_L_law 150 (lwL (nI i)) [] w2 Q) : WP (d + 14) m_L_law 6 (lwL (nI i)) [] w Q := by
  refine t_L_law_6 (lw_in (k := 1) rfl h44 hL hi (by decide)) (law_int (by decide +kernel) (by decide +kernel) (op_fill (d := d + 10) hR) (fun w1 v hf hh => t_L_law_7 (lw_in (k := 1) rfl (by rw [← h44]; exact hf.2 0) hL hi (by decide)) ?_) (fun w2 v hh => t_L_law_8 (fun _ => hh) (fun g => absurd rfl g)) h)
  have e : ∀ k, gI w1 43 k = gI w 43 k := hf.1
  simp only [e]
  exact hh
theorem law_c2 {d : Nat} {w : zW} {Q : zQ} {i L : Nat} (hL : L ≤ 384) (hi : i + 6 ≤ L) (h44 : gI w 44 0 = nI L) (hR : RW w) (h : ∀ w2, RW w2 → zfix w w2 → WP (d + 14) m_L_law 150 (lwL (nI i)) [] w2 Q) : WP (d + 14) m_L_law 10 (lwL (nI i)) [] w Q := by
  refine t_L_law_10 (lw_in (k := 1) rfl h44 hL hi (by decide)) (law_int (by decide +kernel) (by decide +kernel) (op_roof (d := d + 10) hR) (fun w1 v hf hh => t_L_law_11 (lw_in (k := 1) rfl (by rw [← h44]; exact hf.2 0) hL hi (by decide)) ?_) (fun w2 v hh => t_L_law_12 (fun _ => hh) (fun g => absurd rfl g)) h)
  have e : ∀ k, gI w1 43 k = gI w 43 k := hf.1
  simp only [e]
  exact hh
theorem law_c3 {d : Nat} {w : zW} {Q : zQ} {i L : Nat} (hL : L ≤ 384) (hi : i + 6 ≤ L) (h44 : gI w 44 0 = nI L) (hR : RW w) (h : ∀ w2, RW w2 → zfix w w2 → WP (d + 14) m_L_law 150 (lwL (nI i)) [] w2 Q) : WP (d + 14) m_L_law 14 (lwL (nI i)) [] w Q := by
  refine t_L_law_14  (law_int (by decide +kernel) (by decide +kernel) (op_undo (d := d + 11) hR) (fun w1 v hf hh => t_L_law_15  ?_) (fun w2 v hh => t_L_law_16 (fun _ => hh) (fun g => absurd rfl g)) h)
  have e : ∀ k, gI w1 43 k = gI w 43 k := hf.1
  skip
  exact hh
theorem law_c4 {d : Nat} {w : zW} {Q : zQ} {i L : Nat} (hL : L ≤ 384) (hi : i + 6 ≤ L) (h44 : gI w 44 0 = nI L) (hR : RW w) (h : ∀ w2, RW w2 → zfix w w2 → WP (d + 14) m_L_law 150 (lwL (nI i)) [] w2 Q) : WP (d + 14) m_L_law 18 (lwL (nI i)) [] w Q := by
  refine t_L_law_18 (lw_in (k := 1) rfl h44 hL hi (by decide)) (lw_in (k := 2) rfl h44 hL hi (by decide)) (law_int (by decide +kernel) (by decide +kernel) (op_own (d := d + 11) hR) (fun w1 v hf hh => t_L_law_19 (lw_in (k := 1) rfl (by rw [← h44]; exact hf.2 0) hL hi (by decide)) (lw_in (k := 2) rfl (by rw [← h44]; exact hf.2 0) hL hi (by decide)) ?_) (fun w2 v hh => t_L_law_20 (fun _ => hh) (fun g => absurd rfl g)) h)
  have e : ∀ k, gI w1 43 k = gI w 43 k := hf.1
  simp only [e]
  exact hh
theorem law_c5 {d : Nat} {w : zW} {Q : zQ} {i L : Nat} (hL : L ≤ 384) (hi : i + 6 ≤ L) (h44 : gI w 44 0 = nI L) (hR : RW w) (h : ∀ w2, RW w2 → zfix w w2 → WP (d + 14) m_L_law 150 (lwL (nI i)) [] w2 Q) : WP (d + 14) m_L_law 22 (lwL (nI i)) [] w Q := by
  refine t_L_law_22 (lw_in (k := 1) rfl h44 hL hi (by decide)) (law_int (by decide +kernel) (by decide +kernel) (op_rate (d := d + 12) hR) (fun w1 v hf hh => t_L_law_23 (lw_in (k := 1) rfl (by rw [← h44]; exact hf.2 0) hL hi (by decide)) ?_) (fun w2 v hh => t_L_law_24 (fun _ => hh) (fun g => absurd rfl g)) h)
  have e : ∀ k, gI w1 43 k = gI w 43 k := hf.1
  simp only [e]
  exact hh
theorem law_c6 {d : Nat} {w : zW} {Q : zQ} {i L : Nat} (hL : L ≤ 384) (hi : i + 6 ≤ L) (h44 : gI w 44 0 = nI L) (hR : RW w) (h : ∀ w2, RW w2 → zfix w w2 → WP (d + 14) m_L_law 150 (lwL (nI i)) [] w2 Q) : WP (d + 14) m_L_law 26 (lwL (nI i)) [] w Q := by
  refine t_L_law_26 (lw_in (k := 1) rfl h44 hL hi (by decide)) (lw_in (k := 2) rfl h44 hL hi (by decide)) (law_int (by decide +kernel) (by decide +kernel) (op_told (d := d + 10) hR) (fun w1 v hf hh => t_L_law_27 (lw_in (k := 1) rfl (by rw [← h44]; exact hf.2 0) hL hi (by decide)) (lw_in (k := 2) rfl (by rw [← h44]; exact hf.2 0) hL hi (by decide)) ?_) (fun w2 v hh => t_L_law_28 (fun _ => hh) (fun g => absurd rfl g)) h)
  have e : ∀ k, gI w1 43 k = gI w 43 k := hf.1
  simp only [e]
  exact hh
theorem law_c7 {d : Nat} {w : zW} {Q : zQ} {i L : Nat} (hL : L ≤ 384) (hi : i + 6 ≤ L) (h44 : gI w 44 0 = nI L) (hR : RW w) (h : ∀ w2, RW w2 → zfix w w2 → WP (d + 14) m_L_law 150 (lwL (nI i)) [] w2 Q) : WP (d + 14) m_L_law 30 (lwL (nI i)) [] w Q := by
  refine t_L_law_30 (lw_in (k := 1) rfl h44 hL hi (by decide)) (law_int (by decide +kernel) (by decide +kernel) (op_type (d := d + 12) hR) (fun w1 v hf hh => t_L_law_31 (lw_in (k := 1) rfl (by rw [← h44]; exact hf.2 0) hL hi (by decide)) ?_) (fun w2 v hh => t_L_law_32 (fun _ => hh) (fun g => absurd rfl g)) h)
  have e : ∀ k, gI w1 43 k = gI w 43 k := hf.1
  simp only [e]
  exact hh
theorem law_c8 {d : Nat} {w : zW} {Q : zQ} {i L : Nat} (hL : L ≤ 384) (hi : i + 6 ≤ L) (h44 : gI w 44 0 = nI L) (hR : RW w) (h : ∀ w2, RW w2 → zfix w w2 → WP (d + 14) m_L_law 150 (lwL (nI i)) [] w2 Q) : WP (d + 14) m_L_law 34 (lwL (nI i)) [] w Q := by
  refine t_L_law_34  (law_int (by decide +kernel) (by decide +kernel) (op_ground (d := d + 9) hR) (fun w1 v hf hh => t_L_law_35  ?_) (fun w2 v hh => t_L_law_36 (fun _ => hh) (fun g => absurd rfl g)) h)
  have e : ∀ k, gI w1 43 k = gI w 43 k := hf.1
  skip
  exact hh
theorem law_c9 {d : Nat} {w : zW} {Q : zQ} {i L : Nat} (hL : L ≤ 384) (hi : i + 6 ≤ L) (h44 : gI w 44 0 = nI L) (hR : RW w) (h : ∀ w2, RW w2 → zfix w w2 → WP (d + 14) m_L_law 150 (lwL (nI i)) [] w2 Q) : WP (d + 14) m_L_law 38 (lwL (nI i)) [] w Q := by
  refine t_L_law_38  (law_int (by decide +kernel) (by decide +kernel) (op_owners (d := d + 10) hR) (fun w1 v hf hh => t_L_law_39  ?_) (fun w2 v hh => t_L_law_40 (fun _ => hh) (fun g => absurd rfl g)) h)
  have e : ∀ k, gI w1 43 k = gI w 43 k := hf.1
  skip
  exact hh
theorem law_c10 {d : Nat} {w : zW} {Q : zQ} {i L : Nat} (hL : L ≤ 384) (hi : i + 6 ≤ L) (h44 : gI w 44 0 = nI L) (hR : RW w) (h : ∀ w2, RW w2 → zfix w w2 → WP (d + 14) m_L_law 150 (lwL (nI i)) [] w2 Q) : WP (d + 14) m_L_law 42 (lwL (nI i)) [] w Q := by
  refine t_L_law_42  (law_int (by decide +kernel) (by decide +kernel) (op_day (d := d + 9) hR) (fun w1 v hf hh => t_L_law_43  ?_) (fun w2 v hh => t_L_law_44 (fun _ => hh) (fun g => absurd rfl g)) h)
  have e : ∀ k, gI w1 43 k = gI w 43 k := hf.1
  skip
  exact hh
theorem law_c11 {d : Nat} {w : zW} {Q : zQ} {i L : Nat} (hL : L ≤ 384) (hi : i + 6 ≤ L) (h44 : gI w 44 0 = nI L) (hR : RW w) (h : ∀ w2, RW w2 → zfix w w2 → WP (d + 14) m_L_law 150 (lwL (nI i)) [] w2 Q) : WP (d + 14) m_L_law 46 (lwL (nI i)) [] w Q := by
  refine t_L_law_46 (lw_in (k := 1) rfl h44 hL hi (by decide)) (law_int (by decide +kernel) (by decide +kernel) (op_count (d := d + 8) hR) (fun w1 v hf hh => t_L_law_47 (lw_in (k := 1) rfl (by rw [← h44]; exact hf.2 0) hL hi (by decide)) ?_) (fun w2 v hh => t_L_law_48 (fun _ => hh) (fun g => absurd rfl g)) h)
  have e : ∀ k, gI w1 43 k = gI w 43 k := hf.1
  simp only [e]
  exact hh
theorem law_c12 {d : Nat} {w : zW} {Q : zQ} {i L : Nat} (hL : L ≤ 384) (hi : i + 6 ≤ L) (h44 : gI w 44 0 = nI L) (hR : RW w) (h : ∀ w2, RW w2 → zfix w w2 → WP (d + 14) m_L_law 150 (lwL (nI i)) [] w2 Q) : WP (d + 14) m_L_law 50 (lwL (nI i)) [] w Q := by
  refine t_L_law_50 (lw_in (k := 1) rfl h44 hL hi (by decide)) (lw_in (k := 2) rfl h44 hL hi (by decide)) (law_int (by decide +kernel) (by decide +kernel) (op_hole (d := d + 8) hR) (fun w1 v hf hh => t_L_law_51 (lw_in (k := 1) rfl (by rw [← h44]; exact hf.2 0) hL hi (by decide)) (lw_in (k := 2) rfl (by rw [← h44]; exact hf.2 0) hL hi (by decide)) ?_) (fun w2 v hh => t_L_law_52 (fun _ => hh) (fun g => absurd rfl g)) h)
  have e : ∀ k, gI w1 43 k = gI w 43 k := hf.1
  simp only [e]
  exact hh
theorem law_c13 {d : Nat} {w : zW} {Q : zQ} {i L : Nat} (hL : L ≤ 384) (hi : i + 6 ≤ L) (h44 : gI w 44 0 = nI L) (hR : RW w) (h : ∀ w2, RW w2 → zfix w w2 → WP (d + 14) m_L_law 150 (lwL (nI i)) [] w2 Q) : WP (d + 14) m_L_law 54 (lwL (nI i)) [] w Q := by
  refine t_L_law_54 (lw_in (k := 1) rfl h44 hL hi (by decide)) (lw_in (k := 2) rfl h44 hL hi (by decide)) (law_long (by decide +kernel) (by decide +kernel) (op_cells (d := d + 10) hR) (fun w1 v hf hh => t_L_law_55 (lw_in (k := 1) rfl (by rw [← h44]; exact hf.2 0) hL hi (by decide)) (lw_in (k := 2) rfl (by rw [← h44]; exact hf.2 0) hL hi (by decide)) ?_) (fun w2 v hh => t_L_law_56 (fun _ => hh) (fun g => absurd rfl g)) h)
  have e : ∀ k, gI w1 43 k = gI w 43 k := hf.1
  simp only [e]
  exact hh
theorem law_c14 {d : Nat} {w : zW} {Q : zQ} {i L : Nat} (hL : L ≤ 384) (hi : i + 6 ≤ L) (h44 : gI w 44 0 = nI L) (hR : RW w) (h : ∀ w2, RW w2 → zfix w w2 → WP (d + 14) m_L_law 150 (lwL (nI i)) [] w2 Q) : WP (d + 14) m_L_law 58 (lwL (nI i)) [] w Q := by
  refine t_L_law_58 (lw_in (k := 1) rfl h44 hL hi (by decide)) (lw_in (k := 2) rfl h44 hL hi (by decide)) (law_int (by decide +kernel) (by decide +kernel) (op_part (d := d + 9) hR) (fun w1 v hf hh => t_L_law_59 (lw_in (k := 1) rfl (by rw [← h44]; exact hf.2 0) hL hi (by decide)) (lw_in (k := 2) rfl (by rw [← h44]; exact hf.2 0) hL hi (by decide)) ?_) (fun w2 v hh => t_L_law_60 (fun _ => hh) (fun g => absurd rfl g)) h)
  have e : ∀ k, gI w1 43 k = gI w 43 k := hf.1
  simp only [e]
  exact hh
theorem law_c15 {d : Nat} {w : zW} {Q : zQ} {i L : Nat} (hL : L ≤ 384) (hi : i + 6 ≤ L) (h44 : gI w 44 0 = nI L) (hR : RW w) (h : ∀ w2, RW w2 → zfix w w2 → WP (d + 14) m_L_law 150 (lwL (nI i)) [] w2 Q) : WP (d + 14) m_L_law 62 (lwL (nI i)) [] w Q := by
  refine t_L_law_62 (lw_in (k := 1) rfl h44 hL hi (by decide)) (law_int (by decide +kernel) (by decide +kernel) (op_pays (d := d + 8) hR) (fun w1 v hf hh => t_L_law_63 (lw_in (k := 1) rfl (by rw [← h44]; exact hf.2 0) hL hi (by decide)) ?_) (fun w2 v hh => t_L_law_64 (fun _ => hh) (fun g => absurd rfl g)) h)
  have e : ∀ k, gI w1 43 k = gI w 43 k := hf.1
  simp only [e]
  exact hh
theorem law_c16 {d : Nat} {w : zW} {Q : zQ} {i L : Nat} (hL : L ≤ 384) (hi : i + 6 ≤ L) (h44 : gI w 44 0 = nI L) (hR : RW w) (h : ∀ w2, RW w2 → zfix w w2 → WP (d + 14) m_L_law 150 (lwL (nI i)) [] w2 Q) : WP (d + 14) m_L_law 66 (lwL (nI i)) [] w Q := by
  refine t_L_law_66 (lw_in (k := 1) rfl h44 hL hi (by decide)) (law_int (by decide +kernel) (by decide +kernel) (op_worth (d := d + 8) hR) (fun w1 v hf hh => t_L_law_67 (lw_in (k := 1) rfl (by rw [← h44]; exact hf.2 0) hL hi (by decide)) ?_) (fun w2 v hh => t_L_law_68 (fun _ => hh) (fun g => absurd rfl g)) h)
  have e : ∀ k, gI w1 43 k = gI w 43 k := hf.1
  simp only [e]
  exact hh
theorem law_c17 {d : Nat} {w : zW} {Q : zQ} {i L : Nat} (hL : L ≤ 384) (hi : i + 6 ≤ L) (h44 : gI w 44 0 = nI L) (hR : RW w) (h : ∀ w2, RW w2 → zfix w w2 → WP (d + 14) m_L_law 150 (lwL (nI i)) [] w2 Q) : WP (d + 14) m_L_law 70 (lwL (nI i)) [] w Q := by
  refine t_L_law_70 (lw_in (k := 1) rfl h44 hL hi (by decide)) (lw_in (k := 2) rfl h44 hL hi (by decide)) (law_int (by decide +kernel) (by decide +kernel) (op_filled (d := d + 6) hR) (fun w1 v hf hh => t_L_law_71 (lw_in (k := 1) rfl (by rw [← h44]; exact hf.2 0) hL hi (by decide)) (lw_in (k := 2) rfl (by rw [← h44]; exact hf.2 0) hL hi (by decide)) ?_) (fun w2 v hh => t_L_law_72 (fun _ => hh) (fun g => absurd rfl g)) h)
  have e : ∀ k, gI w1 43 k = gI w 43 k := hf.1
  simp only [e]
  exact hh
theorem law_c18 {d : Nat} {w : zW} {Q : zQ} {i L : Nat} (hL : L ≤ 384) (hi : i + 6 ≤ L) (h44 : gI w 44 0 = nI L) (hR : RW w) (h : ∀ w2, RW w2 → zfix w w2 → WP (d + 14) m_L_law 150 (lwL (nI i)) [] w2 Q) : WP (d + 14) m_L_law 74 (lwL (nI i)) [] w Q := by
  refine t_L_law_74 (lw_in (k := 1) rfl h44 hL hi (by decide)) (lw_in (k := 2) rfl h44 hL hi (by decide)) (law_int (by decide +kernel) (by decide +kernel) (op_split (d := d + 8) hR) (fun w1 v hf hh => t_L_law_75 (lw_in (k := 1) rfl (by rw [← h44]; exact hf.2 0) hL hi (by decide)) (lw_in (k := 2) rfl (by rw [← h44]; exact hf.2 0) hL hi (by decide)) ?_) (fun w2 v hh => t_L_law_76 (fun _ => hh) (fun g => absurd rfl g)) h)
  have e : ∀ k, gI w1 43 k = gI w 43 k := hf.1
  simp only [e]
  exact hh
theorem law_c19 {d : Nat} {w : zW} {Q : zQ} {i L : Nat} (hL : L ≤ 384) (hi : i + 6 ≤ L) (h44 : gI w 44 0 = nI L) (hR : RW w) (h : ∀ w2, RW w2 → zfix w w2 → WP (d + 14) m_L_law 150 (lwL (nI i)) [] w2 Q) : WP (d + 14) m_L_law 78 (lwL (nI i)) [] w Q := by
  refine t_L_law_78 (lw_in (k := 1) rfl h44 hL hi (by decide)) (lw_in (k := 2) rfl h44 hL hi (by decide)) (lw_in (k := 3) rfl h44 hL hi (by decide)) (law_int (by decide +kernel) (by decide +kernel) (op_dug (d := d + 9) hR) (fun w1 v hf hh => t_L_law_79 (lw_in (k := 1) rfl (by rw [← h44]; exact hf.2 0) hL hi (by decide)) (lw_in (k := 2) rfl (by rw [← h44]; exact hf.2 0) hL hi (by decide)) (lw_in (k := 3) rfl (by rw [← h44]; exact hf.2 0) hL hi (by decide)) ?_) (fun w2 v hh => t_L_law_80 (fun _ => hh) (fun g => absurd rfl g)) h)
  have e : ∀ k, gI w1 43 k = gI w 43 k := hf.1
  simp only [e]
  exact hh
theorem law_c20 {d : Nat} {w : zW} {Q : zQ} {i L : Nat} (hL : L ≤ 384) (hi : i + 6 ≤ L) (h44 : gI w 44 0 = nI L) (hR : RW w) (h : ∀ w2, RW w2 → zfix w w2 → WP (d + 14) m_L_law 150 (lwL (nI i)) [] w2 Q) : WP (d + 14) m_L_law 82 (lwL (nI i)) [] w Q := by
  refine t_L_law_82  (law_int (by decide +kernel) (by decide +kernel) (op_loophole (d := d + 8) hR) (fun w1 v hf hh => t_L_law_83  ?_) (fun w2 v hh => t_L_law_84 (fun _ => hh) (fun g => absurd rfl g)) h)
  have e : ∀ k, gI w1 43 k = gI w 43 k := hf.1
  skip
  exact hh
theorem law_c21 {d : Nat} {w : zW} {Q : zQ} {i L : Nat} (hL : L ≤ 384) (hi : i + 6 ≤ L) (h44 : gI w 44 0 = nI L) (hR : RW w) (h : ∀ w2, RW w2 → zfix w w2 → WP (d + 14) m_L_law 150 (lwL (nI i)) [] w2 Q) : WP (d + 14) m_L_law 86 (lwL (nI i)) [] w Q := by
  refine t_L_law_86 (lw_in (k := 1) rfl h44 hL hi (by decide)) (law_int (by decide +kernel) (by decide +kernel) (op_roofs (d := d + 10) hR) (fun w1 v hf hh => t_L_law_87 (lw_in (k := 1) rfl (by rw [← h44]; exact hf.2 0) hL hi (by decide)) ?_) (fun w2 v hh => t_L_law_88 (fun _ => hh) (fun g => absurd rfl g)) h)
  have e : ∀ k, gI w1 43 k = gI w 43 k := hf.1
  simp only [e]
  exact hh
theorem law_c22 {d : Nat} {w : zW} {Q : zQ} {i L : Nat} (hL : L ≤ 384) (hi : i + 6 ≤ L) (h44 : gI w 44 0 = nI L) (hR : RW w) (h : ∀ w2, RW w2 → zfix w w2 → WP (d + 14) m_L_law 150 (lwL (nI i)) [] w2 Q) : WP (d + 14) m_L_law 90 (lwL (nI i)) [] w Q := by
  refine t_L_law_90 (lw_in (k := 1) rfl h44 hL hi (by decide)) (lw_in (k := 2) rfl h44 hL hi (by decide)) (law_int (by decide +kernel) (by decide +kernel) (op_round (d := d + 0) hR) (fun w1 v hf hh => t_L_law_91 (lw_in (k := 1) rfl (by rw [← h44]; exact hf.2 0) hL hi (by decide)) (lw_in (k := 2) rfl (by rw [← h44]; exact hf.2 0) hL hi (by decide)) ?_) (fun w2 v hh => t_L_law_92 (fun _ => hh) (fun g => absurd rfl g)) h)
  have e : ∀ k, gI w1 43 k = gI w 43 k := hf.1
  simp only [e]
  exact hh
theorem law_c23 {d : Nat} {w : zW} {Q : zQ} {i L : Nat} (hL : L ≤ 384) (hi : i + 6 ≤ L) (h44 : gI w 44 0 = nI L) (hR : RW w) (h : ∀ w2, RW w2 → zfix w w2 → WP (d + 14) m_L_law 150 (lwL (nI i)) [] w2 Q) : WP (d + 14) m_L_law 94 (lwL (nI i)) [] w Q := by
  refine t_L_law_94 (lw_in (k := 1) rfl h44 hL hi (by decide)) (law_int (by decide +kernel) (by decide +kernel) (op_border (d := d + 9) hR) (fun w1 v hf hh => t_L_law_95 (lw_in (k := 1) rfl (by rw [← h44]; exact hf.2 0) hL hi (by decide)) ?_) (fun w2 v hh => t_L_law_96 (fun _ => hh) (fun g => absurd rfl g)) h)
  have e : ∀ k, gI w1 43 k = gI w 43 k := hf.1
  simp only [e]
  exact hh
theorem law_c24 {d : Nat} {w : zW} {Q : zQ} {i L : Nat} (hL : L ≤ 384) (hi : i + 6 ≤ L) (h44 : gI w 44 0 = nI L) (hR : RW w) (h : ∀ w2, RW w2 → zfix w w2 → WP (d + 14) m_L_law 150 (lwL (nI i)) [] w2 Q) : WP (d + 14) m_L_law 98 (lwL (nI i)) [] w Q := by
  refine t_L_law_98 (lw_in (k := 1) rfl h44 hL hi (by decide)) (law_int (by decide +kernel) (by decide +kernel) (op_cut (d := d + 9) hR) (fun w1 v hf hh => t_L_law_99 (lw_in (k := 1) rfl (by rw [← h44]; exact hf.2 0) hL hi (by decide)) ?_) (fun w2 v hh => t_L_law_100 (fun _ => hh) (fun g => absurd rfl g)) h)
  have e : ∀ k, gI w1 43 k = gI w 43 k := hf.1
  simp only [e]
  exact hh
theorem law_c25 {d : Nat} {w : zW} {Q : zQ} {i L : Nat} (hL : L ≤ 384) (hi : i + 6 ≤ L) (h44 : gI w 44 0 = nI L) (hR : RW w) (h : ∀ w2, RW w2 → zfix w w2 → WP (d + 14) m_L_law 150 (lwL (nI i)) [] w2 Q) : WP (d + 14) m_L_law 102 (lwL (nI i)) [] w Q := by
  refine t_L_law_102 (lw_in (k := 1) rfl h44 hL hi (by decide)) (lw_in (k := 2) rfl h44 hL hi (by decide)) (lw_in (k := 3) rfl h44 hL hi (by decide)) (lw_in (k := 4) rfl h44 hL hi (by decide)) (lw_in (k := 5) rfl h44 hL hi (by decide)) (law_long (by decide +kernel) (by decide +kernel) (op_books (d := d + 8) hR) (fun w1 v hf hh => t_L_law_103 (lw_in (k := 1) rfl (by rw [← h44]; exact hf.2 0) hL hi (by decide)) (lw_in (k := 2) rfl (by rw [← h44]; exact hf.2 0) hL hi (by decide)) (lw_in (k := 3) rfl (by rw [← h44]; exact hf.2 0) hL hi (by decide)) (lw_in (k := 4) rfl (by rw [← h44]; exact hf.2 0) hL hi (by decide)) (lw_in (k := 5) rfl (by rw [← h44]; exact hf.2 0) hL hi (by decide)) ?_) (fun w2 v hh => t_L_law_104 (fun _ => hh) (fun g => absurd rfl g)) h)
  have e : ∀ k, gI w1 43 k = gI w 43 k := hf.1
  simp only [e]
  exact hh
theorem law_c26 {d : Nat} {w : zW} {Q : zQ} {i L : Nat} (hL : L ≤ 384) (hi : i + 6 ≤ L) (h44 : gI w 44 0 = nI L) (hR : RW w) (h : ∀ w2, RW w2 → zfix w w2 → WP (d + 14) m_L_law 150 (lwL (nI i)) [] w2 Q) : WP (d + 14) m_L_law 106 (lwL (nI i)) [] w Q := by
  refine t_L_law_106 (lw_in (k := 1) rfl h44 hL hi (by decide)) (law_int (by decide +kernel) (by decide +kernel) (op_lots (d := d + 9) hR) (fun w1 v hf hh => t_L_law_107 (lw_in (k := 1) rfl (by rw [← h44]; exact hf.2 0) hL hi (by decide)) ?_) (fun w2 v hh => t_L_law_108 (fun _ => hh) (fun g => absurd rfl g)) h)
  have e : ∀ k, gI w1 43 k = gI w 43 k := hf.1
  simp only [e]
  exact hh
theorem law_c27 {d : Nat} {w : zW} {Q : zQ} {i L : Nat} (hL : L ≤ 384) (hi : i + 6 ≤ L) (h44 : gI w 44 0 = nI L) (hR : RW w) (h : ∀ w2, RW w2 → zfix w w2 → WP (d + 14) m_L_law 150 (lwL (nI i)) [] w2 Q) : WP (d + 14) m_L_law 110 (lwL (nI i)) [] w Q := by
  refine t_L_law_110 (lw_in (k := 1) rfl h44 hL hi (by decide)) (law_int (by decide +kernel) (by decide +kernel) (op_seed (d := d + 13) hR) (fun w1 v hf hh => t_L_law_111 (lw_in (k := 1) rfl (by rw [← h44]; exact hf.2 0) hL hi (by decide)) ?_) (fun w2 v hh => t_L_law_112 (fun _ => hh) (fun g => absurd rfl g)) h)
  have e : ∀ k, gI w1 43 k = gI w 43 k := hf.1
  simp only [e]
  exact hh
theorem law_c28 {d : Nat} {w : zW} {Q : zQ} {i L : Nat} (hL : L ≤ 384) (hi : i + 6 ≤ L) (h44 : gI w 44 0 = nI L) (hR : RW w) (h : ∀ w2, RW w2 → zfix w w2 → WP (d + 14) m_L_law 150 (lwL (nI i)) [] w2 Q) : WP (d + 14) m_L_law 114 (lwL (nI i)) [] w Q := by
  refine t_L_law_114  (law_int (by decide +kernel) (by decide +kernel) (op_image (d := d + 11) hR) (fun w1 v hf hh => t_L_law_115  ?_) (fun w2 v hh => t_L_law_116 (fun _ => hh) (fun g => absurd rfl g)) h)
  have e : ∀ k, gI w1 43 k = gI w 43 k := hf.1
  skip
  exact hh
theorem law_c29 {d : Nat} {w : zW} {Q : zQ} {i L : Nat} (hL : L ≤ 384) (hi : i + 6 ≤ L) (h44 : gI w 44 0 = nI L) (hR : RW w) (h : ∀ w2, RW w2 → zfix w w2 → WP (d + 14) m_L_law 150 (lwL (nI i)) [] w2 Q) : WP (d + 14) m_L_law 118 (lwL (nI i)) [] w Q := by
  refine t_L_law_118  (law_int (by decide +kernel) (by decide +kernel) (op_restore (d := d + 11) hR) (fun w1 v hf hh => t_L_law_119  ?_) (fun w2 v hh => t_L_law_120 (fun _ => hh) (fun g => absurd rfl g)) h)
  have e : ∀ k, gI w1 43 k = gI w 43 k := hf.1
  skip
  exact hh
theorem law_c30 {d : Nat} {w : zW} {Q : zQ} {i L : Nat} (hL : L ≤ 384) (hi : i + 6 ≤ L) (h44 : gI w 44 0 = nI L) (hR : RW w) (h : ∀ w2, RW w2 → zfix w w2 → WP (d + 14) m_L_law 150 (lwL (nI i)) [] w2 Q) : WP (d + 14) m_L_law 122 (lwL (nI i)) [] w Q := by
  refine t_L_law_122 (lw_in (k := 1) rfl h44 hL hi (by decide)) (lw_in (k := 2) rfl h44 hL hi (by decide)) (lw_in (k := 3) rfl h44 hL hi (by decide)) (lw_in (k := 4) rfl h44 hL hi (by decide)) (lw_in (k := 5) rfl h44 hL hi (by decide)) (law_int (by decide +kernel) (by decide +kernel) (op_lay (d := d + 11) hR) (fun w1 v hf hh => t_L_law_123 (lw_in (k := 1) rfl (by rw [← h44]; exact hf.2 0) hL hi (by decide)) (lw_in (k := 2) rfl (by rw [← h44]; exact hf.2 0) hL hi (by decide)) (lw_in (k := 3) rfl (by rw [← h44]; exact hf.2 0) hL hi (by decide)) (lw_in (k := 4) rfl (by rw [← h44]; exact hf.2 0) hL hi (by decide)) (lw_in (k := 5) rfl (by rw [← h44]; exact hf.2 0) hL hi (by decide)) ?_) (fun w2 v hh => t_L_law_124 (fun _ => hh) (fun g => absurd rfl g)) h)
  have e : ∀ k, gI w1 43 k = gI w 43 k := hf.1
  simp only [e]
  exact hh
theorem law_c31 {d : Nat} {w : zW} {Q : zQ} {i L : Nat} (hL : L ≤ 384) (hi : i + 6 ≤ L) (h44 : gI w 44 0 = nI L) (hR : RW w) (h : ∀ w2, RW w2 → zfix w w2 → WP (d + 14) m_L_law 150 (lwL (nI i)) [] w2 Q) : WP (d + 14) m_L_law 126 (lwL (nI i)) [] w Q := by
  refine t_L_law_126 (lw_in (k := 1) rfl h44 hL hi (by decide)) (lw_in (k := 2) rfl h44 hL hi (by decide)) (lw_in (k := 3) rfl h44 hL hi (by decide)) (law_int (by decide +kernel) (by decide +kernel) (op_film (d := d + 9) hR) (fun w1 v hf hh => t_L_law_127 (lw_in (k := 1) rfl (by rw [← h44]; exact hf.2 0) hL hi (by decide)) (lw_in (k := 2) rfl (by rw [← h44]; exact hf.2 0) hL hi (by decide)) (lw_in (k := 3) rfl (by rw [← h44]; exact hf.2 0) hL hi (by decide)) ?_) (fun w2 v hh => t_L_law_128 (fun _ => hh) (fun g => absurd rfl g)) h)
  have e : ∀ k, gI w1 43 k = gI w 43 k := hf.1
  simp only [e]
  exact hh
theorem law_c32 {d : Nat} {w : zW} {Q : zQ} {i L : Nat} (hL : L ≤ 384) (hi : i + 6 ≤ L) (h44 : gI w 44 0 = nI L) (hR : RW w) (h : ∀ w2, RW w2 → zfix w w2 → WP (d + 14) m_L_law 150 (lwL (nI i)) [] w2 Q) : WP (d + 14) m_L_law 130 (lwL (nI i)) [] w Q := by
  refine t_L_law_130 (lw_in (k := 1) rfl h44 hL hi (by decide)) (lw_in (k := 2) rfl h44 hL hi (by decide)) (lw_in (k := 3) rfl h44 hL hi (by decide)) (lw_in (k := 4) rfl h44 hL hi (by decide)) (law_int (by decide +kernel) (by decide +kernel) (op_miscounted (d := d + 9) hR) (fun w1 v hf hh => t_L_law_131 (lw_in (k := 1) rfl (by rw [← h44]; exact hf.2 0) hL hi (by decide)) (lw_in (k := 2) rfl (by rw [← h44]; exact hf.2 0) hL hi (by decide)) (lw_in (k := 3) rfl (by rw [← h44]; exact hf.2 0) hL hi (by decide)) (lw_in (k := 4) rfl (by rw [← h44]; exact hf.2 0) hL hi (by decide)) ?_) (fun w2 v hh => t_L_law_132 (fun _ => hh) (fun g => absurd rfl g)) h)
  have e : ∀ k, gI w1 43 k = gI w 43 k := hf.1
  simp only [e]
  exact hh
theorem law_c33 {d : Nat} {w : zW} {Q : zQ} {i L : Nat} (hL : L ≤ 384) (hi : i + 6 ≤ L) (h44 : gI w 44 0 = nI L) (hR : RW w) (h : ∀ w2, RW w2 → zfix w w2 → WP (d + 14) m_L_law 150 (lwL (nI i)) [] w2 Q) : WP (d + 14) m_L_law 134 (lwL (nI i)) [] w Q := by
  refine t_L_law_134 (lw_in (k := 1) rfl h44 hL hi (by decide)) (lw_in (k := 2) rfl h44 hL hi (by decide)) (lw_in (k := 3) rfl h44 hL hi (by decide)) (law_int (by decide +kernel) (by decide +kernel) (op_sheet (d := d + 11) hR) (fun w1 v hf hh => t_L_law_135 (lw_in (k := 1) rfl (by rw [← h44]; exact hf.2 0) hL hi (by decide)) (lw_in (k := 2) rfl (by rw [← h44]; exact hf.2 0) hL hi (by decide)) (lw_in (k := 3) rfl (by rw [← h44]; exact hf.2 0) hL hi (by decide)) ?_) (fun w2 v hh => t_L_law_136 (fun _ => hh) (fun g => absurd rfl g)) h)
  have e : ∀ k, gI w1 43 k = gI w 43 k := hf.1
  simp only [e]
  exact hh
theorem law_c34 {d : Nat} {w : zW} {Q : zQ} {i L : Nat} (hL : L ≤ 384) (hi : i + 6 ≤ L) (h44 : gI w 44 0 = nI L) (hR : RW w) (h : ∀ w2, RW w2 → zfix w w2 → WP (d + 14) m_L_law 150 (lwL (nI i)) [] w2 Q) : WP (d + 14) m_L_law 138 (lwL (nI i)) [] w Q := by
  refine t_L_law_138 (lw_in (k := 1) rfl h44 hL hi (by decide)) (law_int (by decide +kernel) (by decide +kernel) (op_drop (d := d + 12) hR) (fun w1 v hf hh => t_L_law_139 (lw_in (k := 1) rfl (by rw [← h44]; exact hf.2 0) hL hi (by decide)) ?_) (fun w2 v hh => t_L_law_140 (fun _ => hh) (fun g => absurd rfl g)) h)
  have e : ∀ k, gI w1 43 k = gI w 43 k := hf.1
  simp only [e]
  exact hh
theorem law_c35 {d : Nat} {w : zW} {Q : zQ} {i L : Nat} (hL : L ≤ 384) (hi : i + 6 ≤ L) (h44 : gI w 44 0 = nI L) (hR : RW w) (h : ∀ w2, RW w2 → zfix w w2 → WP (d + 14) m_L_law 150 (lwL (nI i)) [] w2 Q) : WP (d + 14) m_L_law 142 (lwL (nI i)) [] w Q := by
  refine t_L_law_142 (lw_in (k := 1) rfl h44 hL hi (by decide)) (lw_in (k := 2) rfl h44 hL hi (by decide)) (lw_in (k := 3) rfl h44 hL hi (by decide)) (lw_in (k := 4) rfl h44 hL hi (by decide)) (lw_in (k := 5) rfl h44 hL hi (by decide)) (law_int (by decide +kernel) (by decide +kernel) (op_item (d := d + 11) hR) (fun w1 v hf hh => t_L_law_143 (lw_in (k := 1) rfl (by rw [← h44]; exact hf.2 0) hL hi (by decide)) (lw_in (k := 2) rfl (by rw [← h44]; exact hf.2 0) hL hi (by decide)) (lw_in (k := 3) rfl (by rw [← h44]; exact hf.2 0) hL hi (by decide)) (lw_in (k := 4) rfl (by rw [← h44]; exact hf.2 0) hL hi (by decide)) (lw_in (k := 5) rfl (by rw [← h44]; exact hf.2 0) hL hi (by decide)) ?_) (fun w2 v hh => t_L_law_144 (fun _ => hh) (fun g => absurd rfl g)) h)
  have e : ∀ k, gI w1 43 k = gI w 43 k := hf.1
  simp only [e]
  exact hh
theorem law_c36 {d : Nat} {w : zW} {Q : zQ} {i L : Nat} (hL : L ≤ 384) (hi : i + 6 ≤ L) (h44 : gI w 44 0 = nI L) (hR : RW w) (h : ∀ w2, RW w2 → zfix w w2 → WP (d + 14) m_L_law 150 (lwL (nI i)) [] w2 Q) : WP (d + 14) m_L_law 146 (lwL (nI i)) [] w Q := by
  refine t_L_law_146 (lw_in (k := 1) rfl h44 hL hi (by decide)) (lw_in (k := 2) rfl h44 hL hi (by decide)) (lw_in (k := 3) rfl h44 hL hi (by decide)) (lw_in (k := 4) rfl h44 hL hi (by decide)) (lw_in (k := 5) rfl h44 hL hi (by decide)) (law_int (by decide +kernel) (by decide +kernel) (op_copy (d := d + 12) hR) (fun w1 v hf hh => t_L_law_147 (lw_in (k := 1) rfl (by rw [← h44]; exact hf.2 0) hL hi (by decide)) (lw_in (k := 2) rfl (by rw [← h44]; exact hf.2 0) hL hi (by decide)) (lw_in (k := 3) rfl (by rw [← h44]; exact hf.2 0) hL hi (by decide)) (lw_in (k := 4) rfl (by rw [← h44]; exact hf.2 0) hL hi (by decide)) (lw_in (k := 5) rfl (by rw [← h44]; exact hf.2 0) hL hi (by decide)) ?_) (fun w2 v hh => t_L_law_148 (fun _ => hh) (fun g => absurd rfl g)) h)
  have e : ∀ k, gI w1 43 k = gI w 43 k := hf.1
  simp only [e]
  exact hh
theorem law_loop {d : Nat} {Q : zQ} {L : Nat} (hL : L ≤ 384) (hq : ∀ w, Q (some (.int 1)) w) : ∀ (m i : Nat) (w : zW), L < i + 6 * m → i ≤ 390 → RW w → gI w 44 0 = nI L → WP (d + 14) m_L_law 0 (lwL (nI i)) [] w Q := by
  intro m
  have sm : ∀ i : Nat, i ≤ 390 → L < i + 6 → nI L - 6 < nI i := fun i hi h => by
    by_cases q : L < 6
    · have h0 : nI L - 6 < 0 := pk_sneg (a := L) (b := 6) (by decide) q
      have h1 : (0 : Int32) ≤ nI i := nI_le (a := 0) (Nat.zero_le _) (by omega)
      rw [Int32.lt_iff_toInt_lt] at h0 ⊢
      rw [Int32.le_iff_toInt_le] at h1
      omega
    · rw [show nI L - 6 = nI (L - 6) from pk_sub (b := 6) (by omega)]
      exact nI_lt (by omega) (by omega)
  induction m with
  | zero =>
    intro i w hm hi hR h44
    exact t_L_law_0 (fun _ => t_L_law_151 (hq w)) (fun g => absurd (by rw [h44]; exact sm i hi (by omega)) g)
  | succ m ih =>
    intro i w hm hi hR h44
    refine t_L_law_0 (fun _ => t_L_law_151 (hq w)) (fun g => ?_)
    have hi : i + 6 ≤ L := Nat.le_of_not_lt fun q => g (by rw [h44]; exact sm i hi q)
    have go : ∀ w2, RW w2 → zfix w w2 → WP (d + 14) m_L_law 150 (lwL (nI i)) [] w2 Q := fun w2 hR2 hf => by
      refine t_L_law_150 ?_
      rw [show nI i + 6 = nI (i + 6) from nI_add i 6]
      exact ih (i + 6) w2 (by omega) (by omega) hR2 (by rw [← h44]; exact hf.2 0)
    exact t_L_law_1 (by rw [h44, nI_clamp (by omega)]; exact vp_in_lt (by omega) (by omega)) (fun _ => law_c0 hL hi h44 hR go) (fun _ => law_c1 hL hi h44 hR go) (fun _ => law_c2 hL hi h44 hR go) (fun _ => law_c3 hL hi h44 hR go) (fun _ => law_c4 hL hi h44 hR go) (fun _ => law_c5 hL hi h44 hR go) (fun _ => law_c6 hL hi h44 hR go) (fun _ => law_c7 hL hi h44 hR go) (fun _ => law_c8 hL hi h44 hR go) (fun _ => law_c9 hL hi h44 hR go) (fun _ => law_c10 hL hi h44 hR go) (fun _ => law_c11 hL hi h44 hR go) (fun _ => law_c12 hL hi h44 hR go) (fun _ => law_c13 hL hi h44 hR go) (fun _ => law_c14 hL hi h44 hR go) (fun _ => law_c15 hL hi h44 hR go) (fun _ => law_c16 hL hi h44 hR go) (fun _ => law_c17 hL hi h44 hR go) (fun _ => law_c18 hL hi h44 hR go) (fun _ => law_c19 hL hi h44 hR go) (fun _ => law_c20 hL hi h44 hR go) (fun _ => law_c21 hL hi h44 hR go) (fun _ => law_c22 hL hi h44 hR go) (fun _ => law_c23 hL hi h44 hR go) (fun _ => law_c24 hL hi h44 hR go) (fun _ => law_c25 hL hi h44 hR go) (fun _ => law_c26 hL hi h44 hR go) (fun _ => law_c27 hL hi h44 hR go) (fun _ => law_c28 hL hi h44 hR go) (fun _ => law_c29 hL hi h44 hR go) (fun _ => law_c30 hL hi h44 hR go) (fun _ => law_c31 hL hi h44 hR go) (fun _ => law_c32 hL hi h44 hR go) (fun _ => law_c33 hL hi h44 hR go) (fun _ => law_c34 hL hi h44 hR go) (fun _ => law_c35 hL hi h44 hR go) (fun _ => law_c36 hL hi h44 hR go) (fun _ _ _ _ _ _ _ _ _ _ _ _ _ _ _ _ _ _ _ _ _ _ _ _ _ _ _ _ _ _ _ _ _ _ _ _ _ => go w hR zfix.rf)
