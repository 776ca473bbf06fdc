theorem t_N_in_0 {d : Nat} {w : zW} {Q : zQ} {l0 : Int64} {l2 : Int64} {l4 : Int64} (ht : l0 < l2 → WP d m_N_in 3 [none, none, none, none, none, none] [] w Q) (hf : ¬ l0 < l2 → WP d m_N_in 1 [some (.long l0), none, none, none, some (.long l4), none] [] w Q) : WP d m_N_in 0 [some (.long l0), none, some (.long l2), none, some (.long l4), none] [] w Q :=
  zstep e_N_in rfl (And.intro (fun z => (zwk (ht ((lg_cmp_lt _ _).mp z)) (zle_n (zle_s (zle_n (zle_s (zle_n (zle_s zle_0)))))))) (fun z => (zwk (hf (fun q => z ((lg_cmp_lt _ _).mpr q))) (zle_s (zle_s (zle_n (zle_s (zle_s (zle_s zle_0)))))))))
theorem t_N_in_1 {d : Nat} {w : zW} {Q : zQ} {l0 : Int64} {l4 : Int64} (ht : l4 < l0 → WP d m_N_in 3 [none, none, none, none, none, none] [] w Q) (hf : ¬ l4 < l0 → WP d m_N_in 2 [none, none, none, none, none, none] [] w Q) : WP d m_N_in 1 [some (.long l0), none, none, none, some (.long l4), none] [] w Q :=
  zstep e_N_in rfl (And.intro (fun z => (zwk (ht ((lg_cmp_gt _ _).mp z)) (zle_n (zle_s (zle_s (zle_s (zle_n (zle_s zle_0)))))))) (fun z => (zwk (hf (fun q => z ((lg_cmp_gt _ _).mpr q))) (zle_n (zle_s (zle_s (zle_s (zle_n (zle_s zle_0)))))))))
theorem t_N_in_2 {d : Nat} {w : zW} {Q : zQ}  (h : WP d m_N_in 4 [none, none, none, none, none, none] [.int (1 : Int32)] w Q) : WP d m_N_in 2 [none, none, none, none, none, none] [] w Q :=
  zstep e_N_in rfl (h)
theorem t_N_in_3 {d : Nat} {w : zW} {Q : zQ}  (h : WP d m_N_in 4 [none, none, none, none, none, none] [.int (0 : Int32)] w Q) : WP d m_N_in 3 [none, none, none, none, none, none] [] w Q :=
  zstep e_N_in rfl (h)
theorem t_N_in_4 {d : Nat} {w : zW} {Q : zQ} {s0 : Int32} (cz : s0 = 0 ∨ s0 = 1) (h : Q (some (.int s0)) w) : WP d m_N_in 4 [none, none, none, none, none, none] [.int s0] w Q :=
  zstep e_N_in rfl (And.intro cz h)
theorem t_N_isCell_0 {d : Nat} {w : zW} {Q : zQ} {i0 : Int32} (h : WM d m_N_in 6 [.long (i0.toInt64), .long (0 : Int64), .long (35 : Int64)] w (fun r w' => WP (d + 1) m_N_isCell 1 [none] (zpush r []) w' Q)) : WP (d + 1) m_N_isCell 0 [some (.int i0)] [] w Q :=
  zstep e_N_isCell rfl (zcallI i_N_in (Nat.le_of_ble_eq_true rfl) (Nat.le_of_ble_eq_true rfl) (Nat.le_of_ble_eq_true rfl) trivial h (fun _ _ q => (zwk q (zle_n zle_0))))
theorem t_N_isCell_1 {d : Nat} {w : zW} {Q : zQ} {s0 : Int32} (cz : s0 = 0 ∨ s0 = 1) (h : Q (some (.int s0)) w) : WP d m_N_isCell 1 [none] [.int s0] w Q :=
  zstep e_N_isCell rfl (And.intro cz h)
theorem t_N_has_0 {d : Nat} {w : zW} {Q : zQ} {l0 : Int64} {i2 : Int32} (ht : ¬ ((zsr l0 i2) &&& (1 : Int64)) = (1 : Int64) → WP d m_N_has 2 [none, none, none] [] w Q) (hf : ((zsr l0 i2) &&& (1 : Int64)) = (1 : Int64) → WP d m_N_has 1 [none, none, none] [] w Q) : WP d m_N_has 0 [some (.long l0), none, some (.int i2)] [] w Q :=
  zstep e_N_has rfl (And.intro (fun z => (zwk (ht (fun q => z ((lg_cmp_eq _ _).mpr q))) (zle_n (zle_s (zle_n zle_0))))) (fun z => (zwk (hf ((lg_cmp_eq _ _).mp z)) (zle_n (zle_s (zle_n zle_0))))))
theorem t_N_has_1 {d : Nat} {w : zW} {Q : zQ}  (h : WP d m_N_has 3 [none, none, none] [.int (1 : Int32)] w Q) : WP d m_N_has 1 [none, none, none] [] w Q :=
  zstep e_N_has rfl (h)
theorem t_N_has_2 {d : Nat} {w : zW} {Q : zQ}  (h : WP d m_N_has 3 [none, none, none] [.int (0 : Int32)] w Q) : WP d m_N_has 2 [none, none, none] [] w Q :=
  zstep e_N_has rfl (h)
theorem t_N_has_3 {d : Nat} {w : zW} {Q : zQ} {s0 : Int32} (cz : s0 = 0 ∨ s0 = 1) (h : Q (some (.int s0)) w) : WP d m_N_has 3 [none, none, none] [.int s0] w Q :=
  zstep e_N_has rfl (And.intro cz h)
theorem t_N_ones_0 {d : Nat} {w : zW} {Q : zQ} {l0 : Int64} (h : WP d m_N_ones 1 [none, none, some (.int (0 : Int32)), some (.long l0), none] [] w Q) : WP d m_N_ones 0 [some (.long l0), none, none, none, none] [] w Q :=
  zstep e_N_ones rfl ((zwk h (zle_n (zle_s (zle_s (zle_s (zle_s zle_0)))))))
theorem t_N_ones_1 {d : Nat} {w : zW} {Q : zQ} {i2 : Int32} {l3 : Int64} (ht : l3 = (0 : Int64) → WP d m_N_ones 3 [none, none, some (.int i2), none, none] [] w Q) (hf : ¬ l3 = (0 : Int64) → WP d m_N_ones 2 [none, none, some (.int i2), some (.long l3), none] [] w Q) : WP d m_N_ones 1 [none, none, some (.int i2), some (.long l3), none] [] w Q :=
  zstep e_N_ones rfl (And.intro (fun z => (zwk (ht ((lg_cmp_eq _ _).mp z)) (zle_s (zle_s (zle_s (zle_n (zle_s zle_0))))))) (fun z => (hf (fun q => z ((lg_cmp_eq _ _).mpr q)))))
theorem t_N_ones_2 {d : Nat} {w : zW} {Q : zQ} {i2 : Int32} {l3 : Int64} (h : WP d m_N_ones 1 [none, none, some (.int (i2 + (1 : Int32))), some (.long (l3 &&& (l3 - (1 : Int64)))), none] [] w Q) : WP d m_N_ones 2 [none, none, some (.int i2), some (.long l3), none] [] w Q :=
  zstep e_N_ones rfl (h)
theorem t_N_ones_3 {d : Nat} {w : zW} {Q : zQ} {i2 : Int32} (h : Q (some (.int i2)) w) : WP d m_N_ones 3 [none, none, some (.int i2), none, none] [] w Q :=
  zstep e_N_ones rfl (h)
theorem t_N_least_0 {d : Nat} {w : zW} {Q : zQ} {l0 : Int64} (h : WP d m_N_least 1 [some (.long l0), none, some (.int (0 : Int32))] [] w Q) : WP d m_N_least 0 [some (.long l0), none, none] [] w Q :=
  zstep e_N_least rfl (h)
theorem t_N_least_1 {d : Nat} {w : zW} {Q : zQ} {l0 : Int64} {i2 : Int32} (h : WM d m_N_has 3 [.long l0, .int i2] w (fun r w' => WP (d + 1) m_N_least 2 [some (.long l0), none, some (.int i2)] (zpush r []) w' Q)) : WP (d + 1) m_N_least 1 [some (.long l0), none, some (.int i2)] [] w Q :=
  zstep e_N_least rfl (zcallI i_N_has (Nat.le_of_ble_eq_true rfl) (Nat.le_of_ble_eq_true rfl) (Nat.le_of_ble_eq_true rfl) trivial h (fun _ _ q => q))
theorem t_N_least_2 {d : Nat} {w : zW} {Q : zQ} {l0 : Int64} {i2 : Int32} {s0 : Int32} (ht : ¬ s0 = 0 → WP d m_N_least 4 [none, none, some (.int i2)] [] w Q) (hf : s0 = 0 → WP d m_N_least 3 [some (.long l0), none, some (.int i2)] [] w Q) : WP d m_N_least 2 [some (.long l0), none, some (.int i2)] [.int s0] w Q :=
  zstep e_N_least rfl (And.intro (fun z => (zwk (ht z) (zle_n (zle_s (zle_s zle_0))))) (fun z => (hf z)))
theorem t_N_least_3 {d : Nat} {w : zW} {Q : zQ} {l0 : Int64} {i2 : Int32} (h : WP d m_N_least 1 [some (.long l0), none, some (.int (i2 + (1 : Int32)))] [] w Q) : WP d m_N_least 3 [some (.long l0), none, some (.int i2)] [] w Q :=
  zstep e_N_least rfl (h)
theorem t_N_least_4 {d : Nat} {w : zW} {Q : zQ} {i2 : Int32} (h : Q (some (.int i2)) w) : WP d m_N_least 4 [none, none, some (.int i2)] [] w Q :=
  zstep e_N_least rfl (h)
theorem t_N_look_0 {d : Nat} {w : zW} {Q : zQ}  (h : WP d m_N_look 1 [some (.ref 10), some (.int (0 : Int32))] [] (sL (sL w 10 7 (0 : Int64)) 10 8 (0 : Int64)) Q) : WP d m_N_look 0 [some (.ref 10), none] [] w Q :=
  zstep e_N_look rfl (And.intro rfl (And.intro rfl (h)))
theorem t_N_look_1 {d : Nat} {w : zW} {Q : zQ} {i1 : Int32} (ht : (36 : Int32) ≤ i1 → WP d m_N_look 9 [none, none] [] w Q) (hf : ¬ (36 : Int32) ≤ i1 → WP d m_N_look 2 [some (.ref 10), some (.int i1)] [] w Q) : WP d m_N_look 1 [some (.ref 10), some (.int i1)] [] w Q :=
  zstep e_N_look rfl (And.intro (fun z => (zwk (ht z) (zle_n (zle_n zle_0)))) (fun z => (hf z)))
theorem t_N_look_2 {d : Nat} {w : zW} {Q : zQ} {i1 : Int32} (c3 : vp_in i1 36) (ht : (gI w 28 (i1.toNatClampNeg)) ≤ 0 → WP d m_N_look 4 [some (.ref 10), some (.int i1)] [.long (gL w 10 7), .ref 10] w Q) (hf : ¬ (gI w 28 (i1.toNatClampNeg)) ≤ 0 → WP d m_N_look 3 [some (.ref 10), some (.int i1)] [.long (gL w 10 7), .ref 10] w Q) : WP d m_N_look 2 [some (.ref 10), some (.int i1)] [] w Q :=
  zstep e_N_look rfl (And.intro rfl (And.intro rfl (And.intro rfl (And.intro c3 (And.intro (fun z => (ht z)) (fun z => (hf z)))))))
theorem t_N_look_3 {d : Nat} {w : zW} {Q : zQ} {i1 : Int32} {u1 : Int64} (h : WP d m_N_look 5 [some (.ref 10), some (.int i1)] [.long (zsl (1 : Int64) i1), .long u1, .ref 10] w Q) : WP d m_N_look 3 [some (.ref 10), some (.int i1)] [.long u1, .ref 10] w Q :=
  zstep e_N_look rfl (h)
theorem t_N_look_4 {d : Nat} {w : zW} {Q : zQ} {i1 : Int32} {u1 : Int64} (h : WP d m_N_look 5 [some (.ref 10), some (.int i1)] [.long (0 : Int64), .long u1, .ref 10] w Q) : WP d m_N_look 4 [some (.ref 10), some (.int i1)] [.long u1, .ref 10] w Q :=
  zstep e_N_look rfl (h)
theorem t_N_look_5 {d : Nat} {w : zW} {Q : zQ} {i1 : Int32} {u1 : Int64} {u2 : Int64} (c4 : vp_in i1 36) (ht : ¬ (gI w 28 (i1.toNatClampNeg)) = (9 : Int32) → WP d m_N_look 7 [some (.ref 10), some (.int i1)] [.long (gL w 10 8), .ref 10] (sL w 10 7 (u1 ||| u2)) Q) (hf : (gI w 28 (i1.toNatClampNeg)) = (9 : Int32) → WP d m_N_look 6 [some (.ref 10), some (.int i1)] [.long (gL w 10 8), .ref 10] (sL w 10 7 (u1 ||| u2)) Q) : WP d m_N_look 5 [some (.ref 10), some (.int i1)] [.long u2, .long u1, .ref 10] w Q :=
  zstep e_N_look rfl (And.intro rfl (And.intro rfl (And.intro rfl (And.intro rfl (And.intro c4 (And.intro (fun z => (ht z)) (fun z => (hf z))))))))
theorem t_N_look_6 {d : Nat} {w : zW} {Q : zQ} {i1 : Int32} {u1 : Int64} (h : WP d m_N_look 8 [some (.ref 10), some (.int i1)] [.long (zsl (1 : Int64) i1), .long u1, .ref 10] w Q) : WP d m_N_look 6 [some (.ref 10), some (.int i1)] [.long u1, .ref 10] w Q :=
  zstep e_N_look rfl (h)
theorem t_N_look_7 {d : Nat} {w : zW} {Q : zQ} {i1 : Int32} {u1 : Int64} (h : WP d m_N_look 8 [some (.ref 10), some (.int i1)] [.long (0 : Int64), .long u1, .ref 10] w Q) : WP d m_N_look 7 [some (.ref 10), some (.int i1)] [.long u1, .ref 10] w Q :=
  zstep e_N_look rfl (h)
theorem t_N_look_8 {d : Nat} {w : zW} {Q : zQ} {i1 : Int32} {u1 : Int64} {u2 : Int64} (h : WP d m_N_look 1 [some (.ref 10), some (.int (i1 + (1 : Int32)))] [] (sL w 10 8 (u1 ||| u2)) Q) : WP d m_N_look 8 [some (.ref 10), some (.int i1)] [.long u2, .long u1, .ref 10] w Q :=
  zstep e_N_look rfl (And.intro rfl (h))
theorem t_N_look_9 {d : Nat} {w : zW} {Q : zQ}  (h : Q none w) : WP d m_N_look 9 [none, none] [] w Q :=
  zstep e_N_look rfl (h)
theorem t_N_beside_0 {d : Nat} {w : zW} {Q : zQ} {l0 : Int64} (h : Q (some (.long (((((zsr (l0 &&& (-1090785346 : Int64)) (1 : Int32)) ||| (zsl (l0 &&& (-34905131041 : Int64)) (1 : Int32))) ||| (zsr l0 (6 : Int32))) ||| (zsl l0 (6 : Int32))) &&& (68719476735 : Int64)))) w) : WP d m_N_beside 0 [some (.long l0), none, none, none] [] w Q :=
  zstep e_N_beside rfl (h)
theorem t_N_grown_0 {d : Nat} {w : zW} {Q : zQ} {l0 : Int64} {l2 : Int64} (h : WM d m_N_beside 4 [.long (l0 &&& l2)] w (fun r w' => WP (d + 1) m_N_grown 1 [none, none, some (.long l2), none, some (.long (l0 &&& l2)), none, none, none] (zpush r [.long (l0 &&& l2)]) w' Q)) : WP (d + 1) m_N_grown 0 [some (.long l0), none, some (.long l2), none, none, none, none, none] [] w Q :=
  zstep e_N_grown rfl (zcallI i_N_beside (Nat.le_of_ble_eq_true rfl) (Nat.le_of_ble_eq_true rfl) (Nat.le_of_ble_eq_true rfl) trivial h (fun _ _ q => (zwk q (zle_n (zle_s (zle_s (zle_s (zle_s (zle_s (zle_s (zle_s zle_0)))))))))))
theorem t_N_grown_1 {d : Nat} {w : zW} {Q : zQ} {l2 : Int64} {l4 : Int64} {u0 : Int64} {u1 : Int64} (h : WP d m_N_grown 2 [none, none, some (.long l2), none, some (.long l4), none, some (.long ((u0 ||| u1) &&& l2)), none] [] w Q) : WP d m_N_grown 1 [none, none, some (.long l2), none, some (.long l4), none, none, none] [.long u1, .long u0] w Q :=
  zstep e_N_grown rfl (h)
theorem t_N_grown_2 {d : Nat} {w : zW} {Q : zQ} {l2 : Int64} {l4 : Int64} {l6 : Int64} (ht : l6 = l4 → WP d m_N_grown 5 [none, none, none, none, some (.long l4), none, none, none] [] w Q) (hf : ¬ l6 = l4 → WP d m_N_grown 3 [none, none, some (.long l2), none, none, none, some (.long l6), none] [] w Q) : WP d m_N_grown 2 [none, none, some (.long l2), none, some (.long l4), none, some (.long l6), none] [] w Q :=
  zstep e_N_grown rfl (And.intro (fun z => (zwk (ht ((lg_cmp_eq _ _).mp z)) (zle_s (zle_s (zle_n (zle_s (zle_s (zle_s (zle_n (zle_s zle_0)))))))))) (fun z => (zwk (hf (fun q => z ((lg_cmp_eq _ _).mpr q))) (zle_s (zle_s (zle_s (zle_s (zle_n (zle_s (zle_s (zle_s zle_0)))))))))))
theorem t_N_grown_3 {d : Nat} {w : zW} {Q : zQ} {l2 : Int64} {l6 : Int64} (h : WM d m_N_beside 4 [.long l6] w (fun r w' => WP (d + 1) m_N_grown 4 [none, none, some (.long l2), none, some (.long l6), none, none, none] (zpush r [.long l6]) w' Q)) : WP (d + 1) m_N_grown 3 [none, none, some (.long l2), none, none, none, some (.long l6), none] [] w Q :=
  zstep e_N_grown rfl (zcallI i_N_beside (Nat.le_of_ble_eq_true rfl) (Nat.le_of_ble_eq_true rfl) (Nat.le_of_ble_eq_true rfl) trivial h (fun _ _ q => (zwk q (zle_s (zle_s (zle_s (zle_s (zle_s (zle_s (zle_n (zle_s zle_0)))))))))))
theorem t_N_grown_4 {d : Nat} {w : zW} {Q : zQ} {l2 : Int64} {l4 : Int64} {u0 : Int64} {u1 : Int64} (h : WP d m_N_grown 2 [none, none, some (.long l2), none, some (.long l4), none, some (.long ((u0 ||| u1) &&& l2)), none] [] w Q) : WP d m_N_grown 4 [none, none, some (.long l2), none, some (.long l4), none, none, none] [.long u1, .long u0] w Q :=
  zstep e_N_grown rfl (h)
theorem t_N_grown_5 {d : Nat} {w : zW} {Q : zQ} {l4 : Int64} (h : Q (some (.long l4)) w) : WP d m_N_grown 5 [none, none, none, none, some (.long l4), none, none, none] [] w Q :=
  zstep e_N_grown rfl (h)
theorem t_N_holeAt_0 {d : Nat} {w : zW} {Q : zQ} {i1 : Int32} (h : WM d m_N_grown 8 [.long (zsl (1 : Int64) i1), .long (gL w 10 7)] w (fun r w' => WP (d + 1) m_N_holeAt 1 [none, none] (zpush r []) w' Q)) : WP (d + 1) m_N_holeAt 0 [some (.ref 10), some (.int i1)] [] w Q :=
  zstep e_N_holeAt rfl (And.intro rfl (zcallI i_N_grown (Nat.le_of_ble_eq_true rfl) (Nat.le_of_ble_eq_true rfl) (Nat.le_of_ble_eq_true rfl) trivial h (fun _ _ q => (zwk q (zle_n (zle_n zle_0))))))
theorem t_N_holeAt_1 {d : Nat} {w : zW} {Q : zQ} {u0 : Int64} (h : Q (some (.long u0)) w) : WP d m_N_holeAt 1 [none, none] [.long u0] w Q :=
  zstep e_N_holeAt rfl (h)
theorem t_N_rimOf_0 {d : Nat} {w : zW} {Q : zQ} {l1 : Int64} (h : WM d m_N_beside 4 [.long l1] w (fun r w' => WP (d + 1) m_N_rimOf 1 [some (.ref 10), none, none] (zpush r []) w' Q)) : WP (d + 1) m_N_rimOf 0 [some (.ref 10), some (.long l1), none] [] w Q :=
  zstep e_N_rimOf rfl (zcallI i_N_beside (Nat.le_of_ble_eq_true rfl) (Nat.le_of_ble_eq_true rfl) (Nat.le_of_ble_eq_true rfl) trivial h (fun _ _ q => (zwk q (zle_s (zle_n (zle_s zle_0))))))
theorem t_N_rimOf_1 {d : Nat} {w : zW} {Q : zQ} {u0 : Int64} (h : Q (some (.long (u0 &&& ((gL w 10 7) ^^^ (-1 : Int64))))) w) : WP d m_N_rimOf 1 [some (.ref 10), none, none] [.long u0] w Q :=
  zstep e_N_rimOf rfl (And.intro rfl (h))
theorem t_N_fenceOf_0 {d : Nat} {w : zW} {Q : zQ} {l0 : Int64} (h : WM d m_N_ones 5 [.long (l0 &&& (zsr (l0 &&& (-1090785346 : Int64)) (1 : Int32)))] w (fun r w' => WP (d + 1) m_N_fenceOf 1 [some (.long l0), none, none] (zpush r []) w' Q)) : WP (d + 1) m_N_fenceOf 0 [some (.long l0), none, none] [] w Q :=
  zstep e_N_fenceOf rfl (zcallI i_N_ones (Nat.le_of_ble_eq_true rfl) (Nat.le_of_ble_eq_true rfl) (Nat.le_of_ble_eq_true rfl) trivial h (fun _ _ q => q))
theorem t_N_fenceOf_1 {d : Nat} {w : zW} {Q : zQ} {l0 : Int64} {s0 : Int32} (h : WM d m_N_ones 5 [.long (l0 &&& (zsr l0 (6 : Int32)))] w (fun r w' => WP (d + 1) m_N_fenceOf 2 [some (.long l0), none, none] (zpush r [.int s0]) w' Q)) : WP (d + 1) m_N_fenceOf 1 [some (.long l0), none, none] [.int s0] w Q :=
  zstep e_N_fenceOf rfl (zcallI i_N_ones (Nat.le_of_ble_eq_true rfl) (Nat.le_of_ble_eq_true rfl) (Nat.le_of_ble_eq_true rfl) trivial h (fun _ _ q => q))
theorem t_N_fenceOf_2 {d : Nat} {w : zW} {Q : zQ} {l0 : Int64} {s0 : Int32} {s1 : Int32} (h : WM d m_N_ones 5 [.long l0] w (fun r w' => WP (d + 1) m_N_fenceOf 3 [none, none, some (.int (s0 + s1))] (zpush r [.int (4 : Int32)]) w' Q)) : WP (d + 1) m_N_fenceOf 2 [some (.long l0), none, none] [.int s1, .int s0] w Q :=
  zstep e_N_fenceOf rfl (zcallI i_N_ones (Nat.le_of_ble_eq_true rfl) (Nat.le_of_ble_eq_true rfl) (Nat.le_of_ble_eq_true rfl) trivial h (fun _ _ q => (zwk q (zle_n (zle_s (zle_s zle_0))))))
theorem t_N_fenceOf_3 {d : Nat} {w : zW} {Q : zQ} {i2 : Int32} {s0 : Int32} {s1 : Int32} (h : Q (some (.int ((s0 * s1) - ((2 : Int32) * i2)))) w) : WP d m_N_fenceOf 3 [none, none, some (.int i2)] [.int s1, .int s0] w Q :=
  zstep e_N_fenceOf rfl (h)
theorem t_N_edge_0 {d : Nat} {w : zW} {Q : zQ}  (h : Q (some (.long (68208171135 : Int64))) w) : WP d m_N_edge 0 [] [] w Q :=
  zstep e_N_edge rfl (h)
theorem t_N_withinOf_0 {d : Nat} {w : zW} {Q : zQ} {l0 : Int64} (h : WM d m_N_edge 0 [] w (fun r w' => WP (d + 1) m_N_withinOf 1 [none, none, some (.long ((68719476735 : Int64) &&& (l0 ^^^ (-1 : Int64)))), none] (zpush r [.long ((68719476735 : Int64) &&& (l0 ^^^ (-1 : Int64)))]) w' Q)) : WP (d + 1) m_N_withinOf 0 [some (.long l0), none, none, none] [] w Q :=
  zstep e_N_withinOf rfl (zcallI i_N_edge (Nat.le_of_ble_eq_true rfl) (Nat.le_of_ble_eq_true rfl) (Nat.le_of_ble_eq_true rfl) trivial h (fun _ _ q => (zwk q (zle_n (zle_s (zle_s (zle_s zle_0)))))))
theorem t_N_withinOf_1 {d : Nat} {w : zW} {Q : zQ} {l2 : Int64} {u0 : Int64} {u1 : Int64} (h : WM d m_N_grown 8 [.long u1, .long l2] w (fun r w' => WP (d + 1) m_N_withinOf 2 [none, none, none, none] (zpush r [.long u0]) w' Q)) : WP (d + 1) m_N_withinOf 1 [none, none, some (.long l2), none] [.long u1, .long u0] w Q :=
  zstep e_N_withinOf rfl (zcallI i_N_grown (Nat.le_of_ble_eq_true rfl) (Nat.le_of_ble_eq_true rfl) (Nat.le_of_ble_eq_true rfl) trivial h (fun _ _ q => (zwk q (zle_s (zle_s (zle_n (zle_s zle_0)))))))
theorem t_N_withinOf_2 {d : Nat} {w : zW} {Q : zQ} {u0 : Int64} {u1 : Int64} (h : Q (some (.long (u0 &&& (u1 ^^^ (-1 : Int64))))) w) : WP d m_N_withinOf 2 [none, none, none, none] [.long u1, .long u0] w Q :=
  zstep e_N_withinOf rfl (h)
theorem t_N_kindOf_0 {d : Nat} {w : zW} {Q : zQ} {l1 : Int64} (ht : (l1 &&& (1090785345 : Int64)) = (0 : Int64) → WP d m_N_kindOf 2 [some (.ref 10), some (.long l1), none, none, none] [] w Q) (hf : ¬ (l1 &&& (1090785345 : Int64)) = (0 : Int64) → WP d m_N_kindOf 1 [some (.ref 10), some (.long l1), none, none, none] [] w Q) : WP d m_N_kindOf 0 [some (.ref 10), some (.long l1), none, none, none] [] w Q :=
  zstep e_N_kindOf rfl (And.intro (fun z => (ht ((lg_cmp_eq _ _).mp z))) (fun z => (hf (fun q => z ((lg_cmp_eq _ _).mpr q)))))
theorem t_N_kindOf_1 {d : Nat} {w : zW} {Q : zQ} {l1 : Int64} (ht : ¬ (l1 &&& (34905131040 : Int64)) = (0 : Int64) → WP d m_N_kindOf 4 [some (.ref 10), some (.long l1), none, none, none] [] w Q) (hf : (l1 &&& (34905131040 : Int64)) = (0 : Int64) → WP d m_N_kindOf 2 [some (.ref 10), some (.long l1), none, none, none] [] w Q) : WP d m_N_kindOf 1 [some (.ref 10), some (.long l1), none, none, none] [] w Q :=
  zstep e_N_kindOf rfl (And.intro (fun z => (ht (fun q => z ((lg_cmp_eq _ _).mpr q)))) (fun z => (hf ((lg_cmp_eq _ _).mp z))))
theorem t_N_kindOf_2 {d : Nat} {w : zW} {Q : zQ} {l1 : Int64} (ht : (l1 &&& (63 : Int64)) = (0 : Int64) → WP d m_N_kindOf 5 [some (.ref 10), some (.long l1), none, none, none] [] w Q) (hf : ¬ (l1 &&& (63 : Int64)) = (0 : Int64) → WP d m_N_kindOf 3 [some (.ref 10), some (.long l1), none, none, none] [] w Q) : WP d m_N_kindOf 2 [some (.ref 10), some (.long l1), none, none, none] [] w Q :=
  zstep e_N_kindOf rfl (And.intro (fun z => (ht ((lg_cmp_eq _ _).mp z))) (fun z => (hf (fun q => z ((lg_cmp_eq _ _).mpr q)))))
theorem t_N_kindOf_3 {d : Nat} {w : zW} {Q : zQ} {l1 : Int64} (ht : (l1 &&& (67645734912 : Int64)) = (0 : Int64) → WP d m_N_kindOf 5 [some (.ref 10), some (.long l1), none, none, none] [] w Q) (hf : ¬ (l1 &&& (67645734912 : Int64)) = (0 : Int64) → WP d m_N_kindOf 4 [some (.ref 10), some (.long l1), none, none, none] [] w Q) : WP d m_N_kindOf 3 [some (.ref 10), some (.long l1), none, none, none] [] w Q :=
  zstep e_N_kindOf rfl (And.intro (fun z => (ht ((lg_cmp_eq _ _).mp z))) (fun z => (hf (fun q => z ((lg_cmp_eq _ _).mpr q)))))
theorem t_N_kindOf_4 {d : Nat} {w : zW} {Q : zQ} {l1 : Int64} (h : WP d m_N_kindOf 6 [some (.ref 10), some (.long l1), none, none, none] [.int (1 : Int32)] w Q) : WP d m_N_kindOf 4 [some (.ref 10), some (.long l1), none, none, none] [] w Q :=
  zstep e_N_kindOf rfl (h)
theorem t_N_kindOf_5 {d : Nat} {w : zW} {Q : zQ} {l1 : Int64} (h : WP d m_N_kindOf 6 [some (.ref 10), some (.long l1), none, none, none] [.int (0 : Int32)] w Q) : WP d m_N_kindOf 5 [some (.ref 10), some (.long l1), none, none, none] [] w Q :=
  zstep e_N_kindOf rfl (h)
theorem t_N_kindOf_6 {d : Nat} {w : zW} {Q : zQ} {l1 : Int64} {s0 : Int32} (h : WM d m_N_edge 0 [] w (fun r w' => WP (d + 1) m_N_kindOf 7 [some (.ref 10), some (.long l1), none, some (.int s0), none] (zpush r [.long l1]) w' Q)) : WP (d + 1) m_N_kindOf 6 [some (.ref 10), some (.long l1), none, none, none] [.int s0] w Q :=
  zstep e_N_kindOf rfl (zcallI i_N_edge (Nat.le_of_ble_eq_true rfl) (Nat.le_of_ble_eq_true rfl) (Nat.le_of_ble_eq_true rfl) trivial h (fun _ _ q => q))
theorem t_N_kindOf_7 {d : Nat} {w : zW} {Q : zQ} {l1 : Int64} {i3 : Int32} {u0 : Int64} {u1 : Int64} (ht : (u0 &&& u1) = (0 : Int64) → WP d m_N_kindOf 9 [some (.ref 10), some (.long l1), none, some (.int i3), none] [] w Q) (hf : ¬ (u0 &&& u1) = (0 : Int64) → WP d m_N_kindOf 8 [some (.ref 10), some (.long l1), none, some (.int i3), none] [] w Q) : WP d m_N_kindOf 7 [some (.ref 10), some (.long l1), none, some (.int i3), none] [.long u1, .long u0] w Q :=
  zstep e_N_kindOf rfl (And.intro (fun z => (ht ((lg_cmp_eq _ _).mp z))) (fun z => (hf (fun q => z ((lg_cmp_eq _ _).mpr q)))))
theorem t_N_kindOf_8 {d : Nat} {w : zW} {Q : zQ} {l1 : Int64} {i3 : Int32} (h : WP d m_N_kindOf 10 [some (.ref 10), some (.long l1), none, some (.int i3), none] [.int (1 : Int32)] w Q) : WP d m_N_kindOf 8 [some (.ref 10), some (.long l1), none, some (.int i3), none] [] w Q :=
  zstep e_N_kindOf rfl (h)
theorem t_N_kindOf_9 {d : Nat} {w : zW} {Q : zQ} {l1 : Int64} {i3 : Int32} (h : WP d m_N_kindOf 10 [some (.ref 10), some (.long l1), none, some (.int i3), none] [.int (0 : Int32)] w Q) : WP d m_N_kindOf 9 [some (.ref 10), some (.long l1), none, some (.int i3), none] [] w Q :=
  zstep e_N_kindOf rfl (h)
theorem t_N_kindOf_10 {d : Nat} {w : zW} {Q : zQ} {l1 : Int64} {i3 : Int32} {s0 : Int32} (ht : ¬ (l1 &&& ((gL w 10 2) ^^^ (-1 : Int64))) = (0 : Int64) → WP d m_N_kindOf 12 [some (.ref 10), some (.long l1), none, some (.int i3), some (.int s0)] [] w Q) (hf : (l1 &&& ((gL w 10 2) ^^^ (-1 : Int64))) = (0 : Int64) → WP d m_N_kindOf 11 [none, none, none, none, none] [] w Q) : WP d m_N_kindOf 10 [some (.ref 10), some (.long l1), none, some (.int i3), none] [.int s0] w Q :=
  zstep e_N_kindOf rfl (And.intro rfl (And.intro (fun z => (ht (fun q => z ((lg_cmp_eq _ _).mpr q)))) (fun z => (zwk (hf ((lg_cmp_eq _ _).mp z)) (zle_n (zle_n (zle_s (zle_n (zle_n zle_0)))))))))
theorem t_N_kindOf_11 {d : Nat} {w : zW} {Q : zQ}  (h : WP d m_N_kindOf 20 [none, none, none, none, none] [.int (4 : Int32)] w Q) : WP d m_N_kindOf 11 [none, none, none, none, none] [] w Q :=
  zstep e_N_kindOf rfl (h)
theorem t_N_kindOf_12 {d : Nat} {w : zW} {Q : zQ} {l1 : Int64} {i3 : Int32} {i4 : Int32} (ht : i3 = 0 → WP d m_N_kindOf 14 [some (.ref 10), some (.long l1), none, none, some (.int i4)] [] w Q) (hf : ¬ i3 = 0 → WP d m_N_kindOf 13 [none, none, none, none, none] [] w Q) : WP d m_N_kindOf 12 [some (.ref 10), some (.long l1), none, some (.int i3), some (.int i4)] [] w Q :=
  zstep e_N_kindOf rfl (And.intro (fun z => (zwk (ht z) (zle_s (zle_s (zle_s (zle_n (zle_s zle_0))))))) (fun z => (zwk (hf z) (zle_n (zle_n (zle_s (zle_n (zle_n zle_0))))))))
theorem t_N_kindOf_13 {d : Nat} {w : zW} {Q : zQ}  (h : WP d m_N_kindOf 20 [none, none, none, none, none] [.int (3 : Int32)] w Q) : WP d m_N_kindOf 13 [none, none, none, none, none] [] w Q :=
  zstep e_N_kindOf rfl (h)
theorem t_N_kindOf_14 {d : Nat} {w : zW} {Q : zQ} {l1 : Int64} {i4 : Int32} (ht : ¬ i4 = 0 → WP d m_N_kindOf 17 [none, none, none, none, some (.int i4)] [] w Q) (hf : i4 = 0 → WP d m_N_kindOf 15 [some (.ref 10), some (.long l1), none, none, some (.int i4)] [] w Q) : WP d m_N_kindOf 14 [some (.ref 10), some (.long l1), none, none, some (.int i4)] [] w Q :=
  zstep e_N_kindOf rfl (And.intro (fun z => (zwk (ht z) (zle_n (zle_n (zle_s (zle_s (zle_s zle_0))))))) (fun z => (hf z)))
theorem t_N_kindOf_15 {d : Nat} {w : zW} {Q : zQ} {l1 : Int64} {i4 : Int32} (ht : (l1 &&& (gL w 10 8)) = (0 : Int64) → WP d m_N_kindOf 17 [none, none, none, none, some (.int i4)] [] w Q) (hf : ¬ (l1 &&& (gL w 10 8)) = (0 : Int64) → WP d m_N_kindOf 16 [none, none, none, none, none] [] w Q) : WP d m_N_kindOf 15 [some (.ref 10), some (.long l1), none, none, some (.int i4)] [] w Q :=
  zstep e_N_kindOf rfl (And.intro rfl (And.intro (fun z => (zwk (ht ((lg_cmp_eq _ _).mp z)) (zle_n (zle_n (zle_s (zle_s (zle_s zle_0))))))) (fun z => (zwk (hf (fun q => z ((lg_cmp_eq _ _).mpr q))) (zle_n (zle_n (zle_s (zle_s (zle_n zle_0)))))))))
theorem t_N_kindOf_16 {d : Nat} {w : zW} {Q : zQ}  (h : WP d m_N_kindOf 20 [none, none, none, none, none] [.int (2 : Int32)] w Q) : WP d m_N_kindOf 16 [none, none, none, none, none] [] w Q :=
  zstep e_N_kindOf rfl (h)
theorem t_N_kindOf_17 {d : Nat} {w : zW} {Q : zQ} {i4 : Int32} (ht : i4 = 0 → WP d m_N_kindOf 19 [none, none, none, none, none] [] w Q) (hf : ¬ i4 = 0 → WP d m_N_kindOf 18 [none, none, none, none, none] [] w Q) : WP d m_N_kindOf 17 [none, none, none, none, some (.int i4)] [] w Q :=
  zstep e_N_kindOf rfl (And.intro (fun z => (zwk (ht z) (zle_s (zle_s (zle_s (zle_s (zle_n zle_0))))))) (fun z => (zwk (hf z) (zle_s (zle_s (zle_s (zle_s (zle_n zle_0))))))))
theorem t_N_kindOf_18 {d : Nat} {w : zW} {Q : zQ}  (h : WP d m_N_kindOf 20 [none, none, none, none, none] [.int (1 : Int32)] w Q) : WP d m_N_kindOf 18 [none, none, none, none, none] [] w Q :=
  zstep e_N_kindOf rfl (h)
theorem t_N_kindOf_19 {d : Nat} {w : zW} {Q : zQ}  (h : WP d m_N_kindOf 20 [none, none, none, none, none] [.int (0 : Int32)] w Q) : WP d m_N_kindOf 19 [none, none, none, none, none] [] w Q :=
  zstep e_N_kindOf rfl (h)
theorem t_N_kindOf_20 {d : Nat} {w : zW} {Q : zQ} {s0 : Int32} (h : Q (some (.int s0)) w) : WP d m_N_kindOf 20 [none, none, none, none, none] [.int s0] w Q :=
  zstep e_N_kindOf rfl (h)
theorem t_N_taxOf_0 {d : Nat} {w : zW} {Q : zQ} {l1 : Int64} (h : WM d m_N_ones 5 [.long l1] w (fun r w' => WP (d + 1) m_N_taxOf 1 [some (.ref 10), some (.long l1), none, none, none, none, none] (zpush r []) w' Q)) : WP (d + 1) m_N_taxOf 0 [some (.ref 10), some (.long l1), none, none, none, none, none] [] w Q :=
  zstep e_N_taxOf rfl (zcallI i_N_ones (Nat.le_of_ble_eq_true rfl) (Nat.le_of_ble_eq_true rfl) (Nat.le_of_ble_eq_true rfl) trivial h (fun _ _ q => q))
theorem t_N_taxOf_1 {d : Nat} {w : zW} {Q : zQ} {l1 : Int64} {s0 : Int32} (ht : (3 : Int32) ≤ s0 → WP d m_N_taxOf 3 [some (.ref 10), some (.long l1), none, some (.int s0), none, none, none] [.int (gI w 10 3)] w Q) (hf : ¬ (3 : Int32) ≤ s0 → WP d m_N_taxOf 2 [some (.ref 10), some (.long l1), none, some (.int s0), none, none, none] [.int (gI w 10 3)] w Q) : WP d m_N_taxOf 1 [some (.ref 10), some (.long l1), none, none, none, none, none] [.int s0] w Q :=
  zstep e_N_taxOf rfl (And.intro rfl (And.intro (fun z => (ht z)) (fun z => (hf z))))
theorem t_N_taxOf_2 {d : Nat} {w : zW} {Q : zQ} {l1 : Int64} {i3 : Int32} {s0 : Int32} (h : WP d m_N_taxOf 4 [some (.ref 10), some (.long l1), none, some (.int i3), none, none, none] [.int i3, .int s0] w Q) : WP d m_N_taxOf 2 [some (.ref 10), some (.long l1), none, some (.int i3), none, none, none] [.int s0] w Q :=
  zstep e_N_taxOf rfl (h)
theorem t_N_taxOf_3 {d : Nat} {w : zW} {Q : zQ} {l1 : Int64} {i3 : Int32} {s0 : Int32} (h : WP d m_N_taxOf 4 [some (.ref 10), some (.long l1), none, some (.int i3), none, none, none] [.int (((2 : Int32) * i3) - (3 : Int32)), .int s0] w Q) : WP d m_N_taxOf 3 [some (.ref 10), some (.long l1), none, some (.int i3), none, none, none] [.int s0] w Q :=
  zstep e_N_taxOf rfl (h)
theorem t_N_taxOf_4 {d : Nat} {w : zW} {Q : zQ} {l1 : Int64} {i3 : Int32} {s0 : Int32} {s1 : Int32} (h : WM d m_N_kindOf 5 [.ref 10, .long l1] w (fun r w' => WP (d + 1) m_N_taxOf 5 [none, some (.long l1), none, some (.int i3), some (.int (s0 * s1)), none, none] (zpush r []) w' Q)) : WP (d + 1) m_N_taxOf 4 [some (.ref 10), some (.long l1), none, some (.int i3), none, none, none] [.int s1, .int s0] w Q :=
  zstep e_N_taxOf rfl (zcallI i_N_kindOf (Nat.le_of_ble_eq_true rfl) (Nat.le_of_ble_eq_true rfl) (Nat.le_of_ble_eq_true rfl) rfl h (fun _ _ q => (zwk q (zle_n (zle_s (zle_s (zle_s (zle_s (zle_s (zle_s zle_0))))))))))
theorem t_N_taxOf_5 {d : Nat} {w : zW} {Q : zQ} {l1 : Int64} {i3 : Int32} {i4 : Int32} {s0 : Int32} (ht : ¬ s0 = 0 → WP d m_N_taxOf 7 [none, some (.long l1), none, none, some (.int i4), some (.int s0), some (.int ((i4 + (10 : Int32)) - ((3 : Int32) * i3)))] [] w Q) (hf : s0 = 0 → WP d m_N_taxOf 6 [none, none, none, none, some (.int i4), none, none] [] w Q) : WP d m_N_taxOf 5 [none, some (.long l1), none, some (.int i3), some (.int i4), none, none] [.int s0] w Q :=
  zstep e_N_taxOf rfl (And.intro (fun z => (zwk (ht z) (zle_s (zle_s (zle_s (zle_n (zle_s (zle_s (zle_s zle_0))))))))) (fun z => (zwk (hf z) (zle_s (zle_n (zle_s (zle_n (zle_s (zle_n (zle_n zle_0))))))))))
theorem t_N_taxOf_6 {d : Nat} {w : zW} {Q : zQ} {i4 : Int32} (h : WP d m_N_taxOf 17 [none, none, none, none, none, none, none] [.int i4] w Q) : WP d m_N_taxOf 6 [none, none, none, none, some (.int i4), none, none] [] w Q :=
  zstep e_N_taxOf rfl ((zwk h (zle_s (zle_s (zle_s (zle_s (zle_n (zle_s (zle_s zle_0)))))))))
theorem t_N_taxOf_7 {d : Nat} {w : zW} {Q : zQ} {l1 : Int64} {i4 : Int32} {i5 : Int32} {i6 : Int32} (ht : ¬ i5 = (1 : Int32) → WP d m_N_taxOf 9 [none, some (.long l1), none, none, some (.int i4), some (.int i5), some (.int i6)] [] w Q) (hf : i5 = (1 : Int32) → WP d m_N_taxOf 8 [none, none, none, none, some (.int i4), none, none] [] w Q) : WP d m_N_taxOf 7 [none, some (.long l1), none, none, some (.int i4), some (.int i5), some (.int i6)] [] w Q :=
  zstep e_N_taxOf rfl (And.intro (fun z => (ht z)) (fun z => (zwk (hf z) (zle_s (zle_n (zle_s (zle_s (zle_s (zle_n (zle_n zle_0))))))))))
theorem t_N_taxOf_8 {d : Nat} {w : zW} {Q : zQ} {i4 : Int32} (h : WP d m_N_taxOf 17 [none, none, none, none, none, none, none] [.int (i4 / (2 : Int32))] w Q) : WP d m_N_taxOf 8 [none, none, none, none, some (.int i4), none, none] [] w Q :=
  zstep e_N_taxOf rfl (And.intro (by decide) ((zwk h (zle_s (zle_s (zle_s (zle_s (zle_n (zle_s (zle_s zle_0))))))))))
theorem t_N_taxOf_9 {d : Nat} {w : zW} {Q : zQ} {l1 : Int64} {i4 : Int32} {i5 : Int32} {i6 : Int32} (ht : ¬ i5 = (2 : Int32) → WP d m_N_taxOf 11 [none, some (.long l1), none, none, some (.int i4), some (.int i5), some (.int i6)] [] w Q) (hf : i5 = (2 : Int32) → WP d m_N_taxOf 10 [none, none, none, none, some (.int i4), none, none] [] w Q) : WP d m_N_taxOf 9 [none, some (.long l1), none, none, some (.int i4), some (.int i5), some (.int i6)] [] w Q :=
  zstep e_N_taxOf rfl (And.intro (fun z => (ht z)) (fun z => (zwk (hf z) (zle_s (zle_n (zle_s (zle_s (zle_s (zle_n (zle_n zle_0))))))))))
theorem t_N_taxOf_10 {d : Nat} {w : zW} {Q : zQ} {i4 : Int32} (h : WP d m_N_taxOf 17 [none, none, none, none, none, none, none] [.int (i4 + (10 : Int32))] w Q) : WP d m_N_taxOf 10 [none, none, none, none, some (.int i4), none, none] [] w Q :=
  zstep e_N_taxOf rfl ((zwk h (zle_s (zle_s (zle_s (zle_s (zle_n (zle_s (zle_s zle_0)))))))))
theorem t_N_taxOf_11 {d : Nat} {w : zW} {Q : zQ} {l1 : Int64} {i4 : Int32} {i5 : Int32} {i6 : Int32} (ht : ¬ i5 = (3 : Int32) → WP d m_N_taxOf 14 [none, none, none, none, none, none, some (.int i6)] [] w Q) (hf : i5 = (3 : Int32) → WP d m_N_taxOf 12 [none, some (.long l1), none, none, some (.int i4), none, none] [] w Q) : WP d m_N_taxOf 11 [none, some (.long l1), none, none, some (.int i4), some (.int i5), some (.int i6)] [] w Q :=
  zstep e_N_taxOf rfl (And.intro (fun z => (zwk (ht z) (zle_s (zle_n (zle_s (zle_s (zle_n (zle_n (zle_s zle_0))))))))) (fun z => (zwk (hf z) (zle_s (zle_s (zle_s (zle_s (zle_s (zle_n (zle_n zle_0))))))))))
theorem t_N_taxOf_12 {d : Nat} {w : zW} {Q : zQ} {l1 : Int64} {i4 : Int32} (h : WM d m_N_fenceOf 3 [.long l1] w (fun r w' => WP (d + 1) m_N_taxOf 13 [none, none, none, none, none, none, none] (zpush r [.int (i4 / (2 : Int32))]) w' Q)) : WP (d + 1) m_N_taxOf 12 [none, some (.long l1), none, none, some (.int i4), none, none] [] w Q :=
  zstep e_N_taxOf rfl (And.intro (by decide) (zcallI i_N_fenceOf (Nat.le_of_ble_eq_true rfl) (Nat.le_of_ble_eq_true rfl) (Nat.le_of_ble_eq_true rfl) trivial h (fun _ _ q => (zwk q (zle_s (zle_n (zle_s (zle_s (zle_n (zle_s (zle_s zle_0)))))))))))
theorem t_N_taxOf_13 {d : Nat} {w : zW} {Q : zQ} {s0 : Int32} {s1 : Int32} (h : WP d m_N_taxOf 17 [none, none, none, none, none, none, none] [.int (s0 + s1)] w Q) : WP d m_N_taxOf 13 [none, none, none, none, none, none, none] [.int s1, .int s0] w Q :=
  zstep e_N_taxOf rfl (h)
theorem t_N_taxOf_14 {d : Nat} {w : zW} {Q : zQ} {i6 : Int32} (ht : 0 ≤ i6 → WP d m_N_taxOf 16 [none, none, none, none, none, none, some (.int i6)] [] w Q) (hf : ¬ 0 ≤ i6 → WP d m_N_taxOf 15 [none, none, none, none, none, none, none] [] w Q) : WP d m_N_taxOf 14 [none, none, none, none, none, none, some (.int i6)] [] w Q :=
  zstep e_N_taxOf rfl (And.intro (fun z => (ht z)) (fun z => (zwk (hf z) (zle_s (zle_s (zle_s (zle_s (zle_s (zle_s (zle_n zle_0))))))))))
theorem t_N_taxOf_15 {d : Nat} {w : zW} {Q : zQ}  (h : WP d m_N_taxOf 17 [none, none, none, none, none, none, none] [.int (0 : Int32)] w Q) : WP d m_N_taxOf 15 [none, none, none, none, none, none, none] [] w Q :=
  zstep e_N_taxOf rfl (h)
theorem t_N_taxOf_16 {d : Nat} {w : zW} {Q : zQ} {i6 : Int32} (h : WP d m_N_taxOf 17 [none, none, none, none, none, none, none] [.int i6] w Q) : WP d m_N_taxOf 16 [none, none, none, none, none, none, some (.int i6)] [] w Q :=
  zstep e_N_taxOf rfl ((zwk h (zle_s (zle_s (zle_s (zle_s (zle_s (zle_s (zle_n zle_0)))))))))
theorem t_N_taxOf_17 {d : Nat} {w : zW} {Q : zQ} {s0 : Int32} (h : Q (some (.int s0)) w) : WP d m_N_taxOf 17 [none, none, none, none, none, none, none] [.int s0] w Q :=
  zstep e_N_taxOf rfl (h)
theorem t_N_findHoles_0 {d : Nat} {w : zW} {Q : zQ}  (h : WP d m_N_findHoles 1 [some (.ref 10), some (.long (gL w 10 7)), none] [] (sI w 10 10 (0 : Int32)) Q) : WP d m_N_findHoles 0 [some (.ref 10), none, none] [] w Q :=
  zstep e_N_findHoles rfl (And.intro rfl (And.intro rfl (h)))
theorem t_N_findHoles_1 {d : Nat} {w : zW} {Q : zQ} {l1 : Int64} (ht : l1 = (0 : Int64) → WP d m_N_findHoles 5 [none, none, none] [] w Q) (hf : ¬ l1 = (0 : Int64) → WP d m_N_findHoles 2 [some (.ref 10), some (.long l1), none] [] w Q) : WP d m_N_findHoles 1 [some (.ref 10), some (.long l1), none] [] w Q :=
  zstep e_N_findHoles rfl (And.intro (fun z => (zwk (ht ((lg_cmp_eq _ _).mp z)) (zle_n (zle_n (zle_s zle_0))))) (fun z => (hf (fun q => z ((lg_cmp_eq _ _).mpr q)))))
theorem t_N_findHoles_2 {d : Nat} {w : zW} {Q : zQ} {l1 : Int64} (h : WM d m_N_least 3 [.long l1] w (fun r w' => WP (d + 1) m_N_findHoles 3 [some (.ref 10), some (.long l1), none] (zpush r [.ref 10, .int (gI w 10 10), .ref 31]) w' Q)) : WP (d + 1) m_N_findHoles 2 [some (.ref 10), some (.long l1), none] [] w Q :=
  zstep e_N_findHoles rfl (And.intro rfl (And.intro rfl (zcallI i_N_least (Nat.le_of_ble_eq_true rfl) (Nat.le_of_ble_eq_true rfl) (Nat.le_of_ble_eq_true rfl) trivial h (fun _ _ q => q))))
theorem t_N_findHoles_3 {d : Nat} {w : zW} {Q : zQ} {l1 : Int64} {s1 : Int32} {s3 : Int32} (h : WM d m_N_holeAt 2 [.ref 10, .int s3] w (fun r w' => WP (d + 1) m_N_findHoles 4 [some (.ref 10), some (.long l1), none] (zpush r [.int s1, .ref 31]) w' Q)) : WP (d + 1) m_N_findHoles 3 [some (.ref 10), some (.long l1), none] [.int s3, .ref 10, .int s1, .ref 31] w Q :=
  zstep e_N_findHoles rfl (zcallI i_N_holeAt (Nat.le_of_ble_eq_true rfl) (Nat.le_of_ble_eq_true rfl) (Nat.le_of_ble_eq_true rfl) rfl h (fun _ _ q => q))
theorem t_N_findHoles_4 {d : Nat} {w : zW} {Q : zQ} {l1 : Int64} {s1 : Int32} {u2 : Int64} (c1 : vp_in s1 36) (c7 : vp_in (((gI w 10 10) + (1 : Int32)) - (1 : Int32)) 36) (h : WP d m_N_findHoles 1 [some (.ref 10), some (.long (l1 &&& ((gL (sL w 31 (s1.toNatClampNeg) u2) 31 ((((gI w 10 10) + (1 : Int32)) - (1 : Int32)).toNatClampNeg)) ^^^ (-1 : Int64)))), none] [] (sI (sL w 31 (s1.toNatClampNeg) u2) 10 10 ((gI w 10 10) + (1 : Int32))) Q) : WP d m_N_findHoles 4 [some (.ref 10), some (.long l1), none] [.long u2, .int s1, .ref 31] w Q :=
  zstep e_N_findHoles rfl (And.intro rfl (And.intro c1 (And.intro rfl (And.intro rfl (And.intro rfl (And.intro rfl (And.intro rfl (And.intro c7 (h)))))))))
theorem t_N_findHoles_5 {d : Nat} {w : zW} {Q : zQ}  (h : Q none w) : WP d m_N_findHoles 5 [none, none, none] [] w Q :=
  zstep e_N_findHoles rfl (h)
theorem t_N_taxOfAll_0 {d : Nat} {w : zW} {Q : zQ}  (h : WM d m_N_findHoles 3 [.ref 10] w (fun r w' => WP (d + 1) m_N_taxOfAll 1 [some (.ref 10), none, none] (zpush r []) w' Q)) : WP (d + 1) m_N_taxOfAll 0 [some (.ref 10), none, none] [] w Q :=
  zstep e_N_taxOfAll rfl (zcallI i_N_findHoles (Nat.le_of_ble_eq_true rfl) (Nat.le_of_ble_eq_true rfl) (Nat.le_of_ble_eq_true rfl) rfl h (fun _ _ q => q))
theorem t_N_taxOfAll_1 {d : Nat} {w : zW} {Q : zQ}  (h : WP d m_N_taxOfAll 2 [some (.ref 10), some (.int (0 : Int32)), some (.int (0 : Int32))] [] w Q) : WP d m_N_taxOfAll 1 [some (.ref 10), none, none] [] w Q :=
  zstep e_N_taxOfAll rfl (h)
theorem t_N_taxOfAll_2 {d : Nat} {w : zW} {Q : zQ} {i1 : Int32} {i2 : Int32} (ht : (gI w 10 10) ≤ i2 → WP d m_N_taxOfAll 5 [none, some (.int i1), none] [] w Q) (hf : ¬ (gI w 10 10) ≤ i2 → WP d m_N_taxOfAll 3 [some (.ref 10), some (.int i1), some (.int i2)] [] w Q) : WP d m_N_taxOfAll 2 [some (.ref 10), some (.int i1), some (.int i2)] [] w Q :=
  zstep e_N_taxOfAll rfl (And.intro rfl (And.intro (fun z => (zwk (ht z) (zle_n (zle_s (zle_n zle_0))))) (fun z => (hf z))))
theorem t_N_taxOfAll_3 {d : Nat} {w : zW} {Q : zQ} {i1 : Int32} {i2 : Int32} (c2 : vp_in i2 36) (h : WM d m_N_taxOf 7 [.ref 10, .long (gL w 31 (i2.toNatClampNeg))] w (fun r w' => WP (d + 1) m_N_taxOfAll 4 [some (.ref 10), none, some (.int i2)] (zpush r [.int i1]) w' Q)) : WP (d + 1) m_N_taxOfAll 3 [some (.ref 10), some (.int i1), some (.int i2)] [] w Q :=
  zstep e_N_taxOfAll rfl (And.intro rfl (And.intro rfl (And.intro c2 (zcallI i_N_taxOf (Nat.le_of_ble_eq_true rfl) (Nat.le_of_ble_eq_true rfl) (Nat.le_of_ble_eq_true rfl) rfl h (fun _ _ q => (zwk q (zle_s (zle_n (zle_s zle_0)))))))))
theorem t_N_taxOfAll_4 {d : Nat} {w : zW} {Q : zQ} {i2 : Int32} {s0 : Int32} {s1 : Int32} (h : WP d m_N_taxOfAll 2 [some (.ref 10), some (.int (s0 + s1)), some (.int (i2 + (1 : Int32)))] [] w Q) : WP d m_N_taxOfAll 4 [some (.ref 10), none, some (.int i2)] [.int s1, .int s0] w Q :=
  zstep e_N_taxOfAll rfl (h)
theorem t_N_taxOfAll_5 {d : Nat} {w : zW} {Q : zQ} {i1 : Int32} (h : Q (some (.int i1)) w) : WP d m_N_taxOfAll 5 [none, some (.int i1), none] [] w Q :=
  zstep e_N_taxOfAll rfl (h)
theorem t_N_note_0 {d : Nat} {w : zW} {Q : zQ} {i1 : Int32} (ht : ¬ (gI w 10 5) = (10 : Int32) → WP d m_N_note 5 [some (.ref 10), some (.int i1), none] [] w Q) (hf : (gI w 10 5) = (10 : Int32) → WP d m_N_note 1 [some (.ref 10), some (.int i1), none] [] w Q) : WP d m_N_note 0 [some (.ref 10), some (.int i1), none] [] w Q :=
  zstep e_N_note rfl (And.intro rfl (And.intro (fun z => (ht z)) (fun z => (hf z))))
theorem t_N_note_1 {d : Nat} {w : zW} {Q : zQ} {i1 : Int32} (h : WP d m_N_note 2 [some (.ref 10), some (.int i1), some (.int (0 : Int32))] [] w Q) : WP d m_N_note 1 [some (.ref 10), some (.int i1), none] [] w Q :=
  zstep e_N_note rfl (h)
theorem t_N_note_2 {d : Nat} {w : zW} {Q : zQ} {i1 : Int32} {i2 : Int32} (ht : (27 : Int32) ≤ i2 → WP d m_N_note 4 [some (.ref 10), some (.int i1), none] [] w Q) (hf : ¬ (27 : Int32) ≤ i2 → WP d m_N_note 3 [some (.ref 10), some (.int i1), some (.int i2)] [] w Q) : WP d m_N_note 2 [some (.ref 10), some (.int i1), some (.int i2)] [] w Q :=
  zstep e_N_note rfl (And.intro (fun z => (zwk (ht z) (zle_s (zle_s (zle_n zle_0))))) (fun z => (hf z)))
theorem t_N_note_3 {d : Nat} {w : zW} {Q : zQ} {i1 : Int32} {i2 : Int32} (c3 : vp_in (i2 + (3 : Int32)) 30) (c5 : vp_in i2 30) (h : WP d m_N_note 2 [some (.ref 10), some (.int i1), some (.int (i2 + (1 : Int32)))] [] (sI w 30 (i2.toNatClampNeg) (gI w 30 ((i2 + (3 : Int32)).toNatClampNeg))) Q) : WP d m_N_note 3 [some (.ref 10), some (.int i1), some (.int i2)] [] w Q :=
  zstep e_N_note rfl (And.intro rfl (And.intro rfl (And.intro rfl (And.intro c3 (And.intro rfl (And.intro c5 (h)))))))
theorem t_N_note_4 {d : Nat} {w : zW} {Q : zQ} {i1 : Int32} (h : WP d m_N_note 5 [some (.ref 10), some (.int i1), none] [] (sI w 10 5 ((gI w 10 5) - (1 : Int32))) Q) : WP d m_N_note 4 [some (.ref 10), some (.int i1), none] [] w Q :=
  zstep e_N_note rfl (And.intro rfl (And.intro rfl (h)))
theorem t_N_note_5 {d : Nat} {w : zW} {Q : zQ} {i1 : Int32} (c3 : vp_in ((3 : Int32) * (gI w 10 5)) 30) (c8 : vp_in i1 36) (c10 : vp_in (((3 : Int32) * (gI w 10 5)) + (1 : Int32)) 30) (h : WM d m_N_has 3 [.long (gL w 10 2), .int i1] (sI (sI w 30 (((3 : Int32) * (gI w 10 5)).toNatClampNeg) i1) 30 ((((3 : Int32) * (gI w 10 5)) + (1 : Int32)).toNatClampNeg) (gI w 28 (i1.toNatClampNeg))) (fun r w' => WP (d + 1) m_N_note 6 [some (.ref 10), none, none] (zpush r [.int (((3 : Int32) * (gI w 10 5)) + (2 : Int32)), .ref 30]) w' Q)) : WP (d + 1) m_N_note 5 [some (.ref 10), some (.int i1), none] [] w Q :=
  zstep e_N_note rfl (And.intro rfl (And.intro rfl (And.intro rfl (And.intro c3 (And.intro rfl (And.intro rfl (And.intro rfl (And.intro rfl (And.intro c8 (And.intro rfl (And.intro c10 (And.intro rfl (And.intro rfl (And.intro rfl (zcallI i_N_has (Nat.le_of_ble_eq_true rfl) (Nat.le_of_ble_eq_true rfl) (Nat.le_of_ble_eq_true rfl) trivial h (fun _ _ q => (zwk q (zle_s (zle_n (zle_s zle_0))))))))))))))))))))
theorem t_N_note_6 {d : Nat} {w : zW} {Q : zQ} {s1 : Int32} {s2 : Int32} (ht : s2 = 0 → WP d m_N_note 8 [some (.ref 10), none, none] [.int s1, .ref 30] w Q) (hf : ¬ s2 = 0 → WP d m_N_note 7 [some (.ref 10), none, none] [.int s1, .ref 30] w Q) : WP d m_N_note 6 [some (.ref 10), none, none] [.int s2, .int s1, .ref 30] w Q :=
  zstep e_N_note rfl (And.intro (fun z => (ht z)) (fun z => (hf z)))
theorem t_N_note_7 {d : Nat} {w : zW} {Q : zQ} {s1 : Int32} (h : WP d m_N_note 9 [some (.ref 10), none, none] [.int (1 : Int32), .int s1, .ref 30] w Q) : WP d m_N_note 7 [some (.ref 10), none, none] [.int s1, .ref 30] w Q :=
  zstep e_N_note rfl (h)
theorem t_N_note_8 {d : Nat} {w : zW} {Q : zQ} {s1 : Int32} (h : WP d m_N_note 9 [some (.ref 10), none, none] [.int (0 : Int32), .int s1, .ref 30] w Q) : WP d m_N_note 8 [some (.ref 10), none, none] [.int s1, .ref 30] w Q :=
  zstep e_N_note rfl (h)
theorem t_N_note_9 {d : Nat} {w : zW} {Q : zQ} {s1 : Int32} {s2 : Int32} (c1 : vp_in s1 30) (h : Q none (sI (sI w 30 (s1.toNatClampNeg) s2) 10 5 ((gI w 10 5) + (1 : Int32)))) : WP d m_N_note 9 [some (.ref 10), none, none] [.int s2, .int s1, .ref 30] w Q :=
  zstep e_N_note rfl (And.intro rfl (And.intro c1 (And.intro rfl (And.intro rfl (h)))))
theorem t_N_put_0 {d : Nat} {w : zW} {Q : zQ} {i1 : Int32} {i2 : Int32} {i3 : Int32} (c2 : vp_in i1 36) (ht : i3 = 0 → WP d m_N_put 2 [some (.ref 10), some (.int i1), none, none] [.ref 10] (sI w 28 (i1.toNatClampNeg) i2) Q) (hf : ¬ i3 = 0 → WP d m_N_put 1 [some (.ref 10), some (.int i1), none, none] [.ref 10] (sI w 28 (i1.toNatClampNeg) i2) Q) : WP d m_N_put 0 [some (.ref 10), some (.int i1), some (.int i2), some (.int i3)] [] w Q :=
  zstep e_N_put rfl (And.intro rfl (And.intro rfl (And.intro c2 (And.intro (fun z => (zwk (ht z) (zle_s (zle_s (zle_n (zle_n zle_0)))))) (fun z => (zwk (hf z) (zle_s (zle_s (zle_n (zle_n zle_0))))))))))
theorem t_N_put_1 {d : Nat} {w : zW} {Q : zQ} {i1 : Int32} (h : WP d m_N_put 3 [none, none, none, none] [.long ((gL w 10 2) ||| (zsl (1 : Int64) i1)), .ref 10] w Q) : WP d m_N_put 1 [some (.ref 10), some (.int i1), none, none] [.ref 10] w Q :=
  zstep e_N_put rfl (And.intro rfl ((zwk h (zle_n (zle_n (zle_s (zle_s zle_0)))))))
theorem t_N_put_2 {d : Nat} {w : zW} {Q : zQ} {i1 : Int32} (h : WP d m_N_put 3 [none, none, none, none] [.long ((gL w 10 2) &&& ((zsl (1 : Int64) i1) ^^^ (-1 : Int64))), .ref 10] w Q) : WP d m_N_put 2 [some (.ref 10), some (.int i1), none, none] [.ref 10] w Q :=
  zstep e_N_put rfl (And.intro rfl ((zwk h (zle_n (zle_n (zle_s (zle_s zle_0)))))))
theorem t_N_put_3 {d : Nat} {w : zW} {Q : zQ} {u1 : Int64} (h : Q none (sL w 10 2 u1)) : WP d m_N_put 3 [none, none, none, none] [.long u1, .ref 10] w Q :=
  zstep e_N_put rfl (And.intro rfl (h))
theorem t_N_dig_0 {d : Nat} {w : zW} {Q : zQ} {i1 : Int32} (h : WM d m_N_isCell 1 [.int i1] w (fun r w' => WP (d + 1) m_N_dig 1 [some (.ref 10), some (.int i1)] (zpush r []) w' Q)) : WP (d + 1) m_N_dig 0 [some (.ref 10), some (.int i1)] [] w Q :=
  zstep e_N_dig rfl (zcallI i_N_isCell (Nat.le_of_ble_eq_true rfl) (Nat.le_of_ble_eq_true rfl) (Nat.le_of_ble_eq_true rfl) trivial h (fun _ _ q => q))
theorem t_N_dig_1 {d : Nat} {w : zW} {Q : zQ} {i1 : Int32} {s0 : Int32} (ht : ¬ s0 = 0 → WP d m_N_dig 3 [some (.ref 10), some (.int i1)] [] w Q) (hf : s0 = 0 → WP d m_N_dig 2 [none, none] [] w Q) : WP d m_N_dig 1 [some (.ref 10), some (.int i1)] [.int s0] w Q :=
  zstep e_N_dig rfl (And.intro (fun z => (ht z)) (fun z => (zwk (hf z) (zle_n (zle_n zle_0)))))
theorem t_N_dig_2 {d : Nat} {w : zW} {Q : zQ}  (h : Q (some (.int (-1 : Int32))) w) : WP d m_N_dig 2 [none, none] [] w Q :=
  zstep e_N_dig rfl (h)
theorem t_N_dig_3 {d : Nat} {w : zW} {Q : zQ} {i1 : Int32} (c2 : vp_in i1 36) (ht : ¬ (gI w 28 (i1.toNatClampNeg)) = (9 : Int32) → WP d m_N_dig 5 [some (.ref 10), some (.int i1)] [] w Q) (hf : (gI w 28 (i1.toNatClampNeg)) = (9 : Int32) → WP d m_N_dig 4 [none, none] [] w Q) : WP d m_N_dig 3 [some (.ref 10), some (.int i1)] [] w Q :=
  zstep e_N_dig rfl (And.intro rfl (And.intro rfl (And.intro c2 (And.intro (fun z => (ht z)) (fun z => (zwk (hf z) (zle_n (zle_n zle_0))))))))
theorem t_N_dig_4 {d : Nat} {w : zW} {Q : zQ}  (h : Q (some (.int (-3 : Int32))) w) : WP d m_N_dig 4 [none, none] [] w Q :=
  zstep e_N_dig rfl (h)
theorem t_N_dig_5 {d : Nat} {w : zW} {Q : zQ} {i1 : Int32} (h : WM d m_N_note 3 [.ref 10, .int i1] w (fun r w' => WP (d + 1) m_N_dig 6 [some (.ref 10), some (.int i1)] (zpush r []) w' Q)) : WP (d + 1) m_N_dig 5 [some (.ref 10), some (.int i1)] [] w Q :=
  zstep e_N_dig rfl (zcallI i_N_note (Nat.le_of_ble_eq_true rfl) (Nat.le_of_ble_eq_true rfl) (Nat.le_of_ble_eq_true rfl) rfl h (fun _ _ q => q))
theorem t_N_dig_6 {d : Nat} {w : zW} {Q : zQ} {i1 : Int32} (c2 : vp_in i1 36) (c4 : vp_in i1 36) (c7 : vp_in i1 36) (h : Q (some (.int (gI (sI w 28 (i1.toNatClampNeg) ((gI w 28 (i1.toNatClampNeg)) + (1 : Int32))) 28 (i1.toNatClampNeg)))) (sI w 28 (i1.toNatClampNeg) ((gI w 28 (i1.toNatClampNeg)) + (1 : Int32)))) : WP d m_N_dig 6 [some (.ref 10), some (.int i1)] [] w Q :=
  zstep e_N_dig rfl (And.intro rfl (And.intro rfl (And.intro c2 (And.intro rfl (And.intro c4 (And.intro rfl (And.intro rfl (And.intro c7 (h)))))))))
theorem t_N_fill_0 {d : Nat} {w : zW} {Q : zQ} {i1 : Int32} (h : WM d m_N_isCell 1 [.int i1] w (fun r w' => WP (d + 1) m_N_fill 1 [some (.ref 10), some (.int i1), none] (zpush r []) w' Q)) : WP (d + 1) m_N_fill 0 [some (.ref 10), some (.int i1), none] [] w Q :=
  zstep e_N_fill rfl (zcallI i_N_isCell (Nat.le_of_ble_eq_true rfl) (Nat.le_of_ble_eq_true rfl) (Nat.le_of_ble_eq_true rfl) trivial h (fun _ _ q => q))
theorem t_N_fill_1 {d : Nat} {w : zW} {Q : zQ} {i1 : Int32} {s0 : Int32} (ht : ¬ s0 = 0 → WP d m_N_fill 3 [some (.ref 10), some (.int i1), none] [] w Q) (hf : s0 = 0 → WP d m_N_fill 2 [none, none, none] [] w Q) : WP d m_N_fill 1 [some (.ref 10), some (.int i1), none] [.int s0] w Q :=
  zstep e_N_fill rfl (And.intro (fun z => (ht z)) (fun z => (zwk (hf z) (zle_n (zle_n (zle_s zle_0))))))
theorem t_N_fill_2 {d : Nat} {w : zW} {Q : zQ}  (h : Q (some (.int (-1 : Int32))) w) : WP d m_N_fill 2 [none, none, none] [] w Q :=
  zstep e_N_fill rfl (h)
theorem t_N_fill_3 {d : Nat} {w : zW} {Q : zQ} {i1 : Int32} (c2 : vp_in i1 36) (ht : ¬ (gI w 28 (i1.toNatClampNeg)) = 0 → WP d m_N_fill 5 [some (.ref 10), some (.int i1), some (.int (gI w 28 (i1.toNatClampNeg)))] [] w Q) (hf : (gI w 28 (i1.toNatClampNeg)) = 0 → WP d m_N_fill 4 [none, none, none] [] w Q) : WP d m_N_fill 3 [some (.ref 10), some (.int i1), none] [] w Q :=
  zstep e_N_fill rfl (And.intro rfl (And.intro rfl (And.intro c2 (And.intro (fun z => (ht z)) (fun z => (zwk (hf z) (zle_n (zle_n (zle_n zle_0)))))))))
theorem t_N_fill_4 {d : Nat} {w : zW} {Q : zQ}  (h : Q (some (.int (-2 : Int32))) w) : WP d m_N_fill 4 [none, none, none] [] w Q :=
  zstep e_N_fill rfl (h)
theorem t_N_fill_5 {d : Nat} {w : zW} {Q : zQ} {i1 : Int32} {i2 : Int32} (h : WM d m_N_note 3 [.ref 10, .int i1] w (fun r w' => WP (d + 1) m_N_fill 6 [some (.ref 10), some (.int i1), some (.int i2)] (zpush r []) w' Q)) : WP (d + 1) m_N_fill 5 [some (.ref 10), some (.int i1), some (.int i2)] [] w Q :=
  zstep e_N_fill rfl (zcallI i_N_note (Nat.le_of_ble_eq_true rfl) (Nat.le_of_ble_eq_true rfl) (Nat.le_of_ble_eq_true rfl) rfl h (fun _ _ q => q))
theorem t_N_fill_6 {d : Nat} {w : zW} {Q : zQ} {i1 : Int32} {i2 : Int32} (h : WM d m_N_put 4 [.ref 10, .int i1, .int (0 : Int32), .int (0 : Int32)] w (fun r w' => WP (d + 1) m_N_fill 7 [none, none, some (.int i2)] (zpush r []) w' Q)) : WP (d + 1) m_N_fill 6 [some (.ref 10), some (.int i1), some (.int i2)] [] w Q :=
  zstep e_N_fill rfl (zcallI i_N_put (Nat.le_of_ble_eq_true rfl) (Nat.le_of_ble_eq_true rfl) (Nat.le_of_ble_eq_true rfl) rfl h (fun _ _ q => (zwk q (zle_n (zle_n (zle_s zle_0))))))
theorem t_N_fill_7 {d : Nat} {w : zW} {Q : zQ} {i2 : Int32} (h : Q (some (.int i2)) w) : WP d m_N_fill 7 [none, none, some (.int i2)] [] w Q :=
  zstep e_N_fill rfl (h)
theorem t_N_roof_0 {d : Nat} {w : zW} {Q : zQ} {i1 : Int32} (h : WM d m_N_isCell 1 [.int i1] w (fun r w' => WP (d + 1) m_N_roof 1 [some (.ref 10), some (.int i1)] (zpush r []) w' Q)) : WP (d + 1) m_N_roof 0 [some (.ref 10), some (.int i1)] [] w Q :=
  zstep e_N_roof rfl (zcallI i_N_isCell (Nat.le_of_ble_eq_true rfl) (Nat.le_of_ble_eq_true rfl) (Nat.le_of_ble_eq_true rfl) trivial h (fun _ _ q => q))
theorem t_N_roof_1 {d : Nat} {w : zW} {Q : zQ} {i1 : Int32} {s0 : Int32} (ht : ¬ s0 = 0 → WP d m_N_roof 3 [some (.ref 10), some (.int i1)] [] w Q) (hf : s0 = 0 → WP d m_N_roof 2 [none, none] [] w Q) : WP d m_N_roof 1 [some (.ref 10), some (.int i1)] [.int s0] w Q :=
  zstep e_N_roof rfl (And.intro (fun z => (ht z)) (fun z => (zwk (hf z) (zle_n (zle_n zle_0)))))
theorem t_N_roof_2 {d : Nat} {w : zW} {Q : zQ}  (h : Q (some (.int (-1 : Int32))) w) : WP d m_N_roof 2 [none, none] [] w Q :=
  zstep e_N_roof rfl (h)
theorem t_N_roof_3 {d : Nat} {w : zW} {Q : zQ} {i1 : Int32} (c2 : vp_in i1 36) (ht : ¬ (gI w 28 (i1.toNatClampNeg)) = 0 → WP d m_N_roof 5 [some (.ref 10), some (.int i1)] [] w Q) (hf : (gI w 28 (i1.toNatClampNeg)) = 0 → WP d m_N_roof 4 [none, none] [] w Q) : WP d m_N_roof 3 [some (.ref 10), some (.int i1)] [] w Q :=
  zstep e_N_roof rfl (And.intro rfl (And.intro rfl (And.intro c2 (And.intro (fun z => (ht z)) (fun z => (zwk (hf z) (zle_n (zle_n zle_0))))))))
theorem t_N_roof_4 {d : Nat} {w : zW} {Q : zQ}  (h : Q (some (.int (-2 : Int32))) w) : WP d m_N_roof 4 [none, none] [] w Q :=
  zstep e_N_roof rfl (h)
theorem t_N_roof_5 {d : Nat} {w : zW} {Q : zQ} {i1 : Int32} (h : WM d m_N_note 3 [.ref 10, .int i1] w (fun r w' => WP (d + 1) m_N_roof 6 [some (.ref 10), some (.int i1)] (zpush r []) w' Q)) : WP (d + 1) m_N_roof 5 [some (.ref 10), some (.int i1)] [] w Q :=
  zstep e_N_roof rfl (zcallI i_N_note (Nat.le_of_ble_eq_true rfl) (Nat.le_of_ble_eq_true rfl) (Nat.le_of_ble_eq_true rfl) rfl h (fun _ _ q => q))
theorem t_N_roof_6 {d : Nat} {w : zW} {Q : zQ} {i1 : Int32} (h : WM d m_N_has 3 [.long ((gL w 10 2) ^^^ (zsl (1 : Int64) i1)), .int i1] (sL w 10 2 ((gL w 10 2) ^^^ (zsl (1 : Int64) i1))) (fun r w' => WP (d + 1) m_N_roof 7 [none, none] (zpush r []) w' Q)) : WP (d + 1) m_N_roof 6 [some (.ref 10), some (.int i1)] [] w Q :=
  zstep e_N_roof rfl (And.intro rfl (And.intro rfl (And.intro rfl (zcallI i_N_has (Nat.le_of_ble_eq_true rfl) (Nat.le_of_ble_eq_true rfl) (Nat.le_of_ble_eq_true rfl) trivial h (fun _ _ q => (zwk q (zle_n (zle_n zle_0))))))))
theorem t_N_roof_7 {d : Nat} {w : zW} {Q : zQ} {s0 : Int32} (ht : s0 = 0 → WP d m_N_roof 9 [none, none] [] w Q) (hf : ¬ s0 = 0 → WP d m_N_roof 8 [none, none] [] w Q) : WP d m_N_roof 7 [none, none] [.int s0] w Q :=
  zstep e_N_roof rfl (And.intro (fun z => (ht z)) (fun z => (hf z)))
theorem t_N_roof_8 {d : Nat} {w : zW} {Q : zQ}  (h : WP d m_N_roof 10 [none, none] [.int (1 : Int32)] w Q) : WP d m_N_roof 8 [none, none] [] w Q :=
  zstep e_N_roof rfl (h)
theorem t_N_roof_9 {d : Nat} {w : zW} {Q : zQ}  (h : WP d m_N_roof 10 [none, none] [.int (0 : Int32)] w Q) : WP d m_N_roof 9 [none, none] [] w Q :=
  zstep e_N_roof rfl (h)
theorem t_N_roof_10 {d : Nat} {w : zW} {Q : zQ} {s0 : Int32} (h : Q (some (.int s0)) w) : WP d m_N_roof 10 [none, none] [.int s0] w Q :=
  zstep e_N_roof rfl (h)
theorem t_N_undo_0 {d : Nat} {w : zW} {Q : zQ}  (ht : ¬ (gI w 10 5) = 0 → WP d m_N_undo 2 [some (.ref 10)] [] w Q) (hf : (gI w 10 5) = 0 → WP d m_N_undo 1 [none] [] w Q) : WP d m_N_undo 0 [some (.ref 10)] [] w Q :=
  zstep e_N_undo rfl (And.intro rfl (And.intro (fun z => (ht z)) (fun z => (zwk (hf z) (zle_n zle_0)))))
theorem t_N_undo_1 {d : Nat} {w : zW} {Q : zQ}  (h : Q (some (.int (-4 : Int32))) w) : WP d m_N_undo 1 [none] [] w Q :=
  zstep e_N_undo rfl (h)
theorem t_N_undo_2 {d : Nat} {w : zW} {Q : zQ}  (c5 : vp_in ((3 : Int32) * ((gI w 10 5) - (1 : Int32))) 30) (c9 : vp_in (((3 : Int32) * ((gI w 10 5) - (1 : Int32))) + (1 : Int32)) 30) (c13 : vp_in (((3 : Int32) * ((gI w 10 5) - (1 : Int32))) + (2 : Int32)) 30) (ht : ¬ (gI w 30 ((((3 : Int32) * ((gI w 10 5) - (1 : Int32))) + (2 : Int32)).toNatClampNeg)) = (1 : Int32) → WP d m_N_undo 4 [some (.ref 10)] [.int (gI w 30 ((((3 : Int32) * ((gI w 10 5) - (1 : Int32))) + (1 : Int32)).toNatClampNeg)), .int (gI w 30 (((3 : Int32) * ((gI w 10 5) - (1 : Int32))).toNatClampNeg)), .ref 10] (sI w 10 5 ((gI w 10 5) - (1 : Int32))) Q) (hf : (gI w 30 ((((3 : Int32) * ((gI w 10 5) - (1 : Int32))) + (2 : Int32)).toNatClampNeg)) = (1 : Int32) → WP d m_N_undo 3 [some (.ref 10)] [.int (gI w 30 ((((3 : Int32) * ((gI w 10 5) - (1 : Int32))) + (1 : Int32)).toNatClampNeg)), .int (gI w 30 (((3 : Int32) * ((gI w 10 5) - (1 : Int32))).toNatClampNeg)), .ref 10] (sI w 10 5 ((gI w 10 5) - (1 : Int32))) Q) : WP d m_N_undo 2 [some (.ref 10)] [] w Q :=
  zstep e_N_undo rfl (And.intro rfl (And.intro rfl (And.intro rfl (And.intro rfl (And.intro rfl (And.intro c5 (And.intro rfl (And.intro rfl (And.intro rfl (And.intro c9 (And.intro rfl (And.intro rfl (And.intro rfl (And.intro c13 (And.intro (fun z => (ht z)) (fun z => (hf z)))))))))))))))))
theorem t_N_undo_3 {d : Nat} {w : zW} {Q : zQ} {s1 : Int32} {s2 : Int32} (h : WP d m_N_undo 5 [some (.ref 10)] [.int (1 : Int32), .int s2, .int s1, .ref 10] w Q) : WP d m_N_undo 3 [some (.ref 10)] [.int s2, .int s1, .ref 10] w Q :=
  zstep e_N_undo rfl (h)
theorem t_N_undo_4 {d : Nat} {w : zW} {Q : zQ} {s1 : Int32} {s2 : Int32} (h : WP d m_N_undo 5 [some (.ref 10)] [.int (0 : Int32), .int s2, .int s1, .ref 10] w Q) : WP d m_N_undo 4 [some (.ref 10)] [.int s2, .int s1, .ref 10] w Q :=
  zstep e_N_undo rfl (h)
theorem t_N_undo_5 {d : Nat} {w : zW} {Q : zQ} {s1 : Int32} {s2 : Int32} {s3 : Int32} (h : WM d m_N_put 4 [.ref 10, .int s1, .int s2, .int s3] w (fun r w' => WP (d + 1) m_N_undo 6 [some (.ref 10)] (zpush r []) w' Q)) : WP (d + 1) m_N_undo 5 [some (.ref 10)] [.int s3, .int s2, .int s1, .ref 10] w Q :=
  zstep e_N_undo rfl (zcallI i_N_put (Nat.le_of_ble_eq_true rfl) (Nat.le_of_ble_eq_true rfl) (Nat.le_of_ble_eq_true rfl) rfl h (fun _ _ q => q))
theorem t_N_undo_6 {d : Nat} {w : zW} {Q : zQ}  (h : Q (some (.int (gI w 10 5))) w) : WP d m_N_undo 6 [some (.ref 10)] [] w Q :=
  zstep e_N_undo rfl (And.intro rfl (h))
theorem t_N_own_0 {d : Nat} {w : zW} {Q : zQ} {i1 : Int32} {i2 : Int32} (h : WM d m_N_isCell 1 [.int i1] w (fun r w' => WP (d + 1) m_N_own 1 [some (.ref 10), some (.int i1), some (.int i2), none] (zpush r []) w' Q)) : WP (d + 1) m_N_own 0 [some (.ref 10), some (.int i1), some (.int i2), none] [] w Q :=
  zstep e_N_own rfl (zcallI i_N_isCell (Nat.le_of_ble_eq_true rfl) (Nat.le_of_ble_eq_true rfl) (Nat.le_of_ble_eq_true rfl) trivial h (fun _ _ q => q))
theorem t_N_own_1 {d : Nat} {w : zW} {Q : zQ} {i1 : Int32} {i2 : Int32} {s0 : Int32} (ht : s0 = 0 → WP d m_N_own 4 [none, none, none, none] [] w Q) (hf : ¬ s0 = 0 → WP d m_N_own 2 [some (.ref 10), some (.int i1), some (.int i2), none] [] w Q) : WP d m_N_own 1 [some (.ref 10), some (.int i1), some (.int i2), none] [.int s0] w Q :=
  zstep e_N_own rfl (And.intro (fun z => (zwk (ht z) (zle_n (zle_n (zle_n (zle_s zle_0)))))) (fun z => (hf z)))
theorem t_N_own_2 {d : Nat} {w : zW} {Q : zQ} {i1 : Int32} {i2 : Int32} (h : WM d m_N_in 6 [.long (i2.toInt64), .long (0 : Int64), .long (4 : Int64)] w (fun r w' => WP (d + 1) m_N_own 3 [some (.ref 10), some (.int i1), some (.int i2), none] (zpush r []) w' Q)) : WP (d + 1) m_N_own 2 [some (.ref 10), some (.int i1), some (.int i2), none] [] w Q :=
  zstep e_N_own rfl (zcallI i_N_in (Nat.le_of_ble_eq_true rfl) (Nat.le_of_ble_eq_true rfl) (Nat.le_of_ble_eq_true rfl) trivial h (fun _ _ q => q))
theorem t_N_own_3 {d : Nat} {w : zW} {Q : zQ} {i1 : Int32} {i2 : Int32} {s0 : Int32} (ht : ¬ s0 = 0 → WP d m_N_own 5 [some (.ref 10), some (.int i1), some (.int i2), none] [] w Q) (hf : s0 = 0 → WP d m_N_own 4 [none, none, none, none] [] w Q) : WP d m_N_own 3 [some (.ref 10), some (.int i1), some (.int i2), none] [.int s0] w Q :=
  zstep e_N_own rfl (And.intro (fun z => (ht z)) (fun z => (zwk (hf z) (zle_n (zle_n (zle_n (zle_s zle_0)))))))
theorem t_N_own_4 {d : Nat} {w : zW} {Q : zQ}  (h : Q (some (.int (-1 : Int32))) w) : WP d m_N_own 4 [none, none, none, none] [] w Q :=
  zstep e_N_own rfl (h)
theorem t_N_own_5 {d : Nat} {w : zW} {Q : zQ} {i1 : Int32} {i2 : Int32} (c2 : vp_in i1 36) (c5 : vp_in i1 36) (h : Q (some (.int (gI w 29 (i1.toNatClampNeg)))) (sI w 29 (i1.toNatClampNeg) i2)) : WP d m_N_own 5 [some (.ref 10), some (.int i1), some (.int i2), none] [] w Q :=
  zstep e_N_own rfl (And.intro rfl (And.intro rfl (And.intro c2 (And.intro rfl (And.intro rfl (And.intro c5 (h)))))))
theorem t_N_rate_0 {d : Nat} {w : zW} {Q : zQ} {i1 : Int32} (h : WM d m_N_in 6 [.long (i1.toInt64), .long (0 : Int64), .long (99 : Int64)] w (fun r w' => WP (d + 1) m_N_rate 1 [some (.ref 10), some (.int i1), none] (zpush r []) w' Q)) : WP (d + 1) m_N_rate 0 [some (.ref 10), some (.int i1), none] [] w Q :=
  zstep e_N_rate rfl (zcallI i_N_in (Nat.le_of_ble_eq_true rfl) (Nat.le_of_ble_eq_true rfl) (Nat.le_of_ble_eq_true rfl) trivial h (fun _ _ q => q))
theorem t_N_rate_1 {d : Nat} {w : zW} {Q : zQ} {i1 : Int32} {s0 : Int32} (ht : ¬ s0 = 0 → WP d m_N_rate 3 [some (.ref 10), some (.int i1), none] [] w Q) (hf : s0 = 0 → WP d m_N_rate 2 [none, none, none] [] w Q) : WP d m_N_rate 1 [some (.ref 10), some (.int i1), none] [.int s0] w Q :=
  zstep e_N_rate rfl (And.intro (fun z => (ht z)) (fun z => (zwk (hf z) (zle_n (zle_n (zle_s zle_0))))))
theorem t_N_rate_2 {d : Nat} {w : zW} {Q : zQ}  (h : Q (some (.int (-1 : Int32))) w) : WP d m_N_rate 2 [none, none, none] [] w Q :=
  zstep e_N_rate rfl (h)
theorem t_N_rate_3 {d : Nat} {w : zW} {Q : zQ} {i1 : Int32} (h : Q (some (.int (gI w 10 3))) (sI w 10 3 i1)) : WP d m_N_rate 3 [some (.ref 10), some (.int i1), none] [] w Q :=
  zstep e_N_rate rfl (And.intro rfl (And.intro rfl (h)))
theorem t_N_told_0 {d : Nat} {w : zW} {Q : zQ} {i1 : Int32} {i2 : Int32} (h : WM d m_N_isCell 1 [.int i1] w (fun r w' => WP (d + 1) m_N_told 1 [some (.ref 10), some (.int i1), some (.int i2)] (zpush r []) w' Q)) : WP (d + 1) m_N_told 0 [some (.ref 10), some (.int i1), some (.int i2)] [] w Q :=
  zstep e_N_told rfl (zcallI i_N_isCell (Nat.le_of_ble_eq_true rfl) (Nat.le_of_ble_eq_true rfl) (Nat.le_of_ble_eq_true rfl) trivial h (fun _ _ q => q))
theorem t_N_told_1 {d : Nat} {w : zW} {Q : zQ} {i1 : Int32} {i2 : Int32} {s0 : Int32} (ht : ¬ s0 = 0 → WP d m_N_told 3 [some (.ref 10), some (.int i1), some (.int i2)] [] w Q) (hf : s0 = 0 → WP d m_N_told 2 [none, none, none] [] w Q) : WP d m_N_told 1 [some (.ref 10), some (.int i1), some (.int i2)] [.int s0] w Q :=
  zstep e_N_told rfl (And.intro (fun z => (ht z)) (fun z => (zwk (hf z) (zle_n (zle_n (zle_n zle_0))))))
theorem t_N_told_2 {d : Nat} {w : zW} {Q : zQ}  (h : Q (some (.int (-1 : Int32))) w) : WP d m_N_told 2 [none, none, none] [] w Q :=
  zstep e_N_told rfl (h)
theorem t_N_told_3 {d : Nat} {w : zW} {Q : zQ} {i1 : Int32} {i2 : Int32} (h : WM d m_N_look 2 [.ref 10] w (fun r w' => WP (d + 1) m_N_told 4 [some (.ref 10), some (.int i1), some (.int i2)] (zpush r []) w' Q)) : WP (d + 1) m_N_told 3 [some (.ref 10), some (.int i1), some (.int i2)] [] w Q :=
  zstep e_N_told rfl (zcallI i_N_look (Nat.le_of_ble_eq_true rfl) (Nat.le_of_ble_eq_true rfl) (Nat.le_of_ble_eq_true rfl) rfl h (fun _ _ q => q))
theorem t_N_told_4 {d : Nat} {w : zW} {Q : zQ} {i1 : Int32} {i2 : Int32} (h0 : i2 = (0 : Int32) → WP d m_N_told 5 [some (.ref 10), some (.int i1), none] [] w Q) (h1 : i2 = (1 : Int32) → WP d m_N_told 6 [some (.ref 10), some (.int i1), none] [] w Q) (h2 : i2 = (2 : Int32) → WP d m_N_told 11 [some (.ref 10), some (.int i1), none] [] w Q) (h3 : i2 = (3 : Int32) → WP d m_N_told 12 [some (.ref 10), some (.int i1), none] [] w Q) (hd : ¬ i2 = (0 : Int32) → ¬ i2 = (1 : Int32) → ¬ i2 = (2 : Int32) → ¬ i2 = (3 : Int32) → WP d m_N_told 19 [none, none, none] [] w Q) : WP d m_N_told 4 [some (.ref 10), some (.int i1), some (.int i2)] [] w Q :=
  zstep e_N_told rfl (And.intro (fun z => (zwk (h0 z) (zle_s (zle_s (zle_n zle_0))))) (fun z0 => And.intro (fun z => (zwk (h1 z) (zle_s (zle_s (zle_n zle_0))))) (fun z1 => And.intro (fun z => (zwk (h2 z) (zle_s (zle_s (zle_n zle_0))))) (fun z2 => And.intro (fun z => (zwk (h3 z) (zle_s (zle_s (zle_n zle_0))))) (fun z3 => (zwk (hd z0 z1 z2 z3) (zle_n (zle_n (zle_n zle_0)))))))))
theorem t_N_told_5 {d : Nat} {w : zW} {Q : zQ} {i1 : Int32} (c2 : vp_in i1 36) (h : Q (some (.int (gI w 28 (i1.toNatClampNeg)))) w) : WP d m_N_told 5 [some (.ref 10), some (.int i1), none] [] w Q :=
  zstep e_N_told rfl (And.intro rfl (And.intro rfl (And.intro c2 (h))))
theorem t_N_told_6 {d : Nat} {w : zW} {Q : zQ} {i1 : Int32} (h : WM d m_N_has 3 [.long (gL w 10 2), .int i1] w (fun r w' => WP (d + 1) m_N_told 7 [none, none, none] (zpush r []) w' Q)) : WP (d + 1) m_N_told 6 [some (.ref 10), some (.int i1), none] [] w Q :=
  zstep e_N_told rfl (And.intro rfl (zcallI i_N_has (Nat.le_of_ble_eq_true rfl) (Nat.le_of_ble_eq_true rfl) (Nat.le_of_ble_eq_true rfl) trivial h (fun _ _ q => (zwk q (zle_n (zle_n (zle_s zle_0)))))))
theorem t_N_told_7 {d : Nat} {w : zW} {Q : zQ} {s0 : Int32} (ht : s0 = 0 → WP d m_N_told 9 [none, none, none] [] w Q) (hf : ¬ s0 = 0 → WP d m_N_told 8 [none, none, none] [] w Q) : WP d m_N_told 7 [none, none, none] [.int s0] w Q :=
  zstep e_N_told rfl (And.intro (fun z => (ht z)) (fun z => (hf z)))
theorem t_N_told_8 {d : Nat} {w : zW} {Q : zQ}  (h : WP d m_N_told 10 [none, none, none] [.int (1 : Int32)] w Q) : WP d m_N_told 8 [none, none, none] [] w Q :=
  zstep e_N_told rfl (h)
theorem t_N_told_9 {d : Nat} {w : zW} {Q : zQ}  (h : WP d m_N_told 10 [none, none, none] [.int (0 : Int32)] w Q) : WP d m_N_told 9 [none, none, none] [] w Q :=
  zstep e_N_told rfl (h)
theorem t_N_told_10 {d : Nat} {w : zW} {Q : zQ} {s0 : Int32} (h : Q (some (.int s0)) w) : WP d m_N_told 10 [none, none, none] [.int s0] w Q :=
  zstep e_N_told rfl (h)
theorem t_N_told_11 {d : Nat} {w : zW} {Q : zQ} {i1 : Int32} (c2 : vp_in i1 36) (h : Q (some (.int (gI w 29 (i1.toNatClampNeg)))) w) : WP d m_N_told 11 [some (.ref 10), some (.int i1), none] [] w Q :=
  zstep e_N_told rfl (And.intro rfl (And.intro rfl (And.intro c2 (h))))
theorem t_N_told_12 {d : Nat} {w : zW} {Q : zQ} {i1 : Int32} (h : WM d m_N_has 3 [.long (gL w 10 7), .int i1] w (fun r w' => WP (d + 1) m_N_told 13 [some (.ref 10), some (.int i1), none] (zpush r []) w' Q)) : WP (d + 1) m_N_told 12 [some (.ref 10), some (.int i1), none] [] w Q :=
  zstep e_N_told rfl (And.intro rfl (zcallI i_N_has (Nat.le_of_ble_eq_true rfl) (Nat.le_of_ble_eq_true rfl) (Nat.le_of_ble_eq_true rfl) trivial h (fun _ _ q => q)))
theorem t_N_told_13 {d : Nat} {w : zW} {Q : zQ} {i1 : Int32} {s0 : Int32} (ht : s0 = 0 → WP d m_N_told 17 [none, none, none] [] w Q) (hf : ¬ s0 = 0 → WP d m_N_told 14 [some (.ref 10), some (.int i1), none] [] w Q) : WP d m_N_told 13 [some (.ref 10), some (.int i1), none] [.int s0] w Q :=
  zstep e_N_told rfl (And.intro (fun z => (zwk (ht z) (zle_n (zle_n (zle_s zle_0))))) (fun z => (hf z)))
theorem t_N_told_14 {d : Nat} {w : zW} {Q : zQ} {i1 : Int32} (h : WM d m_N_holeAt 2 [.ref 10, .int i1] w (fun r w' => WP (d + 1) m_N_told 15 [none, none, none] (zpush r []) w' Q)) : WP (d + 1) m_N_told 14 [some (.ref 10), some (.int i1), none] [] w Q :=
  zstep e_N_told rfl (zcallI i_N_holeAt (Nat.le_of_ble_eq_true rfl) (Nat.le_of_ble_eq_true rfl) (Nat.le_of_ble_eq_true rfl) rfl h (fun _ _ q => (zwk q (zle_n (zle_n (zle_s zle_0))))))
theorem t_N_told_15 {d : Nat} {w : zW} {Q : zQ} {u0 : Int64} (h : WM d m_N_least 3 [.long u0] w (fun r w' => WP (d + 1) m_N_told 16 [none, none, none] (zpush r []) w' Q)) : WP (d + 1) m_N_told 15 [none, none, none] [.long u0] w Q :=
  zstep e_N_told rfl (zcallI i_N_least (Nat.le_of_ble_eq_true rfl) (Nat.le_of_ble_eq_true rfl) (Nat.le_of_ble_eq_true rfl) trivial h (fun _ _ q => q))
theorem t_N_told_16 {d : Nat} {w : zW} {Q : zQ} {s0 : Int32} (h : WP d m_N_told 18 [none, none, none] [.int s0] w Q) : WP d m_N_told 16 [none, none, none] [.int s0] w Q :=
  zstep e_N_told rfl (h)
theorem t_N_told_17 {d : Nat} {w : zW} {Q : zQ}  (h : WP d m_N_told 18 [none, none, none] [.int (-4 : Int32)] w Q) : WP d m_N_told 17 [none, none, none] [] w Q :=
  zstep e_N_told rfl (h)
theorem t_N_told_18 {d : Nat} {w : zW} {Q : zQ} {s0 : Int32} (h : Q (some (.int s0)) w) : WP d m_N_told 18 [none, none, none] [.int s0] w Q :=
  zstep e_N_told rfl (h)
theorem t_N_told_19 {d : Nat} {w : zW} {Q : zQ}  (h : Q (some (.int (-1 : Int32))) w) : WP d m_N_told 19 [none, none, none] [] w Q :=
  zstep e_N_told rfl (h)
theorem t_N_type_0 {d : Nat} {w : zW} {Q : zQ} {i1 : Int32} (h : WM d m_N_in 6 [.long (i1.toInt64), .long (32 : Int64), .long (126 : Int64)] w (fun r w' => WP (d + 1) m_N_type 1 [some (.ref 10), some (.int i1)] (zpush r []) w' Q)) : WP (d + 1) m_N_type 0 [some (.ref 10), some (.int i1)] [] w Q :=
  zstep e_N_type rfl (zcallI i_N_in (Nat.le_of_ble_eq_true rfl) (Nat.le_of_ble_eq_true rfl) (Nat.le_of_ble_eq_true rfl) trivial h (fun _ _ q => q))
theorem t_N_type_1 {d : Nat} {w : zW} {Q : zQ} {i1 : Int32} {s0 : Int32} (ht : ¬ s0 = 0 → WP d m_N_type 3 [some (.ref 10), some (.int i1)] [] w Q) (hf : s0 = 0 → WP d m_N_type 2 [none, none] [] w Q) : WP d m_N_type 1 [some (.ref 10), some (.int i1)] [.int s0] w Q :=
  zstep e_N_type rfl (And.intro (fun z => (ht z)) (fun z => (zwk (hf z) (zle_n (zle_n zle_0)))))
theorem t_N_type_2 {d : Nat} {w : zW} {Q : zQ}  (h : Q (some (.int (-1 : Int32))) w) : WP d m_N_type 2 [none, none] [] w Q :=
  zstep e_N_type rfl (h)
theorem t_N_type_3 {d : Nat} {w : zW} {Q : zQ} {i1 : Int32} (ht : ¬ (gI w 10 12) = (160 : Int32) → WP d m_N_type 5 [some (.ref 10), some (.int i1)] [] w Q) (hf : (gI w 10 12) = (160 : Int32) → WP d m_N_type 4 [none, none] [] w Q) : WP d m_N_type 3 [some (.ref 10), some (.int i1)] [] w Q :=
  zstep e_N_type rfl (And.intro rfl (And.intro (fun z => (ht z)) (fun z => (zwk (hf z) (zle_n (zle_n zle_0))))))
theorem t_N_type_4 {d : Nat} {w : zW} {Q : zQ}  (h : Q (some (.int (-3 : Int32))) w) : WP d m_N_type 4 [none, none] [] w Q :=
  zstep e_N_type rfl (h)
theorem t_N_type_5 {d : Nat} {w : zW} {Q : zQ} {i1 : Int32} (c3 : vp_in (gI w 10 12) 160) (h : Q (some (.int ((gI w 10 12) + (1 : Int32)))) (sI (sI w 32 ((gI w 10 12).toNatClampNeg) i1) 10 12 ((gI w 10 12) + (1 : Int32)))) : WP d m_N_type 5 [some (.ref 10), some (.int i1)] [] w Q :=
  zstep e_N_type rfl (And.intro rfl (And.intro rfl (And.intro rfl (And.intro c3 (And.intro rfl (And.intro rfl (And.intro rfl (h))))))))
theorem t_N_nextLetter_0 {d : Nat} {w : zW} {Q : zQ}  (ht : (gI w 10 12) ≤ (gI w 10 13) → WP d m_N_nextLetter 3 [some (.ref 10)] [] w Q) (hf : ¬ (gI w 10 12) ≤ (gI w 10 13) → WP d m_N_nextLetter 1 [some (.ref 10)] [] w Q) : WP d m_N_nextLetter 0 [some (.ref 10)] [] w Q :=
  zstep e_N_nextLetter rfl (And.intro rfl (And.intro rfl (And.intro (fun z => (ht z)) (fun z => (hf z)))))
theorem t_N_nextLetter_1 {d : Nat} {w : zW} {Q : zQ}  (c3 : vp_in (gI w 10 13) 160) (ht : ¬ (gI w 32 ((gI w 10 13).toNatClampNeg)) = (32 : Int32) → WP d m_N_nextLetter 3 [some (.ref 10)] [] w Q) (hf : (gI w 32 ((gI w 10 13).toNatClampNeg)) = (32 : Int32) → WP d m_N_nextLetter 2 [some (.ref 10)] [] w Q) : WP d m_N_nextLetter 1 [some (.ref 10)] [] w Q :=
  zstep e_N_nextLetter rfl (And.intro rfl (And.intro rfl (And.intro rfl (And.intro c3 (And.intro (fun z => (ht z)) (fun z => (hf z)))))))
theorem t_N_nextLetter_2 {d : Nat} {w : zW} {Q : zQ}  (h : WP d m_N_nextLetter 0 [some (.ref 10)] [] (sI w 10 13 ((gI w 10 13) + (1 : Int32))) Q) : WP d m_N_nextLetter 2 [some (.ref 10)] [] w Q :=
  zstep e_N_nextLetter rfl (And.intro rfl (And.intro rfl (h)))
theorem t_N_nextLetter_3 {d : Nat} {w : zW} {Q : zQ}  (ht : (gI w 10 12) ≤ (gI w 10 13) → WP d m_N_nextLetter 5 [none] [] w Q) (hf : ¬ (gI w 10 12) ≤ (gI w 10 13) → WP d m_N_nextLetter 4 [some (.ref 10)] [] w Q) : WP d m_N_nextLetter 3 [some (.ref 10)] [] w Q :=
  zstep e_N_nextLetter rfl (And.intro rfl (And.intro rfl (And.intro (fun z => (zwk (ht z) (zle_n zle_0))) (fun z => (hf z)))))
theorem t_N_nextLetter_4 {d : Nat} {w : zW} {Q : zQ}  (c3 : vp_in (gI w 10 13) 160) (h : WP d m_N_nextLetter 6 [none] [.int (gI w 32 ((gI w 10 13).toNatClampNeg))] w Q) : WP d m_N_nextLetter 4 [some (.ref 10)] [] w Q :=
  zstep e_N_nextLetter rfl (And.intro rfl (And.intro rfl (And.intro rfl (And.intro c3 ((zwk h (zle_n zle_0)))))))
theorem t_N_nextLetter_5 {d : Nat} {w : zW} {Q : zQ}  (h : WP d m_N_nextLetter 6 [none] [.int (-1 : Int32)] w Q) : WP d m_N_nextLetter 5 [none] [] w Q :=
  zstep e_N_nextLetter rfl (h)
theorem t_N_nextLetter_6 {d : Nat} {w : zW} {Q : zQ} {s0 : Int32} (h : Q (some (.int s0)) w) : WP d m_N_nextLetter 6 [none] [.int s0] w Q :=
  zstep e_N_nextLetter rfl (h)
theorem t_N_takes_0 {d : Nat} {w : zW} {Q : zQ} {i1 : Int32} (h : WM d m_N_nextLetter 1 [.ref 10] w (fun r w' => WP (d + 1) m_N_takes 1 [some (.ref 10), some (.int i1), none] (zpush r []) w' Q)) : WP (d + 1) m_N_takes 0 [some (.ref 10), some (.int i1), none] [] w Q :=
  zstep e_N_takes rfl (zcallI i_N_nextLetter (Nat.le_of_ble_eq_true rfl) (Nat.le_of_ble_eq_true rfl) (Nat.le_of_ble_eq_true rfl) rfl h (fun _ _ q => q))
theorem t_N_takes_1 {d : Nat} {w : zW} {Q : zQ} {i1 : Int32} {s0 : Int32} (ht : ¬ s0 = i1 → WP d m_N_takes 3 [some (.ref 10), none, none] [] w Q) (hf : s0 = i1 → WP d m_N_takes 2 [some (.ref 10), none, none] [] w Q) : WP d m_N_takes 1 [some (.ref 10), some (.int i1), none] [.int s0] w Q :=
  zstep e_N_takes rfl (And.intro (fun z => (zwk (ht z) (zle_s (zle_n (zle_s zle_0))))) (fun z => (zwk (hf z) (zle_s (zle_n (zle_s zle_0))))))
theorem t_N_takes_2 {d : Nat} {w : zW} {Q : zQ}  (h : WP d m_N_takes 4 [some (.ref 10), none, none] [.int (1 : Int32)] w Q) : WP d m_N_takes 2 [some (.ref 10), none, none] [] w Q :=
  zstep e_N_takes rfl (h)
theorem t_N_takes_3 {d : Nat} {w : zW} {Q : zQ}  (h : WP d m_N_takes 4 [some (.ref 10), none, none] [.int (0 : Int32)] w Q) : WP d m_N_takes 3 [some (.ref 10), none, none] [] w Q :=
  zstep e_N_takes rfl (h)
theorem t_N_takes_4 {d : Nat} {w : zW} {Q : zQ} {s0 : Int32} (ht : s0 = 0 → WP d m_N_takes 6 [none, none, some (.int s0)] [.int (gI w 10 13), .ref 10] w Q) (hf : ¬ s0 = 0 → WP d m_N_takes 5 [none, none, some (.int s0)] [.int (gI w 10 13), .ref 10] w Q) : WP d m_N_takes 4 [some (.ref 10), none, none] [.int s0] w Q :=
  zstep e_N_takes rfl (And.intro rfl (And.intro (fun z => (zwk (ht z) (zle_n (zle_s (zle_s zle_0))))) (fun z => (zwk (hf z) (zle_n (zle_s (zle_s zle_0)))))))
theorem t_N_takes_5 {d : Nat} {w : zW} {Q : zQ} {i2 : Int32} {s1 : Int32} (h : WP d m_N_takes 7 [none, none, some (.int i2)] [.int (1 : Int32), .int s1, .ref 10] w Q) : WP d m_N_takes 5 [none, none, some (.int i2)] [.int s1, .ref 10] w Q :=
  zstep e_N_takes rfl (h)
theorem t_N_takes_6 {d : Nat} {w : zW} {Q : zQ} {i2 : Int32} {s1 : Int32} (h : WP d m_N_takes 7 [none, none, some (.int i2)] [.int (0 : Int32), .int s1, .ref 10] w Q) : WP d m_N_takes 6 [none, none, some (.int i2)] [.int s1, .ref 10] w Q :=
  zstep e_N_takes rfl (h)
theorem t_N_takes_7 {d : Nat} {w : zW} {Q : zQ} {i2 : Int32} {s1 : Int32} {s2 : Int32} (cz : i2 = 0 ∨ i2 = 1) (h : Q (some (.int i2)) (sI w 10 13 (s1 + s2))) : WP d m_N_takes 7 [none, none, some (.int i2)] [.int s2, .int s1, .ref 10] w Q :=
  zstep e_N_takes rfl (And.intro rfl (And.intro cz h))
theorem t_N_end_0 {d : Nat} {w : zW} {Q : zQ} {i1 : Int32} (ht : ¬ i1 = 0 → WP d m_N_end 3 [some (.ref 10), some (.int i1)] [] w Q) (hf : i1 = 0 → WP d m_N_end 1 [some (.ref 10), some (.int i1)] [] w Q) : WP d m_N_end 0 [some (.ref 10), some (.int i1)] [] w Q :=
  zstep e_N_end rfl (And.intro (fun z => (ht z)) (fun z => (hf z)))
theorem t_N_end_1 {d : Nat} {w : zW} {Q : zQ} {i1 : Int32} (h : WM d m_N_nextLetter 1 [.ref 10] w (fun r w' => WP (d + 1) m_N_end 2 [some (.ref 10), some (.int i1)] (zpush r []) w' Q)) : WP (d + 1) m_N_end 1 [some (.ref 10), some (.int i1)] [] w Q :=
  zstep e_N_end rfl (zcallI i_N_nextLetter (Nat.le_of_ble_eq_true rfl) (Nat.le_of_ble_eq_true rfl) (Nat.le_of_ble_eq_true rfl) rfl h (fun _ _ q => q))
theorem t_N_end_2 {d : Nat} {w : zW} {Q : zQ} {i1 : Int32} {s0 : Int32} (h : WP d m_N_end 3 [some (.ref 10), some (.int i1)] [] w Q) : WP d m_N_end 2 [some (.ref 10), some (.int i1)] [.int s0] w Q :=
  zstep e_N_end rfl (h)
theorem t_N_end_3 {d : Nat} {w : zW} {Q : zQ} {i1 : Int32} (ht : i1 = 0 → WP d m_N_end 5 [some (.ref 10), none] [] (sI w 10 12 (0 : Int32)) Q) (hf : ¬ i1 = 0 → WP d m_N_end 4 [none, none] [] (sI w 10 12 (0 : Int32)) Q) : WP d m_N_end 3 [some (.ref 10), some (.int i1)] [] w Q :=
  zstep e_N_end rfl (And.intro rfl (And.intro (fun z => (zwk (ht z) (zle_s (zle_n zle_0)))) (fun z => (zwk (hf z) (zle_n (zle_n zle_0))))))
theorem t_N_end_4 {d : Nat} {w : zW} {Q : zQ}  (h : WP d m_N_end 6 [none, none] [.int (0 : Int32)] w Q) : WP d m_N_end 4 [none, none] [] w Q :=
  zstep e_N_end rfl (h)
theorem t_N_end_5 {d : Nat} {w : zW} {Q : zQ}  (h : WP d m_N_end 6 [none, none] [.int ((-20 : Int32) - (gI w 10 13))] w Q) : WP d m_N_end 5 [some (.ref 10), none] [] w Q :=
  zstep e_N_end rfl (And.intro rfl ((zwk h (zle_n (zle_s zle_0)))))
theorem t_N_end_6 {d : Nat} {w : zW} {Q : zQ} {s0 : Int32} (h : Q (some (.int s0)) w) : WP d m_N_end 6 [none, none] [.int s0] w Q :=
  zstep e_N_end rfl (h)
theorem t_N_readGround_0 {d : Nat} {w : zW} {Q : zQ}  (h : WP d m_N_readGround 1 [some (.ref 10), some (.int (0 : Int32)), none] [] (sI w 10 13 (0 : Int32)) Q) : WP d m_N_readGround 0 [some (.ref 10), none, none] [] w Q :=
  zstep e_N_readGround rfl (And.intro rfl (h))
theorem t_N_readGround_1 {d : Nat} {w : zW} {Q : zQ} {i1 : Int32} (ht : (36 : Int32) ≤ i1 → WP d m_N_readGround 17 [some (.ref 10), none, none] [] w Q) (hf : ¬ (36 : Int32) ≤ i1 → WP d m_N_readGround 2 [some (.ref 10), some (.int i1), none] [] w Q) : WP d m_N_readGround 1 [some (.ref 10), some (.int i1), none] [] w Q :=
  zstep e_N_readGround rfl (And.intro (fun z => (zwk (ht z) (zle_s (zle_n (zle_s zle_0))))) (fun z => (hf z)))
theorem t_N_readGround_2 {d : Nat} {w : zW} {Q : zQ} {i1 : Int32} (ht : i1 ≤ 0 → WP d m_N_readGround 7 [some (.ref 10), some (.int i1), none] [] w Q) (hf : ¬ i1 ≤ 0 → WP d m_N_readGround 3 [some (.ref 10), some (.int i1), none] [] w Q) : WP d m_N_readGround 2 [some (.ref 10), some (.int i1), none] [] w Q :=
  zstep e_N_readGround rfl (And.intro (fun z => (ht z)) (fun z => (hf z)))
theorem t_N_readGround_3 {d : Nat} {w : zW} {Q : zQ} {i1 : Int32} (ht : ¬ (zrm i1 (6 : Int32)) = 0 → WP d m_N_readGround 7 [some (.ref 10), some (.int i1), none] [] w Q) (hf : (zrm i1 (6 : Int32)) = 0 → WP d m_N_readGround 4 [some (.ref 10), some (.int i1), none] [] w Q) : WP d m_N_readGround 3 [some (.ref 10), some (.int i1), none] [] w Q :=
  zstep e_N_readGround rfl (And.intro (by decide) (And.intro (fun z => (ht z)) (fun z => (hf z))))
theorem t_N_readGround_4 {d : Nat} {w : zW} {Q : zQ} {i1 : Int32} (h : WM d m_N_takes 3 [.ref 10, .int (47 : Int32)] w (fun r w' => WP (d + 1) m_N_readGround 5 [some (.ref 10), some (.int i1), none] (zpush r []) w' Q)) : WP (d + 1) m_N_readGround 4 [some (.ref 10), some (.int i1), none] [] w Q :=
  zstep e_N_readGround rfl (zcallI i_N_takes (Nat.le_of_ble_eq_true rfl) (Nat.le_of_ble_eq_true rfl) (Nat.le_of_ble_eq_true rfl) rfl h (fun _ _ q => q))
theorem t_N_readGround_5 {d : Nat} {w : zW} {Q : zQ} {i1 : Int32} {s0 : Int32} (ht : ¬ s0 = 0 → WP d m_N_readGround 7 [some (.ref 10), some (.int i1), none] [] w Q) (hf : s0 = 0 → WP d m_N_readGround 6 [none, none, none] [] w Q) : WP d m_N_readGround 5 [some (.ref 10), some (.int i1), none] [.int s0] w Q :=
  zstep e_N_readGround rfl (And.intro (fun z => (ht z)) (fun z => (zwk (hf z) (zle_n (zle_n (zle_s zle_0))))))
theorem t_N_readGround_6 {d : Nat} {w : zW} {Q : zQ}  (h : Q (some (.int (0 : Int32))) w) : WP d m_N_readGround 6 [none, none, none] [] w Q :=
  zstep e_N_readGround rfl (And.intro (by decide) h)
theorem t_N_readGround_7 {d : Nat} {w : zW} {Q : zQ} {i1 : Int32} (h : WM d m_N_nextLetter 1 [.ref 10] w (fun r w' => WP (d + 1) m_N_readGround 8 [some (.ref 10), some (.int i1), none] (zpush r []) w' Q)) : WP (d + 1) m_N_readGround 7 [some (.ref 10), some (.int i1), none] [] w Q :=
  zstep e_N_readGround rfl (zcallI i_N_nextLetter (Nat.le_of_ble_eq_true rfl) (Nat.le_of_ble_eq_true rfl) (Nat.le_of_ble_eq_true rfl) rfl h (fun _ _ q => q))
theorem t_N_readGround_8 {d : Nat} {w : zW} {Q : zQ} {i1 : Int32} {s0 : Int32} (h : WM d m_N_in 6 [.long (((s0 - (48 : Int32))).toInt64), .long (0 : Int64), .long (9 : Int64)] w (fun r w' => WP (d + 1) m_N_readGround 9 [some (.ref 10), some (.int i1), some (.int (s0 - (48 : Int32)))] (zpush r []) w' Q)) : WP (d + 1) m_N_readGround 8 [some (.ref 10), some (.int i1), none] [.int s0] w Q :=
  zstep e_N_readGround rfl (zcallI i_N_in (Nat.le_of_ble_eq_true rfl) (Nat.le_of_ble_eq_true rfl) (Nat.le_of_ble_eq_true rfl) trivial h (fun _ _ q => q))
theorem t_N_readGround_9 {d : Nat} {w : zW} {Q : zQ} {i1 : Int32} {i2 : Int32} {s0 : Int32} (ht : ¬ s0 = 0 → WP d m_N_readGround 11 [some (.ref 10), some (.int i1), some (.int i2)] [] w Q) (hf : s0 = 0 → WP d m_N_readGround 10 [none, none, none] [] w Q) : WP d m_N_readGround 9 [some (.ref 10), some (.int i1), some (.int i2)] [.int s0] w Q :=
  zstep e_N_readGround rfl (And.intro (fun z => (ht z)) (fun z => (zwk (hf z) (zle_n (zle_n (zle_n zle_0))))))
theorem t_N_readGround_10 {d : Nat} {w : zW} {Q : zQ}  (h : Q (some (.int (0 : Int32))) w) : WP d m_N_readGround 10 [none, none, none] [] w Q :=
  zstep e_N_readGround rfl (And.intro (by decide) h)
theorem t_N_readGround_11 {d : Nat} {w : zW} {Q : zQ} {i1 : Int32} {i2 : Int32} (ht : i2 ≤ 0 → WP d m_N_readGround 15 [some (.ref 10), some (.int i1), some (.int i2)] [.int i1, .ref 33] (sI w 10 13 ((gI w 10 13) + (1 : Int32))) Q) (hf : ¬ i2 ≤ 0 → WP d m_N_readGround 12 [some (.ref 10), some (.int i1), some (.int i2)] [.int i1, .ref 33] (sI w 10 13 ((gI w 10 13) + (1 : Int32))) Q) : WP d m_N_readGround 11 [some (.ref 10), some (.int i1), some (.int i2)] [] w Q :=
  zstep e_N_readGround rfl (And.intro rfl (And.intro rfl (And.intro rfl (And.intro (fun z => (ht z)) (fun z => (hf z))))))
theorem t_N_readGround_12 {d : Nat} {w : zW} {Q : zQ} {i1 : Int32} {i2 : Int32} {s1 : Int32} (h : WM d m_N_takes 3 [.ref 10, .int (94 : Int32)] w (fun r w' => WP (d + 1) m_N_readGround 13 [some (.ref 10), some (.int i1), some (.int i2)] (zpush r [.int s1, .ref 33]) w' Q)) : WP (d + 1) m_N_readGround 12 [some (.ref 10), some (.int i1), some (.int i2)] [.int s1, .ref 33] w Q :=
  zstep e_N_readGround rfl (zcallI i_N_takes (Nat.le_of_ble_eq_true rfl) (Nat.le_of_ble_eq_true rfl) (Nat.le_of_ble_eq_true rfl) rfl h (fun _ _ q => q))
theorem t_N_readGround_13 {d : Nat} {w : zW} {Q : zQ} {i1 : Int32} {i2 : Int32} {s1 : Int32} {s2 : Int32} (ht : s2 = 0 → WP d m_N_readGround 15 [some (.ref 10), some (.int i1), some (.int i2)] [.int s1, .ref 33] w Q) (hf : ¬ s2 = 0 → WP d m_N_readGround 14 [some (.ref 10), some (.int i1), some (.int i2)] [.int s1, .ref 33] w Q) : WP d m_N_readGround 13 [some (.ref 10), some (.int i1), some (.int i2)] [.int s2, .int s1, .ref 33] w Q :=
  zstep e_N_readGround rfl (And.intro (fun z => (ht z)) (fun z => (hf z)))
theorem t_N_readGround_14 {d : Nat} {w : zW} {Q : zQ} {i1 : Int32} {i2 : Int32} {s1 : Int32} (h : WP d m_N_readGround 16 [some (.ref 10), some (.int i1), none] [.int ((100 : Int32) + i2), .int s1, .ref 33] w Q) : WP d m_N_readGround 14 [some (.ref 10), some (.int i1), some (.int i2)] [.int s1, .ref 33] w Q :=
  zstep e_N_readGround rfl ((zwk h (zle_s (zle_s (zle_n zle_0)))))
theorem t_N_readGround_15 {d : Nat} {w : zW} {Q : zQ} {i1 : Int32} {i2 : Int32} {s1 : Int32} (h : WP d m_N_readGround 16 [some (.ref 10), some (.int i1), none] [.int i2, .int s1, .ref 33] w Q) : WP d m_N_readGround 15 [some (.ref 10), some (.int i1), some (.int i2)] [.int s1, .ref 33] w Q :=
  zstep e_N_readGround rfl ((zwk h (zle_s (zle_s (zle_n zle_0)))))
theorem t_N_readGround_16 {d : Nat} {w : zW} {Q : zQ} {i1 : Int32} {s1 : Int32} {s2 : Int32} (c1 : vp_in s1 80) (h : WP d m_N_readGround 1 [some (.ref 10), some (.int (i1 + (1 : Int32))), none] [] (sI w 33 (s1.toNatClampNeg) s2) Q) : WP d m_N_readGround 16 [some (.ref 10), some (.int i1), none] [.int s2, .int s1, .ref 33] w Q :=
  zstep e_N_readGround rfl (And.intro rfl (And.intro c1 (h)))
theorem t_N_readGround_17 {d : Nat} {w : zW} {Q : zQ}  (h : WM d m_N_nextLetter 1 [.ref 10] w (fun r w' => WP (d + 1) m_N_readGround 18 [none, none, none] (zpush r []) w' Q)) : WP (d + 1) m_N_readGround 17 [some (.ref 10), none, none] [] w Q :=
  zstep e_N_readGround rfl (zcallI i_N_nextLetter (Nat.le_of_ble_eq_true rfl) (Nat.le_of_ble_eq_true rfl) (Nat.le_of_ble_eq_true rfl) rfl h (fun _ _ q => (zwk q (zle_n (zle_s (zle_s zle_0))))))
theorem t_N_readGround_18 {d : Nat} {w : zW} {Q : zQ} {s0 : Int32} (ht : 0 ≤ s0 → WP d m_N_readGround 20 [none, none, none] [] w Q) (hf : ¬ 0 ≤ s0 → WP d m_N_readGround 19 [none, none, none] [] w Q) : WP d m_N_readGround 18 [none, none, none] [.int s0] w Q :=
  zstep e_N_readGround rfl (And.intro (fun z => (ht z)) (fun z => (hf z)))
theorem t_N_readGround_19 {d : Nat} {w : zW} {Q : zQ}  (h : WP d m_N_readGround 21 [none, none, none] [.int (1 : Int32)] w Q) : WP d m_N_readGround 19 [none, none, none] [] w Q :=
  zstep e_N_readGround rfl (h)
theorem t_N_readGround_20 {d : Nat} {w : zW} {Q : zQ}  (h : WP d m_N_readGround 21 [none, none, none] [.int (0 : Int32)] w Q) : WP d m_N_readGround 20 [none, none, none] [] w Q :=
  zstep e_N_readGround rfl (h)
theorem t_N_readGround_21 {d : Nat} {w : zW} {Q : zQ} {s0 : Int32} (cz : s0 = 0 ∨ s0 = 1) (h : Q (some (.int s0)) w) : WP d m_N_readGround 21 [none, none, none] [.int s0] w Q :=
  zstep e_N_readGround rfl (And.intro cz h)
theorem t_N_ground_0 {d : Nat} {w : zW} {Q : zQ}  (h : WM d m_N_readGround 3 [.ref 10] w (fun r w' => WP (d + 1) m_N_ground 1 [some (.ref 10), none, none] (zpush r [.ref 10]) w' Q)) : WP (d + 1) m_N_ground 0 [some (.ref 10), none, none] [] w Q :=
  zstep e_N_ground rfl (zcallI i_N_readGround (Nat.le_of_ble_eq_true rfl) (Nat.le_of_ble_eq_true rfl) (Nat.le_of_ble_eq_true rfl) rfl h (fun _ _ q => q))
theorem t_N_ground_1 {d : Nat} {w : zW} {Q : zQ} {s1 : Int32} (h : WM d m_N_end 2 [.ref 10, .int s1] w (fun r w' => WP (d + 1) m_N_ground 2 [some (.ref 10), none, none] (zpush r []) w' Q)) : WP (d + 1) m_N_ground 1 [some (.ref 10), none, none] [.int s1, .ref 10] w Q :=
  zstep e_N_ground rfl (zcallI i_N_end (Nat.le_of_ble_eq_true rfl) (Nat.le_of_ble_eq_true rfl) (Nat.le_of_ble_eq_true rfl) rfl h (fun _ _ q => q))
theorem t_N_ground_2 {d : Nat} {w : zW} {Q : zQ} {s0 : Int32} (ht : 0 ≤ s0 → WP d m_N_ground 4 [some (.ref 10), none, none] [] w Q) (hf : ¬ 0 ≤ s0 → WP d m_N_ground 3 [none, some (.int s0), none] [] w Q) : WP d m_N_ground 2 [some (.ref 10), none, none] [.int s0] w Q :=
  zstep e_N_ground rfl (And.intro (fun z => (zwk (ht z) (zle_s (zle_n (zle_s zle_0))))) (fun z => (zwk (hf z) (zle_n (zle_s (zle_s zle_0))))))
theorem t_N_ground_3 {d : Nat} {w : zW} {Q : zQ} {i1 : Int32} (h : Q (some (.int i1)) w) : WP d m_N_ground 3 [none, some (.int i1), none] [] w Q :=
  zstep e_N_ground rfl (h)
theorem t_N_ground_4 {d : Nat} {w : zW} {Q : zQ}  (h : WP d m_N_ground 5 [some (.ref 10), none, some (.int (0 : Int32))] [] w Q) : WP d m_N_ground 4 [some (.ref 10), none, none] [] w Q :=
  zstep e_N_ground rfl (h)
theorem t_N_ground_5 {d : Nat} {w : zW} {Q : zQ} {i2 : Int32} (ht : (36 : Int32) ≤ i2 → WP d m_N_ground 11 [some (.ref 10), none, none] [] w Q) (hf : ¬ (36 : Int32) ≤ i2 → WP d m_N_ground 6 [some (.ref 10), none, some (.int i2)] [] w Q) : WP d m_N_ground 5 [some (.ref 10), none, some (.int i2)] [] w Q :=
  zstep e_N_ground rfl (And.intro (fun z => (zwk (ht z) (zle_s (zle_s (zle_n zle_0))))) (fun z => (hf z)))
theorem t_N_ground_6 {d : Nat} {w : zW} {Q : zQ} {i2 : Int32} (c2 : vp_in i2 80) (c6 : vp_in i2 80) (ht : (gI w 33 (i2.toNatClampNeg)) ≤ (99 : Int32) → WP d m_N_ground 8 [some (.ref 10), none, some (.int i2)] [.int (zrm (gI w 33 (i2.toNatClampNeg)) (100 : Int32)), .int i2, .ref 10] w Q) (hf : ¬ (gI w 33 (i2.toNatClampNeg)) ≤ (99 : Int32) → WP d m_N_ground 7 [some (.ref 10), none, some (.int i2)] [.int (zrm (gI w 33 (i2.toNatClampNeg)) (100 : Int32)), .int i2, .ref 10] w Q) : WP d m_N_ground 6 [some (.ref 10), none, some (.int i2)] [] w Q :=
  zstep e_N_ground rfl (And.intro rfl (And.intro rfl (And.intro c2 (And.intro (by decide) (And.intro rfl (And.intro rfl (And.intro c6 (And.intro (fun z => (ht z)) (fun z => (hf z))))))))))
theorem t_N_ground_7 {d : Nat} {w : zW} {Q : zQ} {i2 : Int32} {s1 : Int32} {s2 : Int32} (h : WP d m_N_ground 9 [some (.ref 10), none, some (.int i2)] [.int (1 : Int32), .int s2, .int s1, .ref 10] w Q) : WP d m_N_ground 7 [some (.ref 10), none, some (.int i2)] [.int s2, .int s1, .ref 10] w Q :=
  zstep e_N_ground rfl (h)
theorem t_N_ground_8 {d : Nat} {w : zW} {Q : zQ} {i2 : Int32} {s1 : Int32} {s2 : Int32} (h : WP d m_N_ground 9 [some (.ref 10), none, some (.int i2)] [.int (0 : Int32), .int s2, .int s1, .ref 10] w Q) : WP d m_N_ground 8 [some (.ref 10), none, some (.int i2)] [.int s2, .int s1, .ref 10] w Q :=
  zstep e_N_ground rfl (h)
theorem t_N_ground_9 {d : Nat} {w : zW} {Q : zQ} {i2 : Int32} {s1 : Int32} {s2 : Int32} {s3 : Int32} (h : WM d m_N_put 4 [.ref 10, .int s1, .int s2, .int s3] w (fun r w' => WP (d + 1) m_N_ground 10 [some (.ref 10), none, some (.int i2)] (zpush r []) w' Q)) : WP (d + 1) m_N_ground 9 [some (.ref 10), none, some (.int i2)] [.int s3, .int s2, .int s1, .ref 10] w Q :=
  zstep e_N_ground rfl (zcallI i_N_put (Nat.le_of_ble_eq_true rfl) (Nat.le_of_ble_eq_true rfl) (Nat.le_of_ble_eq_true rfl) rfl h (fun _ _ q => q))
theorem t_N_ground_10 {d : Nat} {w : zW} {Q : zQ} {i2 : Int32} (h : WP d m_N_ground 5 [some (.ref 10), none, some (.int (i2 + (1 : Int32)))] [] w Q) : WP d m_N_ground 10 [some (.ref 10), none, some (.int i2)] [] w Q :=
  zstep e_N_ground rfl (h)
theorem t_N_ground_11 {d : Nat} {w : zW} {Q : zQ}  (h : WM d m_N_look 2 [.ref 10] (sI w 10 5 (0 : Int32)) (fun r w' => WP (d + 1) m_N_ground 12 [some (.ref 10), none, none] (zpush r []) w' Q)) : WP (d + 1) m_N_ground 11 [some (.ref 10), none, none] [] w Q :=
  zstep e_N_ground rfl (And.intro rfl (zcallI i_N_look (Nat.le_of_ble_eq_true rfl) (Nat.le_of_ble_eq_true rfl) (Nat.le_of_ble_eq_true rfl) rfl h (fun _ _ q => q)))
theorem t_N_ground_12 {d : Nat} {w : zW} {Q : zQ}  (h : WM d m_N_findHoles 3 [.ref 10] w (fun r w' => WP (d + 1) m_N_ground 13 [some (.ref 10), none, none] (zpush r []) w' Q)) : WP (d + 1) m_N_ground 12 [some (.ref 10), none, none] [] w Q :=
  zstep e_N_ground rfl (zcallI i_N_findHoles (Nat.le_of_ble_eq_true rfl) (Nat.le_of_ble_eq_true rfl) (Nat.le_of_ble_eq_true rfl) rfl h (fun _ _ q => q))
theorem t_N_ground_13 {d : Nat} {w : zW} {Q : zQ}  (h : Q (some (.int (gI w 10 10))) w) : WP d m_N_ground 13 [some (.ref 10), none, none] [] w Q :=
  zstep e_N_ground rfl (And.intro rfl (h))
theorem t_N_readOwners_0 {d : Nat} {w : zW} {Q : zQ}  (h : WP d m_N_readOwners 1 [some (.ref 10), some (.int (0 : Int32)), none] [] (sI w 10 13 (0 : Int32)) Q) : WP d m_N_readOwners 0 [some (.ref 10), none, none] [] w Q :=
  zstep e_N_readOwners rfl (And.intro rfl (h))
theorem t_N_readOwners_1 {d : Nat} {w : zW} {Q : zQ} {i1 : Int32} (ht : (36 : Int32) ≤ i1 → WP d m_N_readOwners 15 [some (.ref 10), none, none] [] w Q) (hf : ¬ (36 : Int32) ≤ i1 → WP d m_N_readOwners 2 [some (.ref 10), some (.int i1), none] [] w Q) : WP d m_N_readOwners 1 [some (.ref 10), some (.int i1), none] [] w Q :=
  zstep e_N_readOwners rfl (And.intro (fun z => (zwk (ht z) (zle_s (zle_n (zle_s zle_0))))) (fun z => (hf z)))
theorem t_N_readOwners_2 {d : Nat} {w : zW} {Q : zQ} {i1 : Int32} (ht : i1 ≤ 0 → WP d m_N_readOwners 6 [some (.ref 10), some (.int i1), none] [] w Q) (hf : ¬ i1 ≤ 0 → WP d m_N_readOwners 3 [some (.ref 10), some (.int i1), none] [] w Q) : WP d m_N_readOwners 2 [some (.ref 10), some (.int i1), none] [] w Q :=
  zstep e_N_readOwners rfl (And.intro (fun z => (ht z)) (fun z => (hf z)))
theorem t_N_readOwners_3 {d : Nat} {w : zW} {Q : zQ} {i1 : Int32} (ht : ¬ (zrm i1 (6 : Int32)) = 0 → WP d m_N_readOwners 6 [some (.ref 10), some (.int i1), none] [] w Q) (hf : (zrm i1 (6 : Int32)) = 0 → WP d m_N_readOwners 4 [some (.ref 10), some (.int i1), none] [] w Q) : WP d m_N_readOwners 3 [some (.ref 10), some (.int i1), none] [] w Q :=
  zstep e_N_readOwners rfl (And.intro (by decide) (And.intro (fun z => (ht z)) (fun z => (hf z))))
theorem t_N_readOwners_4 {d : Nat} {w : zW} {Q : zQ} {i1 : Int32} (h : WM d m_N_takes 3 [.ref 10, .int (47 : Int32)] w (fun r w' => WP (d + 1) m_N_readOwners 5 [some (.ref 10), some (.int i1), none] (zpush r []) w' Q)) : WP (d + 1) m_N_readOwners 4 [some (.ref 10), some (.int i1), none] [] w Q :=
  zstep e_N_readOwners rfl (zcallI i_N_takes (Nat.le_of_ble_eq_true rfl) (Nat.le_of_ble_eq_true rfl) (Nat.le_of_ble_eq_true rfl) rfl h (fun _ _ q => q))
theorem t_N_readOwners_5 {d : Nat} {w : zW} {Q : zQ} {i1 : Int32} {s0 : Int32} (h : WP d m_N_readOwners 6 [some (.ref 10), some (.int i1), none] [] w Q) : WP d m_N_readOwners 5 [some (.ref 10), some (.int i1), none] [.int s0] w Q :=
  zstep e_N_readOwners rfl (h)
theorem t_N_readOwners_6 {d : Nat} {w : zW} {Q : zQ} {i1 : Int32} (h : WM d m_N_nextLetter 1 [.ref 10] w (fun r w' => WP (d + 1) m_N_readOwners 7 [some (.ref 10), some (.int i1), none] (zpush r []) w' Q)) : WP (d + 1) m_N_readOwners 6 [some (.ref 10), some (.int i1), none] [] w Q :=
  zstep e_N_readOwners rfl (zcallI i_N_nextLetter (Nat.le_of_ble_eq_true rfl) (Nat.le_of_ble_eq_true rfl) (Nat.le_of_ble_eq_true rfl) rfl h (fun _ _ q => q))
theorem t_N_readOwners_7 {d : Nat} {w : zW} {Q : zQ} {i1 : Int32} {s0 : Int32} (ht : s0 = (45 : Int32) → WP d m_N_readOwners 11 [some (.ref 10), some (.int i1), some (.int s0)] [] w Q) (hf : ¬ s0 = (45 : Int32) → WP d m_N_readOwners 8 [some (.ref 10), some (.int i1), some (.int s0)] [] w Q) : WP d m_N_readOwners 7 [some (.ref 10), some (.int i1), none] [.int s0] w Q :=
  zstep e_N_readOwners rfl (And.intro (fun z => (ht z)) (fun z => (hf z)))
theorem t_N_readOwners_8 {d : Nat} {w : zW} {Q : zQ} {i1 : Int32} {i2 : Int32} (h : WM d m_N_in 6 [.long (i2.toInt64), .long (48 : Int64), .long (51 : Int64)] w (fun r w' => WP (d + 1) m_N_readOwners 9 [some (.ref 10), some (.int i1), some (.int i2)] (zpush r []) w' Q)) : WP (d + 1) m_N_readOwners 8 [some (.ref 10), some (.int i1), some (.int i2)] [] w Q :=
  zstep e_N_readOwners rfl (zcallI i_N_in (Nat.le_of_ble_eq_true rfl) (Nat.le_of_ble_eq_true rfl) (Nat.le_of_ble_eq_true rfl) trivial h (fun _ _ q => q))
theorem t_N_readOwners_9 {d : Nat} {w : zW} {Q : zQ} {i1 : Int32} {i2 : Int32} {s0 : Int32} (ht : ¬ s0 = 0 → WP d m_N_readOwners 11 [some (.ref 10), some (.int i1), some (.int i2)] [] w Q) (hf : s0 = 0 → WP d m_N_readOwners 10 [none, none, none] [] w Q) : WP d m_N_readOwners 9 [some (.ref 10), some (.int i1), some (.int i2)] [.int s0] w Q :=
  zstep e_N_readOwners rfl (And.intro (fun z => (ht z)) (fun z => (zwk (hf z) (zle_n (zle_n (zle_n zle_0))))))
theorem t_N_readOwners_10 {d : Nat} {w : zW} {Q : zQ}  (h : Q (some (.int (0 : Int32))) w) : WP d m_N_readOwners 10 [none, none, none] [] w Q :=
  zstep e_N_readOwners rfl (And.intro (by decide) h)
theorem t_N_readOwners_11 {d : Nat} {w : zW} {Q : zQ} {i1 : Int32} {i2 : Int32} (ht : ¬ i2 = (45 : Int32) → WP d m_N_readOwners 13 [some (.ref 10), some (.int i1), some (.int i2)] [.int i1, .ref 33] (sI w 10 13 ((gI w 10 13) + (1 : Int32))) Q) (hf : i2 = (45 : Int32) → WP d m_N_readOwners 12 [some (.ref 10), some (.int i1), none] [.int i1, .ref 33] (sI w 10 13 ((gI w 10 13) + (1 : Int32))) Q) : WP d m_N_readOwners 11 [some (.ref 10), some (.int i1), some (.int i2)] [] w Q :=
  zstep e_N_readOwners rfl (And.intro rfl (And.intro rfl (And.intro rfl (And.intro (fun z => (ht z)) (fun z => (zwk (hf z) (zle_s (zle_s (zle_n zle_0)))))))))
theorem t_N_readOwners_12 {d : Nat} {w : zW} {Q : zQ} {i1 : Int32} {s1 : Int32} (h : WP d m_N_readOwners 14 [some (.ref 10), some (.int i1), none] [.int (4 : Int32), .int s1, .ref 33] w Q) : WP d m_N_readOwners 12 [some (.ref 10), some (.int i1), none] [.int s1, .ref 33] w Q :=
  zstep e_N_readOwners rfl (h)
theorem t_N_readOwners_13 {d : Nat} {w : zW} {Q : zQ} {i1 : Int32} {i2 : Int32} {s1 : Int32} (h : WP d m_N_readOwners 14 [some (.ref 10), some (.int i1), none] [.int (i2 - (48 : Int32)), .int s1, .ref 33] w Q) : WP d m_N_readOwners 13 [some (.ref 10), some (.int i1), some (.int i2)] [.int s1, .ref 33] w Q :=
  zstep e_N_readOwners rfl ((zwk h (zle_s (zle_s (zle_n zle_0)))))
theorem t_N_readOwners_14 {d : Nat} {w : zW} {Q : zQ} {i1 : Int32} {s1 : Int32} {s2 : Int32} (c1 : vp_in s1 80) (h : WP d m_N_readOwners 1 [some (.ref 10), some (.int (i1 + (1 : Int32))), none] [] (sI w 33 (s1.toNatClampNeg) s2) Q) : WP d m_N_readOwners 14 [some (.ref 10), some (.int i1), none] [.int s2, .int s1, .ref 33] w Q :=
  zstep e_N_readOwners rfl (And.intro rfl (And.intro c1 (h)))
theorem t_N_readOwners_15 {d : Nat} {w : zW} {Q : zQ}  (h : WM d m_N_nextLetter 1 [.ref 10] w (fun r w' => WP (d + 1) m_N_readOwners 16 [none, none, none] (zpush r []) w' Q)) : WP (d + 1) m_N_readOwners 15 [some (.ref 10), none, none] [] w Q :=
  zstep e_N_readOwners rfl (zcallI i_N_nextLetter (Nat.le_of_ble_eq_true rfl) (Nat.le_of_ble_eq_true rfl) (Nat.le_of_ble_eq_true rfl) rfl h (fun _ _ q => (zwk q (zle_n (zle_s (zle_s zle_0))))))
theorem t_N_readOwners_16 {d : Nat} {w : zW} {Q : zQ} {s0 : Int32} (ht : 0 ≤ s0 → WP d m_N_readOwners 18 [none, none, none] [] w Q) (hf : ¬ 0 ≤ s0 → WP d m_N_readOwners 17 [none, none, none] [] w Q) : WP d m_N_readOwners 16 [none, none, none] [.int s0] w Q :=
  zstep e_N_readOwners rfl (And.intro (fun z => (ht z)) (fun z => (hf z)))
theorem t_N_readOwners_17 {d : Nat} {w : zW} {Q : zQ}  (h : WP d m_N_readOwners 19 [none, none, none] [.int (1 : Int32)] w Q) : WP d m_N_readOwners 17 [none, none, none] [] w Q :=
  zstep e_N_readOwners rfl (h)
theorem t_N_readOwners_18 {d : Nat} {w : zW} {Q : zQ}  (h : WP d m_N_readOwners 19 [none, none, none] [.int (0 : Int32)] w Q) : WP d m_N_readOwners 18 [none, none, none] [] w Q :=
  zstep e_N_readOwners rfl (h)
theorem t_N_readOwners_19 {d : Nat} {w : zW} {Q : zQ} {s0 : Int32} (cz : s0 = 0 ∨ s0 = 1) (h : Q (some (.int s0)) w) : WP d m_N_readOwners 19 [none, none, none] [.int s0] w Q :=
  zstep e_N_readOwners rfl (And.intro cz h)
theorem t_N_owners_0 {d : Nat} {w : zW} {Q : zQ}  (h : WM d m_N_readOwners 3 [.ref 10] w (fun r w' => WP (d + 1) m_N_owners 1 [some (.ref 10), none, none, none] (zpush r [.ref 10]) w' Q)) : WP (d + 1) m_N_owners 0 [some (.ref 10), none, none, none] [] w Q :=
  zstep e_N_owners rfl (zcallI i_N_readOwners (Nat.le_of_ble_eq_true rfl) (Nat.le_of_ble_eq_true rfl) (Nat.le_of_ble_eq_true rfl) rfl h (fun _ _ q => q))
theorem t_N_owners_1 {d : Nat} {w : zW} {Q : zQ} {s1 : Int32} (h : WM d m_N_end 2 [.ref 10, .int s1] w (fun r w' => WP (d + 1) m_N_owners 2 [some (.ref 10), none, none, none] (zpush r []) w' Q)) : WP (d + 1) m_N_owners 1 [some (.ref 10), none, none, none] [.int s1, .ref 10] w Q :=
  zstep e_N_owners rfl (zcallI i_N_end (Nat.le_of_ble_eq_true rfl) (Nat.le_of_ble_eq_true rfl) (Nat.le_of_ble_eq_true rfl) rfl h (fun _ _ q => q))
theorem t_N_owners_2 {d : Nat} {w : zW} {Q : zQ} {s0 : Int32} (ht : 0 ≤ s0 → WP d m_N_owners 4 [some (.ref 10), none, none, none] [] w Q) (hf : ¬ 0 ≤ s0 → WP d m_N_owners 3 [none, some (.int s0), none, none] [] w Q) : WP d m_N_owners 2 [some (.ref 10), none, none, none] [.int s0] w Q :=
  zstep e_N_owners rfl (And.intro (fun z => (zwk (ht z) (zle_s (zle_n (zle_s (zle_s zle_0)))))) (fun z => (zwk (hf z) (zle_n (zle_s (zle_s (zle_s zle_0)))))))
theorem t_N_owners_3 {d : Nat} {w : zW} {Q : zQ} {i1 : Int32} (h : Q (some (.int i1)) w) : WP d m_N_owners 3 [none, some (.int i1), none, none] [] w Q :=
  zstep e_N_owners rfl (h)
theorem t_N_owners_4 {d : Nat} {w : zW} {Q : zQ}  (h : WP d m_N_owners 5 [some (.ref 10), none, some (.int (0 : Int32)), some (.int (0 : Int32))] [] w Q) : WP d m_N_owners 4 [some (.ref 10), none, none, none] [] w Q :=
  zstep e_N_owners rfl (h)
theorem t_N_owners_5 {d : Nat} {w : zW} {Q : zQ} {i2 : Int32} {i3 : Int32} (ht : (36 : Int32) ≤ i3 → WP d m_N_owners 10 [none, none, some (.int i2), none] [] w Q) (hf : ¬ (36 : Int32) ≤ i3 → WP d m_N_owners 6 [some (.ref 10), none, some (.int i2), some (.int i3)] [] w Q) : WP d m_N_owners 5 [some (.ref 10), none, some (.int i2), some (.int i3)] [] w Q :=
  zstep e_N_owners rfl (And.intro (fun z => (zwk (ht z) (zle_n (zle_s (zle_s (zle_n zle_0)))))) (fun z => (hf z)))
theorem t_N_owners_6 {d : Nat} {w : zW} {Q : zQ} {i2 : Int32} {i3 : Int32} (c3 : vp_in i3 80) (c5 : vp_in i3 36) (c8 : vp_in i3 80) (ht : (4 : Int32) ≤ (gI w 33 (i3.toNatClampNeg)) → WP d m_N_owners 8 [some (.ref 10), none, none, some (.int i3)] [.int i2] (sI w 29 (i3.toNatClampNeg) (gI w 33 (i3.toNatClampNeg))) Q) (hf : ¬ (4 : Int32) ≤ (gI w 33 (i3.toNatClampNeg)) → WP d m_N_owners 7 [some (.ref 10), none, none, some (.int i3)] [.int i2] (sI w 29 (i3.toNatClampNeg) (gI w 33 (i3.toNatClampNeg))) Q) : WP d m_N_owners 6 [some (.ref 10), none, some (.int i2), some (.int i3)] [] w Q :=
  zstep e_N_owners rfl (And.intro rfl (And.intro rfl (And.intro rfl (And.intro c3 (And.intro rfl (And.intro c5 (And.intro rfl (And.intro rfl (And.intro c8 (And.intro (fun z => (zwk (ht z) (zle_s (zle_s (zle_n (zle_s zle_0)))))) (fun z => (zwk (hf z) (zle_s (zle_s (zle_n (zle_s zle_0))))))))))))))))
theorem t_N_owners_7 {d : Nat} {w : zW} {Q : zQ} {i3 : Int32} {s0 : Int32} (h : WP d m_N_owners 9 [some (.ref 10), none, none, some (.int i3)] [.int (1 : Int32), .int s0] w Q) : WP d m_N_owners 7 [some (.ref 10), none, none, some (.int i3)] [.int s0] w Q :=
  zstep e_N_owners rfl (h)
theorem t_N_owners_8 {d : Nat} {w : zW} {Q : zQ} {i3 : Int32} {s0 : Int32} (h : WP d m_N_owners 9 [some (.ref 10), none, none, some (.int i3)] [.int (0 : Int32), .int s0] w Q) : WP d m_N_owners 8 [some (.ref 10), none, none, some (.int i3)] [.int s0] w Q :=
  zstep e_N_owners rfl (h)
theorem t_N_owners_9 {d : Nat} {w : zW} {Q : zQ} {i3 : Int32} {s0 : Int32} {s1 : Int32} (h : WP d m_N_owners 5 [some (.ref 10), none, some (.int (s0 + s1)), some (.int (i3 + (1 : Int32)))] [] w Q) : WP d m_N_owners 9 [some (.ref 10), none, none, some (.int i3)] [.int s1, .int s0] w Q :=
  zstep e_N_owners rfl (h)
theorem t_N_owners_10 {d : Nat} {w : zW} {Q : zQ} {i2 : Int32} (h : Q (some (.int i2)) w) : WP d m_N_owners 10 [none, none, some (.int i2), none] [] w Q :=
  zstep e_N_owners rfl (h)
theorem t_N_readAct_0 {d : Nat} {w : zW} {Q : zQ}  (h : WM d m_N_nextLetter 1 [.ref 10] w (fun r w' => WP (d + 1) m_N_readAct 1 [some (.ref 10), none, none, none] (zpush r []) w' Q)) : WP (d + 1) m_N_readAct 0 [some (.ref 10), none, none, none] [] w Q :=
  zstep e_N_readAct rfl (zcallI i_N_nextLetter (Nat.le_of_ble_eq_true rfl) (Nat.le_of_ble_eq_true rfl) (Nat.le_of_ble_eq_true rfl) rfl h (fun _ _ q => q))
theorem t_N_readAct_1 {d : Nat} {w : zW} {Q : zQ} {s0 : Int32} (ht : s0 = (100 : Int32) → WP d m_N_readAct 5 [some (.ref 10), some (.int s0), none, none] [] w Q) (hf : ¬ s0 = (100 : Int32) → WP d m_N_readAct 2 [some (.ref 10), some (.int s0), none, none] [] w Q) : WP d m_N_readAct 1 [some (.ref 10), none, none, none] [.int s0] w Q :=
  zstep e_N_readAct rfl (And.intro (fun z => (ht z)) (fun z => (hf z)))
theorem t_N_readAct_2 {d : Nat} {w : zW} {Q : zQ} {i1 : Int32} (ht : i1 = (102 : Int32) → WP d m_N_readAct 5 [some (.ref 10), some (.int i1), none, none] [] w Q) (hf : ¬ i1 = (102 : Int32) → WP d m_N_readAct 3 [some (.ref 10), some (.int i1), none, none] [] w Q) : WP d m_N_readAct 2 [some (.ref 10), some (.int i1), none, none] [] w Q :=
  zstep e_N_readAct rfl (And.intro (fun z => (ht z)) (fun z => (hf z)))
theorem t_N_readAct_3 {d : Nat} {w : zW} {Q : zQ} {i1 : Int32} (ht : i1 = (114 : Int32) → WP d m_N_readAct 5 [some (.ref 10), some (.int i1), none, none] [] w Q) (hf : ¬ i1 = (114 : Int32) → WP d m_N_readAct 4 [none, none, none, none] [] w Q) : WP d m_N_readAct 3 [some (.ref 10), some (.int i1), none, none] [] w Q :=
  zstep e_N_readAct rfl (And.intro (fun z => (ht z)) (fun z => (zwk (hf z) (zle_n (zle_n (zle_s (zle_s zle_0)))))))
theorem t_N_readAct_4 {d : Nat} {w : zW} {Q : zQ}  (h : Q (some (.int (0 : Int32))) w) : WP d m_N_readAct 4 [none, none, none, none] [] w Q :=
  zstep e_N_readAct rfl (And.intro (by decide) h)
theorem t_N_readAct_5 {d : Nat} {w : zW} {Q : zQ} {i1 : Int32} (h : WM d m_N_nextLetter 1 [.ref 10] (sI w 10 13 ((gI w 10 13) + (1 : Int32))) (fun r w' => WP (d + 1) m_N_readAct 6 [some (.ref 10), some (.int i1), none, none] (zpush r []) w' Q)) : WP (d + 1) m_N_readAct 5 [some (.ref 10), some (.int i1), none, none] [] w Q :=
  zstep e_N_readAct rfl (And.intro rfl (And.intro rfl (zcallI i_N_nextLetter (Nat.le_of_ble_eq_true rfl) (Nat.le_of_ble_eq_true rfl) (Nat.le_of_ble_eq_true rfl) rfl h (fun _ _ q => q))))
theorem t_N_readAct_6 {d : Nat} {w : zW} {Q : zQ} {i1 : Int32} {s0 : Int32} (h : WM d m_N_in 6 [.long (((s0 - (48 : Int32))).toInt64), .long (0 : Int64), .long (5 : Int64)] w (fun r w' => WP (d + 1) m_N_readAct 7 [some (.ref 10), some (.int i1), some (.int (s0 - (48 : Int32))), none] (zpush r []) w' Q)) : WP (d + 1) m_N_readAct 6 [some (.ref 10), some (.int i1), none, none] [.int s0] w Q :=
  zstep e_N_readAct rfl (zcallI i_N_in (Nat.le_of_ble_eq_true rfl) (Nat.le_of_ble_eq_true rfl) (Nat.le_of_ble_eq_true rfl) trivial h (fun _ _ q => q))
theorem t_N_readAct_7 {d : Nat} {w : zW} {Q : zQ} {i1 : Int32} {i2 : Int32} {s0 : Int32} (ht : ¬ s0 = 0 → WP d m_N_readAct 9 [some (.ref 10), some (.int i1), some (.int i2), none] [] w Q) (hf : s0 = 0 → WP d m_N_readAct 8 [none, none, none, none] [] w Q) : WP d m_N_readAct 7 [some (.ref 10), some (.int i1), some (.int i2), none] [.int s0] w Q :=
  zstep e_N_readAct rfl (And.intro (fun z => (ht z)) (fun z => (zwk (hf z) (zle_n (zle_n (zle_n (zle_s zle_0)))))))
theorem t_N_readAct_8 {d : Nat} {w : zW} {Q : zQ}  (h : Q (some (.int (0 : Int32))) w) : WP d m_N_readAct 8 [none, none, none, none] [] w Q :=
  zstep e_N_readAct rfl (And.intro (by decide) h)
theorem t_N_readAct_9 {d : Nat} {w : zW} {Q : zQ} {i1 : Int32} {i2 : Int32} (h : WM d m_N_nextLetter 1 [.ref 10] (sI w 10 13 ((gI w 10 13) + (1 : Int32))) (fun r w' => WP (d + 1) m_N_readAct 10 [some (.ref 10), some (.int i1), some (.int i2), none] (zpush r []) w' Q)) : WP (d + 1) m_N_readAct 9 [some (.ref 10), some (.int i1), some (.int i2), none] [] w Q :=
  zstep e_N_readAct rfl (And.intro rfl (And.intro rfl (zcallI i_N_nextLetter (Nat.le_of_ble_eq_true rfl) (Nat.le_of_ble_eq_true rfl) (Nat.le_of_ble_eq_true rfl) rfl h (fun _ _ q => q))))
theorem t_N_readAct_10 {d : Nat} {w : zW} {Q : zQ} {i1 : Int32} {i2 : Int32} {s0 : Int32} (h : WM d m_N_in 6 [.long (((s0 - (48 : Int32))).toInt64), .long (0 : Int64), .long (5 : Int64)] w (fun r w' => WP (d + 1) m_N_readAct 11 [some (.ref 10), some (.int i1), some (.int i2), some (.int (s0 - (48 : Int32)))] (zpush r []) w' Q)) : WP (d + 1) m_N_readAct 10 [some (.ref 10), some (.int i1), some (.int i2), none] [.int s0] w Q :=
  zstep e_N_readAct rfl (zcallI i_N_in (Nat.le_of_ble_eq_true rfl) (Nat.le_of_ble_eq_true rfl) (Nat.le_of_ble_eq_true rfl) trivial h (fun _ _ q => q))
theorem t_N_readAct_11 {d : Nat} {w : zW} {Q : zQ} {i1 : Int32} {i2 : Int32} {i3 : Int32} {s0 : Int32} (ht : ¬ s0 = 0 → WP d m_N_readAct 13 [some (.ref 10), some (.int i1), some (.int i2), some (.int i3)] [] w Q) (hf : s0 = 0 → WP d m_N_readAct 12 [none, none, none, none] [] w Q) : WP d m_N_readAct 11 [some (.ref 10), some (.int i1), some (.int i2), some (.int i3)] [.int s0] w Q :=
  zstep e_N_readAct rfl (And.intro (fun z => (ht z)) (fun z => (zwk (hf z) (zle_n (zle_n (zle_n (zle_n zle_0)))))))
theorem t_N_readAct_12 {d : Nat} {w : zW} {Q : zQ}  (h : Q (some (.int (0 : Int32))) w) : WP d m_N_readAct 12 [none, none, none, none] [] w Q :=
  zstep e_N_readAct rfl (And.intro (by decide) h)
theorem t_N_readAct_13 {d : Nat} {w : zW} {Q : zQ} {i1 : Int32} {i2 : Int32} {i3 : Int32} (c5 : vp_in (gI w 10 14) 80) (h : Q (some (.int (1 : Int32))) (sI (sI w 10 13 ((gI w 10 13) + (1 : Int32))) 33 ((gI w 10 14).toNatClampNeg) ((((100 : Int32) * i1) + ((6 : Int32) * i2)) + i3))) : WP d m_N_readAct 13 [some (.ref 10), some (.int i1), some (.int i2), some (.int i3)] [] w Q :=
  zstep e_N_readAct rfl (And.intro rfl (And.intro rfl (And.intro rfl (And.intro rfl (And.intro rfl (And.intro c5 (And.intro (by decide) h)))))))
theorem t_N_readDay_0 {d : Nat} {w : zW} {Q : zQ}  (h : WP d m_N_readDay 1 [some (.ref 10), some (.int (1 : Int32))] [] (sI (sI w 10 13 (0 : Int32)) 10 14 (0 : Int32)) Q) : WP d m_N_readDay 0 [some (.ref 10), none] [] w Q :=
  zstep e_N_readDay rfl (And.intro rfl (And.intro rfl (h)))
theorem t_N_readDay_1 {d : Nat} {w : zW} {Q : zQ} {i1 : Int32} (ht : i1 = 0 → WP d m_N_readDay 7 [some (.ref 10), none] [] w Q) (hf : ¬ i1 = 0 → WP d m_N_readDay 2 [some (.ref 10), none] [] w Q) : WP d m_N_readDay 1 [some (.ref 10), some (.int i1)] [] w Q :=
  zstep e_N_readDay rfl (And.intro (fun z => (zwk (ht z) (zle_s (zle_n zle_0)))) (fun z => (zwk (hf z) (zle_s (zle_n zle_0)))))
theorem t_N_readDay_2 {d : Nat} {w : zW} {Q : zQ}  (h : WM d m_N_readAct 4 [.ref 10] w (fun r w' => WP (d + 1) m_N_readDay 3 [some (.ref 10), none] (zpush r []) w' Q)) : WP (d + 1) m_N_readDay 2 [some (.ref 10), none] [] w Q :=
  zstep e_N_readDay rfl (zcallI i_N_readAct (Nat.le_of_ble_eq_true rfl) (Nat.le_of_ble_eq_true rfl) (Nat.le_of_ble_eq_true rfl) rfl h (fun _ _ q => q))
theorem t_N_readDay_3 {d : Nat} {w : zW} {Q : zQ} {s0 : Int32} (ht : ¬ s0 = 0 → WP d m_N_readDay 5 [some (.ref 10), none] [] w Q) (hf : s0 = 0 → WP d m_N_readDay 4 [none, none] [] w Q) : WP d m_N_readDay 3 [some (.ref 10), none] [.int s0] w Q :=
  zstep e_N_readDay rfl (And.intro (fun z => (ht z)) (fun z => (zwk (hf z) (zle_n (zle_s zle_0)))))
theorem t_N_readDay_4 {d : Nat} {w : zW} {Q : zQ}  (h : Q (some (.int (0 : Int32))) w) : WP d m_N_readDay 4 [none, none] [] w Q :=
  zstep e_N_readDay rfl (And.intro (by decide) h)
theorem t_N_readDay_5 {d : Nat} {w : zW} {Q : zQ}  (h : WM d m_N_takes 3 [.ref 10, .int (59 : Int32)] (sI w 10 14 ((gI w 10 14) + (1 : Int32))) (fun r w' => WP (d + 1) m_N_readDay 6 [some (.ref 10), none] (zpush r []) w' Q)) : WP (d + 1) m_N_readDay 5 [some (.ref 10), none] [] w Q :=
  zstep e_N_readDay rfl (And.intro rfl (And.intro rfl (zcallI i_N_takes (Nat.le_of_ble_eq_true rfl) (Nat.le_of_ble_eq_true rfl) (Nat.le_of_ble_eq_true rfl) rfl h (fun _ _ q => q))))
theorem t_N_readDay_6 {d : Nat} {w : zW} {Q : zQ} {s0 : Int32} (h : WP d m_N_readDay 1 [some (.ref 10), some (.int s0)] [] w Q) : WP d m_N_readDay 6 [some (.ref 10), none] [.int s0] w Q :=
  zstep e_N_readDay rfl (h)
theorem t_N_readDay_7 {d : Nat} {w : zW} {Q : zQ}  (h : WM d m_N_nextLetter 1 [.ref 10] w (fun r w' => WP (d + 1) m_N_readDay 8 [none, none] (zpush r []) w' Q)) : WP (d + 1) m_N_readDay 7 [some (.ref 10), none] [] w Q :=
  zstep e_N_readDay rfl (zcallI i_N_nextLetter (Nat.le_of_ble_eq_true rfl) (Nat.le_of_ble_eq_true rfl) (Nat.le_of_ble_eq_true rfl) rfl h (fun _ _ q => (zwk q (zle_n (zle_s zle_0)))))
theorem t_N_readDay_8 {d : Nat} {w : zW} {Q : zQ} {s0 : Int32} (ht : 0 ≤ s0 → WP d m_N_readDay 10 [none, none] [] w Q) (hf : ¬ 0 ≤ s0 → WP d m_N_readDay 9 [none, none] [] w Q) : WP d m_N_readDay 8 [none, none] [.int s0] w Q :=
  zstep e_N_readDay rfl (And.intro (fun z => (ht z)) (fun z => (hf z)))
theorem t_N_readDay_9 {d : Nat} {w : zW} {Q : zQ}  (h : WP d m_N_readDay 11 [none, none] [.int (1 : Int32)] w Q) : WP d m_N_readDay 9 [none, none] [] w Q :=
  zstep e_N_readDay rfl (h)
theorem t_N_readDay_10 {d : Nat} {w : zW} {Q : zQ}  (h : WP d m_N_readDay 11 [none, none] [.int (0 : Int32)] w Q) : WP d m_N_readDay 10 [none, none] [] w Q :=
  zstep e_N_readDay rfl (h)
theorem t_N_readDay_11 {d : Nat} {w : zW} {Q : zQ} {s0 : Int32} (cz : s0 = 0 ∨ s0 = 1) (h : Q (some (.int s0)) w) : WP d m_N_readDay 11 [none, none] [.int s0] w Q :=
  zstep e_N_readDay rfl (And.intro cz h)
theorem t_N_day_0 {d : Nat} {w : zW} {Q : zQ}  (h : WM d m_N_readDay 2 [.ref 10] w (fun r w' => WP (d + 1) m_N_day 1 [some (.ref 10), none, none, none, none, none] (zpush r [.ref 10]) w' Q)) : WP (d + 1) m_N_day 0 [some (.ref 10), none, none, none, none, none] [] w Q :=
  zstep e_N_day rfl (zcallI i_N_readDay (Nat.le_of_ble_eq_true rfl) (Nat.le_of_ble_eq_true rfl) (Nat.le_of_ble_eq_true rfl) rfl h (fun _ _ q => q))
theorem t_N_day_1 {d : Nat} {w : zW} {Q : zQ} {s1 : Int32} (h : WM d m_N_end 2 [.ref 10, .int s1] w (fun r w' => WP (d + 1) m_N_day 2 [some (.ref 10), none, none, none, none, none] (zpush r []) w' Q)) : WP (d + 1) m_N_day 1 [some (.ref 10), none, none, none, none, none] [.int s1, .ref 10] w Q :=
  zstep e_N_day rfl (zcallI i_N_end (Nat.le_of_ble_eq_true rfl) (Nat.le_of_ble_eq_true rfl) (Nat.le_of_ble_eq_true rfl) rfl h (fun _ _ q => q))
theorem t_N_day_2 {d : Nat} {w : zW} {Q : zQ} {s0 : Int32} (ht : 0 ≤ s0 → WP d m_N_day 4 [some (.ref 10), none, none, none, none, none] [] w Q) (hf : ¬ 0 ≤ s0 → WP d m_N_day 3 [none, some (.int s0), none, none, none, none] [] w Q) : WP d m_N_day 2 [some (.ref 10), none, none, none, none, none] [.int s0] w Q :=
  zstep e_N_day rfl (And.intro (fun z => (zwk (ht z) (zle_s (zle_n (zle_s (zle_s (zle_s (zle_s zle_0)))))))) (fun z => (zwk (hf z) (zle_n (zle_s (zle_s (zle_s (zle_s (zle_s zle_0)))))))))
theorem t_N_day_3 {d : Nat} {w : zW} {Q : zQ} {i1 : Int32} (h : Q (some (.int i1)) w) : WP d m_N_day 3 [none, some (.int i1), none, none, none, none] [] w Q :=
  zstep e_N_day rfl (h)
theorem t_N_day_4 {d : Nat} {w : zW} {Q : zQ}  (h : WP d m_N_day 5 [some (.ref 10), none, some (.int (0 : Int32)), none, none, none] [] w Q) : WP d m_N_day 4 [some (.ref 10), none, none, none, none, none] [] w Q :=
  zstep e_N_day rfl (h)
theorem t_N_day_5 {d : Nat} {w : zW} {Q : zQ} {i2 : Int32} (ht : (gI w 10 14) ≤ i2 → WP d m_N_day 16 [some (.ref 10), none, none, none, none, none] [] w Q) (hf : ¬ (gI w 10 14) ≤ i2 → WP d m_N_day 6 [some (.ref 10), none, some (.int i2), none, none, none] [] w Q) : WP d m_N_day 5 [some (.ref 10), none, some (.int i2), none, none, none] [] w Q :=
  zstep e_N_day rfl (And.intro rfl (And.intro (fun z => (zwk (ht z) (zle_s (zle_s (zle_n (zle_s (zle_s (zle_s zle_0)))))))) (fun z => (hf z))))
theorem t_N_day_6 {d : Nat} {w : zW} {Q : zQ} {i2 : Int32} (c2 : vp_in i2 80) (c6 : vp_in i2 80) (ht : ¬ ((gI w 33 (i2.toNatClampNeg)) / (100 : Int32)) = (100 : Int32) → WP d m_N_day 9 [some (.ref 10), none, some (.int i2), some (.int ((gI w 33 (i2.toNatClampNeg)) / (100 : Int32))), some (.int (zrm (gI w 33 (i2.toNatClampNeg)) (100 : Int32))), none] [] w Q) (hf : ((gI w 33 (i2.toNatClampNeg)) / (100 : Int32)) = (100 : Int32) → WP d m_N_day 7 [some (.ref 10), none, some (.int i2), none, some (.int (zrm (gI w 33 (i2.toNatClampNeg)) (100 : Int32))), none] [] w Q) : WP d m_N_day 6 [some (.ref 10), none, some (.int i2), none, none, none] [] w Q :=
  zstep e_N_day rfl (And.intro rfl (And.intro rfl (And.intro c2 (And.intro (by decide) (And.intro rfl (And.intro rfl (And.intro c6 (And.intro (by decide) (And.intro (fun z => (ht z)) (fun z => (zwk (hf z) (zle_s (zle_s (zle_s (zle_n (zle_s (zle_s zle_0)))))))))))))))))
theorem t_N_day_7 {d : Nat} {w : zW} {Q : zQ} {i2 : Int32} {i4 : Int32} (h : WM d m_N_dig 2 [.ref 10, .int i4] w (fun r w' => WP (d + 1) m_N_day 8 [some (.ref 10), none, some (.int i2), none, none, none] (zpush r []) w' Q)) : WP (d + 1) m_N_day 7 [some (.ref 10), none, some (.int i2), none, some (.int i4), none] [] w Q :=
  zstep e_N_day rfl (zcallI i_N_dig (Nat.le_of_ble_eq_true rfl) (Nat.le_of_ble_eq_true rfl) (Nat.le_of_ble_eq_true rfl) rfl h (fun _ _ q => (zwk q (zle_s (zle_s (zle_s (zle_s (zle_n (zle_s zle_0)))))))))
theorem t_N_day_8 {d : Nat} {w : zW} {Q : zQ} {i2 : Int32} {s0 : Int32} (h : WP d m_N_day 13 [some (.ref 10), none, some (.int i2), none, none, none] [.int s0] w Q) : WP d m_N_day 8 [some (.ref 10), none, some (.int i2), none, none, none] [.int s0] w Q :=
  zstep e_N_day rfl (h)
theorem t_N_day_9 {d : Nat} {w : zW} {Q : zQ} {i2 : Int32} {i3 : Int32} {i4 : Int32} (ht : ¬ i3 = (102 : Int32) → WP d m_N_day 12 [some (.ref 10), none, some (.int i2), none, some (.int i4), none] [] w Q) (hf : i3 = (102 : Int32) → WP d m_N_day 10 [some (.ref 10), none, some (.int i2), none, some (.int i4), none] [] w Q) : WP d m_N_day 9 [some (.ref 10), none, some (.int i2), some (.int i3), some (.int i4), none] [] w Q :=
  zstep e_N_day rfl (And.intro (fun z => (zwk (ht z) (zle_s (zle_s (zle_s (zle_n (zle_s (zle_s zle_0)))))))) (fun z => (zwk (hf z) (zle_s (zle_s (zle_s (zle_n (zle_s (zle_s zle_0)))))))))
theorem t_N_day_10 {d : Nat} {w : zW} {Q : zQ} {i2 : Int32} {i4 : Int32} (h : WM d m_N_fill 3 [.ref 10, .int i4] w (fun r w' => WP (d + 1) m_N_day 11 [some (.ref 10), none, some (.int i2), none, none, none] (zpush r []) w' Q)) : WP (d + 1) m_N_day 10 [some (.ref 10), none, some (.int i2), none, some (.int i4), none] [] w Q :=
  zstep e_N_day rfl (zcallI i_N_fill (Nat.le_of_ble_eq_true rfl) (Nat.le_of_ble_eq_true rfl) (Nat.le_of_ble_eq_true rfl) rfl h (fun _ _ q => (zwk q (zle_s (zle_s (zle_s (zle_s (zle_n (zle_s zle_0)))))))))
theorem t_N_day_11 {d : Nat} {w : zW} {Q : zQ} {i2 : Int32} {s0 : Int32} (h : WP d m_N_day 13 [some (.ref 10), none, some (.int i2), none, none, none] [.int s0] w Q) : WP d m_N_day 11 [some (.ref 10), none, some (.int i2), none, none, none] [.int s0] w Q :=
  zstep e_N_day rfl (h)
theorem t_N_day_12 {d : Nat} {w : zW} {Q : zQ} {i2 : Int32} {i4 : Int32} (h : WM d m_N_roof 2 [.ref 10, .int i4] w (fun r w' => WP (d + 1) m_N_day 13 [some (.ref 10), none, some (.int i2), none, none, none] (zpush r []) w' Q)) : WP (d + 1) m_N_day 12 [some (.ref 10), none, some (.int i2), none, some (.int i4), none] [] w Q :=
  zstep e_N_day rfl (zcallI i_N_roof (Nat.le_of_ble_eq_true rfl) (Nat.le_of_ble_eq_true rfl) (Nat.le_of_ble_eq_true rfl) rfl h (fun _ _ q => (zwk q (zle_s (zle_s (zle_s (zle_s (zle_n (zle_s zle_0)))))))))
theorem t_N_day_13 {d : Nat} {w : zW} {Q : zQ} {i2 : Int32} {s0 : Int32} (ht : 0 ≤ s0 → WP d m_N_day 15 [some (.ref 10), none, some (.int i2), none, none, none] [] w Q) (hf : ¬ 0 ≤ s0 → WP d m_N_day 14 [none, none, some (.int i2), none, none, none] [] w Q) : WP d m_N_day 13 [some (.ref 10), none, some (.int i2), none, none, none] [.int s0] w Q :=
  zstep e_N_day rfl (And.intro (fun z => (zwk (ht z) (zle_s (zle_s (zle_s (zle_s (zle_s (zle_n zle_0)))))))) (fun z => (zwk (hf z) (zle_n (zle_s (zle_s (zle_s (zle_s (zle_n zle_0)))))))))
theorem t_N_day_14 {d : Nat} {w : zW} {Q : zQ} {i2 : Int32} (h : Q (some (.int i2)) w) : WP d m_N_day 14 [none, none, some (.int i2), none, none, none] [] w Q :=
  zstep e_N_day rfl (h)
theorem t_N_day_15 {d : Nat} {w : zW} {Q : zQ} {i2 : Int32} (h : WP d m_N_day 5 [some (.ref 10), none, some (.int (i2 + (1 : Int32))), none, none, none] [] w Q) : WP d m_N_day 15 [some (.ref 10), none, some (.int i2), none, none, none] [] w Q :=
  zstep e_N_day rfl (h)
theorem t_N_day_16 {d : Nat} {w : zW} {Q : zQ}  (h : Q (some (.int (gI w 10 14))) w) : WP d m_N_day 16 [some (.ref 10), none, none, none, none, none] [] w Q :=
  zstep e_N_day rfl (And.intro rfl (h))
theorem t_N_count_0 {d : Nat} {w : zW} {Q : zQ} {i1 : Int32} (h : WM d m_N_look 2 [.ref 10] w (fun r w' => WP (d + 1) m_N_count 1 [some (.ref 10), some (.int i1), none, none] (zpush r []) w' Q)) : WP (d + 1) m_N_count 0 [some (.ref 10), some (.int i1), none, none] [] w Q :=
  zstep e_N_count rfl (zcallI i_N_look (Nat.le_of_ble_eq_true rfl) (Nat.le_of_ble_eq_true rfl) (Nat.le_of_ble_eq_true rfl) rfl h (fun _ _ q => q))
theorem t_N_count_1 {d : Nat} {w : zW} {Q : zQ} {i1 : Int32} (h : WP d m_N_count 2 [some (.ref 10), some (.int i1), some (.int (0 : Int32)), some (.int (0 : Int32))] [] w Q) : WP d m_N_count 1 [some (.ref 10), some (.int i1), none, none] [] w Q :=
  zstep e_N_count rfl (h)
theorem t_N_count_2 {d : Nat} {w : zW} {Q : zQ} {i1 : Int32} {i2 : Int32} {i3 : Int32} (ht : (36 : Int32) ≤ i3 → WP d m_N_count 4 [some (.ref 10), some (.int i1), some (.int i2), none] [] w Q) (hf : ¬ (36 : Int32) ≤ i3 → WP d m_N_count 3 [some (.ref 10), some (.int i1), some (.int i2), some (.int i3)] [] w Q) : WP d m_N_count 2 [some (.ref 10), some (.int i1), some (.int i2), some (.int i3)] [] w Q :=
  zstep e_N_count rfl (And.intro (fun z => (zwk (ht z) (zle_s (zle_s (zle_s (zle_n zle_0)))))) (fun z => (hf z)))
theorem t_N_count_3 {d : Nat} {w : zW} {Q : zQ} {i1 : Int32} {i2 : Int32} {i3 : Int32} (c2 : vp_in i3 36) (h : WP d m_N_count 2 [some (.ref 10), some (.int i1), some (.int (i2 + (gI w 28 (i3.toNatClampNeg)))), some (.int (i3 + (1 : Int32)))] [] w Q) : WP d m_N_count 3 [some (.ref 10), some (.int i1), some (.int i2), some (.int i3)] [] w Q :=
  zstep e_N_count rfl (And.intro rfl (And.intro rfl (And.intro c2 (h))))
theorem t_N_count_4 {d : Nat} {w : zW} {Q : zQ} {i1 : Int32} {i2 : Int32} (h : WM d m_N_findHoles 3 [.ref 10] w (fun r w' => WP (d + 1) m_N_count 5 [some (.ref 10), some (.int i1), some (.int i2), none] (zpush r []) w' Q)) : WP (d + 1) m_N_count 4 [some (.ref 10), some (.int i1), some (.int i2), none] [] w Q :=
  zstep e_N_count rfl (zcallI i_N_findHoles (Nat.le_of_ble_eq_true rfl) (Nat.le_of_ble_eq_true rfl) (Nat.le_of_ble_eq_true rfl) rfl h (fun _ _ q => q))
theorem t_N_count_5 {d : Nat} {w : zW} {Q : zQ} {i1 : Int32} {i2 : Int32} (h0 : i1 = (0 : Int32) → WP d m_N_count 6 [some (.ref 10), none, none, none] [] w Q) (h1 : i1 = (1 : Int32) → WP d m_N_count 7 [some (.ref 10), none, none, none] [] w Q) (h2 : i1 = (2 : Int32) → WP d m_N_count 9 [some (.ref 10), none, none, none] [] w Q) (h3 : i1 = (3 : Int32) → WP d m_N_count 11 [some (.ref 10), none, none, none] [] w Q) (h4 : i1 = (4 : Int32) → WP d m_N_count 12 [some (.ref 10), none, none, none] [] w Q) (h5 : i1 = (5 : Int32) → WP d m_N_count 13 [some (.ref 10), none, none, none] [] w Q) (h6 : i1 = (6 : Int32) → WP d m_N_count 15 [none, none, some (.int i2), none] [] w Q) (hd : ¬ i1 = (0 : Int32) → ¬ i1 = (1 : Int32) → ¬ i1 = (2 : Int32) → ¬ i1 = (3 : Int32) → ¬ i1 = (4 : Int32) → ¬ i1 = (5 : Int32) → ¬ i1 = (6 : Int32) → WP d m_N_count 16 [none, none, none, none] [] w Q) : WP d m_N_count 5 [some (.ref 10), some (.int i1), some (.int i2), none] [] w Q :=
  zstep e_N_count rfl (And.intro (fun z => (zwk (h0 z) (zle_s (zle_n (zle_n (zle_s zle_0)))))) (fun z0 => And.intro (fun z => (zwk (h1 z) (zle_s (zle_n (zle_n (zle_s zle_0)))))) (fun z1 => And.intro (fun z => (zwk (h2 z) (zle_s (zle_n (zle_n (zle_s zle_0)))))) (fun z2 => And.intro (fun z => (zwk (h3 z) (zle_s (zle_n (zle_n (zle_s zle_0)))))) (fun z3 => And.intro (fun z => (zwk (h4 z) (zle_s (zle_n (zle_n (zle_s zle_0)))))) (fun z4 => And.intro (fun z => (zwk (h5 z) (zle_s (zle_n (zle_n (zle_s zle_0)))))) (fun z5 => And.intro (fun z => (zwk (h6 z) (zle_n (zle_n (zle_s (zle_s zle_0)))))) (fun z6 => (zwk (hd z0 z1 z2 z3 z4 z5 z6) (zle_n (zle_n (zle_n (zle_s zle_0)))))))))))))
theorem t_N_count_6 {d : Nat} {w : zW} {Q : zQ}  (h : Q (some (.int (gI w 10 10))) w) : WP d m_N_count 6 [some (.ref 10), none, none, none] [] w Q :=
  zstep e_N_count rfl (And.intro rfl (h))
theorem t_N_count_7 {d : Nat} {w : zW} {Q : zQ}  (h : WM d m_N_ones 5 [.long (gL w 10 7)] w (fun r w' => WP (d + 1) m_N_count 8 [none, none, none, none] (zpush r []) w' Q)) : WP (d + 1) m_N_count 7 [some (.ref 10), none, none, none] [] w Q :=
  zstep e_N_count rfl (And.intro rfl (zcallI i_N_ones (Nat.le_of_ble_eq_true rfl) (Nat.le_of_ble_eq_true rfl) (Nat.le_of_ble_eq_true rfl) trivial h (fun _ _ q => (zwk q (zle_n (zle_s (zle_s (zle_s zle_0))))))))
theorem t_N_count_8 {d : Nat} {w : zW} {Q : zQ} {s0 : Int32} (h : Q (some (.int s0)) w) : WP d m_N_count 8 [none, none, none, none] [.int s0] w Q :=
  zstep e_N_count rfl (h)
theorem t_N_count_9 {d : Nat} {w : zW} {Q : zQ}  (h : WM d m_N_taxOfAll 3 [.ref 10] w (fun r w' => WP (d + 1) m_N_count 10 [none, none, none, none] (zpush r []) w' Q)) : WP (d + 1) m_N_count 9 [some (.ref 10), none, none, none] [] w Q :=
  zstep e_N_count rfl (zcallI i_N_taxOfAll (Nat.le_of_ble_eq_true rfl) (Nat.le_of_ble_eq_true rfl) (Nat.le_of_ble_eq_true rfl) rfl h (fun _ _ q => (zwk q (zle_n (zle_s (zle_s (zle_s zle_0)))))))
theorem t_N_count_10 {d : Nat} {w : zW} {Q : zQ} {s0 : Int32} (h : Q (some (.int s0)) w) : WP d m_N_count 10 [none, none, none, none] [.int s0] w Q :=
  zstep e_N_count rfl (h)
theorem t_N_count_11 {d : Nat} {w : zW} {Q : zQ}  (h : Q (some (.int (gI w 10 5))) w) : WP d m_N_count 11 [some (.ref 10), none, none, none] [] w Q :=
  zstep e_N_count rfl (And.intro rfl (h))
theorem t_N_count_12 {d : Nat} {w : zW} {Q : zQ}  (h : Q (some (.int (gI w 10 3))) w) : WP d m_N_count 12 [some (.ref 10), none, none, none] [] w Q :=
  zstep e_N_count rfl (And.intro rfl (h))
theorem t_N_count_13 {d : Nat} {w : zW} {Q : zQ}  (h : WM d m_N_ones 5 [.long (gL w 10 2)] w (fun r w' => WP (d + 1) m_N_count 14 [none, none, none, none] (zpush r []) w' Q)) : WP (d + 1) m_N_count 13 [some (.ref 10), none, none, none] [] w Q :=
  zstep e_N_count rfl (And.intro rfl (zcallI i_N_ones (Nat.le_of_ble_eq_true rfl) (Nat.le_of_ble_eq_true rfl) (Nat.le_of_ble_eq_true rfl) trivial h (fun _ _ q => (zwk q (zle_n (zle_s (zle_s (zle_s zle_0))))))))
theorem t_N_count_14 {d : Nat} {w : zW} {Q : zQ} {s0 : Int32} (h : Q (some (.int s0)) w) : WP d m_N_count 14 [none, none, none, none] [.int s0] w Q :=
  zstep e_N_count rfl (h)
theorem t_N_count_15 {d : Nat} {w : zW} {Q : zQ} {i2 : Int32} (h : Q (some (.int i2)) w) : WP d m_N_count 15 [none, none, some (.int i2), none] [] w Q :=
  zstep e_N_count rfl (h)
theorem t_N_count_16 {d : Nat} {w : zW} {Q : zQ}  (h : Q (some (.int (-1 : Int32))) w) : WP d m_N_count 16 [none, none, none, none] [] w Q :=
  zstep e_N_count rfl (h)
theorem t_N_owned_0 {d : Nat} {w : zW} {Q : zQ} {i1 : Int32} (h : WP d m_N_owned 1 [some (.ref 10), some (.int i1), some (.long (0 : Int64)), none, some (.int (0 : Int32))] [] w Q) : WP d m_N_owned 0 [some (.ref 10), some (.int i1), none, none, none] [] w Q :=
  zstep e_N_owned rfl (h)
theorem t_N_owned_1 {d : Nat} {w : zW} {Q : zQ} {i1 : Int32} {l2 : Int64} {i4 : Int32} (ht : (36 : Int32) ≤ i4 → WP d m_N_owned 6 [none, none, some (.long l2), none, none] [] w Q) (hf : ¬ (36 : Int32) ≤ i4 → WP d m_N_owned 2 [some (.ref 10), some (.int i1), some (.long l2), none, some (.int i4)] [] w Q) : WP d m_N_owned 1 [some (.ref 10), some (.int i1), some (.long l2), none, some (.int i4)] [] w Q :=
  zstep e_N_owned rfl (And.intro (fun z => (zwk (ht z) (zle_n (zle_n (zle_s (zle_s (zle_n zle_0))))))) (fun z => (hf z)))
theorem t_N_owned_2 {d : Nat} {w : zW} {Q : zQ} {i1 : Int32} {l2 : Int64} {i4 : Int32} (c2 : vp_in i4 36) (ht : ¬ (gI w 29 (i4.toNatClampNeg)) = i1 → WP d m_N_owned 4 [some (.ref 10), some (.int i1), none, none, some (.int i4)] [.long l2] w Q) (hf : (gI w 29 (i4.toNatClampNeg)) = i1 → WP d m_N_owned 3 [some (.ref 10), some (.int i1), none, none, some (.int i4)] [.long l2] w Q) : WP d m_N_owned 2 [some (.ref 10), some (.int i1), some (.long l2), none, some (.int i4)] [] w Q :=
  zstep e_N_owned rfl (And.intro rfl (And.intro rfl (And.intro c2 (And.intro (fun z => (zwk (ht z) (zle_s (zle_s (zle_n (zle_s (zle_s zle_0))))))) (fun z => (zwk (hf z) (zle_s (zle_s (zle_n (zle_s (zle_s zle_0)))))))))))
theorem t_N_owned_3 {d : Nat} {w : zW} {Q : zQ} {i1 : Int32} {i4 : Int32} {u0 : Int64} (h : WP d m_N_owned 5 [some (.ref 10), some (.int i1), none, none, some (.int i4)] [.long (zsl (1 : Int64) i4), .long u0] w Q) : WP d m_N_owned 3 [some (.ref 10), some (.int i1), none, none, some (.int i4)] [.long u0] w Q :=
  zstep e_N_owned rfl (h)
theorem t_N_owned_4 {d : Nat} {w : zW} {Q : zQ} {i1 : Int32} {i4 : Int32} {u0 : Int64} (h : WP d m_N_owned 5 [some (.ref 10), some (.int i1), none, none, some (.int i4)] [.long (0 : Int64), .long u0] w Q) : WP d m_N_owned 4 [some (.ref 10), some (.int i1), none, none, some (.int i4)] [.long u0] w Q :=
  zstep e_N_owned rfl (h)
theorem t_N_owned_5 {d : Nat} {w : zW} {Q : zQ} {i1 : Int32} {i4 : Int32} {u0 : Int64} {u1 : Int64} (h : WP d m_N_owned 1 [some (.ref 10), some (.int i1), some (.long (u0 ||| u1)), none, some (.int (i4 + (1 : Int32)))] [] w Q) : WP d m_N_owned 5 [some (.ref 10), some (.int i1), none, none, some (.int i4)] [.long u1, .long u0] w Q :=
  zstep e_N_owned rfl (h)
theorem t_N_owned_6 {d : Nat} {w : zW} {Q : zQ} {l2 : Int64} (h : Q (some (.long l2)) w) : WP d m_N_owned 6 [none, none, some (.long l2), none, none] [] w Q :=
  zstep e_N_owned rfl (h)
theorem t_N_ownerOf_0 {d : Nat} {w : zW} {Q : zQ} {l1 : Int64} (h : WP d m_N_ownerOf 1 [some (.ref 10), some (.long l1), none, some (.int (4 : Int32)), some (.int (0 : Int32)), some (.int (0 : Int32)), none] [] w Q) : WP d m_N_ownerOf 0 [some (.ref 10), some (.long l1), none, none, none, none, none] [] w Q :=
  zstep e_N_ownerOf rfl (h)
theorem t_N_ownerOf_1 {d : Nat} {w : zW} {Q : zQ} {l1 : Int64} {i3 : Int32} {i4 : Int32} {i5 : Int32} (ht : (4 : Int32) ≤ i5 → WP d m_N_ownerOf 12 [none, none, none, some (.int i3), none, none, none] [] w Q) (hf : ¬ (4 : Int32) ≤ i5 → WP d m_N_ownerOf 2 [some (.ref 10), some (.long l1), none, some (.int i3), some (.int i4), some (.int i5), none] [] w Q) : WP d m_N_ownerOf 1 [some (.ref 10), some (.long l1), none, some (.int i3), some (.int i4), some (.int i5), none] [] w Q :=
  zstep e_N_ownerOf rfl (And.intro (fun z => (zwk (ht z) (zle_n (zle_n (zle_s (zle_s (zle_n (zle_n (zle_s zle_0))))))))) (fun z => (hf z)))
theorem t_N_ownerOf_2 {d : Nat} {w : zW} {Q : zQ} {l1 : Int64} {i3 : Int32} {i4 : Int32} {i5 : Int32} (h : WM d m_N_rimOf 3 [.ref 10, .long l1] w (fun r w' => WP (d + 1) m_N_ownerOf 3 [some (.ref 10), some (.long l1), none, some (.int i3), some (.int i4), some (.int i5), none] (zpush r []) w' Q)) : WP (d + 1) m_N_ownerOf 2 [some (.ref 10), some (.long l1), none, some (.int i3), some (.int i4), some (.int i5), none] [] w Q :=
  zstep e_N_ownerOf rfl (zcallI i_N_rimOf (Nat.le_of_ble_eq_true rfl) (Nat.le_of_ble_eq_true rfl) (Nat.le_of_ble_eq_true rfl) rfl h (fun _ _ q => q))
theorem t_N_ownerOf_3 {d : Nat} {w : zW} {Q : zQ} {l1 : Int64} {i3 : Int32} {i4 : Int32} {i5 : Int32} {u0 : Int64} (h : WM d m_N_owned 5 [.ref 10, .int i5] w (fun r w' => WP (d + 1) m_N_ownerOf 4 [some (.ref 10), some (.long l1), none, some (.int i3), some (.int i4), some (.int i5), none] (zpush r [.long u0]) w' Q)) : WP (d + 1) m_N_ownerOf 3 [some (.ref 10), some (.long l1), none, some (.int i3), some (.int i4), some (.int i5), none] [.long u0] w Q :=
  zstep e_N_ownerOf rfl (zcallI i_N_owned (Nat.le_of_ble_eq_true rfl) (Nat.le_of_ble_eq_true rfl) (Nat.le_of_ble_eq_true rfl) rfl h (fun _ _ q => q))
theorem t_N_ownerOf_4 {d : Nat} {w : zW} {Q : zQ} {l1 : Int64} {i3 : Int32} {i4 : Int32} {i5 : Int32} {u0 : Int64} {u1 : Int64} (h : WM d m_N_ones 5 [.long (u0 &&& u1)] w (fun r w' => WP (d + 1) m_N_ownerOf 5 [some (.ref 10), some (.long l1), none, some (.int i3), some (.int i4), some (.int i5), none] (zpush r []) w' Q)) : WP (d + 1) m_N_ownerOf 4 [some (.ref 10), some (.long l1), none, some (.int i3), some (.int i4), some (.int i5), none] [.long u1, .long u0] w Q :=
  zstep e_N_ownerOf rfl (zcallI i_N_ones (Nat.le_of_ble_eq_true rfl) (Nat.le_of_ble_eq_true rfl) (Nat.le_of_ble_eq_true rfl) trivial h (fun _ _ q => q))
theorem t_N_ownerOf_5 {d : Nat} {w : zW} {Q : zQ} {l1 : Int64} {i3 : Int32} {i4 : Int32} {i5 : Int32} {s0 : Int32} (ht : s0 ≤ i4 → WP d m_N_ownerOf 7 [some (.ref 10), some (.long l1), none, some (.int i3), some (.int i4), some (.int i5), some (.int s0)] [] w Q) (hf : ¬ s0 ≤ i4 → WP d m_N_ownerOf 6 [some (.ref 10), some (.long l1), none, none, some (.int i4), some (.int i5), some (.int s0)] [] w Q) : WP d m_N_ownerOf 5 [some (.ref 10), some (.long l1), none, some (.int i3), some (.int i4), some (.int i5), none] [.int s0] w Q :=
  zstep e_N_ownerOf rfl (And.intro (fun z => (ht z)) (fun z => (zwk (hf z) (zle_s (zle_s (zle_s (zle_n (zle_s (zle_s (zle_s zle_0))))))))))
theorem t_N_ownerOf_6 {d : Nat} {w : zW} {Q : zQ} {l1 : Int64} {i4 : Int32} {i5 : Int32} {i6 : Int32} (h : WP d m_N_ownerOf 8 [some (.ref 10), some (.long l1), none, none, some (.int i4), some (.int i5), some (.int i6)] [.int i5] w Q) : WP d m_N_ownerOf 6 [some (.ref 10), some (.long l1), none, none, some (.int i4), some (.int i5), some (.int i6)] [] w Q :=
  zstep e_N_ownerOf rfl (h)
theorem t_N_ownerOf_7 {d : Nat} {w : zW} {Q : zQ} {l1 : Int64} {i3 : Int32} {i4 : Int32} {i5 : Int32} {i6 : Int32} (h : WP d m_N_ownerOf 8 [some (.ref 10), some (.long l1), none, none, some (.int i4), some (.int i5), some (.int i6)] [.int i3] w Q) : WP d m_N_ownerOf 7 [some (.ref 10), some (.long l1), none, some (.int i3), some (.int i4), some (.int i5), some (.int i6)] [] w Q :=
  zstep e_N_ownerOf rfl ((zwk h (zle_s (zle_s (zle_s (zle_n (zle_s (zle_s (zle_s zle_0)))))))))
theorem t_N_ownerOf_8 {d : Nat} {w : zW} {Q : zQ} {l1 : Int64} {i4 : Int32} {i5 : Int32} {i6 : Int32} {s0 : Int32} (ht : i6 ≤ i4 → WP d m_N_ownerOf 10 [some (.ref 10), some (.long l1), none, some (.int s0), some (.int i4), some (.int i5), none] [] w Q) (hf : ¬ i6 ≤ i4 → WP d m_N_ownerOf 9 [some (.ref 10), some (.long l1), none, some (.int s0), none, some (.int i5), some (.int i6)] [] w Q) : WP d m_N_ownerOf 8 [some (.ref 10), some (.long l1), none, none, some (.int i4), some (.int i5), some (.int i6)] [.int s0] w Q :=
  zstep e_N_ownerOf rfl (And.intro (fun z => (zwk (ht z) (zle_s (zle_s (zle_s (zle_s (zle_s (zle_s (zle_n zle_0))))))))) (fun z => (zwk (hf z) (zle_s (zle_s (zle_s (zle_s (zle_n (zle_s (zle_s zle_0))))))))))
theorem t_N_ownerOf_9 {d : Nat} {w : zW} {Q : zQ} {l1 : Int64} {i3 : Int32} {i5 : Int32} {i6 : Int32} (h : WP d m_N_ownerOf 11 [some (.ref 10), some (.long l1), none, some (.int i3), none, some (.int i5), none] [.int i6] w Q) : WP d m_N_ownerOf 9 [some (.ref 10), some (.long l1), none, some (.int i3), none, some (.int i5), some (.int i6)] [] w Q :=
  zstep e_N_ownerOf rfl ((zwk h (zle_s (zle_s (zle_s (zle_s (zle_s (zle_s (zle_n zle_0)))))))))
theorem t_N_ownerOf_10 {d : Nat} {w : zW} {Q : zQ} {l1 : Int64} {i3 : Int32} {i4 : Int32} {i5 : Int32} (h : WP d m_N_ownerOf 11 [some (.ref 10), some (.long l1), none, some (.int i3), none, some (.int i5), none] [.int i4] w Q) : WP d m_N_ownerOf 10 [some (.ref 10), some (.long l1), none, some (.int i3), some (.int i4), some (.int i5), none] [] w Q :=
  zstep e_N_ownerOf rfl ((zwk h (zle_s (zle_s (zle_s (zle_s (zle_n (zle_s (zle_s zle_0)))))))))
theorem t_N_ownerOf_11 {d : Nat} {w : zW} {Q : zQ} {l1 : Int64} {i3 : Int32} {i5 : Int32} {s0 : Int32} (h : WP d m_N_ownerOf 1 [some (.ref 10), some (.long l1), none, some (.int i3), some (.int s0), some (.int (i5 + (1 : Int32))), none] [] w Q) : WP d m_N_ownerOf 11 [some (.ref 10), some (.long l1), none, some (.int i3), none, some (.int i5), none] [.int s0] w Q :=
  zstep e_N_ownerOf rfl (h)
theorem t_N_ownerOf_12 {d : Nat} {w : zW} {Q : zQ} {i3 : Int32} (h : Q (some (.int i3)) w) : WP d m_N_ownerOf 12 [none, none, none, some (.int i3), none, none, none] [] w Q :=
  zstep e_N_ownerOf rfl (h)
