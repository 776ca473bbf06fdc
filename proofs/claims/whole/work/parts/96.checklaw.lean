/-! ===== the law's blocks ===== -/
set_option maxRecDepth 100000 in
theorem zk_L_law_0 : zp_L_law_0.all (zchkB 9 (some .boolean) cL_law zpc_L_law) = true := by decide +kernel
set_option maxRecDepth 100000 in
theorem zk_L_law_1 : zp_L_law_1.all (zchkB 9 (some .boolean) cL_law zpc_L_law) = true := by decide +kernel
set_option maxRecDepth 100000 in
theorem zk_L_law_2 : zp_L_law_2.all (zchkB 9 (some .boolean) cL_law zpc_L_law) = true := by decide +kernel
set_option maxRecDepth 100000 in
theorem zk_L_law_3 : zp_L_law_3.all (zchkB 9 (some .boolean) cL_law zpc_L_law) = true := by decide +kernel
set_option maxRecDepth 100000 in
theorem zk_L_law_4 : zp_L_law_4.all (zchkB 9 (some .boolean) cL_law zpc_L_law) = true := by decide +kernel
set_option maxRecDepth 100000 in
theorem zk_L_law_5 : zp_L_law_5.all (zchkB 9 (some .boolean) cL_law zpc_L_law) = true := by decide +kernel
set_option maxRecDepth 100000 in
theorem zk_L_law_6 : zp_L_law_6.all (zchkB 9 (some .boolean) cL_law zpc_L_law) = true := by decide +kernel
set_option maxRecDepth 100000 in
theorem zk_L_law_7 : zp_L_law_7.all (zchkB 9 (some .boolean) cL_law zpc_L_law) = true := by decide +kernel
set_option maxRecDepth 100000 in
theorem zk_L_law_8 : zp_L_law_8.all (zchkB 9 (some .boolean) cL_law zpc_L_law) = true := by decide +kernel
set_option maxRecDepth 100000 in
theorem zk_L_law_9 : zp_L_law_9.all (zchkB 9 (some .boolean) cL_law zpc_L_law) = true := by decide +kernel
set_option maxRecDepth 100000 in
theorem zk_L_law_10 : zp_L_law_10.all (zchkB 9 (some .boolean) cL_law zpc_L_law) = true := by decide +kernel
set_option maxRecDepth 100000 in
theorem zk_L_law_11 : zp_L_law_11.all (zchkB 9 (some .boolean) cL_law zpc_L_law) = true := by decide +kernel
set_option maxRecDepth 100000 in
theorem zk_L_law_12 : zp_L_law_12.all (zchkB 9 (some .boolean) cL_law zpc_L_law) = true := by decide +kernel
set_option maxRecDepth 100000 in
theorem zk_L_law_13 : zp_L_law_13.all (zchkB 9 (some .boolean) cL_law zpc_L_law) = true := by decide +kernel
set_option maxRecDepth 100000 in
theorem zk_L_law_14 : zp_L_law_14.all (zchkB 9 (some .boolean) cL_law zpc_L_law) = true := by decide +kernel
set_option maxRecDepth 100000 in
theorem zk_L_law_15 : zp_L_law_15.all (zchkB 9 (some .boolean) cL_law zpc_L_law) = true := by decide +kernel
set_option maxRecDepth 100000 in
theorem zk_L_law_16 : zp_L_law_16.all (zchkB 9 (some .boolean) cL_law zpc_L_law) = true := by decide +kernel
set_option maxRecDepth 100000 in
theorem zk_L_law_17 : zp_L_law_17.all (zchkB 9 (some .boolean) cL_law zpc_L_law) = true := by decide +kernel
set_option maxRecDepth 100000 in
theorem zk_L_law_18 : zp_L_law_18.all (zchkB 9 (some .boolean) cL_law zpc_L_law) = true := by decide +kernel
set_option maxRecDepth 100000 in
theorem zk_L_law_19 : zp_L_law_19.all (zchkB 9 (some .boolean) cL_law zpc_L_law) = true := by decide +kernel
set_option maxRecDepth 100000 in
theorem zk_L_law_20 : zp_L_law_20.all (zchkB 9 (some .boolean) cL_law zpc_L_law) = true := by decide +kernel
set_option maxRecDepth 100000 in
theorem zk_L_law_21 : zp_L_law_21.all (zchkB 9 (some .boolean) cL_law zpc_L_law) = true := by decide +kernel
set_option maxRecDepth 100000 in
theorem zk_L_law_22 : zp_L_law_22.all (zchkB 9 (some .boolean) cL_law zpc_L_law) = true := by decide +kernel
set_option maxRecDepth 100000 in
theorem zk_L_law_23 : zp_L_law_23.all (zchkB 9 (some .boolean) cL_law zpc_L_law) = true := by decide +kernel
set_option maxRecDepth 100000 in
theorem zk_L_law_24 : zp_L_law_24.all (zchkB 9 (some .boolean) cL_law zpc_L_law) = true := by decide +kernel
set_option maxRecDepth 100000 in
theorem zk_L_law_25 : zp_L_law_25.all (zchkB 9 (some .boolean) cL_law zpc_L_law) = true := by decide +kernel
set_option maxRecDepth 100000 in
theorem zpc_law : zp_L_law.map (fun B => B.1) = zpc_L_law := rfl
set_option maxRecDepth 100000 in
theorem zMd_law : zMd 186 = (yL_law, cL_law, 4, some .boolean, 9, true, 1) := rfl
theorem zk_L_law : zchkM 186 zp_L_law = true := by
  unfold zchkM
  rw [zpc_law, zMd_law]
  show List.all (zp_L_law_0 ++ (zp_L_law_1 ++ (zp_L_law_2 ++ (zp_L_law_3 ++ (zp_L_law_4 ++ (zp_L_law_5 ++ (zp_L_law_6 ++ (zp_L_law_7 ++ (zp_L_law_8 ++ (zp_L_law_9 ++ (zp_L_law_10 ++ (zp_L_law_11 ++ (zp_L_law_12 ++ (zp_L_law_13 ++ (zp_L_law_14 ++ (zp_L_law_15 ++ (zp_L_law_16 ++ (zp_L_law_17 ++ (zp_L_law_18 ++ (zp_L_law_19 ++ (zp_L_law_20 ++ (zp_L_law_21 ++ (zp_L_law_22 ++ (zp_L_law_23 ++ (zp_L_law_24 ++ (zp_L_law_25)))))))))))))))))))))))))) _ = true
  simp only [List.all_append, Bool.and_eq_true]
  exact ⟨zk_L_law_0, ⟨zk_L_law_1, ⟨zk_L_law_2, ⟨zk_L_law_3, ⟨zk_L_law_4, ⟨zk_L_law_5, ⟨zk_L_law_6, ⟨zk_L_law_7, ⟨zk_L_law_8, ⟨zk_L_law_9, ⟨zk_L_law_10, ⟨zk_L_law_11, ⟨zk_L_law_12, ⟨zk_L_law_13, ⟨zk_L_law_14, ⟨zk_L_law_15, ⟨zk_L_law_16, ⟨zk_L_law_17, ⟨zk_L_law_18, ⟨zk_L_law_19, ⟨zk_L_law_20, ⟨zk_L_law_21, ⟨zk_L_law_22, ⟨zk_L_law_23, ⟨zk_L_law_24, zk_L_law_25⟩⟩⟩⟩⟩⟩⟩⟩⟩⟩⟩⟩⟩⟩⟩⟩⟩⟩⟩⟩⟩⟩⟩⟩⟩
