/-! THE CLAIM OUT OF ONE WALK OF THE LAW'S BODY. Your part is whole_start (and what it stands on); all else here is the same for every law, but numbers. -/
def R_law : String := "HoleCountyLaw"
def lw_P (b : Addr) (xs : List Int32) (args : Array Value) (s : State) : Prop := args = #[.ref b] ∧ s.IntsAt b xs ∧ xs.length ≤ 384 ∧ (Jvm.Cond.and given_1 narrow_1).before args s = true
def lw_Q (_ : Array Value) (s : State) (o : Outcome) (t : State) : Prop := o = .returned (some (.int 1)) ∧ Framed s o t [] 600000 7302250
def lw_Z (below : List Frame) (a : Array Value) (s : State) : State → Prop := fun t => ∃ o, t.status = .running ∧ Ended t below o ∧ lw_Q a s o t
/-- the law's own end, with 1 on the stack, nothing written that was there before, its room as the claim has it -/
theorem lw_ret {p : Program} {l : Launch} {e : Env} {s : State} {m : MethodId} {below : List Frame} {meth : Method} {c : Code} {b : Nat} (hx : p.tables.exec = Jvm.exec) (hb : c.code = code) (hr : meth.sig.returnType = ret) (hlocks : meth.locks = false) {pc : Nat} {H : Heap} {ls : Array Slot} (hdg : decode code pc = .ok (.ireturn, 1)) : W p l e room_1 s m #[Value.ref b] below meth c H [] 600000 7302250 (lw_Z below #[Value.ref b] s) (F0 m pc ls [.int 1]) := by
  intro T hT X
  obtain ⟨fs, hret, hrun, hended, hW, hframe⟩ := X.leave (v := some (.int 1)) (hlocks := hlocks) (fun h => by rw [hr] at h; cases h)
  have hmeth' : T.vm.method? m = some meth := X.method'
  refine ⟨T.setFrames fs, ?_, .returned (some (.int 1)), hrun, hended, rfl, ⟨_, rfl⟩, hW, hframe⟩
  jvm_step X.here [X.here.top, hx, hb, hdg, hmeth', hr, ret, narrow_b1]
  (try refine ⟨rfl, ?_⟩); (try refine ⟨rfl, ?_⟩)
  first | (intro acts; rw [hret _ acts rfl rfl rfl]) | rw [hret _ _ rfl rfl rfl]
  exact Steps.refl _
/-- what holds at the law's entry: the machine, the code, the tables' words (any of lw_tbl by 'hts w (by decide +kernel)'), the script of L ints xs at the cell b, what the Statement gives of the start (any of its parts by flat_of_before) -/
def lw_At (p : Program) (s : State) (m : MethodId) (meth : Method) (c : Code) (b L : Nat) (xs : Nat → Int32) : Prop :=
  p.tables.exec = Jvm.exec ∧ c.code = code ∧ meth.sig.returnType = ret ∧ c.maxLocals = 4 ∧ s.vm.findClass R_law = some m.cls ∧ (∀ w ∈ lw_tbl, w.before #[Value.ref b] s = true) ∧ va_X b L xs s s.heap ∧ b < s.heap.size ∧ meth.locks = false ∧ (Jvm.Cond.and given_1 narrow_1).before #[Value.ref b] s = true
set_option maxHeartbeats 4000000 in
set_option maxRecDepth 100000 in
theorem ws_start (hall : ∀ y, y < 187 → zchkM y (zPG.getD y []) = true) {p : Program} {e : Env} {s : State} {m : MethodId} {below : List Frame} {meth : Method} {c : Code} (l : Launch) {b L : Nat} {xs : Nat → Int32} (hL : L ≤ 384) (CC : lw_At p s m meth c b L xs) : W p l e room_1 s m #[Value.ref b] below meth c s.heap [] 0 0 (lw_Z below #[Value.ref b] s) (entryFrame m ([Value.ref b] : List Value).toArray 4) := by
  obtain ⟨hx, hb, hr, hml, hown, hts, hX, hbl, hlocks, hgv⟩ := CC
  have hta : ∀ w ∈ zAW, w.before #[Value.ref b] s = true := fun w h => hts w (List.mem_filter.mp h).1
  have hnw : ∀ x ∈ zNW, va_Nw x s := zk_ofN hts
  have hao : va_AO RX3 s := va_AO.of (hts _ wk_ao)
  obtain ⟨D, cA, hK⟩ := zk_world hta hao
  generalize hAe : (fun q : Nat => s.heap.size ≤ q) = A
  have hA : ∀ q : Nat, s.heap.size ≤ q → A q := fun q h => by rw [← hAe]; exact h
  have hA2 : ∀ q : Nat, A q → s.heap.size ≤ q := fun q h => by rw [← hAe] at h; exact h
  have hS : va_S A s.heap s.heap [] := va_S.rf
  have hP : va_P D vwCl [] s.heap := fun k q hq => by cases hq
  have hD : va_D A [] := ⟨fun i j pa qa hp => (by cases hp), fun k q hq => (by cases hq)⟩
  have hl := lv_entry ([.ref b]) (n := 4) (Nat.le_of_ble_eq_true rfl)
  rw [lg_entry_eq]
  generalize (lg_sl ([.ref b]) ++ List.replicate (4 - (lg_sl ([.ref b])).length) Slot.unset).toArray = ls at hl ⊢
  have hl : lv_has ls 4 [(0, .ref b)] := hl
  refine va_new (ci := 4) (fs := kdX5) (C := RX5) (T := TX5) (N := 6) hx hb hta kinX5 tyX5 tyX5_ok hown (hta (.classLink RL 7 RX5) wk_cX5) (hta (.instantiable RX5 6) wk_iX5) (hta (.initialized RX5) wk_nX5) hK hP hD hS hA rfl kdX5_ok (Nat.le_of_ble_eq_true rfl) (Nat.le_of_ble_eq_true rfl) dkL_0 (fun q0 H hP hD hS => ?_)
  have hP : va_P D vwCl [(q0, .inr (4, kdX5))] H := hP
  have hD : va_D A [(q0, .inr (4, kdX5))] := hD
  refine W.widen (k := 1) (n := 6) (Nat.le_of_ble_eq_true rfl) (Nat.le_of_ble_eq_true rfl) ?_
  refine lv_dup hx hb dkL_3 rfl ?_
  have hFc := va_free (wc := [(q0, .inr (4, kdX5))]) hD hS hA [0] rfl
  refine va_callv (va_runI (As := []) (rest := [.ref q0]) ⟨hx, hb, hml, hown, hta⟩ (k_X5 l D cA q0 H.size) ⟨callB_of 0 hta (zk_good wk_kX5) rfl rfl rfl (hta (.initialized RX5) wk_nX5) (hta (.methodLink RL 9 yX5_init) wk_mX5) ⟨by decide +kernel, by decide +kernel, by decide +kernel⟩ ⟨Nat.le_of_ble_eq_true rfl, Nat.le_of_ble_eq_true rfl⟩, rfl, hta (.instanceMethod yX5_init) wk_sX5⟩ ⟨zk_blind5, fun U hU hW => ⟨rfl, by rw [hU], by rw [hU]; exact hP, va_K.moved hW.alike hK, hD.weaken (fun _ _ _ _ => trivial), zk_warmN hnw hW, va_AO.moved hW.alike hao⟩⟩ rfl rfl hl.1 rfl (lv_room (Nat.le_of_ble_eq_true rfl)) dkL_4 ⟨Nat.le_of_ble_eq_true rfl, Nat.le_of_ble_eq_true rfl⟩) hS (fun q _ h => hFc q h) hFc (fun u t Ha locs ht hvm _ hB hza hka hS => ?_)
  obtain ⟨q1, q2, q3, q4, q5, q6, q7, q8, q9, q10, q11, q12, q13, q14, q15, q16, q17, q18, q19, q20, q21, q22, q23, q24, q25, q26, hPa, hKa, hDa⟩ := hB
  rw [ht] at hPa
  have hP : va_P D vwCl (kwX5 cA q0 q1 q2 q3 q4 q5 q6 q7 q8 q9 q10 q11 q12 q13 q14 q15 q16 q17 q18 q19 q20 q21 q22 q23 q24 q25 q26) Ha := hPa
  have hD : va_D A (kwX5 cA q0 q1 q2 q3 q4 q5 q6 q7 q8 q9 q10 q11 q12 q13 q14 q15 q16 q17 q18 q19 q20 q21 q22 q23 q24 q25 q26) := hDa.weaken (fun k q _ h => hFc _ h)
  clear hPa hKa hDa hFc hka hza ht
  generalize Ha = H at hP hS ⊢
  generalize hwe : kwX5 cA q0 q1 q2 q3 q4 q5 q6 q7 q8 q9 q10 q11 q12 q13 q14 q15 q16 q17 q18 q19 q20 q21 q22 q23 q24 q25 q26 = wc at hP hD
  refine W.widen (k := 27) (n := 886) (Nat.le_of_ble_eq_true rfl) (Nat.le_of_ble_eq_true rfl) ?_
  refine lv_astore_n (lv' := [(1, .ref q0), (0, .ref b)]) hx hb dkL_7 rfl hl (by decide) rfl (fun ls hl => ?_)
  refine va_new (ci := 5) (fs := kdX6) (C := RX6) (T := TX6) (N := 27) hx hb hta kinX6 tyX6 tyX6_ok hown (hta (.classLink RL 10 RX6) wk_cX6) (hta (.instantiable RX6 27) wk_iX6) (hta (.initialized RX6) wk_nX6) hK hP hD hS hA rfl kdX6_ok (Nat.le_of_ble_eq_true rfl) (Nat.le_of_ble_eq_true rfl) dkL_8 (fun r0 H hP hD hS => ?_)
  refine W.widen (k := 28) (n := 913) (Nat.le_of_ble_eq_true rfl) (Nat.le_of_ble_eq_true rfl) ?_
  refine lv_dup hx hb dkL_11 rfl ?_
  have hwl : wc.length = 27 := by rw [← hwe]; rfl
  have h27 : (wc ++ [(r0, .inr (5, kdX6))])[27]? = some (r0, .inr (5, kdX6)) := by rw [← hwe]; rfl
  have hPc := hP.sub (ws' := [(r0, .inr (5, kdX6))]) [27] (by simp only [List.filterMap_cons, List.filterMap_nil, h27])
  have hDc := hD.sub (ws' := [(r0, .inr (5, kdX6))]) [27] (by decide) (by simp only [List.map_cons, List.map_nil, h27])
  have hFc := va_free (wc := [(r0, .inr (5, kdX6))]) hD hS hA [27] (by simp only [List.map_cons, List.map_nil, h27])
  refine va_callv (va_runI (As := []) (rest := [.ref r0]) ⟨hx, hb, hml, hown, hta⟩ (k_X6 l D cA r0 H.size) ⟨callB_of 0 hta (zk_good wk_kX6) rfl rfl rfl (hta (.initialized RX6) wk_nX6) (hta (.methodLink RL 12 yX6_init) wk_mX6) ⟨by decide +kernel, by decide +kernel, by decide +kernel⟩ ⟨Nat.le_of_ble_eq_true rfl, Nat.le_of_ble_eq_true rfl⟩, rfl, hta (.instanceMethod yX6_init) wk_sX6⟩ ⟨zk_blind, fun U hU hW => ⟨rfl, by rw [hU], by rw [hU]; exact hPc, va_K.moved hW.alike hK, hDc.weaken (fun _ _ _ _ => trivial)⟩⟩ rfl rfl hl.1 rfl (lv_room (Nat.le_of_ble_eq_true rfl)) dkL_12 ⟨Nat.le_of_ble_eq_true rfl, Nat.le_of_ble_eq_true rfl⟩) hS (fun q _ h => hFc q h) hFc (fun u t Ha locs ht hvm _ hB hza hka hS => ?_)
  obtain ⟨r1, r2, r3, r4, r5, r6, r7, r8, r9, r10, r11, r12, r13, r14, r15, hPa, hKa, hDa⟩ := hB
  rw [ht] at hPa
  obtain ⟨hP, hD⟩ := va_join (wr := wc) (w1 := kwX6 cA r0 r1 r2 r3 r4 r5 r6 r7 r8 r9 r10 r11 r12 r13 r14 r15) hP hD [27] (List.range 27) (by simp only [List.map_cons, List.map_nil, h27]) (by rw [← hwe]; rfl) (by decide) (by decide) hka hFc hPa hDa
  clear hPa hKa hDa hFc hPc hDc hka hza ht
  generalize Ha = H at hP hS ⊢
  refine W.widen (k := 43) (n := 1899) (Nat.le_of_ble_eq_true rfl) (Nat.le_of_ble_eq_true rfl) ?_
  refine lv_astore_n (lv' := [(2, .ref r0), (1, .ref q0), (0, .ref b)]) hx hb dkL_15 rfl hl (by decide) rfl (fun ls hl => ?_)
  refine lv_iconst (v := 0) hx hb dkL_16 (by decide) ?_
  refine lv_istore_n (lv' := [(3, .int 0), (2, .ref r0), (1, .ref q0), (0, .ref b)]) hx hb dkL_17 rfl hl (by decide) rfl (fun ls hl => ?_)
  have h12 : (wc ++ kwX6 cA r0 r1 r2 r3 r4 r5 r6 r7 r8 r9 r10 r11 r12 r13 r14 r15)[12]? = some (q12, .inl (cA 3, 4, .inr (.inr (.inr (.inr (va_up (va_up (va_up (va_up (fun _ => none) 0 (some q19)) 1 (some q21)) 2 (some q23)) 3 (some q25))))))) := by rw [← hwe]; rfl
  generalize hade : wfA [q0, q1, q5, q9, q12, q19, q21, q23, q25, q13, r0, q2, q3, q4, q6, q7, q8, q10, q11, q20, q22, q24, q26, q14, q15, q16, q17, q18, r1, r2, r3, r4, r5, r6, r7, r8, r9, r10, r11, r12, r13, r14, r15, b] = ad
  have had : ∀ j, j < 4 → ad (zre 4 j) = [q19, q21, q23, q25].getD j 0 := fun j hj => by
    rw [← hade]
    match j, hj with
    | 0, _ => rfl
    | 1, _ => rfl
    | 2, _ => rfl
    | 3, _ => rfl
  have hPs : va_P D vwCl ((wc ++ kwX6 cA r0 r1 r2 r3 r4 r5 r6 r7 r8 r9 r10 r11 r12 r13 r14 r15).set 12 (q12, .inl (cA 3, 4, .inr (.inr (.inr (.inr (fun j => some (ad (zre 4 j))))))))) H := by
    refine hP.set hD h12 ?_ (fun _ _ => rfl)
    have hz : H[q12]? = some (vp_cell (cA 3) (4, .inr (.inr (.inr (.inr (va_up (va_up (va_up (va_up (fun _ => none) 0 (some q19)) 1 (some q21)) 2 (some q23)) 3 (some q25))))))) := hP 12 _ h12
    show H[q12]? = some (vp_cell (cA 3) (4, .inr (.inr (.inr (.inr (fun j => some (ad (zre 4 j))))))))
    rw [hz, vp_cell_q, vp_cell_q]
    refine congrArg some (arrV_on (fun j hj => ?_))
    rw [had j hj]
    match j, hj with
    | 0, _ => rfl
    | 1, _ => rfl
    | 2, _ => rfl
    | 3, _ => rfl
  have hDs : va_D A ((wc ++ kwX6 cA r0 r1 r2 r3 r4 r5 r6 r7 r8 r9 r10 r11 r12 r13 r14 r15).set 12 (q12, .inl (cA 3, 4, .inr (.inr (.inr (.inr (fun j => some (ad (zre 4 j))))))))) := hD.set h12
  have hse : (wc ++ kwX6 cA r0 r1 r2 r3 r4 r5 r6 r7 r8 r9 r10 r11 r12 r13 r14 r15).set 12 (q12, .inl (cA 3, 4, .inr (.inr (.inr (.inr (fun j => some (ad (zre 4 j)))))))) = wc.set 12 (q12, .inl (cA 3, 4, .inr (.inr (.inr (.inr (fun j => some (ad (zre 4 j)))))))) ++ kwX6 cA r0 r1 r2 r3 r4 r5 r6 r7 r8 r9 r10 r11 r12 r13 r14 r15 := List.set_append_left _ _ (by rw [hwl]; decide)
  have hw0 := wf_zws cA b L xs q0 q1 q2 q3 q4 q5 q6 q7 q8 q9 q10 q11 q12 q13 q14 q15 q16 q17 q18 q19 q20 q21 q22 q23 q24 q25 q26 r0 r1 r2 r3 r4 r5 r6 r7 r8 r9 r10 r11 r12 r13 r14 r15
  rw [hade, hwe, ← hse] at hw0
  have hDz : va_D A (zws ad cA (wfW L xs)) := hDs.sub _ (by decide) hw0
  have hPz : va_P D vwCl (zws ad cA (wfW L xs)) H := by
    intro k q hq
    have hk : ((zws ad cA (wfW L xs)).map some)[k]? = some (some q) := by rw [List.getElem?_map, hq]; rfl
    rw [← hw0, List.getElem?_map] at hk
    cases hi : ([0, 1, 5, 9, 12, 19, 21, 23, 25, 13, 27, 2, 3, 4, 6, 7, 8, 10, 11, 20, 22, 24, 26, 14, 15, 16, 17, 18, 28, 29, 30, 31, 32, 33, 34, 35, 36, 37, 38, 39, 40, 41, 42] : List Nat)[k]? with
    | none => rw [hi] at hk; cases hk
    | some i => rw [hi] at hk; exact hPs i q (Option.some.inj hk)
  have hb43 : ad 43 = b := by rw [← hade]; rfl
  have hq0 : ad 0 = q0 := by rw [← hade]; rfl
  have hr0 : ad 10 = r0 := by rw [← hade]; rfl
  have hnb : ¬ A b := fun h => absurd (hA2 b h) (Nat.not_le.mpr hbl)
  have hlaw := law_loop (d := 0) (Q := fun r _ => r = some (.int 1)) hL (fun _ => rfl) 65 0 (wfW L xs) (by omega) (by omega) (wf_RW L xs) rfl
  have hrun := hlaw (zSd l D cA ad) (zsound hall rfl l D cA ad)
  refine hrun p e room_1 s m #[Value.ref b] below meth c A H _ 43 1899 ls _ 18 rfl ⟨hx, hb, hml, hown, hta, hnw, hK, ⟨by decide, by decide⟩, by decide, by decide⟩ ⟨hPz, hDz⟩ hS hA (fun _ => ⟨L, xs, by rw [hb43]; exact hX, by rw [hb43]; exact hbl, by rw [hb43]; exact hnb, by omega, rfl, fun _ _ => rfl⟩) ⟨hl.1, hl.2.1, fun i v hv => ?_⟩ rfl ?_
  · match i, hv with
    | 0, hv => cases hv; show ls[0]? = some (.val (.ref (ad 43))); rw [hb43]; exact lv_at hl 3 rfl
    | 1, hv => cases hv; show ls[1]? = some (.val (.ref (ad 0))); rw [hq0]; exact lv_at hl 2 rfl
    | 2, hv => cases hv; show ls[2]? = some (.val (.ref (ad 10))); rw [hr0]; exact lv_at hl 1 rfl
    | 3, hv => cases hv; exact lv_at hl 0 rfl
    | _ + 4, hv => cases hv
  · intro r wz Hz lz pz sz hq _ _ hSz hret
    have hq : r = some (.int 1) := hq
    subst hq
    refine va_forget (fun q hqm => hA2 _ (hSz.2.2 q hqm)) ?_
    refine W.widen (k := 600000) (n := 7302250) (by decide) (by decide) ?_
    exact lw_ret hx hb hr hlocks hret.1
