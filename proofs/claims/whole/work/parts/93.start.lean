/-! ===== the first world ===== -/
def wfI (L : Nat) (xs : Nat → Int32) : Nat → Nat → Int32 := fun o => match o with
  | 1 => fun k => match k with | 5 => 2 | 6 => 1 | _ => 0
  | 2 => fun k => match k with | 5 => 2 | 6 => 1 | _ => 0
  | 10 => fun k => match k with | 3 => 2 | 6 => 1 | _ => 0
  | 12 => zfill 36 4
  | 15 => zfill 36 4
  | 29 => zfill 36 4
  | 39 => zfill 4 (-1)
  | 43 => xs
  | 44 => fun _ => nI L
  | _ => fun _ => 0
def wfW (L : Nat) (xs : Nat → Int32) : zW := (wfI L xs, fun _ _ => 0)
def wfS : zS := (fun _ => 0, fun _ => 4, 0, 2, 1, [])
theorem wf_op : opS wfS = 0 := by decide +kernel
theorem wf_ni : niS wfS = 0 := by decide +kernel
theorem zfill_lt {i j : Nat} {v : Int32} (h : j < i) : zfill i v j = v := by unfold zfill; rw [if_pos h]
theorem wf_RW (L : Nat) (xs : Nat → Int32) : RW (wfW L xs) := by
  refine ⟨wfS, none, [], fun _ => none, ?_, ?_, ?_, ?_, ?_, ?_⟩
  · refine ⟨fun _ _ => Nat.zero_le _, fun _ _ => Nat.le_refl _, SET.zero, fun c h => ?_, by decide, by decide, Nat.zero_le _, fun ea he => absurd he List.not_mem_nil⟩
    rw [show roS wfS = 0 from rfl, bx_0] at h
    cases h
  · refine ⟨fun _ _ => rfl, fun c hc => zfill_lt hc, wf_op.symm, wf_ni.symm, rfl, rfl, rfl, rfl, fun j ea he => by cases he⟩
  · refine ⟨fun _ _ => rfl, fun c hc => zfill_lt hc, rfl, rfl, rfl, rfl, fun j ea he => by cases he⟩
  · exact ⟨rfl, rfl, fun sa h => by cases h⟩
  · exact ⟨Nat.zero_le _, fun c h => absurd h List.not_mem_nil, rfl, rfl, fun j ca he => by cases he⟩
  · intro sa hs
    refine ⟨?_, fun _ _ => rfl⟩
    have h39 : gI (wfW L xs) 39 sa = -1 := zfill_lt hs
    refine ⟨?_, h39⟩
    match sa, hs with
    | 0, _ => rfl
    | 1, _ => rfl
    | 2, _ => rfl
    | 3, _ => rfl
theorem wk_iX5 : (.instantiable RX5 6 : Cond) ∈ zAW := zAW_in (q := (1, 12)) rfl rfl
theorem wk_cX5 : (.classLink RL 7 RX5 : Cond) ∈ zAW := zAW_in (q := (1, 11)) rfl rfl
theorem wk_nX5 : (.initialized RX5 : Cond) ∈ zAW := zAW_in (q := (1, 1)) rfl rfl
theorem wk_mX5 : (.methodLink RL 9 yX5_init : Cond) ∈ zAW := zAW_in (q := (1, 13)) rfl rfl
theorem wk_sX5 : (.instanceMethod yX5_init : Cond) ∈ zAW := zAW_in (q := (1, 14)) rfl rfl
theorem wk_kX5 : (.code yX5_init cX5_init 2 none : Cond) ∈ zAW := zAW_in (q := (1, 15)) rfl rfl
theorem wk_iX6 : (.instantiable RX6 27 : Cond) ∈ zAW := zAW_in (q := (3, 146)) rfl rfl
theorem wk_cX6 : (.classLink RL 10 RX6 : Cond) ∈ zAW := zAW_in (q := (3, 145)) rfl rfl
theorem wk_nX6 : (.initialized RX6 : Cond) ∈ zAW := zAW_in (q := (1, 6)) rfl rfl
theorem wk_mX6 : (.methodLink RL 12 yX6_init : Cond) ∈ zAW := zAW_in (q := (3, 147)) rfl rfl
theorem wk_sX6 : (.instanceMethod yX6_init : Cond) ∈ zAW := zAW_in (q := (3, 148)) rfl rfl
theorem wk_kX6 : (.code yX6_init cX6_init 2 none : Cond) ∈ zAW := zAW_in (q := (3, 149)) rfl rfl
theorem wk_ao : (.arrayOver (.object RX3) : Cond) ∈ lw_tbl := zat_in (q := (1, 92)) rfl
theorem dkL_0 : decode code 0 = .ok (.new 7, 3) := by decide +kernel
theorem dkL_3 : decode code 3 = .ok (.dup, 1) := by decide +kernel
theorem dkL_4 : decode code 4 = .ok (.invokespecial 9, 3) := by decide +kernel
theorem dkL_7 : decode code 7 = .ok (.astore_n 1, 1) := by decide +kernel
theorem dkL_8 : decode code 8 = .ok (.new 10, 3) := by decide +kernel
theorem dkL_11 : decode code 11 = .ok (.dup, 1) := by decide +kernel
theorem dkL_12 : decode code 12 = .ok (.invokespecial 12, 3) := by decide +kernel
theorem dkL_15 : decode code 15 = .ok (.astore_n 2, 1) := by decide +kernel
theorem dkL_16 : decode code 16 = .ok (.iconst 0, 1) := by decide +kernel
theorem dkL_17 : decode code 17 = .ok (.istore_n 3, 1) := by decide +kernel
/-- what the tables say of the classes, in one word -/
theorem zk_arr {args : Array Value} {s : State} {ty : FieldType} (h : (Cond.arrayClass ty).before args s = true) (hra : ∀ cb : ClassId, s.vm.findClass ("[" ++ ty.toString) = some cb → va_RA s cb ty) : ∃ cb : ClassId, ArrOfT s cb ty ∧ va_RA s cb ty := by
  obtain ⟨cb, kA, comp, ha, hb, hc⟩ := Cond.arrayClass_spec h
  exact ⟨cb, fun n z => ⟨fun k h => (by cases h), kA, hb, comp, hc⟩, hra cb ha⟩
theorem zk_arq {s : State} (h : va_AO RX3 s) : ∃ cb : ClassId, ArrOfT s cb (.object RX3) ∧ va_RA s cb (.object RX3) := by
  obtain ⟨comp, cb, kA, ha, hb, hc, hd, he⟩ := Cond.arrayOver_spec h
  exact ⟨cb, fun n z => ⟨fun k h => (by cases h), kA, hc, comp, hd⟩, kA, comp, hc, hd, ha, he⟩
theorem zk_world {args : Array Value} {s : State} (hta : ∀ w ∈ zAW, w.before args s = true) (hao : va_AO RX3 s) : ∃ (D : va_G) (cA : Nat → ClassId), va_K D vwCl (zty cA) s := by
  obtain ⟨c0, f0, h0⟩ := u_known hta kinX0 (hta (.instantiable RX0 9) wk_1_20)
  obtain ⟨ca, fa, ha⟩ := u_known hta kinX1 (hta (.instantiable RX1 7) wk_1_94)
  obtain ⟨cb, fb, hb⟩ := u_known hta kinX3 (hta (.instantiable RX3 4) wk_1_124)
  obtain ⟨cd, fd, hd⟩ := u_known hta kinX4 (hta (.instantiable RX4 6) wk_1_63)
  obtain ⟨ce, fe, he⟩ := u_known hta kinX5 (hta (.instantiable RX5 6) wk_iX5)
  obtain ⟨cf, ff, hf⟩ := u_known hta kinX6 (hta (.instantiable RX6 27) wk_iX6)
  obtain ⟨ga, hga⟩ := zk_arr (hta (.arrayClass .int) wk_1_61) (fun _ h => h)
  obtain ⟨gb, hgb⟩ := zk_arr (hta (.arrayClass .long) wk_1_123) (fun _ h => h)
  obtain ⟨gc, hgc⟩ := zk_arr (hta (.arrayClass .char) wk_1_90) (fun _ h => h)
  obtain ⟨gd, hgd⟩ := zk_arq hao
  refine ⟨(fun k => match k with | 0 => c0 | 1 => ca | 2 => cb | 3 => cd | 4 => ce | _ => cf, fun k => match k with | 0 => f0 | 1 => fa | 2 => fb | 3 => fd | 4 => fe | _ => ff), fun k => match k with | 0 => ga | 1 => gb | 2 => gc | _ => gd, fun k q hq => ?_, fun k q hq => ?_⟩
  · match k, hq with
    | 0, hq => cases hq; exact h0
    | 1, hq => cases hq; exact ha
    | 2, hq => cases hq; exact hb
    | 3, hq => cases hq; exact hd
    | 4, hq => cases hq; exact he
    | 5, hq => cases hq; exact hf
    | _ + 6, hq => cases hq
  · match k, hq with
    | 0, hq => cases hq; exact hga
    | 1, hq => cases hq; exact hgb
    | 2, hq => cases hq; exact hgc
    | 3, hq => cases hq; exact hgd
    | _ + 4, hq => cases hq
theorem zk_blind5 {D : va_G} {cA : Nat → ClassId} {sz : Nat} {av : List Value} {ws : va_W} : FrameBlind (va_Pc av (fun U => U.heap.size = sz ∧ va_P D vwCl ws U.heap ∧ va_K D vwCl (zty cA) U ∧ va_D (fun _ => True) ws ∧ (∀ x ∈ zNW, va_Nw x U) ∧ va_AO RX3 U)) := by
  intro a U g mk hq
  obtain ⟨q0, qa, qP, qK, qD, qN, qO⟩ := hq
  exact ⟨q0, qa, qP, va_K.moved (u := U) (U := U.calling g mk a) (Vm.Alike.refl U.vm) qK, qD, fun x hx => va_Nw.same (u := U) (U := U.calling g mk a) (by
    have := (List.mem_filter.mp hx).2
    cases x <;> first | rfl | exact absurd (show false = true from this) Bool.false_ne_true) rfl (qN x hx), va_AO.moved (u := U) (U := U.calling g mk a) (Vm.Alike.refl U.vm) qO⟩
theorem zk_warmN {s U : State} (hnw : ∀ x ∈ zNW, va_Nw x s) (hW : s.WarmedH U.vm) : ∀ x ∈ zNW, va_Nw x U := fun x hx => by
  have h := (List.mem_filter.mp hx).2
  have h0 := hnw x hx
  cases x <;> first | exact absurd (show false = true from h) Bool.false_ne_true | exact va_Nw.warmF hW h0 | exact va_Nw.warmM hW h0
theorem zk_ofN {A : Array Value} {s : State} (hts : ∀ w ∈ lw_tbl, w.before A s = true) : ∀ x ∈ zNW, va_Nw x s := fun x hx => by
  have h := (List.mem_filter.mp hx).2
  have h0 := hts x (List.mem_filter.mp hx).1
  cases x <;> first | exact absurd (show false = true from h) Bool.false_ne_true | exact va_Nw.of rfl h0
theorem arrV_on {cI : ClassId} {N : Nat} {f g : Nat → Value} (h : ∀ j, j < N → f j = g j) : arrV cI N f = arrV cI N g := by
  unfold arrV
  congr 2
  funext j
  exact h j.val j.2
/-- the addresses of the objects, in their order -/
def wfA (L : List Nat) : Nat → Nat := fun k => L.getD k 0
set_option maxHeartbeats 4000000 in
set_option maxRecDepth 100000 in
theorem wf_zws (cA : Nat → ClassId) (b L : Nat) (xs : Nat → Int32) (q0 q1 q2 q3 q4 q5 q6 q7 q8 q9 q10 q11 q12 q13 q14 q15 q16 q17 q18 q19 q20 q21 q22 q23 q24 q25 q26 r0 r1 r2 r3 r4 r5 r6 r7 r8 r9 r10 r11 r12 r13 r14 r15 : Nat) : ([0, 1, 5, 9, 12, 19, 21, 23, 25, 13, 27, 2, 3, 4, 6, 7, 8, 10, 11, 20, 22, 24, 26, 14, 15, 16, 17, 18, 28, 29, 30, 31, 32, 33, 34, 35, 36, 37, 38, 39, 40, 41, 42] : List Nat).map (fun i => ((kwX5 cA q0 q1 q2 q3 q4 q5 q6 q7 q8 q9 q10 q11 q12 q13 q14 q15 q16 q17 q18 q19 q20 q21 q22 q23 q24 q25 q26).set 12 (q12, .inl (cA 3, 4, .inr (.inr (.inr (.inr (fun j => some (wfA [q0, q1, q5, q9, q12, q19, q21, q23, q25, q13, r0, q2, q3, q4, q6, q7, q8, q10, q11, q20, q22, q24, q26, q14, q15, q16, q17, q18, r1, r2, r3, r4, r5, r6, r7, r8, r9, r10, r11, r12, r13, r14, r15, b] (zre 4 j)))))))) ++ kwX6 cA r0 r1 r2 r3 r4 r5 r6 r7 r8 r9 r10 r11 r12 r13 r14 r15)[i]?) = (zws (wfA [q0, q1, q5, q9, q12, q19, q21, q23, q25, q13, r0, q2, q3, q4, q6, q7, q8, q10, q11, q20, q22, q24, q26, q14, q15, q16, q17, q18, r1, r2, r3, r4, r5, r6, r7, r8, r9, r10, r11, r12, r13, r14, r15, b]) cA (wfW L xs)).map some := rfl
