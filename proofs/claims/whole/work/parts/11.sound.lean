/-! ===== blocks, calls, the machine ===== -/
theorem zzip {α β : Type} : ∀ {a : List α} {b : List β}, a.length = b.length → ∀ q ∈ a, ∃ p, (q, p) ∈ a.zip b
  | [], _, _, q, h => absurd h List.not_mem_nil
  | x :: a, [], h, _, _ => by simp at h
  | x :: a, y :: b, h, q, hq => by
    rcases List.mem_cons.mp hq with rfl | hq
    · exact ⟨y, by simp⟩
    · obtain ⟨p, hp⟩ := zzip (by simpa using h) q hq
      exact ⟨p, by simp [hp]⟩
def zmF (q : zI) : Prop := Cond.code q.1 q.2.1 q.2.2.1 q.2.2.2.1 ∈ zAW ∧ Cond.initialized q.1.cls ∈ zAW ∧ q.1.cls = zcn q.2.2.2.2.1 ∧ plainName q.1.cls = true ∧ (q.2.2.2.2.2.1 = true → Cond.static q.1 ∈ zAW) ∧ (q.2.2.2.2.2.1 = false → Cond.instanceMethod q.1 ∈ zAW ∧ Cond.selects q.1.cls q.1 q.1 ∈ zAW) ∧ (parseMethodDescriptor q.1.desc).map (fun d => d.parameters.length + (match q.2.2.2.2.2.1 with | true => 0 | false => 1)) = some q.2.2.2.2.2.2
theorem zmF_of {a : List zI} {b : List zM4} (hl : a.length = b.length) (h1 : (a.zip b).map (fun q => some (zMw q.1).1) = (a.zip b).map (fun q => zat q.2.1)) (h2 : (a.zip b).map (fun q => some (zMw q.1).2.1) = (a.zip b).map (fun q => zat q.2.2.1))
    (h3 : (a.zip b).map (fun q => some (zMw q.1).2.2.1) = (a.zip b).map (fun q => zat q.2.2.2.1)) (h4 : (a.zip b).map (fun q => match q.1.2.2.2.2.2.1 with | true => none | false => some (zMw q.1).2.2.2) = (a.zip b).map (fun q => match q.1.2.2.2.2.2.1 with | true => none | false => zat q.2.2.2.2)) (hk : a.all zMc = true) : ∀ q ∈ a, zmF q := by
  intro q hq
  obtain ⟨p, hp⟩ := zzip hl q hq
  have e1 := zmap h1 _ hp
  have e2 := zmap h2 _ hp
  have e3 := zmap h3 _ hp
  have e4 := zmap h4 _ hp
  have e5 := List.all_eq_true.mp hk q hq
  unfold zMc at e5
  simp only [Bool.and_eq_true, decide_eq_true_eq] at e5
  dsimp only [zMw] at e1 e2 e3 e4
  refine ⟨zAW_in e1 rfl, zAW_in e2 rfl, e5.1.1, e5.1.2, fun hs => ?_, fun hs => ?_, e5.2⟩
  · rw [hs] at e3
    exact zAW_in e3 rfl
  · rw [hs] at e3 e4
    exact ⟨zAW_in e3 rfl, zAW_in e4 rfl⟩
theorem zmF_at {z : Nat} (h : z < 186) : zmF (zMd z) := by
  have hm : zMd z ∈ zMI_0 ++ (zMI_1 ++ (zMI_2 ++ (zMI_3 ++ (zMI_4 ++ (zMI_5 ++ zMI_6))))) := by
    have hl : (zMI_0 ++ (zMI_1 ++ (zMI_2 ++ (zMI_3 ++ (zMI_4 ++ (zMI_5 ++ zMI_6)))))).length = 186 := by decide +kernel
    have hz : z < (zMI_0 ++ (zMI_1 ++ (zMI_2 ++ (zMI_3 ++ (zMI_4 ++ (zMI_5 ++ zMI_6)))))).length := by omega
    unfold zMd zMI
    rw [List.getD_eq_getElem?_getD, List.getElem?_append_left hz, List.getElem?_eq_getElem hz]
    exact List.getElem_mem hz
  simp only [List.mem_append] at hm
  rcases hm with h | h | h | h | h | h | h
  · exact zmF_of zMI_l0 zMI_a0 zMI_b0 zMI_c0 zMI_d0 zMI_k0 _ h
  · exact zmF_of zMI_l1 zMI_a1 zMI_b1 zMI_c1 zMI_d1 zMI_k1 _ h
  · exact zmF_of zMI_l2 zMI_a2 zMI_b2 zMI_c2 zMI_d2 zMI_k2 _ h
  · exact zmF_of zMI_l3 zMI_a3 zMI_b3 zMI_c3 zMI_d3 zMI_k3 _ h
  · exact zmF_of zMI_l4 zMI_a4 zMI_b4 zMI_c4 zMI_d4 zMI_k4 _ h
  · exact zmF_of zMI_l5 zMI_a5 zMI_b5 zMI_c5 zMI_d5 zMI_k5 _ h
  · exact zmF_of zMI_l6 zMI_a6 zMI_b6 zMI_c6 zMI_d6 zMI_k6 _ h
theorem zml_ok {own idx z : Nat} (h2 : Nat.blt idx 1000 = true) (h : zML.any (fun q => Nat.beq q.1 (own * 1000 + idx) && Nat.beq q.2.1 z) = true) : z < 186 ∧ (Cond.methodLink (zcn own) idx (zMd z).1 ∈ zAW ∨ Cond.methodLinkNest (zcn own) idx (zMd z).1 RX5 ∈ zNW) := by
  simp only [Bool.and_eq_true, List.any_eq_true] at h
  obtain ⟨q, hq, h3, h4⟩ := h
  have e2 : idx < 1000 := Nat.blt_eq.mp h2
  have e3 := Nat.eq_of_beq_eq_true h3
  have e4 := Nat.eq_of_beq_eq_true h4
  have hw := zmap zML_eq q hq
  have hb := Nat.blt_eq.mp (List.all_eq_true.mp zML_lt q hq)
  obtain ⟨k1, k2⟩ := zkey (own := own) e2
  rw [e4] at hb
  refine ⟨hb, ?_⟩
  unfold zMLw at hw
  rw [e3, e4, k1, k2] at hw
  split at hw
  · exact Or.inl (zAW_in hw rfl)
  · exact Or.inr (zNW_in hw rfl)
theorem zcl_ok {own idx : Nat} (h2 : Nat.blt idx 1000 = true) (h : zCL.any (fun q => Nat.beq q.1 (own * 1000 + idx)) = true) : Cond.methodLink (zcn own) idx arraycopyName ∈ zAW := by
  simp only [List.any_eq_true] at h
  obtain ⟨q, hq, h3⟩ := h
  have e2 : idx < 1000 := Nat.blt_eq.mp h2
  have e3 := Nat.eq_of_beq_eq_true h3
  have hw := zmap zCL_eq q hq
  obtain ⟨k1, k2⟩ := zkey (own := own) e2
  rw [e3, k1, k2] at hw
  exact zAW_in hw rfl
theorem zxl_ok {own idx k : Nat} (h2 : Nat.blt idx 1000 = true) (h : zXL.any (fun q => Nat.beq q.1 (own * 1000 + idx) && Nat.beq q.2.1 k) = true) : Cond.methodLink (zcn own) idx (zXn k) ∈ zAW := by
  simp only [Bool.and_eq_true, List.any_eq_true] at h
  obtain ⟨q, hq, h3, h4⟩ := h
  have e2 : idx < 1000 := Nat.blt_eq.mp h2
  have e3 := Nat.eq_of_beq_eq_true h3
  have e4 := Nat.eq_of_beq_eq_true h4
  have hw := zmap zXL_eq q hq
  obtain ⟨k1, k2⟩ := zkey (own := own) e2
  rw [e3, e4, k1, k2] at hw
  exact zAW_in hw rfl
def zPc (y : Nat) : List Nat := (zPG.getD y []).map (fun B => B.1)
def zRet (y pc : Nat) (r : Option Value) : Prop := match r with
  | none => decode (zMd y).2.1 pc = .ok (.return_, 1) ∧ (zMd y).2.2.2.1 = none
  | some (.int v) => decode (zMd y).2.1 pc = .ok (.ireturn, 1) ∧ ((zMd y).2.2.2.1 = some .int ∨ ((zMd y).2.2.2.1 = some .boolean ∧ (v = 0 ∨ v = 1)))
  | some (.long _) => decode (zMd y).2.1 pc = .ok (.lreturn, 1) ∧ (zMd y).2.2.2.1 = some .long
  | _ => False
/-- the judgement on the machine: whoever runs this block, with this world, comes to its end with Q -/
def zSd (l : Launch) (D : va_G) (cA : Nat → ClassId) (ad : Nat → Nat) : zP := fun d y b ls st w Q =>
  ∀ (p : Program) (e : Env) (R : Room) (s : State) (m : MethodId) (args : Array Value) (below : List Frame) (meth : Method) (c : Code) (A : Nat → Prop) (H : Heap) (locs : List Loc) (cells slots : Nat) (sl : Array Slot) (Fin : State → Prop) (pc : Nat),
    (zPc y)[b]? = some pc → zCx p s m args c R cells slots D cA y d → zHp D cA ad A w H → va_S A s.heap H locs → (∀ q, s.heap.size ≤ q → A q) → zXc y ad A s w → zLR ad ls sl → ls.length = (zMd y).2.2.1 →
    (∀ (r : Option Value) (w' : zW) (H' : Heap) (locs' : List Loc) (pc' : Nat) (sl' : Array Slot), Q r w' → zfix w w' → zHp D cA ad A w' H' → va_S A s.heap H' locs' → zRet y pc' r → W p l e R s m args below meth c H' locs' cells slots Fin (F0 m pc' sl' ((zpush r []).map (zv ad)))) →
    W p l e R s m args below meth c H locs cells slots Fin (F0 m pc sl (st.map (zv ad)))
def zrm2 (d : Nat) : Room := { frames := d, cells := 0, slots := 0, locals := 64 * d }
def zQc (D : va_G) (cA : Nat → ClassId) (ad : Nat → Nat) (w : zW) (A : Nat → Prop) (Q : zQ) : Array Value → State → Outcome → State → Prop := fun _ st oc t =>
  (∃ (r : Option Value) (w' : zW), oc = .returned (r.map (zv ad)) ∧ Q r w' ∧ zfix w w' ∧ va_P D vwCl (zws ad cA w') t.heap ∧ va_K D vwCl (zty cA) t ∧ va_D A (zws ad cA w')) ∧ va_F A st t
def zPre (D : va_G) (cA : Nat → ClassId) (ad : Nat → Nat) (w : zW) (sz : Nat) (U : State) : Prop := U.heap.size = sz ∧ va_P D vwCl (zws ad cA w) U.heap ∧ va_K D vwCl (zty cA) U ∧ va_D (fun _ => True) (zws ad cA w) ∧ ∀ x ∈ zNW, va_Nw x U
theorem zPc_0 {z : Nat} (h : z < 186) : (zPc z)[0]? = some 0 := by
  have : ∀ z, z < 186 → (zPc z)[0]? = some 0 := by decide +kernel
  exact this z h
/-- a method's contract out of its first block -/
theorem zMet {l : Launch} {D : va_G} {cA : Nat → ClassId} {ad : Nat → Nat} {d z sz : Nat} {vs : List Value} {w : zW} {Q : zQ} (hz : z < 186) (hv : (zent1 vs).length ≤ (zMd z).2.2.1) (h : zSd l D cA ad d z 0 (zent vs (zMd z).2.2.1) [] w Q) :
    Met l (zMd z).1 (Cond.code (zMd z).1 (zMd z).2.1 (zMd z).2.2.1 (zMd z).2.2.2.1 :: zAW) (zrm2 d) (va_Pc (vs.map (zv ad)) (zPre D cA ad w sz)) (zQc D cA ad w (va_A (zws ad cA w) sz) Q) 0 0 (va_A (zws ad cA w) sz) := by
  obtain ⟨f1, f2, f3, f4, f5, f6, f7⟩ := zmF_at hz
  have hno9 : ¬ (zMd z).2.2.2.2.1 = 9 := by
    have : ∀ z, z < 186 → ¬ (zMd z).2.2.2.2.1 = 9 := by decide +kernel
    exact this z hz
  refine Met.ofW (cc := (zMd z).2.1) (maxL := (zMd z).2.2.1) (ret := (zMd z).2.2.2.1) f4 rfl ?_
  intro p e s m args below meth c s₁ B hml hv2
  obtain ⟨rfl, hsz, hP, hK, hD0, hN⟩ := hv2
  have hr := B.returns
  have hts := atoms_spec B.pre
  have hown : s.vm.findClass (zMd z).1.cls = some m.cls := findClass_of_methodNamed B.named
  have hlocks := B.notSynchronized
  rw [f3] at hown
  subst hsz
  have hD := hD0.self (sz := s.heap.size)
  rw [lg_entry_eq]
  have hlen : (zent vs (zMd z).2.2.1).length = (zMd z).2.2.1 := by simp [zent]; omega
  refine h p e (zrm2 d) s m (vs.map (zv ad)).toArray below meth c (va_A (zws ad cA w) s.heap.size) s.heap [] 0 0 _ _ 0 (zPc_0 hz) ⟨B.exec, B.bytes, hml, hown, fun x hx => hts x (List.mem_cons_of_mem _ hx), hN, hK, ⟨Nat.le_refl _, Nat.le_refl _⟩, Nat.le_refl _, Nat.le_refl _⟩ ⟨hP, hD⟩ va_S.rf (fun q hq => Or.inr hq) (fun q => absurd q hno9) (zent_LR hv) hlen ?_
  intro r w' H' locs' pc' sl' hQ hfx hH hS hret
  have fin : ∀ t : State, t.heap = H' → s.WarmedH t.vm → zQc D cA ad w (va_A (zws ad cA w) s.heap.size) Q (vs.map (zv ad)).toArray s (.returned (r.map (zv ad))) t := fun t ht hW => ⟨⟨r, w', rfl, hQ, hfx, by rw [ht]; exact hH.1, va_K.moved hW.alike hK, hH.2⟩, hS.F ht⟩
  unfold zRet at hret
  split at hret
  · rw [hret.2] at hr
    exact W.vret B.exec B.bytes hr fin hS.2.2 hret.1
  · rcases hret.2 with e | ⟨e, h01⟩
    · rw [e] at hr
      exact W.iret B.exec B.bytes hr fin hS.2.2 hret.1
    · rw [e] at hr
      exact W.zret B.exec B.bytes hr (zbool_nar h01).1 fin hS.2.2 hret.1
  · rw [hret.2] at hr
    exact W.lret B.exec B.bytes hr fin hS.2.2 hret.1
  · exact hret.elim
