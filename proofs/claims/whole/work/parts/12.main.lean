section ZMN
variable {p : Program} {l : Launch} {e : Env} {R : Room} {s : State} {m : MethodId} {args : Array Value} {below : List Frame} {meth : Method} {c : Code} {Fin : State → Prop} {cells slots : Nat} {D : va_G} {cA : Nat → ClassId} {ad : Nat → Nat} {A : Nat → Prop} {y d : Nat}
theorem zPre_blind {w : zW} {sz : Nat} {vs : List Value} : FrameBlind (va_Pc vs (zPre D cA ad w sz)) := by
  intro a U g mk hq
  obtain ⟨q0, q1, qP, qK, qD, qN⟩ := hq
  exact ⟨q0, q1, qP, va_K.moved (u := U) (U := U.calling g mk a) (Vm.Alike.refl U.vm) qK, qD, fun x hx => va_Nw.same (u := U) (U := U.calling g mk a) (by
    have := (List.mem_filter.mp hx).2
    cases x <;> first | rfl | exact absurd (show false = true from this) Bool.false_ne_true) rfl (qN x hx)⟩
theorem zPre_warm {w : zW} {H : Heap} (hN : ∀ x ∈ zNW, va_Nw x s) (hK : va_K D vwCl (zty cA) s) (hH : zHp D cA ad A w H) (U : State) (hU : U.heap = H) (hW : s.WarmedH U.vm) : zPre D cA ad w H.size U := by
  refine ⟨by rw [hU], by rw [hU]; exact hH.1, va_K.moved hW.alike hK, hH.2.weaken (fun _ _ _ _ => trivial), fun x hx => ?_⟩
  have h := (List.mem_filter.mp hx).2
  have h0 := hN x hx
  cases x <;> first | exact absurd (show false = true from h) Bool.false_ne_true | exact va_Nw.warmF hW h0 | exact va_Nw.warmM hW h0
theorem zfreeA {w : zW} {H : Heap} {locs : List Loc} (hH : zHp D cA ad A w H) (hS : va_S A s.heap H locs) (hA : ∀ q, s.heap.size ≤ q → A q) : ∀ q, va_A (zws ad cA w) H.size q → A q := by
  intro q h
  rcases h with ⟨k, e, h⟩ | h
  · exact hH.2.2 k (q, e) h
  · exact hA q (Nat.le_trans hS.1 h)
/-- behind a call -/
theorem zcallR {w : zW} {H : Heap} {locs : List Loc} {pc : Nat} {sl : Array Slot} {st0 rest : List Value} {a : Array Value} {Q' : zQ}
    (hr : va_Run p l e R s m args below meth c H locs cells slots 0 0 (F0 m pc sl st0) (rest.map (zv ad)) (zQc D cA ad w (va_A (zws ad cA w) H.size) Q' a) (va_A (zws ad cA w) H.size)) (hS : va_S A s.heap H locs) (hF : ∀ q, va_A (zws ad cA w) H.size q → A q)
    (kk : ∀ (r : Option Value) (w' : zW) (H1 : Heap) (locs1 : List Loc), Q' r w' → zfix w w' → zHp D cA ad A w' H1 → va_S A s.heap H1 locs1 → W p l e R s m args below meth c H1 locs1 cells slots Fin (F0 m (pc + 3) sl ((zpush r rest).map (zv ad)))) : W p l e R s m args below meth c H locs cells slots Fin (F0 m pc sl st0) := by
  intro T hT X
  obtain ⟨v, st₀, t, T', L, h0, X', hL, e1, e2, ⟨⟨r, w', hv, hq, hfx, hP, -, hD⟩, hz, hk⟩, st⟩ := hr T hT X
  have hv' : v = r.map (zv ad) := by cases hv; rfl
  subst hv'
  rw [h0] at hz hk
  obtain ⟨t2, a1, b1⟩ := kk r w' T'.heap (locs ++ L) hq hfx ⟨by rw [e1]; exact hP, hD.weaken (fun k q _ h => hF _ h)⟩
    ⟨Nat.le_trans hS.1 (by rw [e1]; exact hz), fun q h1 h2 => by rw [e1, hk q (Nat.lt_of_lt_of_le h1 hS.1) (fun z => h2 (hF q z))]; exact hS.2.1 q h1 h2, fun q hq => by
      rcases List.mem_append.mp hq with h | h
      · exact hS.2.2 q h
      · exact hF _ (hL q h)⟩ T' rfl X'
  refine ⟨t2, st t2 ?_, b1⟩
  have e3 : (r.map (zv ad)).toList ++ rest.map (zv ad) = (zpush r rest).map (zv ad) := by cases r <;> rfl
  rw [e3]
  exact a1
theorem zneM {C : String} (h : plainName C = true) (hC : ∃ o, o < 9 ∧ C = zcn o) : C ≠ "java/lang/invoke/MethodHandle" ∧ C ≠ "java/lang/invoke/VarHandle" := by
  obtain ⟨o, ho, rfl⟩ := hC
  have : ∀ o, o < 9 → zcn o ≠ "java/lang/invoke/MethodHandle" ∧ zcn o ≠ "java/lang/invoke/VarHandle" := by decide +kernel
  exact this o ho
theorem zowns {z : Nat} (h : z < 186) : (zMd z).2.2.2.2.1 < 9 ∧ ((zMd z).2.2.2.2.2.1 = false → (zMd z).2.2.2.2.1 < 6) ∧ (zMd z).2.2.1 ≤ 40 := by
  have : ∀ z, z < 186 → (zMd z).2.2.2.2.1 < 9 ∧ ((zMd z).2.2.2.2.2.1 = false → (zMd z).2.2.2.2.1 < 6) ∧ (zMd z).2.2.1 ≤ 40 := by decide +kernel
  exact this z h
set_option maxHeartbeats 4000000 in
theorem zcall_ok {z idx pc pc2 : Nat} {d : Nat} {ls : zL} {st : List Value} {w : zW} {Q : zQ} {H : Heap} {locs : List Loc} {sl : Array Slot} {b : Nat} {i : Instr} (C : zCx p s m args c R cells slots D cA y (d + 1)) (hdg : decode (zMd y).2.1 pc = .ok (i, 3))
    (hi : (i = .invokestatic idx ∧ (zMd z).2.2.2.2.2.1 = true) ∨ (i = .invokevirtual idx ∧ (zMd z).2.2.2.2.2.1 = false)) (hz : z < 186) (hlk : Cond.methodLink (zcn (zMd y).2.2.2.2.1) idx (zMd z).1 ∈ zAW ∨ Cond.methodLinkNest (zcn (zMd y).2.2.2.2.1) idx (zMd z).1 RX5 ∈ zNW) (hpc2 : pc + 3 = pc2) (hb2 : (zPc y)[b]? = some pc2)
    (hH : zHp D cA ad A w H) (hS : va_S A s.heap H locs) (hA : ∀ q, s.heap.size ≤ q → A q) (hX : zXc y ad A s w) (hl : zLR ad ls sl) (hll : ls.length = (zMd y).2.2.1)
    (h1 : (zMd z).2.2.2.2.2.2 ≤ st.length) (h2 : (zent1 (st.take (zMd z).2.2.2.2.2.2).reverse).length ≤ (zMd z).2.2.1) (h3 : zcat (st.drop (zMd z).2.2.2.2.2.2) ≤ 8) (h4 : zrcv (zMd z) (st.take (zMd z).2.2.2.2.2.2).reverse)
    {Q' : zQ} (h5 : zSd l D cA ad d z 0 (zent (st.take (zMd z).2.2.2.2.2.2).reverse (zMd z).2.2.1) [] w Q') (h6 : ∀ r w', Q' r w' → zSd l D cA ad (d + 1) y b ls (zpush r (st.drop (zMd z).2.2.2.2.2.2)) w' Q)
    (hret : ∀ (r : Option Value) (w' : zW) (H' : Heap) (locs' : List Loc) (pc' : Nat) (sl' : Array Slot), Q r w' → zfix w w' → zHp D cA ad A w' H' → va_S A s.heap H' locs' → zRet y pc' r → W p l e R s m args below meth c H' locs' cells slots Fin (F0 m pc' sl' ((zpush r []).map (zv ad)))) :
    W p l e R s m args below meth c H locs cells slots Fin (F0 m pc sl (st.map (zv ad))) := by
  obtain ⟨hx, hb, hml, hown, hts, hnw, hK, hR, hcs⟩ := id C
  obtain ⟨f1, f2, f3, f4, f5, f6, f7⟩ := zmF_at hz
  obtain ⟨o1, o2, o3⟩ := zowns hz
  have hM := zMet (sz := H.size) hz h2 h5
  have hne := zneM f4 ⟨_, o1, f3⟩
  have hF := zfreeA (s := s) hH hS hA
  generalize hn : (zMd z).2.2.2.2.2.2 = n at *
  have hsplit : st.map (zv ad) = ((st.take n).reverse.map (zv ad)).reverse ++ (st.drop n).map (zv ad) := by
    rw [← List.map_reverse, List.reverse_reverse, ← List.map_append, List.take_append_drop]
  have hroom : (zrm2 d).frames + 1 ≤ R.frames ∧ 8 + ((zMd z).2.2.1 + 11) + (zrm2 d).locals ≤ R.locals := by
    constructor
    · exact hR.1
    · have := hR.2
      show 8 + ((zMd z).2.2.1 + 11) + 64 * d ≤ R.locals
      omega
  have hG : GoodIn zAW (Cond.code (zMd z).1 (zMd z).2.1 (zMd z).2.2.1 (zMd z).2.2.2.1 :: zAW) := by
    intro x hx
    rcases List.mem_cons.mp hx with rfl | hx
    · exact ⟨f1, good_of_word (zAW_good _ f1)⟩
    · exact ⟨hx, good_of_word (zAW_good _ hx)⟩
  have hcat : 2 * (F0 m pc sl (st.map (zv ad))).monitorRoom + (((st.drop n).map (zv ad)).map fun v => v.category).sum ≤ 8 := lv_room (by rw [zv_catL]; exact h3)
  have hlen : (st.take n).length = n := by simp; omega
  have hsz : (F0 m pc sl (st.map (zv ad))).locals.size = (zMd y).2.2.1 := by show sl.size = _; rw [hl.1, hll]
  have back : ∀ (r : Option Value) (w' : zW) (H1 : Heap) (locs1 : List Loc), Q' r w' → zfix w w' → zHp D cA ad A w' H1 → va_S A s.heap H1 locs1 → W p l e R s m args below meth c H1 locs1 cells slots Fin (F0 m (pc + 3) sl ((zpush r (st.drop n)).map (zv ad))) := by
    intro r w' H1 locs1 hq hfx hH1 hS1
    rw [hpc2]
    exact h6 r w' hq p e R s m args below meth c A H1 locs1 cells slots sl Fin pc2 hb2 C hH1 hS1 hA (hX.fix hfx) hl hll (fun r2 w2 H2 locs2 pc' sl' a1 a2 a3 a4 a5 => hret r2 w2 H2 locs2 pc' sl' a1 (hfx.tr a2) a3 a4 a5)
  have hcells : cells + 0 ≤ R.cells ∧ slots + 0 ≤ R.slots := hcs
  have hini := hts _ f2
  rcases hi with ⟨rfl, hst⟩ | ⟨rfl, hst⟩
  · rw [hst] at f7
    have hd : (parseMethodDescriptor (zMd z).1.desc).map (fun d => d.parameters.length) = some n := f7
    have hAs : ((st.take n).reverse.map (zv ad)).length = n := by simp; omega
    rcases hlk with hlk | hlk
    · refine zcallR (va_runS (As := (st.take n).reverse.map (zv ad)) (rest := (st.drop n).map (zv ad)) ⟨hx, hb, hml, hown, hts⟩ hM ⟨callB_of n hts hG rfl rfl rfl hini (hts _ hlk) ⟨hne.1, hne.2, hd⟩ hroom, hts _ (f5 hst)⟩ ⟨zPre_blind, fun U hU hW => ⟨rfl, zPre_warm hnw hK hH U hU hW⟩⟩ rfl hAs hsz hsplit hcat hdg hcells) hS hF back
    · refine zcallR (va_runSN (As := (st.take n).reverse.map (zv ad)) (rest := (st.drop n).map (zv ad)) ⟨hx, hb, hml, hown, hts⟩ hM ⟨va_cnB n hts hG rfl rfl rfl (hnw _ hlk) hini ⟨hne.1, hne.2, hd⟩ hroom, hts _ (f5 hst), trivial⟩ ⟨zPre_blind, fun U hU hW => ⟨rfl, zPre_warm hnw hK hH U hU hW⟩⟩ rfl hAs hsz hsplit hcat hdg hcells) hS hF back
  · rw [hst] at f7
    unfold zrcv at h4
    rw [hst] at h4
    dsimp only at h4
    split at h4
    · rename_i o As hAsE
      have hn1 : n = As.length + 1 := by
        have : (st.take n).reverse.length = As.length + 1 := by rw [hAsE]; rfl
        simp at this
        omega
      have hd : (parseMethodDescriptor (zMd z).1.desc).map (fun d => d.parameters.length) = some As.length := by
        cases hp : parseMethodDescriptor (zMd z).1.desc with
        | none => rw [hp] at f7; cases f7
        | some dd =>
          rw [hp] at f7
          have e1 : dd.parameters.length + 1 = n := Option.some.inj f7
          show some dd.parameters.length = some As.length
          congr 1
          omega
      have hrec : ∃ cell : Cell, H[ad o]? = some cell ∧ cell.vm.isStatics = false ∧ s.vm.findClass (zMd z).1.cls = some cell.cls := by
        have hat : (zws ad cA w)[o]? = some (ad o, .inr ((zMd z).2.2.2.2.1, (List.range (zNs.getD (zMd z).2.2.2.2.1 0)).map (zfv ad w o (zMd z).2.2.2.2.1))) := by rw [zws_at (zsh_lt h4), zE_is h4]
        obtain ⟨cell, g1, g2, g3⟩ := va_recv hK hH.1 (zclsA (o2 hst)).1 hat
        exact ⟨cell, g1, g2, by rw [f3]; exact g3⟩
      have hAs : (As.map (zv ad)).length = As.length := by simp
      have hsplit2 : st.map (zv ad) = (As.map (zv ad)).reverse ++ .ref (ad o) :: (st.drop n).map (zv ad) := by
        rw [hsplit, hAsE]
        simp [zv]
      rw [hAsE] at hM
      rcases hlk with hlk | hlk
      · refine zcallR (va_runV (As := As.map (zv ad)) (rest := (st.drop n).map (zv ad)) (b := ad o) ⟨hx, hb, hml, hown, hts⟩ hM ⟨callB_of As.length hts hG rfl rfl rfl hini (hts _ hlk) ⟨hne.1, hne.2, hd⟩ hroom, hts _ (f6 hst).1, hts _ (f6 hst).2⟩ ⟨zPre_blind, hrec, fun U hU hW => ⟨rfl, zPre_warm hnw hK hH U hU hW⟩⟩ rfl hAs hsz hsplit2 hcat hdg hcells) hS hF back
      · refine zcallR (va_runVN (As := As.map (zv ad)) (rest := (st.drop n).map (zv ad)) (b := ad o) ⟨hx, hb, hml, hown, hts⟩ hM ⟨va_cnB As.length hts hG rfl rfl rfl (hnw _ hlk) hini ⟨hne.1, hne.2, hd⟩ hroom, hts _ (f6 hst).1, hts _ (f6 hst).2⟩ ⟨zPre_blind, hrec, fun U hU hW => ⟨rfl, zPre_warm hnw hK hH U hU hW⟩⟩ rfl hAs hsz hsplit2 hcat hdg hcells) hS hF back
    · exact h4.elim
end ZMN
section ZTM
variable {p : Program} {l : Launch} {e : Env} {R : Room} {s : State} {m : MethodId} {args : Array Value} {below : List Frame} {meth : Method} {c : Code} {Fin : State → Prop} {cells slots : Nat} {D : va_G} {cA : Nat → ClassId} {ad : Nat → Nat} {A : Nat → Prop} {y d : Nat}
theorem zretk0 {st : List Value} {w : zW} {Q : zQ} (h : zretk 0 st w Q) : st = [] ∧ Q none w := by
  cases st with
  | nil => exact ⟨rfl, h⟩
  | cons a t => exact False.elim h
theorem zretk1 {st : List Value} {w : zW} {Q : zQ} (h : zretk 1 st w Q) : ∃ v, st = [.int v] ∧ Q (some (.int v)) w := by
  cases st with
  | nil => exact False.elim h
  | cons a t =>
    cases t with
    | nil => cases a <;> first | exact False.elim h | exact ⟨_, rfl, h⟩
    | cons b t => cases a <;> exact False.elim h
theorem zretk2 {st : List Value} {w : zW} {Q : zQ} (h : zretk 2 st w Q) : ∃ v, st = [.long v] ∧ Q (some (.long v)) w := by
  cases st with
  | nil => exact False.elim h
  | cons a t =>
    cases t with
    | nil => cases a <;> first | exact False.elim h | exact ⟨_, rfl, h⟩
    | cons b t => cases a <;> exact False.elim h
theorem zretk3 {st : List Value} {w : zW} {Q : zQ} (h : zretk 3 st w Q) : ∃ v, st = [.int v] ∧ (v = 0 ∨ v = 1) ∧ Q (some (.int v)) w := by
  cases st with
  | nil => exact False.elim h
  | cons a t =>
    cases t with
    | nil => cases a <;> first | exact False.elim h | exact ⟨_, rfl, h⟩
    | cons b t => cases a <;> exact False.elim h
theorem zpcIs_ok {pcs : List Nat} {b : Nat} {t : Int} (h : zpcIs pcs b t = true) : ∃ q : Nat, pcs[b]? = some q ∧ t = (q : Int) := by
  unfold zpcIs at h
  split at h
  · rename_i q hq
    exact ⟨q, hq, of_decide_eq_true h⟩
  · cases h
theorem zsw_inv {x : Int32} {k : Nat → Prop} {df : Nat} : ∀ {cs : List (Int32 × Nat)}, zsw x k df cs → (∃ (j : Nat) (q : Int32 × Nat), cs[j]? = some q ∧ x = q.1 ∧ (∀ (i : Nat) (q' : Int32 × Nat), i < j → cs[i]? = some q' → ¬ x = q'.1) ∧ k q.2) ∨ ((∀ (j : Nat) (q : Int32 × Nat), cs[j]? = some q → ¬ x = q.1) ∧ k df)
  | [], h => Or.inr ⟨fun j q hq => by simp at hq, h⟩
  | q :: r, h => by
    by_cases e : x = q.1
    · exact Or.inl ⟨0, q, rfl, e, fun i q' hi => absurd hi (by omega), h.1 e⟩
    · rcases zsw_inv (h.2 e) with ⟨j, q', h1, h2, h4, h3⟩ | ⟨h1, h2⟩
      · refine Or.inl ⟨j + 1, q', h1, h2, fun i q2 hi hq2 => ?_, h3⟩
        cases i with
        | zero =>
          rw [List.getElem?_cons_zero] at hq2
          cases hq2
          exact e
        | succ i => exact h4 i q2 (by omega) hq2
      · refine Or.inr ⟨fun j q' hq => ?_, h2⟩
        cases j with
        | zero =>
          rw [List.getElem?_cons_zero] at hq
          cases hq
          exact e
        | succ j => exact h1 j q' hq
theorem zlsk_ok {pcs : List Nat} {pc : Nat} {x : Int32} {dflt : Int} : ∀ {cs : List (Int32 × Nat)} {ps : List (Int × Int)}, zlsk pcs pc cs ps = true →
    (∀ (j : Nat) (q : Int32 × Nat), cs[j]? = some q → x = q.1 → (∀ (i : Nat) (q' : Int32 × Nat), i < j → cs[i]? = some q' → ¬ x = q'.1) → ∃ off, Op.lookupswitch.offset ps dflt x.toInt = off ∧ zpcIs pcs q.2 ((pc : Int) + off) = true) ∧
    ((∀ (j : Nat) (q : Int32 × Nat), cs[j]? = some q → ¬ x = q.1) → Op.lookupswitch.offset ps dflt x.toInt = dflt)
  | [], [], _ => ⟨fun j q hq => by simp at hq, fun _ => rfl⟩
  | [], _ :: _, h => by simp [zlsk] at h
  | _ :: _, [], h => by simp [zlsk] at h
  | q :: r, (a, o) :: t, h => by
    have h : (decide (q.1.toInt = a) && zpcIs pcs q.2 ((pc : Int) + o) && zlsk pcs pc r t) = true := h
    simp only [Bool.and_eq_true, decide_eq_true_eq] at h
    obtain ⟨⟨h1, h2⟩, h3⟩ := h
    obtain ⟨i1, i2⟩ := zlsk_ok (x := x) (dflt := dflt) h3
    have ne : ¬ x = q.1 → Op.lookupswitch.offset ((a, o) :: t) dflt x.toInt = Op.lookupswitch.offset t dflt x.toInt := fun e => lv_osw e h1
    refine ⟨fun j q' hq e hj => ?_, fun hn => ?_⟩
    · cases j with
      | zero =>
        rw [List.getElem?_cons_zero] at hq
        cases hq
        refine ⟨o, ?_, h2⟩
        have : x.toInt = a := by rw [e]; exact h1
        simp [Op.lookupswitch.offset, this]
      | succ j =>
        rw [ne (hj 0 q (by omega) rfl)]
        exact i1 j q' hq e (fun i q2 hi hq2 => hj (i + 1) q2 (by omega) hq2)
    · rw [ne (hn 0 q rfl)]
      exact i2 (fun j q' hq => hn (j + 1) q' hq)
set_option maxHeartbeats 4000000 in
theorem zterm_ok {pc len : Nat} {t : zT} {i : Instr} {ls : zL} {st : List Value} {w : zW} {Q : zQ} {H : Heap} {locs : List Loc} {sl : Array Slot} (C : zCx p s m args c R cells slots D cA y d) (hdg : decode (zMd y).2.1 pc = .ok (i, len))
    (hc : zchkT (zMd y).2.2.2.2.1 (zMd y).2.2.2.1 (zPc y) pc t i len = true)
    (hH : zHp D cA ad A w H) (hS : va_S A s.heap H locs) (hA : ∀ q, s.heap.size ≤ q → A q) (hX : zXc y ad A s w) (hl : zLR ad ls sl) (hll : ls.length = (zMd y).2.2.1)
    (hk : zterm zMI t d y ls st w Q (zSd l D cA ad))
    (hret : ∀ (r : Option Value) (w' : zW) (H' : Heap) (locs' : List Loc) (pc' : Nat) (sl' : Array Slot), Q r w' → zfix w w' → zHp D cA ad A w' H' → va_S A s.heap H' locs' → zRet y pc' r → W p l e R s m args below meth c H' locs' cells slots Fin (F0 m pc' sl' ((zpush r []).map (zv ad)))) :
    W p l e R s m args below meth c H locs cells slots Fin (F0 m pc sl (st.map (zv ad))) := by
  have go : ∀ (b : Nat) (st' : List Value) (q : Nat), (zPc y)[b]? = some q → zSd l D cA ad d y b ls st' w Q → W p l e R s m args below meth c H locs cells slots Fin (F0 m q sl (st'.map (zv ad))) := fun b st' q hq h => h p e R s m args below meth c A H locs cells slots sl Fin q hq C hH hS hA hX hl hll hret
  obtain ⟨hx, hb, hml, hown, hts, hnw, hK, hR, hcs⟩ := id C
  obtain ⟨cd, two, bt, bf⟩ | ⟨cs, df⟩ | ⟨tag, a, b⟩ := t
  · cases i <;> try (exact absurd (show false = true from hc) Bool.false_ne_true)
    case ifCond c' off =>
      have hc : (!two && decide (cd = c') && Nat.beq len 3 && zpcIs (zPc y) bt ((pc : Int) + off) && zpcIs (zPc y) bf ((pc + 3 : Nat) : Int)) = true := hc
      simp only [Bool.and_eq_true, decide_eq_true_eq, Bool.not_eq_true'] at hc
      obtain ⟨⟨⟨⟨h0, rfl⟩, h1⟩, h2⟩, h3⟩ := hc
      subst h0
      obtain rfl := Nat.eq_of_beq_eq_true h1
      obtain ⟨q1, a1, a2⟩ := zpcIs_ok h2
      obtain ⟨q2, b1, b2⟩ := zpcIs_ok h3
      have b2 : pc + 3 = q2 := by exact_mod_cast b2
      subst b2
      dsimp only [zterm] at hk
      split at hk
      · rename_i x r
        cases cd
        · exact lv_if_eq hx hb hdg a2 (fun h => go bt r q1 a1 (hk.1 h)) (fun h => go bf r _ b1 (hk.2 h))
        · exact lv_if_ne hx hb hdg a2 (fun h => go bt r q1 a1 (hk.1 h)) (fun h => go bf r _ b1 (hk.2 h))
        · exact lv_if_lt hx hb hdg a2 (fun h => go bt r q1 a1 (hk.1 h)) (fun h => go bf r _ b1 (hk.2 h))
        · exact lv_if_ge hx hb hdg a2 (fun h => go bt r q1 a1 (hk.1 h)) (fun h => go bf r _ b1 (hk.2 h))
        · exact lv_if_gt hx hb hdg a2 (fun h => go bt r q1 a1 (hk.1 h)) (fun h => go bf r _ b1 (hk.2 h))
        · exact lv_if_le hx hb hdg a2 (fun h => go bt r q1 a1 (hk.1 h)) (fun h => go bf r _ b1 (hk.2 h))
      · exact hk.elim
    case if_icmp c' off =>
      have hc : (two && decide (cd = c') && Nat.beq len 3 && zpcIs (zPc y) bt ((pc : Int) + off) && zpcIs (zPc y) bf ((pc + 3 : Nat) : Int)) = true := hc
      simp only [Bool.and_eq_true, decide_eq_true_eq] at hc
      obtain ⟨⟨⟨⟨h0, rfl⟩, h1⟩, h2⟩, h3⟩ := hc
      subst h0
      obtain rfl := Nat.eq_of_beq_eq_true h1
      obtain ⟨q1, a1, a2⟩ := zpcIs_ok h2
      obtain ⟨q2, b1, b2⟩ := zpcIs_ok h3
      have b2 : pc + 3 = q2 := by exact_mod_cast b2
      subst b2
      dsimp only [zterm] at hk
      split at hk
      · rename_i v u r
        cases cd
        · exact lv_icmp_eq hx hb hdg a2 (fun h => go bt r q1 a1 (hk.1 h)) (fun h => go bf r _ b1 (hk.2 h))
        · exact lv_icmp_ne hx hb hdg a2 (fun h => go bt r q1 a1 (hk.1 h)) (fun h => go bf r _ b1 (hk.2 h))
        · exact lv_icmp_lt hx hb hdg a2 (fun h => go bt r q1 a1 (hk.1 h)) (fun h => go bf r _ b1 (hk.2 h))
        · exact lv_icmp_ge hx hb hdg a2 (fun h => go bt r q1 a1 (hk.1 h)) (fun h => go bf r _ b1 (hk.2 h))
        · exact lv_icmp_gt hx hb hdg a2 (fun h => go bt r q1 a1 (hk.1 h)) (fun h => go bf r _ b1 (hk.2 h))
        · exact lv_icmp_le hx hb hdg a2 (fun h => go bt r q1 a1 (hk.1 h)) (fun h => go bf r _ b1 (hk.2 h))
      · exact hk.elim
  · dsimp only [zterm] at hk
    split at hk
    · rename_i x r
      cases i <;> try (exact absurd (show false = true from hc) Bool.false_ne_true)
      case tableswitch dflt lo hi offs =>
        have hc : (Nat.beq offs.size cs.length && decide (hi = lo + (cs.length : Int) - 1) && zpcIs (zPc y) df ((pc : Int) + dflt) && zswk (zPc y) pc lo cs offs) = true := hc
        simp only [Bool.and_eq_true, decide_eq_true_eq] at hc
        obtain ⟨⟨⟨h1, h2⟩, h3⟩, h4⟩ := hc
        have h1 := Nat.eq_of_beq_eq_true h1
        have key : ∀ (j : Nat) (q : Int32 × Nat), cs[j]? = some q → ∃ off, offs[j]? = some off ∧ q.1.toInt = lo + (j : Int) ∧ zpcIs (zPc y) q.2 ((pc : Int) + off) = true := by
          intro j q hq
          have hj := (List.getElem?_eq_some_iff.mp hq).1
          have := List.all_eq_true.mp h4 j (List.mem_range.mpr hj)
          rw [hq] at this
          dsimp only at this
          split at this
          · rename_i off ho
            simp only [Bool.and_eq_true, decide_eq_true_eq] at this
            exact ⟨off, ho, this.1, this.2⟩
          · cases this
        rcases zsw_inv hk with ⟨j, q, a1, a2, -, a3⟩ | ⟨a1, a2⟩
        · obtain ⟨off, b1, b2, b3⟩ := key j q a1
          obtain ⟨q1, c1, c2⟩ := zpcIs_ok b3
          have hj := (List.getElem?_eq_some_iff.mp a1).1
          have e1 : x.toInt = lo + (j : Int) := by rw [a2]; exact b2
          exact lv_tableIn hx hb hdg (by omega) (by omega) (by rw [show (x.toInt - lo).toNat = j by omega]; exact b1) c2 (go _ r q1 c1 a3)
        · obtain ⟨q1, c1, c2⟩ := zpcIs_ok h3
          refine lv_tableOut hx hb hdg ?_ c2 (go _ r q1 c1 a2)
          rcases Int.lt_or_le x.toInt lo with g | g
          · exact Or.inl g
          · right
            apply Int.not_le.mp
            intro g2
            have hj : (x.toInt - lo).toNat < cs.length := by omega
            obtain ⟨off, b1, b2, b3⟩ := key _ _ (List.getElem?_eq_getElem hj)
            exact a1 _ _ (List.getElem?_eq_getElem hj) (Int32.toInt_inj.mp (by rw [b2]; omega))
      case lookupswitch dflt ps =>
        have hc : ((ps.toList.zip (ps.toList.drop 1)).all (fun (a, next) => a.1 < next.1) && zpcIs (zPc y) df ((pc : Int) + dflt) && zlsk (zPc y) pc cs ps.toList) = true := hc
        rw [Bool.and_eq_true, Bool.and_eq_true] at hc
        obtain ⟨⟨h1, h2⟩, h3⟩ := hc
        obtain ⟨i1, i2⟩ := zlsk_ok (x := x) (dflt := dflt) h3
        rcases zsw_inv hk with ⟨j, q, g1, g2, g3, g4⟩ | ⟨a1, a2⟩
        · obtain ⟨off, b1, b2⟩ := i1 j q g1 g2 g3
          obtain ⟨q1, c1, c2⟩ := zpcIs_ok b2
          exact lv_lookup hx hb hdg h1 b1 c2 (go _ r q1 c1 g4)
        · obtain ⟨q1, c1, c2⟩ := zpcIs_ok h2
          exact lv_lookup hx hb hdg h1 (i2 a1) c2 (go _ r q1 c1 a2)
    · exact hk.elim
  · revert hc hk
    match tag with
    | 0 =>
      intro hc hk
      cases i <;> try (exact absurd (show false = true from hc) Bool.false_ne_true)
      case goto off =>
        have hc : (Nat.beq len 3 && zpcIs (zPc y) a ((pc : Int) + off)) = true := hc
        rw [Bool.and_eq_true] at hc
        obtain rfl := Nat.eq_of_beq_eq_true hc.1
        obtain ⟨q1, a1, a2⟩ := zpcIs_ok hc.2
        exact lv_goto hx hb hdg a2 (go a st q1 a1 hk)
    | 1 =>
      intro hc hk
      have hk : zcall zMI a b d y ls st w Q (zSd l D cA ad) := hk
      unfold zcall at hk
      split at hk
      · exact hk.elim
      · rename_i inf hinf
        have hmd : zMd a = inf := by unfold zMd; rw [List.getD_eq_getElem?_getD, hinf]; rfl
        subst hmd
        split at hk
        · exact hk.elim
        · obtain ⟨h1, h2, h3, h4, Q', h5, h6⟩ := hk
          cases i <;> try (exact absurd (show false = true from hc) Bool.false_ne_true)
          case invokestatic idx =>
            have hc : (Nat.beq len 3 && Nat.blt idx 1000 && zpcIs (zPc y) b ((pc + 3 : Nat) : Int) && (zMd a).2.2.2.2.2.1 && zML.any (fun q => Nat.beq q.1 ((zMd y).2.2.2.2.1 * 1000 + idx) && Nat.beq q.2.1 a)) = true := hc
            rw [Bool.and_eq_true, Bool.and_eq_true, Bool.and_eq_true, Bool.and_eq_true] at hc
            obtain ⟨⟨⟨⟨c1, c2⟩, c3⟩, c4⟩, c5⟩ := hc
            obtain rfl := Nat.eq_of_beq_eq_true c1
            obtain ⟨q2, b1, b2⟩ := zpcIs_ok c3
            obtain ⟨z1, z2⟩ := zml_ok c2 c5
            exact zcall_ok C hdg (Or.inl ⟨rfl, c4⟩) z1 z2 (by exact_mod_cast b2) b1 hH hS hA hX hl hll h1 h2 h3 h4 h5 h6 hret
          case invokevirtual idx =>
            have hc : (Nat.beq len 3 && Nat.blt idx 1000 && zpcIs (zPc y) b ((pc + 3 : Nat) : Int) && !(zMd a).2.2.2.2.2.1 && zML.any (fun q => Nat.beq q.1 ((zMd y).2.2.2.2.1 * 1000 + idx) && Nat.beq q.2.1 a)) = true := hc
            rw [Bool.and_eq_true, Bool.and_eq_true, Bool.and_eq_true, Bool.and_eq_true, Bool.not_eq_true'] at hc
            obtain ⟨⟨⟨⟨c1, c2⟩, c3⟩, c4⟩, c5⟩ := hc
            obtain rfl := Nat.eq_of_beq_eq_true c1
            obtain ⟨q2, b1, b2⟩ := zpcIs_ok c3
            obtain ⟨z1, z2⟩ := zml_ok c2 c5
            exact zcall_ok C hdg (Or.inr ⟨rfl, c4⟩) z1 z2 (by exact_mod_cast b2) b1 hH hS hA hX hl hll h1 h2 h3 h4 h5 h6 hret
    | 2 =>
      intro hc hk
      have hk : zretk a st w Q := hk
      cases i <;> try (exact absurd (show false = true from hc) Bool.false_ne_true)
      case return_ =>
        have hc : (Nat.beq len 1 && Nat.beq a 0 && decide ((zMd y).2.2.2.1 = none)) = true := hc
        rw [Bool.and_eq_true, Bool.and_eq_true, decide_eq_true_eq] at hc
        obtain rfl := Nat.eq_of_beq_eq_true hc.1.1
        obtain rfl := Nat.eq_of_beq_eq_true hc.1.2
        obtain ⟨rfl, h⟩ := zretk0 hk
        exact hret none w H locs pc sl h zfix.rf hH hS ⟨hdg, hc.2⟩
      case ireturn =>
        have hc : (Nat.beq len 1 && ((Nat.beq a 1 && decide ((zMd y).2.2.2.1 = some .int)) || (Nat.beq a 3 && decide ((zMd y).2.2.2.1 = some .boolean)))) = true := hc
        rw [Bool.and_eq_true, Bool.or_eq_true, Bool.and_eq_true, Bool.and_eq_true, decide_eq_true_eq, decide_eq_true_eq] at hc
        obtain rfl := Nat.eq_of_beq_eq_true hc.1
        rcases hc.2 with ⟨c1, c2⟩ | ⟨c1, c2⟩
        · obtain rfl := Nat.eq_of_beq_eq_true c1
          obtain ⟨v, rfl, h⟩ := zretk1 hk
          exact hret (some (.int v)) w H locs pc sl h zfix.rf hH hS ⟨hdg, Or.inl c2⟩
        · obtain rfl := Nat.eq_of_beq_eq_true c1
          obtain ⟨v, rfl, h01, h⟩ := zretk3 hk
          exact hret (some (.int v)) w H locs pc sl h zfix.rf hH hS ⟨hdg, Or.inr ⟨c2, h01⟩⟩
      case lreturn =>
        have hc : (Nat.beq len 1 && Nat.beq a 2 && decide ((zMd y).2.2.2.1 = some .long)) = true := hc
        rw [Bool.and_eq_true, Bool.and_eq_true, decide_eq_true_eq] at hc
        obtain rfl := Nat.eq_of_beq_eq_true hc.1.1
        obtain rfl := Nat.eq_of_beq_eq_true hc.1.2
        obtain ⟨v, rfl, h⟩ := zretk2 hk
        exact hret (some (.long v)) w H locs pc sl h zfix.rf hH hS ⟨hdg, hc.2⟩
    | 3 =>
      intro hc hk
      have hk : zcopy a b d y ls st w Q (zSd l D cA ad) := hk
      cases i <;> try (exact absurd (show false = true from hc) Bool.false_ne_true)
      case invokestatic idx =>
        have hc : (Nat.beq len 3 && Nat.blt idx 1000 && zpcIs (zPc y) b ((pc + 3 : Nat) : Int) && Nat.ble a 1 && zCL.any (fun q => Nat.beq q.1 ((zMd y).2.2.2.2.1 * 1000 + idx))) = true := hc
        rw [Bool.and_eq_true, Bool.and_eq_true, Bool.and_eq_true, Bool.and_eq_true] at hc
        obtain ⟨⟨⟨⟨c1, c2⟩, c3⟩, c4⟩, c5⟩ := hc
        obtain rfl := Nat.eq_of_beq_eq_true c1
        obtain ⟨q2, b1, b2⟩ := zpcIs_ok c3
        have b2 : pc + 3 = q2 := by exact_mod_cast b2
        subst b2
        have hlk := zcl_ok c2 c5
        unfold zcopy at hk
        split at hk
        · rename_i n dp o2 sp o1 r _
          obtain ⟨k1, k2, k3, k4, ⟨k5, k6, k7, k8, k9⟩, k10⟩ := hk
          have hfr : 1 ≤ R.frames := by omega
          have hlo : ((r.map (zv ad)).map fun v => v.category).sum + (nativeFrameWords "java/lang/System" "arraycopy" 5 + 11) ≤ R.locals := by
            rw [zv_catL]
            have : nativeFrameWords "java/lang/System" "arraycopy" 5 + 11 ≤ 40 := by decide +kernel
            omega
          have hml2 : c.maxLocals = sl.size := by rw [hml, hl.1, hll]
          split at k10
          · refine va_copyi hx hb hml2 hown (hts _ hlk) (hts _ zac_nat) (hts _ zac_stat) (hts _ zac_ini) hK hH.1 hH.2 hS o1 o2 0 0 (f := w.1 o1) (g := w.1 o2) (n0 := zln o1) (n1 := zln o2) (ty := .int) (by rw [zws_at (zsh_lt k3), zE_ar k3]; rfl) (by rw [zws_at (zsh_lt k4), zE_ar k4]; rfl) rfl rfl rfl k5 k6 k7 k8 k9 (fun _ _ => rfl) hfr hlo hdg (fun H1 locs1 a1 a2 a3 => ?_)
            have ew := zws_set (ad := ad) (cA := cA) (w := w) (w' := cI w o1 o2 sp.toNatClampNeg dp.toNatClampNeg n.toNatClampNeg) (zsh_lt k4) (zE_xI k4) (fun a ha => zE_cI a ha)
            rw [ew] at a1 a2
            exact k10 p e R s m args below meth c A H1 locs1 cells slots sl Fin _ b1 C ⟨a1, a2⟩ a3 hA (hX.fix (zfix.cI (zsh_lt k4))) hl hll (fun r2 w2 H2 locs2 pc' sl' g1 g2 g3 g4 g5 => hret r2 w2 H2 locs2 pc' sl' g1 ((zfix.cI (zsh_lt k4)).tr g2) g3 g4 g5)
          · refine va_copyl hx hb hml2 hown (hts _ hlk) (hts _ zac_nat) (hts _ zac_stat) (hts _ zac_ini) hK hH.1 hH.2 hS o1 o2 1 1 (f := w.2 o1) (g := w.2 o2) (n0 := zln o1) (n1 := zln o2) (ty := .long) (by rw [zws_at (zsh_lt k3), zE_ar k3]; rfl) (by rw [zws_at (zsh_lt k4), zE_ar k4]; rfl) rfl rfl rfl k5 k6 k7 k8 k9 (fun _ _ => rfl) hfr hlo hdg (fun H1 locs1 a1 a2 a3 => ?_)
            have ew := zws_set (ad := ad) (cA := cA) (w := w) (w' := cL w o1 o2 sp.toNatClampNeg dp.toNatClampNeg n.toNatClampNeg) (zsh_lt k4) (zE_xL k4) (fun a ha => zE_cL a ha)
            rw [ew] at a1 a2
            exact k10 p e R s m args below meth c A H1 locs1 cells slots sl Fin _ b1 C ⟨a1, a2⟩ a3 hA (hX.fix zfix.cL) hl hll (fun r2 w2 H2 locs2 pc' sl' g1 g2 g3 g4 g5 => hret r2 w2 H2 locs2 pc' sl' g1 (zfix.cL.tr g2) g3 g4 g5)
          · exact k10.elim
        · exact hk.elim
    | 4 =>
      intro hc hk
      have hk : zmath a b d y ls st w Q (zSd l D cA ad) := hk
      cases i <;> try (exact absurd (show false = true from hc) Bool.false_ne_true)
      case invokestatic idx =>
        have hc : (Nat.beq len 3 && Nat.blt idx 1000 && zpcIs (zPc y) b ((pc + 3 : Nat) : Int) && Nat.ble a 2 && zXL.any (fun q => Nat.beq q.1 ((zMd y).2.2.2.2.1 * 1000 + idx) && Nat.beq q.2.1 a)) = true := hc
        rw [Bool.and_eq_true, Bool.and_eq_true, Bool.and_eq_true, Bool.and_eq_true] at hc
        obtain ⟨⟨⟨⟨c1, c2⟩, c3⟩, c4⟩, c5⟩ := hc
        obtain rfl := Nat.eq_of_beq_eq_true c1
        obtain ⟨q2, b1, b2⟩ := zpcIs_ok c3
        have b2 : pc + 3 = q2 := by exact_mod_cast b2
        subst b2
        have hlk := zxl_ok c2 c5
        have hml2 : c.maxLocals = sl.size := by rw [hml, hl.1, hll]
        have hfr : 0 < d → 1 ≤ R.frames := fun _ => by omega
        have hlo : ∀ r : List Value, 0 < d → zcat r ≤ 8 → ((r.map (zv ad)).map fun v => v.category).sum + 13 ≤ R.locals := fun r h0 h1 => by
          rw [zv_catL]
          omega
        unfold zmath at hk
        split at hk
        · split at hk
          · exact va_mmax hx hb hml2 hown (hts _ hlk) (hts _ zmx_max.1) (hts _ zmx_ini) (hts _ zmx_max.2) (hfr hk.1) (hlo _ hk.1 hk.2.1) hcs.1 hcs.2 hdg (go _ _ _ b1 hk.2.2)
          · exact hk.elim
        · split at hk
          · exact va_mmin hx hb hml2 hown (hts _ hlk) (hts _ zmx_min.1) (hts _ zmx_ini) (hts _ zmx_min.2) (hfr hk.1) (hlo _ hk.1 hk.2.1) hcs.1 hcs.2 hdg (go _ _ _ b1 hk.2.2)
          · exact hk.elim
        · split at hk
          · exact va_mabs hx hb hml2 hown (hts _ hlk) (hts _ zmx_abs.1) (hts _ zmx_ini) (hts _ zmx_abs.2) (hfr hk.1) (hlo _ hk.1 hk.2.1) hcs.1 hcs.2 hdg (go _ _ _ b1 hk.2.2)
          · exact hk.elim
        · exact hk.elim
    | n + 5 => exact fun hc _ => absurd (show false = true from hc) Bool.false_ne_true
end ZTM
/-- a block, from its first instruction -/
theorem zrun_ok {p : Program} {l : Launch} {e : Env} {R : Room} {s : State} {m : MethodId} {args : Array Value} {below : List Frame} {meth : Method} {c : Code} {Fin : State → Prop} {cells slots : Nat} {D : va_G} {cA : Nat → ClassId} {ad : Nat → Nat} {A : Nat → Prop} {y d : Nat} {t : zT} {Q : zQ} {w0 : zW} (C : zCx p s m args c R cells slots D cA y d) (hA : ∀ q, s.heap.size ≤ q → A q)
    (hret : ∀ (r : Option Value) (w' : zW) (H' : Heap) (locs' : List Loc) (pc' : Nat) (sl' : Array Slot), Q r w' → zfix w0 w' → zHp D cA ad A w' H' → va_S A s.heap H' locs' → zRet y pc' r → W p l e R s m args below meth c H' locs' cells slots Fin (F0 m pc' sl' ((zpush r []).map (zv ad)))) :
    ∀ (as : List zA) (pc : Nat) (ls : zL) (st : List Value) (w : zW) (H : Heap) (locs : List Loc) (sl : Array Slot), zchkL (zMd y).2.2.2.2.1 (zMd y).2.2.2.1 (zMd y).2.1 (zPc y) t pc as = true → zrun as ls st w (fun ls st w => zterm zMI t d y ls st w Q (zSd l D cA ad)) → zfix w0 w →
      zHp D cA ad A w H → va_S A s.heap H locs → zXc y ad A s w → zLR ad ls sl → ls.length = (zMd y).2.2.1 → W p l e R s m args below meth c H locs cells slots Fin (F0 m pc sl (st.map (zv ad)))
  | [], pc, ls, st, w, H, locs, sl, hc, hk, hfx, hH, hS, hX, hl, hll => by
    have hk : zterm zMI t d y ls st w Q (zSd l D cA ad) := hk
    have hret' : ∀ (r : Option Value) (w' : zW) (H' : Heap) (locs' : List Loc) (pc' : Nat) (sl' : Array Slot), Q r w' → zfix w w' → zHp D cA ad A w' H' → va_S A s.heap H' locs' → zRet y pc' r → W p l e R s m args below meth c H' locs' cells slots Fin (F0 m pc' sl' ((zpush r []).map (zv ad))) := fun r w' H' locs' pc' sl' g1 g2 g3 g4 g5 => hret r w' H' locs' pc' sl' g1 (hfx.tr g2) g3 g4 g5
    unfold zchkL at hc
    split at hc
    · rename_i b hb
      obtain ⟨q, a1, a2⟩ := zpcIs_ok hc
      have a2 : pc = q := by exact_mod_cast a2
      subst a2
      have hb2 : zterm zMI t d y ls st w Q (zSd l D cA ad) → zSd l D cA ad d y b ls st w Q := by
        intro h
        unfold zfall at hb
        split at hb
        · split at hb
          · split at hb
            · cases hb
            · cases hb
              exact h
          · cases hb
        · cases hb
      exact hb2 hk p e R s m args below meth c A H locs cells slots sl Fin pc a1 C hH hS hA hX hl hll hret'
    · split at hc
      · rename_i i len hdg
        exact zterm_ok C hdg hc hH hS hA hX hl hll hk hret'
      · cases hc
  | a :: as, pc, ls, st, w, H, locs, sl, hc, hk, hfx, hH, hS, hX, hl, hll => by
    unfold zchkL at hc
    split at hc
    · rename_i i len hdg
      rw [Bool.and_eq_true] at hc
      refine zone_ok C hdg hc.1 hk hH hS hX hl (fun ls' st' w' H' locs' sl' g1 g2 g3 g4 g5 g6 => ?_)
      exact zrun_ok C hA hret as (pc + len) ls' st' w' H' locs' sl' hc.2 g1 (hfx.tr g2) g3 g4 (hX.fix g2) g5 (by rw [g6]; exact hll)
    · cases hc
/-- whatever the blocks need holds on the machine, if each block is the code's -/
theorem zsound (hall : ∀ y, y < 187 → zchkM y (zPG.getD y []) = true) (hPG : zPG.length = 187) (l : Launch) (D : va_G) (cA : Nat → ClassId) (ad : Nat → Nat) : zclosed zMI zPG (zSd l D cA ad) := by
  refine ⟨fun d y b ls st w Q hbody => ?_, fun d y b ls ls' st w Q hle h => ?_⟩
  · intro p e R s m args below meth c A H locs cells slots sl Fin pc hpc C hH hS hA hX hl hll hret
    unfold zbody at hbody
    split at hbody
    · exact hbody.elim
    · rename_i B hB
      have hy : y < 187 := by
        rcases Nat.lt_or_ge y 187 with h | h
        · exact h
        · have e0 : zPG.getD y [] = [] := by
            rw [List.getD_eq_getElem?_getD, List.getElem?_eq_none (by omega)]
            rfl
          rw [e0] at hB
          simp at hB
      have hchk := hall y hy
      unfold zchkM at hchk
      have hc := List.all_eq_true.mp hchk B (List.mem_of_getElem? hB)
      have hpc2 : B.1 = pc := by
        unfold zPc at hpc
        rw [List.getElem?_map, hB] at hpc
        exact Option.some.inj hpc
      subst hpc2
      exact zrun_ok C hA hret B.2.1 B.1 ls st w H locs sl hc hbody zfix.rf hH hS hX hl hll
  · intro p e R s m args below meth c A H locs cells slots sl Fin pc hpc C hH hS hA hX hl hll hret
    exact h p e R s m args below meth c A H locs cells slots sl Fin pc hpc C hH hS hA hX (hl.le hle) (by rw [(zle_at hle).1]; exact hll) hret
