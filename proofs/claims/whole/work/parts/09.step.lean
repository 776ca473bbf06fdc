/-! ===== one instruction, on the machine ===== -/
theorem zclsA {ci : Nat} (h : ci < 6) : vwCl[ci]? = some (zcn ci, (zTd ci).1, (zTd ci).2) ∧ (∀ w ∈ u_ws (zcn ci) (zTd ci).1 (zTd ci).2, w ∈ zAW) ∧ (zTd ci).2 = zNs.getD ci 0 ∧
    ∃ ty0 : Nat → FieldType, (∀ k, k < (zTd ci).2 → parseFieldDescriptor ((zTd ci).1 k).2.2.1 = some (ty0 k)) ∧ (∀ a, a < (zTd ci).2 → ∀ b, b < (zTd ci).2 → a ≠ b → ((zTd ci).1 a).2.1 ≠ ((zTd ci).1 b).2.1) ∧
      (∀ k, k < (zTd ci).2 → zfk ci k = 0 → ty0 k = .int ∧ ((zTd ci).1 k).2.2.2 = false) ∧ (∀ k, k < (zTd ci).2 → zfk ci k = 1 → ty0 k = .long ∧ ((zTd ci).1 k).2.2.2 = false) ∧ (∀ k, k < (zTd ci).2 → zfk ci k = 2 → ty0 k = .boolean ∧ ((zTd ci).1 k).2.2.2 = false) := by
  match ci, h with
  | 0, _ => exact ⟨rfl, zcls_0, rfl, tyX0, tyX0_ok, nmX0, by decide +kernel, by decide +kernel, by decide +kernel⟩
  | 1, _ => exact ⟨rfl, zcls_1, rfl, tyX1, tyX1_ok, nmX1, by decide +kernel, by decide +kernel, by decide +kernel⟩
  | 2, _ => exact ⟨rfl, zcls_2, rfl, tyX3, tyX3_ok, nmX3, by decide +kernel, by decide +kernel, by decide +kernel⟩
  | 3, _ => exact ⟨rfl, zcls_3, rfl, tyX4, tyX4_ok, nmX4, by decide +kernel, by decide +kernel, by decide +kernel⟩
  | 4, _ => exact ⟨rfl, zcls_4, rfl, tyX5, tyX5_ok, nmX5, by decide +kernel, by decide +kernel, by decide +kernel⟩
  | 5, _ => exact ⟨rfl, zcls_5, rfl, tyX6, tyX6_ok, nmX6, by decide +kernel, by decide +kernel, by decide +kernel⟩
  | n + 6, h => exact absurd h (by omega)
theorem zkey {own idx : Nat} (h : idx < 1000) : (own * 1000 + idx) / 1000 = own ∧ (own * 1000 + idx) % 1000 = idx := by omega
theorem zfl_ok {own idx ci k len : Nat} (h : (Nat.beq len 3 && Nat.blt idx 1000 && zFL.any (fun q => Nat.beq q.1 (own * 1000 + idx) && Nat.beq q.2.1 ci && Nat.beq q.2.2.1 k)) = true) :
    len = 3 ∧ ci < 6 ∧ k < (zTd ci).2 ∧ (Cond.fieldLink (zcn own) idx ((zTd ci).1 k).1 ((zTd ci).1 k).2.1 ((zTd ci).1 k).2.2.1 ∈ zAW ∨ Cond.fieldLinkNest (zcn own) idx ((zTd ci).1 k).1 ((zTd ci).1 k).2.1 ((zTd ci).1 k).2.2.1 RX5 ∈ zNW) := by
  simp only [Bool.and_eq_true, List.any_eq_true] at h
  obtain ⟨⟨h1, h2⟩, q, hq, ⟨h3, h4⟩, h5⟩ := h
  have e1 := Nat.eq_of_beq_eq_true h1
  have e2 : idx < 1000 := Nat.blt_eq.mp h2
  have e3 := Nat.eq_of_beq_eq_true h3
  have e4 := Nat.eq_of_beq_eq_true h4
  have e5 := Nat.eq_of_beq_eq_true h5
  have hb := List.all_eq_true.mp zFL_lt q hq
  simp only [Bool.and_eq_true] at hb
  have b1 := Nat.blt_eq.mp hb.1
  have b2 := Nat.blt_eq.mp hb.2
  have hw := zmap zFL_eq q hq
  rw [e4] at b1 b2
  rw [e5] at b1
  refine ⟨e1, b2, b1, ?_⟩
  obtain ⟨k1, k2⟩ := zkey (own := own) e2
  unfold zFLw at hw
  rw [e3, e4, e5, k1, k2] at hw
  split at hw
  · exact Or.inl (zAW_in hw rfl)
  · exact Or.inr (zNW_in hw rfl)
theorem zki_ok {own idx : Nat} {v : Int32} (h2 : Nat.blt idx 1000 = true) (h : zKI.any (fun q => Nat.beq q.1 (own * 1000 + idx) && decide (q.2.1 = v)) = true) : Cond.constant (zcn own) idx v ∈ zAW := by
  simp only [Bool.and_eq_true, List.any_eq_true, decide_eq_true_eq] at h
  obtain ⟨q, hq, h3, h4⟩ := h
  have e2 : idx < 1000 := Nat.blt_eq.mp h2
  have e3 := Nat.eq_of_beq_eq_true h3
  have hw := zmap zKI_eq q hq
  obtain ⟨k1, k2⟩ := zkey (own := own) e2
  rw [e3, h4, k1, k2] at hw
  exact zAW_in hw rfl
theorem zkl_ok {own idx : Nat} {v : Int64} (h2 : Nat.blt idx 1000 = true) (h : zKL.any (fun q => Nat.beq q.1 (own * 1000 + idx) && decide (q.2.1 = v)) = true) : Cond.constantLong (zcn own) idx v ∈ zAW := by
  simp only [Bool.and_eq_true, List.any_eq_true, decide_eq_true_eq] at h
  obtain ⟨q, hq, h3, h4⟩ := h
  have e2 : idx < 1000 := Nat.blt_eq.mp h2
  have e3 := Nat.eq_of_beq_eq_true h3
  have hw := zmap zKL_eq q hq
  obtain ⟨k1, k2⟩ := zkey (own := own) e2
  rw [e3, h4, k1, k2] at hw
  exact zAW_in hw rfl
def zCx (p : Program) (s : State) (m : MethodId) (args : Array Value) (c : Code) (R : Room) (cells slots : Nat) (D : va_G) (cA : Nat → ClassId) (y d : Nat) : Prop :=
  p.tables.exec = Jvm.exec ∧ c.code = (zMd y).2.1 ∧ c.maxLocals = (zMd y).2.2.1 ∧ s.vm.findClass (zcn (zMd y).2.2.2.2.1) = some m.cls ∧ (∀ w ∈ zAW, w.before args s = true) ∧ (∀ w ∈ zNW, va_Nw w s) ∧ va_K D vwCl (zty cA) s ∧ (d ≤ R.frames ∧ 64 * d ≤ R.locals) ∧ cells ≤ R.cells ∧ slots ≤ R.slots
def zHp (D : va_G) (cA : Nat → ClassId) (ad : Nat → Nat) (A : Nat → Prop) (w : zW) (H : Heap) : Prop := va_P D vwCl (zws ad cA w) H ∧ va_D A (zws ad cA w)
def zXc (y : Nat) (ad : Nat → Nat) (A : Nat → Prop) (s : State) (w : zW) : Prop := (zMd y).2.2.2.2.1 = 9 → ∃ (L : Nat) (xs : Nat → Int32), va_X (ad 43) L xs s s.heap ∧ ad 43 < s.heap.size ∧ ¬ A (ad 43) ∧ L < 2 ^ 31 ∧ w.1 44 0 = Int32.ofNat L ∧ ∀ j, j < L → w.1 43 j = xs j
def zfix (w w' : zW) : Prop := (∀ j, w'.1 43 j = w.1 43 j) ∧ ∀ j, w'.1 44 j = w.1 44 j
theorem zfix.rf {w : zW} : zfix w w := ⟨fun _ => rfl, fun _ => rfl⟩
theorem zfix.tr {a b c : zW} (h1 : zfix a b) (h2 : zfix b c) : zfix a c := ⟨fun j => (h2.1 j).trans (h1.1 j), fun j => (h2.2 j).trans (h1.2 j)⟩
theorem zfix.sI {w : zW} {o k : Nat} {v : Int32} (h : o < 43) : zfix w (sI w o k v) := by
  constructor <;> intro j <;> simp [_root_.id, Jvm.Pilot.@@N@@.sI] <;> intro q <;> omega
theorem zfix.sL {w : zW} {o k : Nat} {v : Int64} : zfix w (sL w o k v) := ⟨fun _ => rfl, fun _ => rfl⟩
theorem zfix.cI {w : zW} {o1 o sp dp n : Nat} (h : o < 43) : zfix w (cI w o1 o sp dp n) := by
  constructor <;> intro j <;> simp [Jvm.Pilot.@@N@@.cI] <;> intro q <;> omega
theorem zfix.cL {w : zW} {o1 o sp dp n : Nat} : zfix w (cL w o1 o sp dp n) := ⟨fun _ => rfl, fun _ => rfl⟩
theorem zXc.fix {y : Nat} {ad : Nat → Nat} {A : Nat → Prop} {s : State} {w w' : zW} (h : zXc y ad A s w) (hf : zfix w w') : zXc y ad A s w' := by
  intro hy
  obtain ⟨L, xs, h1, h2, h3, h4, h5, h6⟩ := h hy
  exact ⟨L, xs, h1, h2, h3, h4, by rw [hf.2]; exact h5, fun j hj => by rw [hf.1]; exact h6 j hj⟩
theorem zdec {i x : Instr} {len n : Nat} (h : (decide (i = x) && Nat.beq len n) = true) : i = x ∧ len = n := by
  simp only [Bool.and_eq_true, decide_eq_true_eq] at h
  exact ⟨h.1, Nat.eq_of_beq_eq_true h.2⟩
/-! what a step needs, taken apart -/
theorem zii_inv {f : Int32 → Int32 → Int32} {st : List Value} {k : List Value → Prop} (h : zii f st k) : ∃ x y r, st = .int y :: .int x :: r ∧ k (.int (f x y) :: r) := by
  unfold zii at h; split at h
  · exact ⟨_, _, _, rfl, h⟩
  · exact h.elim
theorem zid_inv {f : Int32 → Int32 → Int32} {st : List Value} {k : List Value → Prop} (h : zid f st k) : ∃ x y r, st = .int y :: .int x :: r ∧ ¬ y = 0 ∧ k (.int (f x y) :: r) := by
  unfold zid at h; split at h
  · exact ⟨_, _, _, rfl, h.1, h.2⟩
  · exact h.elim
theorem zll_inv {f : Int64 → Int64 → Value} {st : List Value} {k : List Value → Prop} (h : zll f st k) : ∃ x y r, st = .long y :: .long x :: r ∧ k (f x y :: r) := by
  unfold zll at h; split at h
  · exact ⟨_, _, _, rfl, h⟩
  · exact h.elim
theorem zls_inv {f : Int64 → Int32 → Int64} {st : List Value} {k : List Value → Prop} (h : zls f st k) : ∃ x y r, st = .int y :: .long x :: r ∧ k (.long (f x y) :: r) := by
  unfold zls at h; split at h
  · exact ⟨_, _, _, rfl, h⟩
  · exact h.elim
theorem zui_inv {f : Int32 → Value} {st : List Value} {k : List Value → Prop} (h : zui f st k) : ∃ x r, st = .int x :: r ∧ k (f x :: r) := by
  unfold zui at h; split at h
  · exact ⟨_, _, rfl, h⟩
  · exact h.elim
theorem zul_inv {f : Int64 → Value} {st : List Value} {k : List Value → Prop} (h : zul f st k) : ∃ x r, st = .long x :: r ∧ k (f x :: r) := by
  unfold zul at h; split at h
  · exact ⟨_, _, rfl, h⟩
  · exact h.elim
theorem zldi_inv {ls : zL} {i : Nat} {k : Value → Prop} (h : zldi ls i k) : ∃ x, ls[i]? = some (some (.int x)) ∧ k (.int x) := by
  unfold zldi at h; split at h
  · exact ⟨_, by assumption, h⟩
  · exact h.elim
theorem zldl_inv {ls : zL} {i : Nat} {k : Value → Prop} (h : zldl ls i k) : ∃ x, ls[i]? = some (some (.long x)) ∧ k (.long x) := by
  unfold zldl at h; split at h
  · exact ⟨_, by assumption, h⟩
  · exact h.elim
theorem zlda_inv {ls : zL} {i : Nat} {k : Value → Prop} (h : zlda ls i k) : ∃ x, ls[i]? = some (some (.ref x)) ∧ k (.ref x) := by
  unfold zlda at h; split at h
  · exact ⟨_, by assumption, h⟩
  · exact h.elim
theorem zs1_inv {ls : zL} {i : Nat} {v : Value} {k : zL → Prop} (h : zs1 ls i v k) : i < ls.length ∧ zfree ls i = true ∧ k (ls.set i (some v)) := by
  unfold zs1 at h; split at h
  · rename_i hb
    simp only [Bool.and_eq_true] at hb
    exact ⟨Nat.blt_eq.mp hb.1, hb.2, h⟩
  · exact h.elim
theorem zs2_inv {ls : zL} {i : Nat} {v : Value} {k : zL → Prop} (h : zs2 ls i v k) : i + 1 < ls.length ∧ zfree ls i = true ∧ k ((ls.set i (some v)).set (i + 1) none) := by
  unfold zs2 at h; split at h
  · rename_i hb
    simp only [Bool.and_eq_true] at hb
    exact ⟨Nat.blt_eq.mp hb.1, hb.2, h⟩
  · exact h.elim
theorem zsti_inv {ls : zL} {i : Nat} {st : List Value} {k : zL → List Value → Prop} (h : zsti ls i st k) : ∃ x r, st = .int x :: r ∧ i < ls.length ∧ zfree ls i = true ∧ k (ls.set i (some (.int x))) r := by
  unfold zsti at h; split at h
  · exact ⟨_, _, rfl, zs1_inv h⟩
  · exact h.elim
theorem zstl_inv {ls : zL} {i : Nat} {st : List Value} {k : zL → List Value → Prop} (h : zstl ls i st k) : ∃ x r, st = .long x :: r ∧ i + 1 < ls.length ∧ zfree ls i = true ∧ k ((ls.set i (some (.long x))).set (i + 1) none) r := by
  unfold zstl at h; split at h
  · exact ⟨_, _, rfl, zs2_inv h⟩
  · exact h.elim
theorem zsta_inv {ls : zL} {i : Nat} {st : List Value} {k : zL → List Value → Prop} (h : zsta ls i st k) : ∃ x r, st = .ref x :: r ∧ i < ls.length ∧ zfree ls i = true ∧ k (ls.set i (some (.ref x))) r := by
  unfold zsta at h; split at h
  · exact ⟨_, _, rfl, zs1_inv h⟩
  · exact h.elim
theorem zinc_inv {ls : zL} {i : Nat} {n : Int} {k : zL → Prop} (h : zinc ls i n k) : ∃ x, ls[i]? = some (some (.int x)) ∧ i < ls.length ∧ zfree ls i = true ∧ k (ls.set i (some (.int (x + Int32.ofInt n)))) := by
  unfold zinc at h; split at h
  · exact ⟨_, by assumption, zs1_inv h⟩
  · exact h.elim
theorem zald_inv {kd : Nat} {st : List Value} {w : zW} {k : List Value → Prop} (h : zald kd st w k) : ∃ j o r, st = .int j :: .ref o :: r ∧ zar o kd (zln o) ∧ vp_in j (zln o) ∧ k (.int (gI w o j.toNatClampNeg) :: r) := by
  unfold zald at h; split at h
  · exact ⟨_, _, _, rfl, h⟩
  · exact h.elim
theorem zaldl_inv {st : List Value} {w : zW} {k : List Value → Prop} (h : zaldl st w k) : ∃ j o r, st = .int j :: .ref o :: r ∧ zar o 1 (zln o) ∧ vp_in j (zln o) ∧ k (.long (gL w o j.toNatClampNeg) :: r) := by
  unfold zaldl at h; split at h
  · exact ⟨_, _, _, rfl, h⟩
  · exact h.elim
theorem zalda_inv {st : List Value} {k : List Value → Prop} (h : zalda st k) : ∃ j o r, st = .int j :: .ref o :: r ∧ zar o 3 (zln o) ∧ vp_in j (zln o) ∧ k (.ref (zre o j.toNatClampNeg) :: r) := by
  unfold zalda at h; split at h
  · exact ⟨_, _, _, rfl, h⟩
  · exact h.elim
theorem zast_inv {st : List Value} {w : zW} {k : List Value → zW → Prop} (h : zast st w k) : ∃ x j o r, st = .int x :: .int j :: .ref o :: r ∧ zar o 0 (zln o) ∧ vp_in j (zln o) ∧ k r (sI w o j.toNatClampNeg x) := by
  unfold zast at h; split at h
  · exact ⟨_, _, _, _, rfl, h⟩
  · exact h.elim
theorem zastc_inv {st : List Value} {w : zW} {k : List Value → zW → Prop} (h : zastc st w k) : ∃ x j o r, st = .int x :: .int j :: .ref o :: r ∧ zar o 2 (zln o) ∧ vp_in j (zln o) ∧ k r (sI w o j.toNatClampNeg (vp_nar .char x)) := by
  unfold zastc at h; split at h
  · exact ⟨_, _, _, _, rfl, h⟩
  · exact h.elim
theorem zastl_inv {st : List Value} {w : zW} {k : List Value → zW → Prop} (h : zastl st w k) : ∃ x j o r, st = .long x :: .int j :: .ref o :: r ∧ zar o 1 (zln o) ∧ vp_in j (zln o) ∧ k r (sL w o j.toNatClampNeg x) := by
  unfold zastl at h; split at h
  · exact ⟨_, _, _, _, rfl, h⟩
  · exact h.elim
theorem zalen_inv {st : List Value} {k : List Value → Prop} (h : zalen st k) : ∃ o r, st = .ref o :: r ∧ zar o 0 (zln o) ∧ k (.int (Int32.ofNat (zln o)) :: r) := by
  unfold zalen at h; split at h
  · exact ⟨_, _, rfl, h⟩
  · exact h.elim
theorem zscr_inv {st : List Value} {w : zW} {k : List Value → Prop} (h : zscr st w k) : ∃ j r, st = .int j :: .ref 43 :: r ∧ vp_in j (gI w 44 0).toNatClampNeg ∧ k (.int (gI w 43 j.toNatClampNeg) :: r) := by
  unfold zscr at h; split at h
  · obtain ⟨rfl, h2, h3⟩ := h
    exact ⟨_, _, rfl, h2, h3⟩
  · exact h.elim
theorem zscl_inv {st : List Value} {w : zW} {k : List Value → Prop} (h : zscl st w k) : ∃ r, st = .ref 43 :: r ∧ k (.int (gI w 44 0) :: r) := by
  unfold zscl at h; split at h
  · obtain ⟨rfl, h2⟩ := h
    exact ⟨_, rfl, h2⟩
  · exact h.elim
theorem zget_inv {ci q : Nat} {st : List Value} {w : zW} {k : List Value → Prop} (ad : Nat → Nat) (h : zget ci q st w k) : ∃ o r v, st = .ref o :: r ∧ zis o ci ∧ zfv ad w o ci q = zv ad v ∧ k (v :: r) := by
  unfold zget at h; split at h
  · obtain ⟨h1, h2⟩ := h
    split at h2
    · rename_i e; exact ⟨_, _, _, rfl, h1, by unfold zfv; rw [e]; rfl, h2⟩
    · rename_i e; exact ⟨_, _, _, rfl, h1, by unfold zfv; rw [e]; rfl, h2⟩
    · rename_i e; exact ⟨_, _, _, rfl, h1, by unfold zfv; rw [e]; rfl, h2⟩
    · rename_i e; exact ⟨_, _, _, rfl, h1, by unfold zfv; rw [e]; rfl, h2⟩
    · exact h2.elim
  · exact h.elim
theorem zput_inv {ci q : Nat} {st : List Value} {w : zW} {k : List Value → zW → Prop} (h : zput ci q st w k) :
    (∃ x o r, st = .int x :: .ref o :: r ∧ zfk ci q = 0 ∧ zis o ci ∧ k r (sI w o q x)) ∨ (∃ x o r, st = .long x :: .ref o :: r ∧ zfk ci q = 1 ∧ zis o ci ∧ k r (sL w o q x)) ∨ (∃ x o r, st = .int x :: .ref o :: r ∧ zfk ci q = 2 ∧ (x = 0 ∨ x = 1) ∧ zis o ci ∧ k r (sI w o q x)) := by
  unfold zput at h; split at h
  · split at h
    · exact Or.inl ⟨_, _, _, rfl, by assumption, h.1, h.2⟩
    · exact h.elim
  · split at h
    · exact Or.inr (Or.inl ⟨_, _, _, rfl, by assumption, h.1, h.2⟩)
    · exact h.elim
  · split at h
    · exact Or.inr (Or.inr ⟨_, _, _, rfl, by assumption, h.2.1, h.1, h.2.2⟩)
    · exact h.elim
  · exact h.elim
theorem zbool_nar {x : Int32} (h : x = 0 ∨ x = 1) : narrow .boolean (.int x) = .int x ∧ fits .boolean (.int x) = true := by
  rcases h with rfl | rfl <;> exact ⟨by decide +kernel, by decide +kernel⟩
section ZST
variable {p : Program} {l : Launch} {e : Env} {R : Room} {s : State} {m : MethodId} {args : Array Value} {below : List Frame} {meth : Method} {c : Code} {Fin : State → Prop} {cells slots : Nat} {D : va_G} {cA : Nat → ClassId} {ad : Nat → Nat} {A : Nat → Prop} {y d : Nat}
/-- what a step leads to -/
def zKK (p : Program) (l : Launch) (e : Env) (R : Room) (s : State) (m : MethodId) (args : Array Value) (below : List Frame) (meth : Method) (c : Code) (Fin : State → Prop) (cells slots : Nat) (D : va_G) (cA : Nat → ClassId) (ad : Nat → Nat) (A : Nat → Prop) (w : zW) (nL pc : Nat) (k : zL → List Value → zW → Prop) : Prop :=
  ∀ (ls : zL) (st : List Value) (w' : zW) (H : Heap) (locs : List Loc) (sl : Array Slot), k ls st w' → zfix w w' → zHp D cA ad A w' H → va_S A s.heap H locs → zLR ad ls sl → ls.length = nL → W p l e R s m args below meth c H locs cells slots Fin (F0 m pc sl (st.map (zv ad)))
theorem zone_get (C : zCx p s m args c R cells slots D cA y d) {ci q pc len idx : Nat} (hdg : decode (zMd y).2.1 pc = .ok (.getfield idx, len))
    (hc : (Nat.beq len 3 && Nat.blt idx 1000 && zFL.any (fun x => Nat.beq x.1 ((zMd y).2.2.2.2.1 * 1000 + idx) && Nat.beq x.2.1 ci && Nat.beq x.2.2.1 q)) = true)
    {o : Nat} {r : List Value} {v : Value} {w : zW} {H : Heap} {locs : List Loc} {sl : Array Slot} (hi : zis o ci) (hv : zfv ad w o ci q = zv ad v) (hH : zHp D cA ad A w H)
    (kk : W p l e R s m args below meth c H locs cells slots Fin (F0 m (pc + len) sl ((v :: r).map (zv ad)))) : W p l e R s m args below meth c H locs cells slots Fin (F0 m pc sl ((Value.ref o :: r).map (zv ad))) := by
  obtain ⟨hx, hb, hml, hown, hts, hnw, hK, -⟩ := C
  obtain ⟨rfl, hci, hq, hl⟩ := zfl_ok hc
  obtain ⟨c1, c2, c3, -⟩ := zclsA hci
  have hat : (zws ad cA w)[o]? = some (ad o, .inr (ci, (List.range (zNs.getD ci 0)).map (zfv ad w o ci))) := by rw [zws_at (zsh_lt hi), zE_is hi]
  have hfv : ((List.range (zNs.getD ci 0)).map (zfv ad w o ci))[q]? = some (zv ad v) := by
    rw [c3] at hq
    rw [← hv]
    simp only [List.getElem?_map, List.getElem?_range hq, Option.map_some]
  rcases hl with hl | hl
  · exact va_get hx hb hts c2 hown hK hH.1 o hat c1 q hq (hts _ hl) (fun _ h => h) hfv hdg kk
  · exact va_getN hx hb hts c2 hown hK hH.1 o hat c1 q hq (va_Nw.use rfl (hnw _ hl)) (fun _ h => h) hfv hdg kk
theorem zone_put (C : zCx p s m args c R cells slots D cA y d) {ci q pc len idx : Nat} (hdg : decode (zMd y).2.1 pc = .ok (.putfield idx, len))
    (hc : (Nat.beq len 3 && Nat.blt idx 1000 && zFL.any (fun x => Nat.beq x.1 ((zMd y).2.2.2.2.1 * 1000 + idx) && Nat.beq x.2.1 ci && Nat.beq x.2.2.1 q)) = true)
    {st : List Value} {ls : zL} {w : zW} {H : Heap} {locs : List Loc} {sl : Array Slot} {k : zL → List Value → zW → Prop} (hk : zput ci q st w (fun r w' => k ls r w')) (hH : zHp D cA ad A w H) (hS : va_S A s.heap H locs) (hl0 : zLR ad ls sl)
    (kk : zKK p l e R s m args below meth c Fin cells slots D cA ad A w ls.length (pc + len) k) : W p l e R s m args below meth c H locs cells slots Fin (F0 m pc sl (st.map (zv ad))) := by
  obtain ⟨hx, hb, hml, hown, hts, hnw, hK, -⟩ := C
  obtain ⟨rfl, hci, hq, hl⟩ := zfl_ok hc
  obtain ⟨c1, c2, c3, ty0, t1, t2, f0, f1, f2⟩ := zclsA hci
  have key : ∀ (o : Nat) (r : List Value) (v : Value) (w' : zW) (ty : FieldType), st.map (zv ad) = v :: .ref (ad o) :: r.map (zv ad) → zis o ci → ty0 q = ty → ((zTd ci).1 q).2.2.2 = false → narrow ty v = v → fits ty v = true →
      (zws ad cA w).set o (ad o, .inr (ci, ((List.range (zNs.getD ci 0)).map (zfv ad w o ci)).set q v)) = zws ad cA w' → k ls r w' → zfix w w' → W p l e R s m args below meth c H locs cells slots Fin (F0 m pc sl (st.map (zv ad))) := by
    intro o r v w' ty hst hi hty hfin hn hf hset hk' hfx
    rw [hst]
    have hat : (zws ad cA w)[o]? = some (ad o, .inr (ci, (List.range (zNs.getD ci 0)).map (zfv ad w o ci))) := by rw [zws_at (zsh_lt hi), zE_is hi]
    have hlen : q < ((List.range (zNs.getD ci 0)).map (zfv ad w o ci)).length := by rw [← c3]; simpa using hq
    have hd : parseFieldDescriptor ((zTd ci).1 q).2.2.1 = some ty := by rw [t1 q hq, hty]
    rcases hl with hl | hl
    · refine va_put hx hb hts c2 ty0 t1 t2 hown hK hH.1 hH.2 hS o hat c1 q hq (hts _ hl) (fun _ h => h) hfin hd hn hf hlen hdg (fun H1 locs1 a1 a2 a3 => ?_)
      rw [hset] at a1 a2
      exact kk ls r w' H1 locs1 sl hk' hfx ⟨a1, a2⟩ a3 hl0 rfl
    · refine va_putN hx hb hts c2 ty0 t1 t2 hown hK hH.1 hH.2 hS o hat c1 q hq (va_Nw.use rfl (hnw _ hl)) (fun _ h => h) hfin hd hn hf hlen hdg (fun H1 locs1 a1 a2 a3 => ?_)
      rw [hset] at a1 a2
      exact kk ls r w' H1 locs1 sl hk' hfx ⟨a1, a2⟩ a3 hl0 rfl
  rcases zput_inv hk with ⟨x, o, r, rfl, hz, hi, h⟩ | ⟨x, o, r, rfl, hz, hi, h⟩ | ⟨x, o, r, rfl, hz, hx01, hi, h⟩
  · exact key o r (.int x) (sI w o q x) .int rfl hi (f0 q hq hz).1 (f0 q hq hz).2 rfl rfl (zws_set (zsh_lt hi) (zE_pI hi (by rw [← c3]; exact hq) (Or.inl hz)) (fun a ha => zE_sI a ha)) h (zfix.sI (zsh_lt hi))
  · exact key o r (.long x) (sL w o q x) .long rfl hi (f1 q hq hz).1 (f1 q hq hz).2 rfl rfl (zws_set (zsh_lt hi) (zE_pL hi (by rw [← c3]; exact hq) hz) (fun a ha => zE_sL a ha)) h zfix.sL
  · exact key o r (.int x) (sI w o q x) .boolean rfl hi (f2 q hq hz).1 (f2 q hq hz).2 (zbool_nar hx01).1 (zbool_nar hx01).2 (zws_set (zsh_lt hi) (zE_pI hi (by rw [← c3]; exact hq) (Or.inr hz)) (fun a ha => zE_sI a ha)) h (zfix.sI (zsh_lt hi))
end ZST
