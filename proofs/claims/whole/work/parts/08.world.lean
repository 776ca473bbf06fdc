/-! ===== the abstract world in the heap ===== -/
def zv (ad : Nat → Nat) (v : Value) : Value := match v with
  | .ref k => .ref (ad k)
  | v => v
theorem zv_cat (ad : Nat → Nat) (v : Value) : (zv ad v).category = v.category := by cases v <;> rfl
theorem zv_catL (ad : Nat → Nat) (st : List Value) : ((st.map (zv ad)).map fun v => v.category).sum = zcat st := by
  unfold zcat
  rw [List.map_map]
  congr 1
  exact List.map_congr_left (fun v _ => zv_cat ad v)
def zfv (ad : Nat → Nat) (w : zW) (o ci k : Nat) : Value := match zfk ci k with
  | 1 => .long (w.2 o k)
  | 3 => .ref (ad (zrf o k))
  | _ => .int (w.1 o k)
def zNs : List Nat := [9, 7, 4, 6, 6, 27]
def zEa (ad : Nat → Nat) (w : zW) (o kd : Nat) : (Nat → Int32) ⊕ (Nat → Int64) ⊕ (Nat → UInt32) ⊕ (Nat → UInt64) ⊕ (Nat → Option Nat) := match kd with
  | 1 => .inr (.inl (w.2 o))
  | 3 => .inr (.inr (.inr (.inr (fun j => some (ad (zre o j))))))
  | _ => .inl (w.1 o)
def zE (ad : Nat → Nat) (cA : Nat → ClassId) (w : zW) (o : Nat) : va_E := match zshL[o]? with
  | some (.inl ci) => .inr (ci, (List.range (zNs.getD ci 0)).map (zfv ad w o ci))
  | some (.inr q) => .inl (cA q.1, q.2, zEa ad w o q.1)
  | none => .inr (9, [])
def zws (ad : Nat → Nat) (cA : Nat → ClassId) (w : zW) : va_W := (List.range 43).map (fun o => (ad o, zE ad cA w o))
def zty (cA : Nat → ClassId) : List (ClassId × FieldType) := [(cA 0, .int), (cA 1, .long), (cA 2, .char), (cA 3, .object RX3)]
theorem zsh_lt {o : Nat} {x : Nat ⊕ (Nat × Nat)} (h : zshL[o]? = some x) : o < 43 := (List.getElem?_eq_some_iff.mp h).1
theorem zws_at {ad : Nat → Nat} {cA : Nat → ClassId} {w : zW} {o : Nat} (h : o < 43) : (zws ad cA w)[o]? = some (ad o, zE ad cA w o) := by
  simp [zws, h]
theorem zE_is {ad : Nat → Nat} {cA : Nat → ClassId} {w : zW} {o ci : Nat} (h : zis o ci) : zE ad cA w o = .inr (ci, (List.range (zNs.getD ci 0)).map (zfv ad w o ci)) := by
  unfold zE; rw [h]
theorem zE_ar {ad : Nat → Nat} {cA : Nat → ClassId} {w : zW} {o kd n : Nat} (h : zar o kd n) : zE ad cA w o = .inl (cA kd, n, zEa ad w o kd) := by
  unfold zE; rw [h]
theorem zws_set {ad : Nat → Nat} {cA : Nat → ClassId} {w w' : zW} {o : Nat} {e : va_E} (h : o < 43) (he : zE ad cA w' o = e) (ho : ∀ a, a ≠ o → zE ad cA w' a = zE ad cA w a) : (zws ad cA w).set o (ad o, e) = zws ad cA w' := by
  apply List.ext_getElem?
  intro k
  rw [List.getElem?_set]
  by_cases hk : o = k
  · subst hk
    rw [if_pos rfl, if_pos (by simp [zws, h]), zws_at h, he]
  · rw [if_neg hk]
    by_cases hl : k < 43
    · rw [zws_at hl, zws_at hl, ho k (fun z => hk z.symm)]
    · rw [List.getElem?_eq_none (by simp [zws]; omega), List.getElem?_eq_none (by simp [zws]; omega)]
theorem zE_sI {ad : Nat → Nat} {cA : Nat → ClassId} {w : zW} {o k : Nat} {v : Int32} (a : Nat) (h : a ≠ o) : zE ad cA (sI w o k v) a = zE ad cA w a := by
  have e1 : ∀ j, (sI w o k v).1 a j = w.1 a j := fun j => by simp [sI, h]
  have e2 : (sI w o k v).1 a = w.1 a := funext e1
  have e3 : (sI w o k v).2 = w.2 := rfl
  unfold zE
  split
  · rename_i ci _
    congr 2
    apply List.map_congr_left
    intro j _
    unfold zfv
    rw [e3, e1]
  · rename_i q _
    unfold zEa
    rw [e2, e3]
  · rfl
theorem zE_sL {ad : Nat → Nat} {cA : Nat → ClassId} {w : zW} {o k : Nat} {v : Int64} (a : Nat) (h : a ≠ o) : zE ad cA (sL w o k v) a = zE ad cA w a := by
  have e1 : ∀ j, (sL w o k v).2 a j = w.2 a j := fun j => by simp [sL, h]
  have e2 : (sL w o k v).2 a = w.2 a := funext e1
  have e3 : (sL w o k v).1 = w.1 := rfl
  unfold zE
  split
  · rename_i ci _
    congr 2
    apply List.map_congr_left
    intro j _
    unfold zfv
    rw [e3, e1]
  · rename_i q _
    unfold zEa
    rw [e2, e3]
  · rfl
theorem zE_cI {ad : Nat → Nat} {cA : Nat → ClassId} {w : zW} {o1 o2 sp dp n : Nat} (a : Nat) (h : a ≠ o2) : zE ad cA (cI w o1 o2 sp dp n) a = zE ad cA w a := by
  have e1 : ∀ j, (cI w o1 o2 sp dp n).1 a j = w.1 a j := fun j => by simp [cI, h]
  have e2 : (cI w o1 o2 sp dp n).1 a = w.1 a := funext e1
  have e3 : (cI w o1 o2 sp dp n).2 = w.2 := rfl
  unfold zE
  split
  · rename_i ci _
    congr 2
    apply List.map_congr_left
    intro j _
    unfold zfv
    rw [e3, e1]
  · rename_i q _
    unfold zEa
    rw [e2, e3]
  · rfl
theorem zE_cL {ad : Nat → Nat} {cA : Nat → ClassId} {w : zW} {o1 o2 sp dp n : Nat} (a : Nat) (h : a ≠ o2) : zE ad cA (cL w o1 o2 sp dp n) a = zE ad cA w a := by
  have e1 : ∀ j, (cL w o1 o2 sp dp n).2 a j = w.2 a j := fun j => by simp [cL, h]
  have e2 : (cL w o1 o2 sp dp n).2 a = w.2 a := funext e1
  have e3 : (cL w o1 o2 sp dp n).1 = w.1 := rfl
  unfold zE
  split
  · rename_i ci _
    congr 2
    apply List.map_congr_left
    intro j _
    unfold zfv
    rw [e3, e1]
  · rename_i q _
    unfold zEa
    rw [e2, e3]
  · rfl
/-- a field written -/
theorem zflds {n k : Nat} {f g : Nat → Value} {v : Value} (hk : k < n) (h1 : g k = v) (h2 : ∀ j, j ≠ k → g j = f j) : (List.range n).map g = ((List.range n).map f).set k v := by
  apply List.ext_getElem?
  intro j
  rw [List.getElem?_set]
  by_cases h : k = j
  · subst h
    rw [if_pos rfl, if_pos (by simpa using hk)]
    simp [hk, h1]
  · rw [if_neg h]
    simp only [List.getElem?_map]
    cases hr : (List.range n)[j]? with
    | none => rfl
    | some x =>
      have hx : x = j := by
        have := List.getElem?_eq_some_iff.mp hr
        obtain ⟨hl, he⟩ := this
        simpa using he.symm
      subst hx
      simp [h2 x (fun z => h z.symm)]
theorem zE_pI {ad : Nat → Nat} {cA : Nat → ClassId} {w : zW} {o ci k : Nat} {v : Int32} (h : zis o ci) (hk : k < zNs.getD ci 0) (hf : zfk ci k = 0 ∨ zfk ci k = 2) : zE ad cA (sI w o k v) o = .inr (ci, ((List.range (zNs.getD ci 0)).map (zfv ad w o ci)).set k (.int v)) := by
  rw [zE_is h]
  congr 2
  refine zflds hk ?_ (fun j hj => ?_)
  · unfold zfv
    rcases hf with e | e <;> rw [e] <;> simp [sI]
  · unfold zfv
    have e1 : (sI w o k v).1 o j = w.1 o j := by simp [sI, hj]
    have e3 : (sI w o k v).2 = w.2 := rfl
    rw [e1, e3]
theorem zE_pL {ad : Nat → Nat} {cA : Nat → ClassId} {w : zW} {o ci k : Nat} {v : Int64} (h : zis o ci) (hk : k < zNs.getD ci 0) (hf : zfk ci k = 1) : zE ad cA (sL w o k v) o = .inr (ci, ((List.range (zNs.getD ci 0)).map (zfv ad w o ci)).set k (.long v)) := by
  rw [zE_is h]
  congr 2
  refine zflds hk ?_ (fun j hj => ?_)
  · unfold zfv
    rw [hf]; simp [sL]
  · unfold zfv
    have e1 : (sL w o k v).2 o j = w.2 o j := by simp [sL, hj]
    have e3 : (sL w o k v).1 = w.1 := rfl
    rw [e1, e3]
theorem zE_aI {ad : Nat → Nat} {cA : Nat → ClassId} {w : zW} {o kd n j : Nat} {v : Int32} (h : zar o kd n) (hk : kd = 0 ∨ kd = 2) : zE ad cA (sI w o j v) o = .inl (cA kd, n, .inl (upd (w.1 o) j v)) := by
  rw [zE_ar h]
  congr 3
  rcases hk with rfl | rfl <;> exact congrArg Sum.inl (funext fun x => by simp [sI, upd])
theorem zE_aL {ad : Nat → Nat} {cA : Nat → ClassId} {w : zW} {o n j : Nat} {v : Int64} (h : zar o 1 n) : zE ad cA (sL w o j v) o = .inl (cA 1, n, .inr (.inl (vp_updL (w.2 o) j v))) := by
  rw [zE_ar h]
  congr 3
  exact congrArg (fun z => Sum.inr (Sum.inl z)) (funext fun x => by simp [sL, vp_updL])
theorem zE_xI {ad : Nat → Nat} {cA : Nat → ClassId} {w : zW} {o1 o2 n sp dp k : Nat} (h : zar o2 0 n) : zE ad cA (cI w o1 o2 sp dp k) o2 = .inl (cA 0, n, .inl (va_cpy (w.1 o1) (w.1 o2) sp dp k)) := by
  rw [zE_ar h]
  congr 3
  exact congrArg Sum.inl (funext fun x => by simp [cI])
theorem zE_xL {ad : Nat → Nat} {cA : Nat → ClassId} {w : zW} {o1 o2 n sp dp k : Nat} (h : zar o2 1 n) : zE ad cA (cL w o1 o2 sp dp k) o2 = .inl (cA 1, n, .inr (.inl (va_cpy (w.2 o1) (w.2 o2) sp dp k))) := by
  rw [zE_ar h]
  congr 3
  exact congrArg (fun z => Sum.inr (Sum.inl z)) (funext fun x => by simp [cL])
/-! locals -/
def zLR (ad : Nat → Nat) (ls : zL) (sl : Array Slot) : Prop := sl.size = ls.length ∧ lv_wf sl ∧ ∀ (i : Nat) (v : Value), ls[i]? = some (some v) → sl[i]? = some (.val (zv ad v))
def zAL (ad : Nat → Nat) (ls : zL) : List (Nat × Value) := (List.range ls.length).filterMap (fun i => match ls[i]? with
  | some (some v) => some (i, zv ad v)
  | _ => none)
theorem zAL_mem {ad : Nat → Nat} {ls : zL} {i : Nat} {v : Value} (h : ls[i]? = some (some v)) : (i, zv ad v) ∈ zAL ad ls := by
  refine List.mem_filterMap.mpr ⟨i, List.mem_range.mpr (List.getElem?_eq_some_iff.mp h).1, ?_⟩
  rw [h]
theorem zAL_of {ad : Nat → Nat} {ls : zL} {q : Nat × Value} (h : q ∈ zAL ad ls) : ∃ v, ls[q.1]? = some (some v) ∧ q.2 = zv ad v := by
  obtain ⟨i, -, hi⟩ := List.mem_filterMap.mp h
  split at hi
  · rename_i v hv
    cases hi
    exact ⟨v, hv, rfl⟩
  · cases hi
theorem zLR.has {ad : Nat → Nat} {ls : zL} {sl : Array Slot} (h : zLR ad ls sl) : lv_has sl ls.length (zAL ad ls) := by
  refine ⟨h.1, h.2.1, fun q hq => ?_⟩
  obtain ⟨v, h1, h2⟩ := zAL_of hq
  rw [h2]
  exact h.2.2 _ _ h1
theorem zfree_ok {ls : zL} {i j : Nat} {v : Value} (hf : zfree ls i = true) (hj : j + 1 = i) (h : ls[j]? = some (some v)) : ¬ v.category = 2 := by
  subst hj
  unfold zfree at hf
  dsimp only at hf
  rw [h] at hf
  cases v <;> simp_all [Value.category]
theorem zLR.put1 {ad : Nat → Nat} {ls : zL} {sl' : Array Slot} {i : Nat} {v : Value} (hi : i < ls.length) (hf : zfree ls i = true)
    (h : lv_has sl' ls.length ((i, zv ad v) :: (zAL ad ls).filter (fun q => !(q.1 == i) && !(q.1 + 1 == i && q.2.category == 2)))) : zLR ad (ls.set i (some v)) sl' := by
  refine ⟨by rw [h.1]; simp, h.2.1, fun j u hj => ?_⟩
  rw [List.getElem?_set] at hj
  by_cases e : i = j
  · subst e
    rw [if_pos rfl, if_pos hi] at hj
    cases hj
    exact h.2.2 (i, zv ad v) List.mem_cons_self
  · rw [if_neg e] at hj
    refine h.2.2 (j, zv ad u) (List.mem_cons_of_mem _ (List.mem_filter.mpr ⟨zAL_mem hj, ?_⟩))
    have h1 : ¬ j = i := fun z => e z.symm
    simp only [Bool.and_eq_true, Bool.not_eq_true', beq_eq_false_iff_ne, ne_eq, Bool.and_eq_false_iff]
    refine ⟨h1, ?_⟩
    by_cases e2 : j + 1 = i
    · exact Or.inr (by rw [zv_cat]; exact zfree_ok hf e2 hj)
    · exact Or.inl e2
theorem zLR.put2 {ad : Nat → Nat} {ls : zL} {sl' : Array Slot} {i : Nat} {v : Value} (hi : i + 1 < ls.length) (hf : zfree ls i = true)
    (h : lv_has sl' ls.length ((i, zv ad v) :: (zAL ad ls).filter (fun q => !(q.1 == i) && (!(q.1 == i + 1) && !(q.1 + 1 == i && q.2.category == 2))))) : zLR ad ((ls.set i (some v)).set (i + 1) none) sl' := by
  refine ⟨by rw [h.1]; simp, h.2.1, fun j u hj => ?_⟩
  rw [List.getElem?_set] at hj
  by_cases e0 : i + 1 = j
  · subst e0
    rw [if_pos rfl, if_pos (by simpa using hi)] at hj
    cases hj
  rw [if_neg e0, List.getElem?_set] at hj
  by_cases e : i = j
  · subst e
    rw [if_pos rfl, if_pos (by omega)] at hj
    cases hj
    exact h.2.2 (i, zv ad v) List.mem_cons_self
  · rw [if_neg e] at hj
    refine h.2.2 (j, zv ad u) (List.mem_cons_of_mem _ (List.mem_filter.mpr ⟨zAL_mem hj, ?_⟩))
    have h1 : ¬ j = i := fun z => e z.symm
    have h2 : ¬ j = i + 1 := fun z => e0 z.symm
    simp only [Bool.and_eq_true, Bool.not_eq_true', beq_eq_false_iff_ne, ne_eq, Bool.and_eq_false_iff]
    refine ⟨h1, h2, ?_⟩
    by_cases e2 : j + 1 = i
    · exact Or.inr (by rw [zv_cat]; exact zfree_ok hf e2 hj)
    · exact Or.inl e2
theorem zle_at : ∀ {ls ls' : zL}, zle ls ls' → ls.length = ls'.length ∧ ∀ (i : Nat) (v : Value), ls[i]? = some (some v) → ls'[i]? = some (some v)
  | [], [], _ => ⟨rfl, fun i v h => by simp at h⟩
  | a :: r, b :: t, h => by
    obtain ⟨h1, h2⟩ := zle_at h.2
    refine ⟨by simp [h1], fun i v hi => ?_⟩
    cases i with
    | zero =>
      rw [List.getElem?_cons_zero] at hi ⊢
      rcases h.1 with e | e
      · rw [e] at hi; cases hi
      · rw [← e]; exact hi
    | succ i =>
      rw [List.getElem?_cons_succ] at hi ⊢
      exact h2 i v hi
theorem zLR.le {ad : Nat → Nat} {ls ls' : zL} {sl : Array Slot} (h : zLR ad ls' sl) (hl : zle ls ls') : zLR ad ls sl := by
  obtain ⟨h1, h2⟩ := zle_at hl
  exact ⟨by rw [h.1, h1], h.2.1, fun i v hi => h.2.2 i v (h2 i v hi)⟩
/-- entry -/
theorem zent_args {ad : Nat → Nat} : ∀ (vs : List Value) (n i : Nat) (v : Value), (zent1 vs)[i]? = some (some v) → (n + i, zv ad v) ∈ lv_args n (vs.map (zv ad))
  | [], n, i, v, h => by simp [zent1] at h
  | u :: r, n, i, v, h => by
    have key : ∀ x : zL, zent1 (u :: r) = x ++ zent1 r → (x = [some u] ∧ (zv ad u).category = 1 ∨ x = [some u, none] ∧ (zv ad u).category = 2) → (n + i, zv ad v) ∈ lv_args n ((u :: r).map (zv ad)) := by
      intro x hx hc
      rw [hx] at h
      rw [List.map_cons]
      rcases hc with ⟨rfl, hc⟩ | ⟨rfl, hc⟩
      · cases i with
        | zero =>
          simp at h
          subst h
          simp [lv_args]
        | succ i =>
          have h' : (zent1 r)[i]? = some (some v) := by simpa using h
          have := zent_args (ad := ad) r (n + 1) i v h'
          simp only [lv_args, hc, if_true, Nat.reduceEqDiff, if_false]
          refine List.mem_cons_of_mem _ ?_
          rw [show n + (i + 1) = n + 1 + i by omega]
          exact this
      · cases i with
        | zero =>
          simp at h
          subst h
          simp [lv_args]
        | succ i =>
          cases i with
          | zero => simp at h
          | succ i =>
            have h' : (zent1 r)[i]? = some (some v) := by simpa using h
            have := zent_args (ad := ad) r (n + 2) i v h'
            simp only [lv_args, hc, if_true, Nat.reduceEqDiff, if_false]
            refine List.mem_cons_of_mem _ ?_
            rw [show n + (i + 1 + 1) = n + 2 + i by omega]
            exact this
    cases u with
    | long x => exact key [some (.long x), none] rfl (Or.inr ⟨rfl, rfl⟩)
    | double x => exact key [some (.double x), none] rfl (Or.inr ⟨rfl, rfl⟩)
    | int x => exact key [some (.int x)] rfl (Or.inl ⟨rfl, rfl⟩)
    | float x => exact key [some (.float x)] rfl (Or.inl ⟨rfl, rfl⟩)
    | null => exact key [some .null] rfl (Or.inl ⟨rfl, rfl⟩)
    | ref x => exact key [some (.ref x)] rfl (Or.inl ⟨rfl, rfl⟩)
    | retAddr x => exact key [some (.retAddr x)] rfl (Or.inl ⟨rfl, rfl⟩)
theorem zent_len : ∀ (ad : Nat → Nat) (vs : List Value), (lg_sl (vs.map (zv ad))).length = (zent1 vs).length
  | ad, [] => rfl
  | ad, u :: r => by
    have ih := zent_len ad r
    unfold lg_sl at ih ⊢
    unfold zent1 at ih ⊢
    rw [List.map_cons, List.flatMap_cons, List.flatMap_cons, List.length_append, List.length_append, ih]
    congr 1
    cases u <;> simp [zv, Value.category]
theorem zent_LR {ad : Nat → Nat} {vs : List Value} {n : Nat} (h : (zent1 vs).length ≤ n) : zLR ad (zent vs n) ((lg_sl (vs.map (zv ad)) ++ List.replicate (n - (lg_sl (vs.map (zv ad))).length) Slot.unset).toArray) := by
  obtain ⟨h1, h2, h3⟩ := lv_entry (vs.map (zv ad)) (n := n) (by rw [zent_len]; exact h)
  refine ⟨?_, h2, fun i v hi => ?_⟩
  · rw [h1]; simp [zent]; omega
  · have hi' : (zent1 vs)[i]? = some (some v) := by
      unfold zent at hi
      by_cases hl : i < (zent1 vs).length
      · rwa [List.getElem?_append_left hl] at hi
      · rw [List.getElem?_append_right (by omega), List.getElem?_replicate] at hi
        split at hi <;> cases hi
    have := zent_args (ad := ad) vs 0 i v hi'
    rw [Nat.zero_add] at this
    exact h3 _ this
