section ZON
variable {p : Program} {l : Launch} {e : Env} {R : Room} {s : State} {m : MethodId} {args : Array Value} {below : List Frame} {meth : Method} {c : Code} {Fin : State → Prop} {cells slots : Nat} {D : va_G} {cA : Nat → ClassId} {ad : Nat → Nat} {A : Nat → Prop} {y d : Nat}
theorem zone_push (C : zCx p s m args c R cells slots D cA y d) {v : Value} {i : Instr} {len pc : Nat} (hdg : decode (zMd y).2.1 pc = .ok (i, len)) (hc : zchk (zMd y).2.2.2.2.1 (.inl v) i len = true)
    {st : List Value} {H : Heap} {locs : List Loc} {sl : Array Slot} (kk : W p l e R s m args below meth c H locs cells slots Fin (F0 m (pc + len) sl ((v :: st).map (zv ad)))) : W p l e R s m args below meth c H locs cells slots Fin (F0 m pc sl (st.map (zv ad))) := by
  obtain ⟨hx, hb, hml, hown, hts, hnw, hK, -⟩ := C
  cases v with
  | int v =>
    cases i with
    | iconst n =>
      have hc : (decide (Int32.ofInt n = v) && Nat.beq len 1) = true := hc
      simp only [Bool.and_eq_true, decide_eq_true_eq] at hc
      obtain rfl := Nat.eq_of_beq_eq_true hc.2
      exact lv_iconst hx hb hdg hc.1 kk
    | bipush n =>
      have hc : (decide ((Int8.ofInt n).toInt32 = v) && Nat.beq len 2) = true := hc
      simp only [Bool.and_eq_true, decide_eq_true_eq] at hc
      obtain rfl := Nat.eq_of_beq_eq_true hc.2
      exact lv_bipush hx hb hdg hc.1 kk
    | sipush n =>
      have hc : (decide ((Int16.ofInt n).toInt32 = v) && Nat.beq len 3) = true := hc
      simp only [Bool.and_eq_true, decide_eq_true_eq] at hc
      obtain rfl := Nat.eq_of_beq_eq_true hc.2
      exact lv_sipush hx hb hdg hc.1 kk
    | ldc idx =>
      have hc : (Nat.beq len 2 && Nat.blt idx 1000 && zKI.any (fun q => Nat.beq q.1 ((zMd y).2.2.2.2.1 * 1000 + idx) && decide (q.2.1 = v))) = true := hc
      rw [Bool.and_eq_true, Bool.and_eq_true] at hc
      obtain rfl := Nat.eq_of_beq_eq_true hc.1.1
      exact lv_ldc hx hb hown (hts _ (zki_ok hc.1.2 hc.2)) hdg kk
    | ldc_w idx =>
      have hc : (Nat.beq len 3 && Nat.blt idx 1000 && zKI.any (fun q => Nat.beq q.1 ((zMd y).2.2.2.2.1 * 1000 + idx) && decide (q.2.1 = v))) = true := hc
      rw [Bool.and_eq_true, Bool.and_eq_true] at hc
      obtain rfl := Nat.eq_of_beq_eq_true hc.1.1
      exact lv_ldcw hx hb hown (hts _ (zki_ok hc.1.2 hc.2)) hdg kk
    | _ => exact absurd hc (by simp [zchk])
  | long v =>
    cases i with
    | lconst n =>
      have hc : (decide (Int64.ofNat n.val = v) && Nat.beq len 1) = true := hc
      simp only [Bool.and_eq_true, decide_eq_true_eq] at hc
      obtain rfl := Nat.eq_of_beq_eq_true hc.2
      exact lv_lconst hx hb hdg hc.1 kk
    | ldc2_w idx =>
      have hc : (Nat.beq len 3 && Nat.blt idx 1000 && zKL.any (fun q => Nat.beq q.1 ((zMd y).2.2.2.2.1 * 1000 + idx) && decide (q.2.1 = v))) = true := hc
      rw [Bool.and_eq_true, Bool.and_eq_true] at hc
      obtain rfl := Nat.eq_of_beq_eq_true hc.1.1
      exact lv_ldc2 hx hb hown (hts _ (zkl_ok hc.1.2 hc.2)) hdg kk
    | _ => exact absurd hc (by simp [zchk])
  | _ => exact absurd hc (by simp [zchk])
set_option maxHeartbeats 4000000 in
theorem zone_ok (C : zCx p s m args c R cells slots D cA y d) {a : zA} {i : Instr} {len pc : Nat} (hdg : decode (zMd y).2.1 pc = .ok (i, len)) (hc : zchk (zMd y).2.2.2.2.1 a i len = true)
    {ls : zL} {st : List Value} {w : zW} {k : zL → List Value → zW → Prop} {H : Heap} {locs : List Loc} {sl : Array Slot} (hk : zone a ls st w k) (hH : zHp D cA ad A w H) (hS : va_S A s.heap H locs) (hX : zXc y ad A s w) (hl : zLR ad ls sl)
    (kk : zKK p l e R s m args below meth c Fin cells slots D cA ad A w ls.length (pc + len) k) : W p l e R s m args below meth c H locs cells slots Fin (F0 m pc sl (st.map (zv ad))) := by
  cases a with
  | inl v => exact zone_push C hdg hc (kk ls (v :: st) w H locs sl hk zfix.rf hH hS hl rfl)
  | inr x =>
    have go : ∀ st', k ls st' w → W p l e R s m args below meth c H locs cells slots Fin (F0 m (pc + len) sl (st'.map (zv ad))) := fun st' h => kk ls st' w H locs sl h zfix.rf hH hS hl rfl
    have go1 : ∀ (j : Nat) (v : Value) (st' : List Value) (sl' : Array Slot), j < ls.length → zfree ls j = true → k (ls.set j (some v)) st' w → lv_has sl' ls.length ((j, zv ad v) :: (zAL ad ls).filter (fun q => !(q.1 == j) && !(q.1 + 1 == j && q.2.category == 2))) → W p l e R s m args below meth c H locs cells slots Fin (F0 m (pc + len) sl' (st'.map (zv ad))) := fun j v st' sl' h1 h2 h3 h4 => kk _ st' w H locs sl' h3 zfix.rf hH hS (zLR.put1 h1 h2 h4) (by simp)
    have go2 : ∀ (j : Nat) (v : Value) (st' : List Value) (sl' : Array Slot), j + 1 < ls.length → zfree ls j = true → k ((ls.set j (some v)).set (j + 1) none) st' w → lv_has sl' ls.length ((j, zv ad v) :: (zAL ad ls).filter (fun q => !(q.1 == j) && (!(q.1 == j + 1) && !(q.1 + 1 == j && q.2.category == 2)))) → W p l e R s m args below meth c H locs cells slots Fin (F0 m (pc + len) sl' (st'.map (zv ad))) := fun j v st' sl' h1 h2 h3 h4 => kk _ st' w H locs sl' h3 zfix.rf hH hS (zLR.put2 h1 h2 h4) (by simp)
    have hhas := hl.has
    obtain ⟨hx, hb, hml, hown, hts, hnw, hK, -⟩ := id C
    cases x <;> dsimp only [zone] at hk <;> try (exact False.elim hk)
    case iload n =>
      obtain ⟨rfl, rfl⟩ := zdec hc
      obtain ⟨v, h1, h2⟩ := zldi_inv hk
      have g := go _ h2; exact lv_iload hx hb hdg (hl.2.2 _ _ h1) g
    case iload_n n =>
      obtain ⟨rfl, rfl⟩ := zdec hc
      obtain ⟨v, h1, h2⟩ := zldi_inv hk
      have g := go _ h2; exact lv_iload_n hx hb hdg rfl (hl.2.2 _ _ h1) g
    case lload n =>
      obtain ⟨rfl, rfl⟩ := zdec hc
      obtain ⟨v, h1, h2⟩ := zldl_inv hk
      have g := go _ h2; exact lv_lload hx hb hdg (hl.2.2 _ _ h1) g
    case lload_n n =>
      obtain ⟨rfl, rfl⟩ := zdec hc
      obtain ⟨v, h1, h2⟩ := zldl_inv hk
      have g := go _ h2; exact lv_lload_n hx hb hdg rfl (hl.2.2 _ _ h1) g
    case aload n =>
      obtain ⟨rfl, rfl⟩ := zdec hc
      obtain ⟨v, h1, h2⟩ := zlda_inv hk
      have g := go _ h2; exact lv_aload hx hb hdg (hl.2.2 _ _ h1) g
    case aload_n n =>
      obtain ⟨rfl, rfl⟩ := zdec hc
      obtain ⟨v, h1, h2⟩ := zlda_inv hk
      have g := go _ h2; exact lv_aload_n hx hb hdg rfl (hl.2.2 _ _ h1) g
    case istore n =>
      obtain ⟨rfl, rfl⟩ := zdec hc
      obtain ⟨v, r, rfl, h1, h2, h3⟩ := zsti_inv hk
      exact lv_istore hx hb hdg hhas h1 rfl (fun sl' h => go1 _ (.int v) r sl' h1 h2 h3 h)
    case istore_n n =>
      obtain ⟨rfl, rfl⟩ := zdec hc
      obtain ⟨v, r, rfl, h1, h2, h3⟩ := zsti_inv hk
      exact lv_istore_n hx hb hdg rfl hhas h1 rfl (fun sl' h => go1 _ (.int v) r sl' h1 h2 h3 h)
    case lstore n =>
      obtain ⟨rfl, rfl⟩ := zdec hc
      obtain ⟨v, r, rfl, h1, h2, h3⟩ := zstl_inv hk
      exact lv_lstore hx hb hdg hhas h1 rfl (fun sl' h => go2 _ (.long v) r sl' h1 h2 h3 h)
    case lstore_n n =>
      obtain ⟨rfl, rfl⟩ := zdec hc
      obtain ⟨v, r, rfl, h1, h2, h3⟩ := zstl_inv hk
      exact lv_lstore_n hx hb hdg rfl hhas h1 rfl (fun sl' h => go2 _ (.long v) r sl' h1 h2 h3 h)
    case astore n =>
      obtain ⟨rfl, rfl⟩ := zdec hc
      obtain ⟨v, r, rfl, h1, h2, h3⟩ := zsta_inv hk
      exact lv_astore hx hb hdg hhas h1 rfl (fun sl' h => go1 _ (.ref v) r sl' h1 h2 h3 h)
    case astore_n n =>
      obtain ⟨rfl, rfl⟩ := zdec hc
      obtain ⟨v, r, rfl, h1, h2, h3⟩ := zsta_inv hk
      exact lv_astore_n hx hb hdg rfl hhas h1 rfl (fun sl' h => go1 _ (.ref v) r sl' h1 h2 h3 h)
    case iinc n cst =>
      obtain ⟨rfl, rfl⟩ := zdec hc
      obtain ⟨v, h0, h1, h2, h3⟩ := zinc_inv hk
      obtain ⟨q, hq⟩ := List.getElem?_of_mem (zAL_mem (ad := ad) h0)
      exact lv_iinc hx hb hdg hhas (k := q) hq rfl h1 rfl (fun sl' h => go1 _ (.int (v + Int32.ofInt cst)) st sl' h1 h2 h3 h)
    case iadd => obtain ⟨rfl, rfl⟩ := zdec hc; obtain ⟨_, _, _, rfl, h⟩ := zii_inv hk; have g := go _ h; exact lv_iadd hx hb hdg g
    case isub => obtain ⟨rfl, rfl⟩ := zdec hc; obtain ⟨_, _, _, rfl, h⟩ := zii_inv hk; have g := go _ h; exact lv_isub hx hb hdg g
    case imul => obtain ⟨rfl, rfl⟩ := zdec hc; obtain ⟨_, _, _, rfl, h⟩ := zii_inv hk; have g := go _ h; exact lv_imul hx hb hdg g
    case iand => obtain ⟨rfl, rfl⟩ := zdec hc; obtain ⟨_, _, _, rfl, h⟩ := zii_inv hk; have g := go _ h; exact lv_iand hx hb hdg g
    case ior => obtain ⟨rfl, rfl⟩ := zdec hc; obtain ⟨_, _, _, rfl, h⟩ := zii_inv hk; have g := go _ h; exact lv_ior hx hb hdg g
    case ishl => obtain ⟨rfl, rfl⟩ := zdec hc; obtain ⟨_, _, _, rfl, h⟩ := zii_inv hk; have g := go _ h; exact lv_ishl hx hb hdg g
    case ishr => obtain ⟨rfl, rfl⟩ := zdec hc; obtain ⟨_, _, _, rfl, h⟩ := zii_inv hk; have g := go _ h; exact lv_ishr hx hb hdg g
    case idiv => obtain ⟨rfl, rfl⟩ := zdec hc; obtain ⟨_, _, _, rfl, h0, h⟩ := zid_inv hk; have g := go _ h; exact lv_idiv hx hb hdg h0 g
    case irem => obtain ⟨rfl, rfl⟩ := zdec hc; obtain ⟨_, _, _, rfl, h0, h⟩ := zid_inv hk; have g := go _ h; exact lv_irem hx hb hdg h0 g
    case ineg => obtain ⟨rfl, rfl⟩ := zdec hc; obtain ⟨_, _, rfl, h⟩ := zui_inv hk; have g := go _ h; exact lv_ineg hx hb hdg g
    case ladd => obtain ⟨rfl, rfl⟩ := zdec hc; obtain ⟨_, _, _, rfl, h⟩ := zll_inv hk; have g := go _ h; exact lv_ladd hx hb hdg g
    case lsub => obtain ⟨rfl, rfl⟩ := zdec hc; obtain ⟨_, _, _, rfl, h⟩ := zll_inv hk; have g := go _ h; exact lv_lsub hx hb hdg g
    case lmul => obtain ⟨rfl, rfl⟩ := zdec hc; obtain ⟨_, _, _, rfl, h⟩ := zll_inv hk; have g := go _ h; exact lv_lmul hx hb hdg g
    case land => obtain ⟨rfl, rfl⟩ := zdec hc; obtain ⟨_, _, _, rfl, h⟩ := zll_inv hk; have g := go _ h; exact lv_land hx hb hdg g
    case lor => obtain ⟨rfl, rfl⟩ := zdec hc; obtain ⟨_, _, _, rfl, h⟩ := zll_inv hk; have g := go _ h; exact lv_lor hx hb hdg g
    case lxor => obtain ⟨rfl, rfl⟩ := zdec hc; obtain ⟨_, _, _, rfl, h⟩ := zll_inv hk; have g := go _ h; exact lv_lxor hx hb hdg g
    case lcmp => obtain ⟨rfl, rfl⟩ := zdec hc; obtain ⟨_, _, _, rfl, h⟩ := zll_inv hk; have g := go _ h; exact W.lcmp hx hb hdg g
    case lneg => obtain ⟨rfl, rfl⟩ := zdec hc; obtain ⟨_, _, rfl, h⟩ := zul_inv hk; have g := go _ h; exact lv_lneg hx hb hdg g
    case lshl => obtain ⟨rfl, rfl⟩ := zdec hc; obtain ⟨_, _, _, rfl, h⟩ := zls_inv hk; have g := go _ h; exact lv_lshl hx hb hdg rfl g
    case lshr => obtain ⟨rfl, rfl⟩ := zdec hc; obtain ⟨_, _, _, rfl, h⟩ := zls_inv hk; have g := go _ h; exact lv_lshr hx hb hdg rfl g
    case lushr => obtain ⟨rfl, rfl⟩ := zdec hc; obtain ⟨_, _, _, rfl, h⟩ := zls_inv hk; have g := go _ h; exact lv_lushr hx hb hdg rfl g
    case i2l => obtain ⟨rfl, rfl⟩ := zdec hc; obtain ⟨_, _, rfl, h⟩ := zui_inv hk; have g := go _ h; exact lv_i2l hx hb hdg rfl g
    case l2i => obtain ⟨rfl, rfl⟩ := zdec hc; obtain ⟨_, _, rfl, h⟩ := zul_inv hk; have g := go _ h; exact lv_l2i hx hb hdg rfl g
    case i2b => obtain ⟨rfl, rfl⟩ := zdec hc; obtain ⟨_, _, rfl, h⟩ := zui_inv hk; have g := go _ h; exact lv_i2b hx hb hdg rfl g
    case i2s => obtain ⟨rfl, rfl⟩ := zdec hc; obtain ⟨_, _, rfl, h⟩ := zui_inv hk; have g := go _ h; exact lv_i2s hx hb hdg rfl g
    case i2c => obtain ⟨rfl, rfl⟩ := zdec hc; obtain ⟨_, _, rfl, h⟩ := zui_inv hk; have g := go _ h; exact lv_i2c hx hb hdg rfl g
    case dup =>
      obtain ⟨rfl, rfl⟩ := zdec hc
      have hk : zdup st (fun r => k ls r w) := hk
      unfold zdup at hk
      split at hk
      · have g := go _ hk; exact lv_dup hx hb hdg rfl g
      · have g := go _ hk; exact lv_dup hx hb hdg rfl g
      · exact hk.elim
    case dup2 =>
      obtain ⟨rfl, rfl⟩ := zdec hc
      have hk : zdup2 st (fun r => k ls r w) := hk
      unfold zdup2 at hk
      split at hk
      · have g := go _ hk; exact lv_dup2_2 hx hb hdg rfl g
      · have g := go _ hk; exact lv_dup2_11 hx hb hdg rfl rfl g
      · exact hk.elim
    case pop =>
      obtain ⟨rfl, rfl⟩ := zdec hc
      have hk : zpop st (fun r => k ls r w) := hk
      unfold zpop at hk
      split at hk
      · have g := go _ hk; exact lv_pop hx hb hdg rfl g
      · exact hk.elim
    case invokeinterface ci q =>
      cases i <;> try (exact absurd (show false = true from hc) Bool.false_ne_true)
      case getfield idx =>
        obtain ⟨o, r, v, rfl, h1, h2, h3⟩ := zget_inv ad hk
        have g := go _ h3; exact zone_get C hdg hc h1 h2 hH g
    case multianewarray ci q =>
      cases i <;> try (exact absurd (show false = true from hc) Bool.false_ne_true)
      case putfield idx => exact zone_put C hdg hc hk hH hS hl kk
    case iaload =>
      obtain ⟨rfl, rfl⟩ := zdec hc
      obtain ⟨j, o, r, rfl, h1, h2, h3⟩ := zald_inv hk
      have g := go _ h3; exact va_iald hx hb hK hH.1 o 0 (f := w.1 o) (by rw [zws_at (zsh_lt h1), zE_ar h1]; rfl) rfl h2 hdg g
    case caload =>
      obtain ⟨rfl, rfl⟩ := zdec hc
      obtain ⟨j, o, r, rfl, h1, h2, h3⟩ := zald_inv hk
      have g := go _ h3; exact va_cald hx hb hK hH.1 o 2 (f := w.1 o) (by rw [zws_at (zsh_lt h1), zE_ar h1]; rfl) rfl h2 hdg g
    case laload =>
      obtain ⟨rfl, rfl⟩ := zdec hc
      obtain ⟨j, o, r, rfl, h1, h2, h3⟩ := zaldl_inv hk
      have g := go _ h3; exact va_lald hx hb hK hH.1 o 1 (f := w.2 o) (by rw [zws_at (zsh_lt h1), zE_ar h1]; rfl) rfl h2 hdg g
    case aaload =>
      obtain ⟨rfl, rfl⟩ := zdec hc
      obtain ⟨j, o, r, rfl, h1, h2, h3⟩ := zalda_inv hk
      have g := go _ h3; exact va_aldq hx hb hK hH.1 o 3 (f := fun j => some (ad (zre o j))) (by rw [zws_at (zsh_lt h1), zE_ar h1]; rfl) rfl h2 hdg g
    case iastore =>
      obtain ⟨rfl, rfl⟩ := zdec hc
      obtain ⟨v, j, o, r, rfl, h1, h2, h3⟩ := zast_inv hk
      refine va_iast hx hb hK hH.1 hH.2 hS o 0 (f := w.1 o) (by rw [zws_at (zsh_lt h1), zE_ar h1]; rfl) rfl h2 hdg (fun H1 locs1 a1 a2 a3 => ?_)
      have e := zws_set (ad := ad) (cA := cA) (w := w) (w' := sI w o j.toNatClampNeg v) (zsh_lt h1) (zE_aI h1 (Or.inl rfl)) (fun a ha => zE_sI a ha)
      rw [e] at a1 a2
      exact kk ls r _ H1 locs1 sl h3 (zfix.sI (zsh_lt h1)) ⟨a1, a2⟩ a3 hl rfl
    case castore =>
      obtain ⟨rfl, rfl⟩ := zdec hc
      obtain ⟨v, j, o, r, rfl, h1, h2, h3⟩ := zastc_inv hk
      refine va_cast hx hb hK hH.1 hH.2 hS o 2 (f := w.1 o) (by rw [zws_at (zsh_lt h1), zE_ar h1]; rfl) rfl h2 hdg (fun H1 locs1 a1 a2 a3 => ?_)
      have e := zws_set (ad := ad) (cA := cA) (w := w) (w' := sI w o j.toNatClampNeg (vp_nar .char v)) (zsh_lt h1) (zE_aI h1 (Or.inr rfl)) (fun a ha => zE_sI a ha)
      rw [e] at a1 a2
      exact kk ls r _ H1 locs1 sl h3 (zfix.sI (zsh_lt h1)) ⟨a1, a2⟩ a3 hl rfl
    case lastore =>
      obtain ⟨rfl, rfl⟩ := zdec hc
      obtain ⟨v, j, o, r, rfl, h1, h2, h3⟩ := zastl_inv hk
      refine va_last hx hb hK hH.1 hH.2 hS o 1 (f := w.2 o) (by rw [zws_at (zsh_lt h1), zE_ar h1]; rfl) rfl h2 hdg (fun H1 locs1 a1 a2 a3 => ?_)
      have e := zws_set (ad := ad) (cA := cA) (w := w) (w' := sL w o j.toNatClampNeg v) (zsh_lt h1) (zE_aL h1) (fun a ha => zE_sL a ha)
      rw [e] at a1 a2
      exact kk ls r _ H1 locs1 sl h3 zfix.sL ⟨a1, a2⟩ a3 hl rfl
    case arraylength =>
      obtain ⟨rfl, rfl⟩ := zdec hc
      obtain ⟨o, r, rfl, h1, h3⟩ := zalen_inv hk
      have g := go _ h3; exact va_alen hx hb hK hH.1 o 0 (x := (zln o, .inl (w.1 o))) (cA := cA 0) (by rw [zws_at (zsh_lt h1), zE_ar h1]; rfl) (ty := .int) rfl rfl hdg g
    case faload =>
      have hc : (Nat.beq (zMd y).2.2.2.2.1 9 && decide (i = .iaload) && Nat.beq len 1) = true := hc
      rw [Bool.and_eq_true, Bool.and_eq_true, decide_eq_true_eq] at hc
      obtain rfl := Nat.eq_of_beq_eq_true hc.2
      obtain rfl := hc.1.2
      obtain ⟨j, r, rfl, h2, h3⟩ := zscr_inv hk
      obtain ⟨L, xs, x1, x2, x3, x4, x5, x6⟩ := hX (Nat.eq_of_beq_eq_true hc.1.1)
      have hL : (gI w 44 0).toNatClampNeg = L := by
        show (w.1 44 0).toNatClampNeg = L
        rw [x5]
        exact nI_clamp x4
      rw [hL] at h2
      have hjl : j.toNatClampNeg < L := Nat.not_le.mp fun q => h2 (Or.inr q)
      refine va_sld hx hb x1 x2 x3 hS h2 hdg ?_
      have := go _ h3
      unfold gI at this
      rw [x6 _ hjl] at this
      exact this
    case monitorenter =>
      have hc : (Nat.beq (zMd y).2.2.2.2.1 9 && decide (i = .arraylength) && Nat.beq len 1) = true := hc
      rw [Bool.and_eq_true, Bool.and_eq_true, decide_eq_true_eq] at hc
      obtain rfl := Nat.eq_of_beq_eq_true hc.2
      obtain rfl := hc.1.2
      obtain ⟨r, rfl, h3⟩ := zscl_inv hk
      obtain ⟨L, xs, x1, x2, x3, x4, x5, x6⟩ := hX (Nat.eq_of_beq_eq_true hc.1.1)
      refine va_slen hx hb x1 x2 x3 hS hdg ?_
      have := go _ h3
      unfold gI at this
      rw [x5] at this
      exact this
end ZON
