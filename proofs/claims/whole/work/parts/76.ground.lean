/-! ===== ground ===== -/
theorem GC_i {w : zW} {S : zS} {o k : Nat} {v : Int32} (h : GC w 1 S) (ho : ¬ o = 1 ∧ ¬ o = 11 ∧ ¬ o = 12 ∧ ¬ o = 13) : GC (sI w o k v) 1 S := by
  refine GC_keep h (fun j => ?_) (fun j => ?_) (fun j => ?_) (fun j => ?_) (fun j => rfl) <;> rw [gI_sI, if_neg (by omega)]
theorem GN_i {w : zW} {S : zS} {o k : Nat} {v : Int32} (h : GN w S) (ho : ¬ (o = 10 ∧ (k = 3 ∨ k = 5 ∨ k = 6)) ∧ ¬ o = 28 ∧ ¬ o = 29 ∧ ¬ o = 30) : GN (sI w o k v) S := by
  refine GN_keep h ⟨?_, ?_, ?_⟩ (fun j => ?_) (fun j => ?_) (fun j => ?_) rfl <;> rw [gI_sI, if_neg (by omega)]
/-- read on both sides, done on both sides -/
theorem tape_on {w wa wb wc wd : zW} {S' : zS} {K : Option zS} {H : Nat → Option (Nat × Nat)} (h4 : IMG w K) (h6 : SHT w H) (hk : okS S') (xa : EQX mDI mDL w wa) (xb : EQX mCI mCL (sI wa 3 1 0) wb) (gb : GC wb 1 S') (xc : EQX mRI mRL wb wc) (xd : EQX mNI mNL (sI wc 10 12 0) wd) (gd : GN wd S') : RW wd ∧ SCR w wd := by
  have y1 : EQX mUI mAL w (sI wa 3 1 0) := xa.dA.aU.pI (o := 3) (k := 1) _ rfl
  have y2 : EQX mUI mAL w (sI wc 10 12 0) := ((y1.tr xb.cA.aU).tr xc.rN.nA.aU).pI (o := 10) (k := 12) _ rfl
  refine (y2.tr xd.nA.aU).uRW hk ?_ gd h4 (TAP_0 ?_ ?_) h6
  · exact xd.gcN (GC_i (xc.rN.gcN gb) (by decide))
  · rw [xd.1 3 1 rfl, gI_sI, if_neg (by omega), xc.1 3 1 rfl, xb.1 3 1 rfl, gI_sI, if_pos ⟨rfl, rfl⟩]
  · rw [xd.1 10 12 rfl, gI_sI, if_pos ⟨rfl, rfl⟩]
theorem tape_gn {w wa wb wc : zW} {S : zS} (h3 : GN w S) (xa : EQX mDI mDL w wa) (xb : EQX mCI mCL (sI wa 3 1 0) wb) (xc : EQX mRI mRL wb wc) : GN (sI wc 10 12 0) S :=
  GN_i (xc.gnR (xb.gnC (GN_i (xa.gnD h3) (by decide)))) (by decide)
theorem tape_tn {w wa wb : zW} {T : List Nat} (h5 : TAP w T) (xa : EQX mDI mDL w wa) (xb : EQX mCI mCL (sI wa 3 1 0) wb) (p : Nat) : TN (sI wb 10 13 (nI p)) T p := by
  have y1 : EQX mUI mAL w (sI wa 3 1 0) := xa.dA.aU.pI (o := 3) (k := 1) _ rfl
  refine h5.tn (y1.tr xb.cA.aU) ?_ (fun k => ?_) p
  · rw [xb.1 10 12 rfl, gI_sI, if_neg (by omega), xa.1 10 12 rfl]
  · rw [xb.1 32 k rfl, gI_sI, if_neg (by omega), xa.1 32 k rfl]
theorem flt_ne {q : Nat} (h : q ≤ 160) : ¬ (-20 : Int32) - nI q = 0 ∧ ¬ 0 ≤ (-20 : Int32) - nI q := by
  have : ∀ q, q ≤ 160 → ¬ (-20 : Int32) - nI q = 0 ∧ ¬ 0 ≤ (-20 : Int32) - nI q := by decide +kernel
  exact this q h
theorem slP_le {T : List Nat} {c p b : Nat} (hp : p ≤ T.length) (h : slP T c p = some b) : b ≤ T.length := by
  unfold slP at h
  split at h
  · split at h
    · rename_i q
      have := (List.getElem?_eq_some_iff.mp q).1
      injection h with h
      omega
    · cases h
  · injection h with h
    omega
theorem stG_le {T : List Nat} {c p : Nat} (hp : p ≤ T.length) : (∀ q, stG T c p = .inl q → q ≤ T.length) ∧ ∀ e, stG T c p = .inr e → e.2.2 ≤ T.length := by
  unfold stG
  cases e1 : slP T c p with
  | none => exact ⟨fun q h => by injection h with h; rw [← h]; exact (sk_le hp).2, fun e h => by cases h⟩
  | some b =>
    have hb := slP_le hp e1
    have hf := fgP_le (g := 57) hb
    dsimp only
    cases e2 : fgA T b 57 with
    | none => exact ⟨fun q h => by injection h with h; rw [← h]; exact (sk_le hb).2, fun e h => by cases h⟩
    | some v =>
      dsimp only
      split
      · exact ⟨fun q h => (by cases h), fun e h => by injection h with h; rw [← h]; exact hf.2⟩
      · exact ⟨fun q h => (by cases h), fun e h => by injection h with h; rw [← h]; exact (nxP_le hf.2 94).2⟩
theorem grL_le {T : List Nat} : ∀ (n c p : Nat) (pre : List (Nat × Bool)) (q : Nat), p ≤ T.length → grL T n c p pre = .inl q → q ≤ T.length
  | 0, c, p, pre, q, hp, h => by
    unfold grL at h
    split at h
    · injection h with h; rw [← h]; exact (sk_le hp).2
    · cases h
  | n + 1, c, p, pre, q, hp, h => by
    obtain ⟨s1, s2⟩ := stG_le (c := c) hp
    unfold grL at h
    split at h
    · rename_i b hb
      injection h with h; rw [← h]; exact s1 _ hb
    · rename_i e he
      exact grL_le n (c + 1) _ _ q (s2 e he) h
theorem op_ground {d : Nat} {w : zW} (h : RW w) : OPP (d + 4) m_C_ground 2 m_N_ground 3 [.ref 0] [.ref 10] w := by
  obtain ⟨S, K, T, H, h1, h2, h3, h4, h5, h6⟩ := h
  have hT := h5.ok
  have hlT := hT.1
  refine n_C_ground (t_C_ground_0 (n_T_readGround (t_T_readGround_0 (lp_T_gr (w0 := w) (T := T) (R := grL T 36 0 0 []) hT (fun q wa hr xa => ?_) (fun l wa hr ga gb xa => ?_) 36 0 0 [] _ rfl rfl (Nat.zero_le _) (h5.tc 0) (fun i e he => (by cases he)) (fun i => ?_) ((EQX.rf.pI (o := 3) (k := 2) _ rfl).pL (o := 3) (k := 4) _ rfl) rfl))))
  · have hq := grL_le 36 0 0 [] q (Nat.zero_le _) hr
    refine t_C_ground_1 (n_T_wipe (t_T_wipe_0 (t_C_ground_2 (fun e => absurd e (flt_ne (by omega)).1) (fun _ => t_C_ground_3 ?_))))
    refine n_N_ground (t_N_ground_0 (n_N_readGround (t_N_readGround_0 (lp_N_gr (w0 := sI wa 3 1 0) (T := T) (R := grL T 36 0 0 []) hT (fun q' wb hr' hq' hs' tb xb => ?_) (fun l q' wb hr' => ?_) 36 0 0 [] _ rfl rfl (Nat.zero_le _) (tape_tn h5 xa EQX.rf 0) (fun i e he => (by cases he)) (EQX.rf.pI (o := 10) (k := 13) _ rfl) rfl))))
    · rw [hr] at hr'
      injection hr' with hr'
      subst hr'
      refine t_N_ground_1 (s_N_end (b := false) rfl hT hq' tb (fun wc tc xc => t_N_ground_2 (fun e => absurd e ?_) (fun _ => t_N_ground_3 ⟨?_, ?_⟩)))
      · rw [if_neg (by decide), hs']; exact (flt_ne (by omega)).2
      · rw [if_neg (by decide), hs']
      · exact tape_off h1 h2 h3 h4 h6 xa (xb.tr xc.qR) rfl
    · rw [hr] at hr'; cases hr'
  · obtain ⟨hl, ho⟩ := grL_ok 36 0 0 [] l hr okG_nil
    have hl : l.length = 36 := hl
    have hro : gL (sI wa 3 1 0) 3 4 = mk6 (rfB l) := by
      refine mk_eq (fun i hi => ?_) (fun i hi => gb i)
      have := gb i
      rw [gL_sI, this]
      unfold rfB
      rw [List.getElem?_eq_none (by omega)]
    have hGA : GA (sI wa 3 1 0) l := fun i e he => by rw [gI_sI, if_neg (by omega)]; exact ga i e he
    have g2 : GC (sI wa 3 1 0) 1 S := GC_i (xa.gcD h2) (by decide)
    refine t_C_ground_1 (n_T_wipe (t_T_wipe_0 (t_C_ground_2 (fun _ => t_C_ground_4 (n_G_become (t_G_become_0 (lp_G_become (S := S) hl ho hGA hro (fun wb gB xb => t_C_ground_5 ?_) 36 0 _ rfl g2 EQX.rf)))) (fun e => absurd rfl e))))
    rw [show gL wb 1 2 = opS (grS S l) from gB.2.2.1]
    refine s_P_holesOf (t_C_ground_6 ?_)
    have hk := grS_ok h1 hl ho
    refine n_N_ground (t_N_ground_0 (n_N_readGround (t_N_readGround_0 (lp_N_gr (w0 := wb) (T := T) (R := grL T 36 0 0 []) hT (fun q' wc hr' => ?_) (fun l' q' wc hr' hq' tc gc xc => ?_) 36 0 0 [] _ rfl rfl (Nat.zero_le _) (tape_tn h5 xa xb 0) (fun i e he => (by cases he)) (EQX.rf.pI (o := 10) (k := 13) _ rfl) rfl))))
    · rw [hr] at hr'; cases hr'
    · rw [hr] at hr'
      injection hr' with hr'
      subst hr'
      refine t_N_ground_1 (s_N_end (b := true) rfl hT hq' tc (fun wd td xd => t_N_ground_2 (fun _ => t_N_ground_4 ?_) (fun e => absurd (by rw [if_pos rfl]; decide) e)))
      have xcd := xc.tr xd.qR
      have hGE : GE (sI wd 10 12 0) l := fun i e he => by rw [gI_sI, if_neg (by omega)]; exact (gc.qm xd) i e he
      refine lp_N_ground (S := S) hl ho hGE (fun we gE xe => t_N_ground_11 ?_) 36 0 _ rfl (tape_gn h3 xa xb xcd) EQX.rf
      have gF := GN_fgt gE
      rw [layN_is h1] at gF
      refine s_N_look gF hk (fun wf hw => t_N_ground_12 (s_N_findHoles (by rw [hw.1]; exact SET_op _) (fun wg hf => t_N_ground_13 ⟨?_, ?_⟩)))
      · rw [hf.1, hw.1]
      · refine tape_on h4 h6 hk xa xb gB xcd (((xe.gN.pI (o := 10) (k := 5) _ rfl).tr hw.eqx.rN).tr hf.eqx.rN) ?_
        exact hf.eqx.gnR (hw.gn gF)
  · rw [gL_sL, if_pos ⟨rfl, rfl⟩, bx_0]; simp [rfB]
