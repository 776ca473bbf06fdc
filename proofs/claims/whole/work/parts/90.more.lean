/-! ===== what a method answers has its kind; the script stays ===== -/
def zrk (y : Nat) : Nat := match (zMd y).2.2.2.1 with
  | none => 0
  | some .int => 1
  | some .long => 2
  | some .boolean => 3
  | _ => 9
def zshp (y : Nat) (r : Option Value) : Prop := match zrk y with
  | 0 => r = none
  | 1 => ∃ v, r = some (.int v)
  | 2 => ∃ v, r = some (.long v)
  | 3 => ∃ v, r = some (.int v)
  | _ => False
def zrB (y : Nat) (t : zT) : Bool := match t with
  | .inr (.inr (2, a, _)) => Nat.beq a (zrk y)
  | _ => true
theorem zrk_ok : ∀ y, y < 187 → (zPG.getD y []).all (fun B => zrB y B.2.2) = true := by decide +kernel
theorem zput_fx {ci q : Nat} {st : List Value} {w : zW} {k : List Value → zW → Prop} (h : zput ci q st w k) : zput ci q st w (fun r w' => zfix w w' ∧ k r w') := by
  unfold zput at h ⊢
  split at h
  · split at h
    · exact ⟨h.1, zfix.sI (zsh_lt h.1), h.2⟩
    · exact h.elim
  · split at h
    · exact ⟨h.1, zfix.sL, h.2⟩
    · exact h.elim
  · split at h
    · exact ⟨h.1, h.2.1, zfix.sI (zsh_lt h.1), h.2.2⟩
    · exact h.elim
  · exact h.elim
theorem zast_fx {st : List Value} {w : zW} {k : List Value → zW → Prop} (h : zast st w k) : zast st w (fun r w' => zfix w w' ∧ k r w') := by
  unfold zast at h ⊢
  split at h
  · exact ⟨h.1, h.2.1, zfix.sI (zsh_lt h.1), h.2.2⟩
  · exact h.elim
theorem zastc_fx {st : List Value} {w : zW} {k : List Value → zW → Prop} (h : zastc st w k) : zastc st w (fun r w' => zfix w w' ∧ k r w') := by
  unfold zastc at h ⊢
  split at h
  · exact ⟨h.1, h.2.1, zfix.sI (zsh_lt h.1), h.2.2⟩
  · exact h.elim
theorem zastl_fx {st : List Value} {w : zW} {k : List Value → zW → Prop} (h : zastl st w k) : zastl st w (fun r w' => zfix w w' ∧ k r w') := by
  unfold zastl at h ⊢
  split at h
  · exact ⟨h.1, h.2.1, zfix.sL, h.2.2⟩
  · exact h.elim
theorem zone_fx (a : zA) {ls : zL} {st : List Value} {w : zW} {k : zL → List Value → zW → Prop} : zone a ls st w k → zone a ls st w (fun l r w' => zfix w w' ∧ k l r w') := by
  cases a with
  | inl v => exact fun h => ⟨zfix.rf, h⟩
  | inr i =>
    cases i <;> dsimp only [zone] <;> first
      | exact id
      | exact fun h => zput_fx h
      | exact fun h => zast_fx h
      | exact fun h => zastc_fx h
      | exact fun h => zastl_fx h
      | (refine zldi_mono ?_; intros; exact ⟨zfix.rf, by assumption⟩)
      | (refine zldl_mono ?_; intros; exact ⟨zfix.rf, by assumption⟩)
      | (refine zlda_mono ?_; intros; exact ⟨zfix.rf, by assumption⟩)
      | (refine zsti_mono ?_; intros; exact ⟨zfix.rf, by assumption⟩)
      | (refine zstl_mono ?_; intros; exact ⟨zfix.rf, by assumption⟩)
      | (refine zsta_mono ?_; intros; exact ⟨zfix.rf, by assumption⟩)
      | (refine zinc_mono ?_; intros; exact ⟨zfix.rf, by assumption⟩)
      | (refine zii_mono ?_; intros; exact ⟨zfix.rf, by assumption⟩)
      | (refine zid_mono ?_; intros; exact ⟨zfix.rf, by assumption⟩)
      | (refine zll_mono ?_; intros; exact ⟨zfix.rf, by assumption⟩)
      | (refine zls_mono ?_; intros; exact ⟨zfix.rf, by assumption⟩)
      | (refine zui_mono ?_; intros; exact ⟨zfix.rf, by assumption⟩)
      | (refine zul_mono ?_; intros; exact ⟨zfix.rf, by assumption⟩)
      | (refine zdup_mono ?_; intros; exact ⟨zfix.rf, by assumption⟩)
      | (refine zdup2_mono ?_; intros; exact ⟨zfix.rf, by assumption⟩)
      | (refine zpop_mono ?_; intros; exact ⟨zfix.rf, by assumption⟩)
      | (refine zget_mono ?_; intros; exact ⟨zfix.rf, by assumption⟩)
      | (refine zald_mono ?_; intros; exact ⟨zfix.rf, by assumption⟩)
      | (refine zaldl_mono ?_; intros; exact ⟨zfix.rf, by assumption⟩)
      | (refine zalda_mono ?_; intros; exact ⟨zfix.rf, by assumption⟩)
      | (refine zalen_mono ?_; intros; exact ⟨zfix.rf, by assumption⟩)
      | (refine zscr_mono ?_; intros; exact ⟨zfix.rf, by assumption⟩)
      | (refine zscl_mono ?_; intros; exact ⟨zfix.rf, by assumption⟩)
theorem zrun_fx : ∀ (as : List zA) {ls : zL} {st : List Value} {w : zW} {k : zL → List Value → zW → Prop}, zrun as ls st w k → zrun as ls st w (fun l r w' => zfix w w' ∧ k l r w')
  | [], _, _, _, _, h => ⟨zfix.rf, h⟩
  | a :: as, _, _, _, _, h => zone_mono a (fun _ _ _ q => zrun_mono as (fun _ _ _ z => ⟨q.1.tr z.1, z.2⟩) (zrun_fx as q.2)) (zone_fx a h)
def zMr (d y b : Nat) (ls : zL) (st : List Value) (w : zW) (Q : zQ) : Prop := ∀ Q' : zQ, (∀ r w', zshp y r → zfix w w' → Q r w' → Q' r w') → zWP zMI zPG d y b ls st w Q'
theorem zretk_more {a y : Nat} {st : List Value} {w : zW} {Q Q' : zQ} (ha : a = zrk y) (hq : ∀ r w', zshp y r → zfix w w' → Q r w' → Q' r w') (h : zretk a st w Q) : zretk a st w Q' := by
  have hs : ∀ r, (match a with | 0 => r = none | 1 => ∃ v, r = some (Value.int v) | 2 => ∃ v, r = some (Value.long v) | 3 => ∃ v, r = some (Value.int v) | _ => False) → zshp y r := fun r hr => by
    unfold zshp; rw [← ha]; exact hr
  unfold zretk at h ⊢
  split at h
  · split at h
    · exact hq _ _ (hs none rfl) zfix.rf h
    · exact h.elim
  · split at h
    · exact hq _ _ (hs _ ⟨_, rfl⟩) zfix.rf h
    · exact h.elim
  · split at h
    · exact hq _ _ (hs _ ⟨_, rfl⟩) zfix.rf h
    · exact h.elim
  · split at h
    · exact ⟨h.1, hq _ _ (hs _ ⟨_, rfl⟩) zfix.rf h.2⟩
    · exact h.elim
  · exact h.elim
theorem zterm_more {t : zT} {d y : Nat} {ls : zL} {st : List Value} {w : zW} {Q Q' : zQ} (ht : zrB y t = true) (hq : ∀ r w', zshp y r → zfix w w' → Q r w' → Q' r w') (h : zterm zMI t d y ls st w Q zMr) : zterm zMI t d y ls st w Q' (zWP zMI zPG) := by
  have go : ∀ d b ls st, zMr d y b ls st w Q → zWP zMI zPG d y b ls st w Q' := fun d b ls st h => h Q' hq
  obtain ⟨c, t2, bt, bf⟩ | ⟨cs, df⟩ | ⟨tag, a, b⟩ := t
  · cases t2
    · dsimp only [zterm] at h ⊢
      split at h
      · exact ⟨fun e => go _ _ _ _ (h.1 e), fun e => go _ _ _ _ (h.2 e)⟩
      · exact h.elim
    · dsimp only [zterm] at h ⊢
      split at h
      · exact ⟨fun e => go _ _ _ _ (h.1 e), fun e => go _ _ _ _ (h.2 e)⟩
      · exact h.elim
  · dsimp only [zterm] at h ⊢
    split at h
    · exact zsw_mono (fun b => go _ _ _ _) _ h
    · exact h.elim
  · dsimp only [zterm] at h ⊢
    split at h
    · exact go _ _ _ _ h
    · unfold zcall at h ⊢
      split at h
      · exact h.elim
      · split at h
        · exact h.elim
        · obtain ⟨h1, h2, h3, h3', Q0, h4, h5⟩ := h
          refine ⟨h1, h2, h3, h3', fun r w' => zfix w w' ∧ Q0 r w', h4 _ (fun r w' _ hf hh => ⟨hf, hh⟩), fun r w' q => ?_⟩
          exact h5 r w' q.2 Q' (fun r2 w2 s f hh => hq r2 w2 s (q.1.tr f) hh)
    · have ha : a = zrk y := Nat.eq_of_beq_eq_true ht
      exact zretk_more ha hq h
    · unfold zcopy at h ⊢
      split at h
      · obtain ⟨h1, h2, h3, h4, h5, h6⟩ := h
        refine ⟨h1, h2, h3, h4, h5, ?_⟩
        split at h6
        · exact h6 Q' (fun r w' s f hh => hq r w' s ((zfix.cI (zsh_lt h4)).tr f) hh)
        · exact h6 Q' (fun r w' s f hh => hq r w' s (zfix.cL.tr f) hh)
        · exact h6.elim
      · exact h.elim
    · unfold zmath at h ⊢
      split at h
      · split at h
        · exact ⟨h.1, h.2.1, go _ _ _ _ h.2.2⟩
        · exact h.elim
      · split at h
        · exact ⟨h.1, h.2.1, go _ _ _ _ h.2.2⟩
        · exact h.elim
      · split at h
        · exact ⟨h.1, h.2.1, go _ _ _ _ h.2.2⟩
        · exact h.elim
      · exact h.elim
    · exact h.elim
theorem zPG_len : zPG.length = 187 := by decide +kernel
theorem zMr_closed : zclosed zMI zPG zMr := by
  refine ⟨fun d y b ls st w Q hb Q' hq => ?_, fun d y b ls ls' st w Q hl h Q' hq => zWP.weak hl (h Q' hq)⟩
  refine zWP.step ?_
  unfold zbody at hb ⊢
  cases e : (zPG.getD y [])[b]? with
  | none => rw [e] at hb; exact hb.elim
  | some B =>
    rw [e] at hb
    have hy : y < 187 := by
      rcases Nat.lt_or_ge y 187 with z | z
      · exact z
      · have e0 : zPG.getD y [] = [] := by
          rw [List.getD_eq_getElem?_getD, List.getElem?_eq_none (by rw [zPG_len]; omega)]; rfl
        rw [e0] at e
        simp at e
    have hB := List.all_eq_true.mp (zrk_ok y hy) B (List.mem_of_getElem? e)
    exact zrun_mono _ (fun l r w1 z => zterm_more hB (fun r2 w2 s f hh => hq r2 w2 s (z.1.tr f) hh) z.2) (zrun_fx _ hb)
theorem WM.more {d z n : Nat} {vs : List Value} {w : zW} {Q Q' : zQ} (h : WM d z n vs w Q) (hq : ∀ r w', zshp z r → zfix w w' → Q r w' → Q' r w') : WM d z n vs w Q' := h zMr zMr_closed Q' hq
/-! one call of the law -/
abbrev lwL (i : Int32) : zL := [some (.ref 43), some (.ref 0), some (.ref 10), some (.int i)]
theorem law_int {d : Nat} {w : zW} {Q : zQ} {i : Int32} {mc nc mn nn b1 b2 : Nat} {vc vn : List Value} (kc : zrk mc = 1) (kn : zrk mn = 1) (hop : OPP d mc nc mn nn vc vn w)
    (hA : ∀ w1 v, zfix w w1 → WM d mn nn vn w1 (fun r w' => WP (d + 1) m_L_law b2 (lwL i) (zpush r [.int v]) w' Q) → WP (d + 1) m_L_law b1 (lwL i) [.int v] w1 Q)
    (hB : ∀ w2 v, WP (d + 1) m_L_law 150 (lwL i) [] w2 Q → WP (d + 1) m_L_law b2 (lwL i) [.int v, .int v] w2 Q)
    (h : ∀ w2, RW w2 → zfix w w2 → WP (d + 1) m_L_law 150 (lwL i) [] w2 Q) : WM d mc nc vc w (fun r w' => WP (d + 1) m_L_law b1 (lwL i) (zpush r []) w' Q) := by
  refine WM.more hop (fun r1 w1 s1 f1 h1 => ?_)
  unfold zshp at s1
  rw [kc] at s1
  obtain ⟨v, rfl⟩ := s1
  refine hA w1 v f1 (WM.more h1 (fun r2 w2 s2 f2 h2 => ?_))
  obtain ⟨e, hR, -⟩ := h2
  rw [← e]
  exact hB w2 v (h w2 hR (f1.tr f2))
theorem law_long {d : Nat} {w : zW} {Q : zQ} {i : Int32} {mc nc mn nn b1 b2 : Nat} {vc vn : List Value} (kc : zrk mc = 2) (kn : zrk mn = 2) (hop : OPP d mc nc mn nn vc vn w)
    (hA : ∀ w1 v, zfix w w1 → WM d mn nn vn w1 (fun r w' => WP (d + 1) m_L_law b2 (lwL i) (zpush r [.long v]) w' Q) → WP (d + 1) m_L_law b1 (lwL i) [.long v] w1 Q)
    (hB : ∀ w2 v, WP (d + 1) m_L_law 150 (lwL i) [] w2 Q → WP (d + 1) m_L_law b2 (lwL i) [.long v, .long v] w2 Q)
    (h : ∀ w2, RW w2 → zfix w w2 → WP (d + 1) m_L_law 150 (lwL i) [] w2 Q) : WM d mc nc vc w (fun r w' => WP (d + 1) m_L_law b1 (lwL i) (zpush r []) w' Q) := by
  refine WM.more hop (fun r1 w1 s1 f1 h1 => ?_)
  unfold zshp at s1
  rw [kc] at s1
  obtain ⟨v, rfl⟩ := s1
  refine hA w1 v f1 (WM.more h1 (fun r2 w2 s2 f2 h2 => ?_))
  obtain ⟨e, hR, -⟩ := h2
  rw [← e]
  exact hB w2 v (h w2 hR (f1.tr f2))
theorem lw_in {w : zW} {i k L : Nat} {j : Int32} (hj : j = nI k) (h44 : gI w 44 0 = nI L) (hL : L ≤ 384) (hi : i + 6 ≤ L) (hk : k < 6) : vp_in (nI i + j) (gI w 44 0).toNatClampNeg := by
  rw [h44, nI_clamp (by omega), hj, nI_add]
  exact vp_in_lt (by omega) (by omega)
