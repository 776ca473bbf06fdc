/-! ===== two doors, one behind the other ===== -/
def SCR (w w' : zW) : Prop := (∀ k, gI w' 43 k = gI w 43 k) ∧ ∀ k, gI w' 44 k = gI w 44 k
theorem SCR.rf {w : zW} : SCR w w := ⟨fun _ => rfl, fun _ => rfl⟩
theorem SCR.tr {a b c : zW} (h : SCR a b) (h2 : SCR b c) : SCR a c := ⟨fun k => (h2.1 k).trans (h.1 k), fun k => (h2.2 k).trans (h.2 k)⟩
/-- image, tape, sheets, script stay -/
def KIM (w w' : zW) : Prop := gI w' 0 2 = gI w 0 2 ∧ gI w' 10 20 = gI w 10 20 ∧ (∀ k, gI w' 2 k = gI w 2 k) ∧ (∀ k, gI w' 14 k = gI w 14 k) ∧ (∀ k, gI w' 15 k = gI w 15 k) ∧ (∀ k, gI w' 16 k = gI w 16 k) ∧ (∀ k, gI w' 38 k = gI w 38 k) ∧ (∀ k, gL w' 2 k = gL w 2 k) ∧ gL w' 10 21 = gL w 10 21
def KTP (w w' : zW) : Prop := gI w' 3 1 = gI w 3 1 ∧ gI w' 10 12 = gI w 10 12 ∧ (∀ k, gI w' 17 k = gI w 17 k) ∧ ∀ k, gI w' 32 k = gI w 32 k
def KSH (w w' : zW) : Prop := (∀ s, s < 4 → ∀ k, gI w' (5 + s) k = gI w (5 + s) k) ∧ (∀ k, gI w' 39 k = gI w 39 k) ∧ (∀ k, gI w' 40 k = gI w 40 k) ∧ (∀ s, s < 4 → ∀ k, gL w' (19 + s) k = gL w (19 + s) k) ∧ ∀ k, gL w' 41 k = gL w 41 k
theorem GC_keep {w w' : zW} {g : Nat} {S : zS} (h : GC w g S) (h0 : ∀ k, gI w' g k = gI w g k) (h1 : ∀ k, gI w' (3 * g + 8) k = gI w (3 * g + 8) k) (h2 : ∀ k, gI w' (3 * g + 9) k = gI w (3 * g + 9) k) (h3 : ∀ k, gI w' (3 * g + 10) k = gI w (3 * g + 10) k) (h4 : ∀ k, gL w' g k = gL w g k) : GC w' g S := by
  obtain ⟨a1, a2, a3, a4, a5, a6, a7, a8, a9⟩ := h
  exact ⟨fun c hc => by rw [h1]; exact a1 c hc, fun c hc => by rw [h2]; exact a2 c hc, by rw [h4]; exact a3, by rw [h4]; exact a4, by rw [h4]; exact a5, by rw [h0]; exact a6, by rw [h0]; exact a7, by rw [h0]; exact a8, fun j e he => by rw [h3]; exact a9 j e he⟩
theorem GN_keep {w w' : zW} {S : zS} (h : GN w S) (h0 : gI w' 10 3 = gI w 10 3 ∧ gI w' 10 5 = gI w 10 5 ∧ gI w' 10 6 = gI w 10 6) (h1 : ∀ k, gI w' 28 k = gI w 28 k) (h2 : ∀ k, gI w' 29 k = gI w 29 k) (h3 : ∀ k, gI w' 30 k = gI w 30 k) (h4 : gL w' 10 2 = gL w 10 2) : GN w' S := by
  obtain ⟨a1, a2, a3, a4, a5, a6, a7⟩ := h
  exact ⟨fun c hc => by rw [h1]; exact a1 c hc, fun c hc => by rw [h2]; exact a2 c hc, by rw [h4]; exact a3, by rw [h0.1]; exact a4, by rw [h0.2.2]; exact a5, by rw [h0.2.1]; exact a6, fun j e he => by rw [h3, h3, h3]; exact a7 j e he⟩
theorem GK_keep {w w' : zW} {S : zS} (h : GK w S) (h1 : ∀ k, gI w' 38 k = gI w 38 k) (h4 : gL w' 10 21 = gL w 10 21) : GK w' S := by
  obtain ⟨a1, a2, a3, a4, a5, a6, a7⟩ := h
  exact ⟨fun c hc => by rw [h1]; exact a1 c hc, fun c hc => by rw [h1]; exact a2 c hc, by rw [h4]; exact a3, by rw [h1]; exact a4, by rw [h1]; exact a5, by rw [h1]; exact a6, fun j e he => by rw [h1, h1, h1]; exact a7 j e he⟩
theorem KIM.img {w w' : zW} {K : Option zS} (h : KIM w w') (hI : IMG w K) : IMG w' K := by
  obtain ⟨k1, k2, k3, k4, k5, k6, k7, k8, k9⟩ := h
  obtain ⟨a1, a2, a3⟩ := hI
  exact ⟨by rw [k1]; exact a1, by rw [k2]; exact a2, fun s hs => ⟨(a3 s hs).1, GC_keep (a3 s hs).2.1 k3 k4 k5 k6 k8, GK_keep (a3 s hs).2.2 k7 k9⟩⟩
theorem KTP.tap {w w' : zW} {T : List Nat} (h : KTP w w') (hT : TAP w T) : TAP w' T := by
  obtain ⟨k1, k2, k3, k4⟩ := h
  obtain ⟨a1, a2, a3, a4, a5⟩ := hT
  exact ⟨a1, a2, by rw [k1]; exact a3, by rw [k2]; exact a4, fun j c hc => by rw [k3, k4]; exact a5 j c hc⟩
theorem SH1_keep {w w' : zW} {s : Nat} {h : Option (Nat × Nat)} (hs : SH1 w s h) (k1 : ∀ k, gI w' (5 + s) k = gI w (5 + s) k) (k2 : gI w' 39 s = gI w 39 s) (k3 : gI w' 40 s = gI w 40 s) : SH1 w' s h := by
  unfold SH1 at hs ⊢
  cases h with
  | none => exact ⟨by rw [k1]; exact hs.1, by rw [k2]; exact hs.2⟩
  | some q =>
    obtain ⟨a1, a2, a3, a4, a5, a6⟩ := hs
    exact ⟨by rw [k1]; exact a1, by rw [k2]; exact a2, by rw [k1]; exact a3, by rw [k1]; exact a4, by rw [k3]; exact a5, a6⟩
theorem KSH.sht {w w' : zW} {H : Nat → Option (Nat × Nat)} (h : KSH w w') (hS : SHT w H) : SHT w' H := by
  obtain ⟨k1, k2, k3, k4, k5⟩ := h
  intro s hs
  obtain ⟨a1, a2⟩ := hS s hs
  exact ⟨SH1_keep a1 (k1 s hs) (k2 s) (k3 s), fun j hj => by rw [k4 s hs, k5]; exact a2 j hj⟩
theorem KIM.tr {a b c : zW} (h : KIM a b) (g : KIM b c) : KIM a c := by
  obtain ⟨k1, k2, k3, k4, k5, k6, k7, k8, k9⟩ := h
  obtain ⟨g1, g2, g3, g4, g5, g6, g7, g8, g9⟩ := g
  exact ⟨g1.trans k1, g2.trans k2, fun k => (g3 k).trans (k3 k), fun k => (g4 k).trans (k4 k), fun k => (g5 k).trans (k5 k), fun k => (g6 k).trans (k6 k), fun k => (g7 k).trans (k7 k), fun k => (g8 k).trans (k8 k), g9.trans k9⟩
theorem KTP.tr {a b c : zW} (h : KTP a b) (g : KTP b c) : KTP a c := ⟨g.1.trans h.1, g.2.1.trans h.2.1, fun k => (g.2.2.1 k).trans (h.2.2.1 k), fun k => (g.2.2.2 k).trans (h.2.2.2 k)⟩
theorem KSH.tr {a b c : zW} (h : KSH a b) (g : KSH b c) : KSH a c := ⟨fun s hs k => (g.1 s hs k).trans (h.1 s hs k), fun k => (g.2.1 k).trans (h.2.1 k), fun k => (g.2.2.1 k).trans (h.2.2.1 k), fun s hs k => (g.2.2.2.1 s hs k).trans (h.2.2.2.1 s hs k), fun k => (g.2.2.2.2 k).trans (h.2.2.2.2 k)⟩
theorem lt4 {P : Nat → Prop} (h0 : P 0) (h1 : P 1) (h2 : P 2) (h3 : P 3) : ∀ s, s < 4 → P s
  | 0, _ => h0
  | 1, _ => h1
  | 2, _ => h2
  | 3, _ => h3
  | n + 4, h => absurd h (by omega)
/-- all masks at once: what none of them names stays -/
def mAI (o k : Nat) : Bool := mCI o k || mNI o k || mDI o k
def mAL (o k : Nat) : Bool := mCL o k || mNL o k || mDL o k
theorem EQX.widen {mI mL nI' nL' : Nat → Nat → Bool} {w w' : zW} (h : EQX mI mL w w') (h1 : ∀ o k, nI' o k = false → mI o k = false) (h2 : ∀ o k, nL' o k = false → mL o k = false) : EQX nI' nL' w w' := ⟨fun o k q => h.1 o k (h1 o k q), fun o k q => h.2 o k (h2 o k q)⟩
theorem EQX.cA {w w' : zW} (h : EQX mCI mCL w w') : EQX mAI mAL w w' := h.widen (fun o k q => by unfold mAI at q; simp only [Bool.or_eq_false_iff] at q; exact q.1.1) (fun o k q => by unfold mAL at q; simp only [Bool.or_eq_false_iff] at q; exact q.1.1)
theorem EQX.nA {w w' : zW} (h : EQX mNI mNL w w') : EQX mAI mAL w w' := h.widen (fun o k q => by unfold mAI at q; simp only [Bool.or_eq_false_iff] at q; exact q.1.2) (fun o k q => by unfold mAL at q; simp only [Bool.or_eq_false_iff] at q; exact q.1.2)
theorem EQX.dA {w w' : zW} (h : EQX mDI mDL w w') : EQX mAI mAL w w' := h.widen (fun o k q => by unfold mAI at q; simp only [Bool.or_eq_false_iff] at q; exact q.2) (fun o k q => by unfold mAL at q; simp only [Bool.or_eq_false_iff] at q; exact q.2)
theorem EQX.rN {w w' : zW} (h : EQX mRI mRL w w') : EQX mNI mNL w w' := h.widen (fun o k q => by
    unfold mNI at q; unfold mRI
    simp only [Bool.or_eq_false_iff, Bool.and_eq_false_iff] at q ⊢
    obtain ⟨⟨⟨⟨⟨⟨⟨⟨q0, -⟩, -⟩, -⟩, q4⟩, q5⟩, q6⟩, q7⟩, q8⟩ := q
    refine ⟨⟨⟨⟨⟨?_, q4⟩, q5⟩, q6⟩, q7⟩, q8⟩
    rcases q0 with q0 | q0
    · exact Or.inl q0
    · obtain ⟨⟨⟨-, a⟩, b⟩, c⟩ := q0
      exact Or.inr ⟨⟨a, b⟩, c⟩) (fun o k q => by
    unfold mNL at q; unfold mRL
    simp only [Bool.or_eq_false_iff, Bool.and_eq_false_iff] at q ⊢
    obtain ⟨⟨q0, q1⟩, q2⟩ := q
    refine ⟨⟨?_, q1⟩, q2⟩
    rcases q0 with q0 | q0
    · exact Or.inl q0
    · obtain ⟨⟨-, a⟩, b⟩ := q0
      exact Or.inr ⟨a, b⟩)
theorem EQX.kim {w w' : zW} (h : EQX mAI mAL w w') : KIM w w' := ⟨h.1 0 2 rfl, h.1 10 20 rfl, fun k => h.1 2 k rfl, fun k => h.1 14 k rfl, fun k => h.1 15 k rfl, fun k => h.1 16 k rfl, fun k => h.1 38 k rfl, fun k => h.2 2 k rfl, h.2 10 21 rfl⟩
theorem EQX.ktp {w w' : zW} (h : EQX mAI mAL w w') : KTP w w' := ⟨h.1 3 1 rfl, h.1 10 12 rfl, fun k => h.1 17 k rfl, fun k => h.1 32 k rfl⟩
theorem EQX.ksh {w w' : zW} (h : EQX mAI mAL w w') : KSH w w' := ⟨lt4 (fun k => h.1 5 k rfl) (fun k => h.1 6 k rfl) (fun k => h.1 7 k rfl) (fun k => h.1 8 k rfl), fun k => h.1 39 k rfl, fun k => h.1 40 k rfl, lt4 (fun k => h.2 19 k rfl) (fun k => h.2 20 k rfl) (fun k => h.2 21 k rfl) (fun k => h.2 22 k rfl), fun k => h.2 41 k rfl⟩
theorem EQX.scr {w w' : zW} (h : EQX mAI mAL w w') : SCR w w' := ⟨fun k => h.1 43 k rfl, fun k => h.1 44 k rfl⟩
theorem EQX.gcN {w w' : zW} {S : zS} (h : EQX mNI mNL w w') (hG : GC w 1 S) : GC w' 1 S := GC_keep hG (fun k => h.1 1 k rfl) (fun k => h.1 11 k rfl) (fun k => h.1 12 k rfl) (fun k => h.1 13 k rfl) (fun k => h.2 1 k rfl)
theorem EQX.gnC {w w' : zW} {S : zS} (h : EQX mCI mCL w w') (hG : GN w S) : GN w' S := GN_keep hG ⟨h.1 10 3 rfl, h.1 10 5 rfl, h.1 10 6 rfl⟩ (fun k => h.1 28 k rfl) (fun k => h.1 29 k rfl) (fun k => h.1 30 k rfl) (h.2 10 2 rfl)
theorem EQX.gnD {w w' : zW} {S : zS} (h : EQX mDI mDL w w') (hG : GN w S) : GN w' S := GN_keep hG ⟨h.1 10 3 rfl, h.1 10 5 rfl, h.1 10 6 rfl⟩ (fun k => h.1 28 k rfl) (fun k => h.1 29 k rfl) (fun k => h.1 30 k rfl) (h.2 10 2 rfl)
theorem EQX.gcD {w w' : zW} {S : zS} (h : EQX mDI mDL w w') (hG : GC w 1 S) : GC w' 1 S := GC_keep hG (fun k => h.1 1 k rfl) (fun k => h.1 11 k rfl) (fun k => h.1 12 k rfl) (fun k => h.1 13 k rfl) (fun k => h.2 1 k rfl)
theorem EQX.gnR {w w' : zW} {S : zS} (h : EQX mRI mRL w w') (hG : GN w S) : GN w' S := GN_keep hG ⟨h.1 10 3 rfl, h.1 10 5 rfl, h.1 10 6 rfl⟩ (fun k => h.1 28 k rfl) (fun k => h.1 29 k rfl) (fun k => h.1 30 k rfl) (h.2 10 2 rfl)
/-- both answer alike, and hold the same afterwards -/
def OPP (d mc nc mn nn : Nat) (vc vn : List Value) (w : zW) : Prop := WM d mc nc vc w (fun r1 w1 => WM d mn nn vn w1 (fun r2 w2 => r1 = r2 ∧ RW w2 ∧ SCR w w2))
/-- an operation on the ground -/
theorem opG {d mc nc mn nn : Nat} {vc vn : List Value} {w : zW} {f : zS → Int32 × zS} (hok : ∀ S, okS S → okS (f S).2)
    (hC : ∀ (S : zS) (Q : zQ), GC w 1 S → okS S → (∀ w', GC w' 1 (f S).2 → EQX mCI mCL w w' → Q (some (.int (f S).1)) w') → WM d mc nc vc w Q)
    (hN : ∀ (S : zS) (w : zW) (Q : zQ), GN w S → okS S → (∀ w', GN w' (f S).2 → EQX mNI mNL w w' → Q (some (.int (f S).1)) w') → WM d mn nn vn w Q) (h : RW w) : OPP d mc nc mn nn vc vn w := by
  obtain ⟨S, K, T, H, h1, h2, h3, h4, h5, h6⟩ := h
  refine hC S _ h2 h1 (fun w1 g1 x1 => hN S w1 _ (x1.gnC h3) h1 (fun w2 g2 x2 => ⟨rfl, ?_, x1.cA.scr.tr x2.nA.scr⟩))
  have hx := x1.cA.tr x2.nA
  exact ⟨(f S).2, K, T, H, hok S h1, x2.gcN g1, g2, hx.kim.img h4, hx.ktp.tap h5, hx.ksh.sht h6⟩
theorem ok_digA {S : zS} (hk : okS S) (x : Int32) : okS (digA S x).2 := by
  unfold digA
  split
  · rename_i g
    obtain ⟨c, hc, rfl⟩ := isC_of g
    rw [nI_clamp (by omega)]
    split
    · rename_i q; exact okS_dig hk hc q
    · exact hk
  · exact hk
theorem ok_filA {S : zS} (hk : okS S) (x : Int32) : okS (filA S x).2 := by
  unfold filA
  split
  · rename_i g
    obtain ⟨c, hc, rfl⟩ := isC_of g
    rw [nI_clamp (by omega)]
    split
    · exact hk
    · exact okS_fil hk hc
  · exact hk
theorem ok_rofA {S : zS} (hk : okS S) (x : Int32) : okS (rofA S x).2 := by
  unfold rofA
  split
  · rename_i g
    obtain ⟨c, hc, rfl⟩ := isC_of g
    rw [nI_clamp (by omega)]
    split
    · exact hk
    · exact okS_rof hk hc (by omega)
  · exact hk
theorem op_dig {d : Nat} {w : zW} {x : Int32} (h : RW w) : OPP (d + 3) m_C_dig 2 m_N_dig 2 [.ref 0, .int x] [.ref 10, .int x] w :=
  opG (f := fun S => digA S x) (fun S hk => ok_digA hk x) (fun S Q g k q => s_C_dig g k q) (fun S w Q g k q => s_N_dig g k q) h
theorem op_fill {d : Nat} {w : zW} {x : Int32} (h : RW w) : OPP (d + 3) m_C_fill 2 m_N_fill 3 [.ref 0, .int x] [.ref 10, .int x] w :=
  opG (f := fun S => filA S x) (fun S hk => ok_filA hk x) (fun S Q g k q => s_C_fill g k q) (fun S w Q g k q => s_N_fill g k q) h
theorem op_roof {d : Nat} {w : zW} {x : Int32} (h : RW w) : OPP (d + 3) m_C_roof 2 m_N_roof 2 [.ref 0, .int x] [.ref 10, .int x] w :=
  opG (f := fun S => rofA S x) (fun S hk => ok_rofA hk x) (fun S Q g k q => s_C_roof g k q) (fun S w Q g k q => s_N_roof g k q) h
