/-! ===== what a county is, on both sides ===== -/
def mkn (p : Nat → Bool) : Nat → Int64
  | 0 => 0
  | n + 1 => if p n then mkn p n ||| b1 n else mkn p n
def mk6 (p : Nat → Bool) : Int64 := mkn p 36
theorem bx_mkn (p : Nat → Bool) : ∀ (n i : Nat), n ≤ 64 → bt6 (mkn p n) i = (decide (i < n) && p i)
  | 0, i, _ => by simp [mkn, bx_0]
  | n + 1, i, h => by
    have ih := bx_mkn p n i (by omega)
    unfold mkn
    by_cases hp : p n = true
    · rw [if_pos hp, bx_or, ih, bx_b1 (by omega)]
      by_cases e : i = n
      · subst e; simp [hp]
      · have : decide (i < n + 1) = decide (i < n) := by rw [decide_eq_decide]; omega
        rw [this]; simp [e]
    · rw [if_neg hp, ih]
      by_cases e : i = n
      · subst e; simp at hp; simp [hp]
      · have : decide (i < n + 1) = decide (i < n) := by rw [decide_eq_decide]; omega
        rw [this]
theorem bx_mk (p : Nat → Bool) (i : Nat) : bt6 (mk6 p) i = (decide (i < 36) && p i) := bx_mkn p 36 i (by decide)
theorem SET.mk (p : Nat → Bool) : SET (mk6 p) := fun i h => by
  rw [bx_mk]
  have : ¬ i < 36 := by omega
  simp [this]
theorem mk_ext {p q : Nat → Bool} (h : ∀ i, i < 36 → p i = q i) : mk6 p = mk6 q := (SET.mk p).ext (SET.mk q) (fun i hi => by rw [bx_mk, bx_mk, h i hi])
theorem mk_eq {x : Int64} {p : Nat → Bool} (hx : SET x) (h : ∀ i, i < 36 → bt6 x i = p i) : x = mk6 p := hx.ext (SET.mk p) (fun i hi => by rw [bx_mk, h i hi]; simp [hi])
abbrev zS : Type := (Nat → Nat) × (Nat → Nat) × Int64 × Nat × Nat × List (Nat × Nat × Bool)
abbrev dpS (S : zS) : Nat → Nat := S.1
abbrev owS (S : zS) : Nat → Nat := S.2.1
abbrev roS (S : zS) : Int64 := S.2.2.1
abbrev raS (S : zS) : Nat := S.2.2.2.1
abbrev drS (S : zS) : Nat := S.2.2.2.2.1
abbrev unS (S : zS) : List (Nat × Nat × Bool) := S.2.2.2.2.2
def opS (S : zS) : Int64 := mk6 (fun c => decide (0 < dpS S c))
def niS (S : zS) : Int64 := mk6 (fun c => decide (dpS S c = 9))
def laS (S : zS) (o : Nat) : Int64 := mk6 (fun c => decide (owS S c = o))
def okS (S : zS) : Prop := (∀ c, c < 36 → dpS S c ≤ 9) ∧ (∀ c, c < 36 → owS S c ≤ 4) ∧ SET (roS S) ∧ (∀ c, bt6 (roS S) c = true → 0 < dpS S c) ∧ raS S ≤ 99 ∧ drS S < 2 ^ 31 ∧ (unS S).length ≤ 10 ∧ ∀ e ∈ unS S, e.1 < 36 ∧ e.2.1 ≤ 9 ∧ (e.2.2 = true → 0 < e.2.1)
def encU (e : Nat × Nat × Bool) : Nat := (e.1 * 10 + e.2.1) * 2 + (if e.2.2 then 1 else 0)
/-- a ground of the county: object g, its arrays from 3 g + 8 on -/
def GC (w : zW) (g : Nat) (S : zS) : Prop := (∀ c, c < 36 → gI w (3 * g + 8) c = nI (dpS S c)) ∧ (∀ c, c < 36 → gI w (3 * g + 9) c = nI (owS S c)) ∧ gL w g 2 = opS S ∧ gL w g 3 = niS S ∧ gL w g 4 = roS S ∧ gI w g 5 = nI (raS S) ∧ gI w g 6 = nI (drS S) ∧ gI w g 8 = nI (unS S).length ∧ ∀ j e, (unS S)[j]? = some e → gI w (3 * g + 10) j = nI (encU e)
/-- the reference's -/
def GN (w : zW) (S : zS) : Prop := (∀ c, c < 36 → gI w 28 c = nI (dpS S c)) ∧ (∀ c, c < 36 → gI w 29 c = nI (owS S c)) ∧ gL w 10 2 = roS S ∧ gI w 10 3 = nI (raS S) ∧ gI w 10 6 = nI (drS S) ∧ gI w 10 5 = nI (unS S).length ∧ ∀ j e, (unS S)[j]? = some e → gI w 30 (3 * j) = nI e.1 ∧ gI w 30 (3 * j + 1) = nI e.2.1 ∧ gI w 30 (3 * j + 2) = zb e.2.2
/-- the reference's image -/
def GK (w : zW) (S : zS) : Prop := (∀ c, c < 36 → gI w 38 c = nI (dpS S c)) ∧ (∀ c, c < 36 → gI w 38 (36 + c) = nI (owS S c)) ∧ gL w 10 21 = roS S ∧ gI w 38 102 = nI (raS S) ∧ gI w 38 104 = nI (drS S) ∧ gI w 38 103 = nI (unS S).length ∧ ∀ j e, (unS S)[j]? = some e → gI w 38 (72 + 3 * j) = nI e.1 ∧ gI w 38 (72 + 3 * j + 1) = nI e.2.1 ∧ gI w 38 (72 + 3 * j + 2) = zb e.2.2
def IMG (w : zW) (K : Option zS) : Prop := gI w 0 2 = zb K.isSome ∧ gI w 10 20 = zb K.isSome ∧ ∀ s, K = some s → okS s ∧ GC w 2 s ∧ GK w s
def TAP (w : zW) (T : List Nat) : Prop := T.length ≤ 160 ∧ (∀ c ∈ T, 32 ≤ c ∧ c ≤ 126) ∧ gI w 3 1 = nI T.length ∧ gI w 10 12 = nI T.length ∧ ∀ j c, T[j]? = some c → gI w 17 j = nI c ∧ gI w 32 j = nI c
def SH1 (w : zW) (s : Nat) (h : Option (Nat × Nat)) : Prop := match h with
  | none => gI w (5 + s) 1 = 0 ∧ gI w 39 s = -1
  | some q => gI w (5 + s) 1 = 1 ∧ gI w 39 s = nI q.1 ∧ gI w (5 + s) 2 = nI q.1 ∧ gI w (5 + s) 3 = nI q.2 ∧ gI w 40 s = nI q.2 ∧ q.1 < 4 ∧ q.2 ≤ 36
def SHT (w : zW) (H : Nat → Option (Nat × Nat)) : Prop := ∀ s, s < 4 → SH1 w s (H s) ∧ ∀ j, j < 36 → gL w (19 + s) j = gL w 41 (36 * s + j)
/-- the county and its reference hold the same -/
def RW (w : zW) : Prop := ∃ (S : zS) (K : Option zS) (T : List Nat) (H : Nat → Option (Nat × Nat)), okS S ∧ GC w 1 S ∧ GN w S ∧ IMG w K ∧ TAP w T ∧ SHT w H
/-! what may change -/
def EQX (mI mL : Nat → Nat → Bool) (w w' : zW) : Prop := (∀ o k, mI o k = false → gI w' o k = gI w o k) ∧ ∀ o k, mL o k = false → gL w' o k = gL w o k
theorem EQX.rf {mI mL : Nat → Nat → Bool} {w : zW} : EQX mI mL w w := ⟨fun _ _ _ => rfl, fun _ _ _ => rfl⟩
theorem EQX.tr {mI mL : Nat → Nat → Bool} {a b c : zW} (h : EQX mI mL a b) (h2 : EQX mI mL b c) : EQX mI mL a c := ⟨fun o k q => (h2.1 o k q).trans (h.1 o k q), fun o k q => (h2.2 o k q).trans (h.2 o k q)⟩
theorem EQX.pI {mI mL : Nat → Nat → Bool} {a b : zW} (h : EQX mI mL a b) {o k : Nat} (v : Int32) (hm : mI o k = true) : EQX mI mL a (sI b o k v) := ⟨fun x y q => by
  rw [gI_sI, if_neg (fun e => by rw [e.1, e.2, hm] at q; cases q)]
  exact h.1 x y q, fun x y q => h.2 x y q⟩
theorem EQX.pL {mI mL : Nat → Nat → Bool} {a b : zW} (h : EQX mI mL a b) {o k : Nat} (v : Int64) (hm : mL o k = true) : EQX mI mL a (sL b o k v) := ⟨fun x y q => h.1 x y q, fun x y q => by
  rw [gL_sL, if_neg (fun e => by rw [e.1, e.2, hm] at q; cases q)]
  exact h.2 x y q⟩
/-- the county's live ground -/
def mCI (o _ : Nat) : Bool := o == 1 || o == 11 || o == 12 || o == 13
def mCL (o _ : Nat) : Bool := o == 1
/-- the reference's live ground, and what it scribbles -/
def mNI (o k : Nat) : Bool := (o == 10 && (k == 3 || k == 5 || k == 6 || k == 10 || k == 13 || k == 14)) || o == 28 || o == 29 || o == 30 || o == 33 || o == 34 || o == 35 || o == 36 || o == 37
def mNL (o k : Nat) : Bool := (o == 10 && (k == 2 || k == 7 || k == 8)) || o == 31 || o == 42
/-- what the county scribbles -/
def mDI (o k : Nat) : Bool := (o == 3 && (k == 2 || k == 5)) || o == 18 || (o == 9 && (k == 5 || k == 6)) || o == 24 || o == 25 || o == 26 || o == 27
def mDL (o k : Nat) : Bool := (o == 3 && k == 4) || o == 23
/-- what the reference scribbles -/
def mRI (o k : Nat) : Bool := (o == 10 && (k == 10 || k == 13 || k == 14)) || o == 33 || o == 34 || o == 35 || o == 36 || o == 37
def mRL (o k : Nat) : Bool := (o == 10 && (k == 7 || k == 8)) || o == 31 || o == 42
def up1 (f : Nat → Nat) (c v : Nat) : Nat → Nat := fun j => if j = c then v else f j
def putS (S : zS) (c n : Nat) (ro : Int64) : zS := (up1 (dpS S) c n, owS S, ro, raS S, drS S, unS S)
def notU (S : zS) (c : Nat) : List (Nat × Nat × Bool) := (if (unS S).length = 10 then (unS S).drop 1 else unS S) ++ [(c, dpS S c, bt6 (roS S) c)]
def notS (S : zS) (c : Nat) : zS := (dpS S, owS S, roS S, raS S, drS S, notU S c)
theorem notU_len {S : zS} (h : (unS S).length ≤ 10) (c : Nat) : (notU S c).length ≤ 10 ∧ 0 < (notU S c).length := by
  unfold notU
  rw [List.length_append, List.length_singleton]
  split
  · rename_i e
    rw [List.length_drop]; omega
  · omega
