/-! ===== how many bits: the JDK's way, and one by one ===== -/
def tn (x : Int64) : Nat := x.toBitVec.toNat
theorem tn_lt (x : Int64) : tn x < 2 ^ 64 := x.toBitVec.isLt
theorem tn_inj {x y : Int64} (h : tn x = tn y) : x = y := Int64.toBitVec_inj.mp (BitVec.eq_of_toNat_eq h)
theorem tn_bit (x : Int64) (i : Nat) : bt6 x i = (tn x).testBit i := rfl
theorem tn_and (x y : Int64) : tn (x &&& y) = tn x &&& tn y := by simp [tn]
theorem tn_add (x y : Int64) : tn (x + y) = (tn x + tn y) % 2 ^ 64 := by simp [tn]
theorem tn_sub {x y : Int64} (h : tn y ≤ tn x) : tn (x - y) = tn x - tn y := by
  have h1 := tn_lt x
  have h2 : tn (x - y) = (2 ^ 64 - tn y + tn x) % 2 ^ 64 := by simp [tn]
  rw [h2]
  omega
theorem tn_us {k : Nat} (hk : k < 64) (x : Int64) : tn (zus x (nI k)) = tn x / 2 ^ k := by
  unfold zus tn
  rw [UInt64.toBitVec_toInt64, UInt64.toBitVec_shiftRight, BitVec.ushiftRight_eq', zk_us k hk, BitVec.toNat_ushiftRight, Nat.shiftRight_eq_div_pow, Int64.toBitVec_toUInt64]
theorem and256 {a b c d : Nat} (ha : a < 256) (hc : c < 256) : (a + 256 * b) &&& (c + 256 * d) = (a &&& c) + 256 * (b &&& d) := by
  apply Nat.eq_of_testBit_eq
  intro i
  have hac : a &&& c < 256 := Nat.lt_of_le_of_lt Nat.and_le_left ha
  have e : ∀ u v : Nat, u < 256 → (u + 256 * v).testBit i = if i < 8 then u.testBit i else v.testBit (i - 8) := by
    intro u v hu
    rw [show u + 256 * v = 2 ^ 8 * v + u by omega, Nat.testBit_two_pow_mul_add v (by simpa using hu) i]
  rw [Nat.testBit_and, e a b ha, e c d hc, e _ _ hac]
  by_cases h : i < 8
  · rw [if_pos h, if_pos h, if_pos h, Nat.testBit_and]
  · rw [if_neg h, if_neg h, if_neg h, Nat.testBit_and]
def M5 : Nat → Nat
  | 0 => 0
  | n + 1 => 85 + 256 * M5 n
def M3 : Nat → Nat
  | 0 => 0
  | n + 1 => 51 + 256 * M3 n
def MF : Nat → Nat
  | 0 => 0
  | n + 1 => 15 + 256 * MF n
def P1 (n X : Nat) : Nat := X - ((X / 2) &&& M5 n)
def P2 (n X : Nat) : Nat := (X &&& M3 n) + ((X / 4) &&& M3 n)
def P3 (n X : Nat) : Nat := (X + X / 16) &&& MF n
theorem p1_byte : ∀ a, a < 256 → ∀ c, c < 2 → (a / 2 + 128 * c) &&& 85 = a / 2 &&& 85 ∧ (a / 2 &&& 85) ≤ a ∧ a - (a / 2 &&& 85) < 256 := by decide +kernel
theorem p2_byte : ∀ a, a < 256 → ∀ c, c < 4 → (a / 4 + 64 * c) &&& 51 = a / 4 &&& 51 ∧ (a &&& 51) + (a / 4 &&& 51) < 256 := by decide +kernel
theorem p1_step {a b n : Nat} (ha : a < 256) : P1 (n + 1) (a + 256 * b) = (a - (a / 2 &&& 85)) + 256 * P1 n b := by
  obtain ⟨h1, h2, -⟩ := p1_byte a ha (b % 2) (Nat.mod_lt _ (by decide))
  unfold P1
  have e1 : (a + 256 * b) / 2 = (a / 2 + 128 * (b % 2)) + 256 * (b / 2) := by omega
  rw [e1]
  show a + 256 * b - ((_ + 256 * (b / 2)) &&& (85 + 256 * M5 n)) = _
  rw [and256 (by omega) (by decide), h1]
  have h3 : (b / 2 &&& M5 n) ≤ b := Nat.le_trans Nat.and_le_left (by omega)
  rw [Nat.mul_sub]
  omega
theorem p2_step {a b n : Nat} (ha : a < 256) : P2 (n + 1) (a + 256 * b) = ((a &&& 51) + (a / 4 &&& 51)) + 256 * P2 n b := by
  obtain ⟨h1, -⟩ := p2_byte a ha (b % 4) (Nat.mod_lt _ (by decide))
  unfold P2
  have e1 : (a + 256 * b) / 4 = (a / 4 + 64 * (b % 4)) + 256 * (b / 4) := by omega
  rw [e1]
  show ((a + 256 * b) &&& (51 + 256 * M3 n)) + ((_ + 256 * (b / 4)) &&& (51 + 256 * M3 n)) = _
  rw [and256 ha (by decide), and256 (by omega) (by decide), h1, Nat.mul_add]
  omega
/-- each half byte is at most four -/
def nib : Nat → Nat → Prop
  | 0, X => X = 0
  | n + 1, X => X % 16 ≤ 4 ∧ X / 16 % 16 ≤ 4 ∧ nib n (X / 256)
theorem p3_byte : ∀ a, a < 256 → a % 16 ≤ 4 → a / 16 ≤ 4 → ∀ c, c < 5 → a + a / 16 + 16 * c < 256 ∧ (a + a / 16 + 16 * c) &&& 15 = a % 16 + a / 16 := by decide +kernel
theorem nib_16 : ∀ {n b : Nat}, nib n b → b % 16 < 5
  | 0, b, h => by
    have : b = 0 := h
    omega
  | n + 1, b, h => by
    have := h.1
    omega
theorem p3_step {a b n : Nat} (ha : a < 256) (h1 : a % 16 ≤ 4) (h2 : a / 16 ≤ 4) (hb : nib n b) : P3 (n + 1) (a + 256 * b) = (a % 16 + a / 16) + 256 * P3 n b := by
  obtain ⟨g1, g2⟩ := p3_byte a ha h1 h2 (b % 16) (nib_16 hb)
  unfold P3
  have e1 : (a + 256 * b) + (a + 256 * b) / 16 = (a + a / 16 + 16 * (b % 16)) + 256 * (b + b / 16) := by omega
  rw [e1]
  show (_ + 256 * (b + b / 16)) &&& (15 + 256 * MF n) = _
  rw [and256 g1 (by decide), g2]
/-- bits of a byte -/
def pc8 (a : Nat) : Nat := (List.range 8).countP (fun i => a.testBit i)
def pcd : Nat → Nat → Nat
  | 0, _ => 0
  | n + 1, X => pc8 (X % 256) + 256 * pcd n (X / 256)
def pcs : Nat → Nat → Nat
  | 0, _ => 0
  | n + 1, X => pc8 (X % 256) + pcs n (X / 256)
theorem byte_all : ∀ a, a < 256 → (let u := a - (a / 2 &&& 85); let v := (u &&& 51) + (u / 4 &&& 51); u < 256 ∧ v < 256 ∧ v % 16 ≤ 4 ∧ v / 16 ≤ 4 ∧ v % 16 + v / 16 = pc8 a ∧ pc8 a ≤ 8) := by decide +kernel
theorem pc_main : ∀ (n X : Nat), X < 256 ^ n → P3 n (P2 n (P1 n X)) = pcd n X ∧ nib n (P2 n (P1 n X))
  | 0, X, h => by
    have : X = 0 := by simpa using h
    subst this
    exact ⟨by decide, rfl⟩
  | n + 1, X, h => by
    have hX : X = X % 256 + 256 * (X / 256) := by omega
    have ha : X % 256 < 256 := Nat.mod_lt _ (by decide)
    have hb : X / 256 < 256 ^ n := by
      rw [Nat.pow_succ] at h
      omega
    obtain ⟨i1, i2⟩ := pc_main n (X / 256) hb
    have hby := byte_all (X % 256) ha
    generalize hu : X % 256 - (X % 256 / 2 &&& 85) = u at hby
    generalize hv : (u &&& 51) + (u / 4 &&& 51) = v at hby
    obtain ⟨g1, g2, g3, g4, g5, g6⟩ := hby
    have e1 : P1 (n + 1) X = u + 256 * P1 n (X / 256) := by
      conv => lhs; rw [hX]
      rw [p1_step ha, hu]
    have e2 : P2 (n + 1) (P1 (n + 1) X) = v + 256 * P2 n (P1 n (X / 256)) := by rw [e1, p2_step g1, hv]
    refine ⟨?_, ?_⟩
    · have g2 : v < 256 := by omega
      rw [hv] at g3 g4 g5
      rw [e2, p3_step g2 g3 g4 i2, i1, g5]
      rfl
    · rw [e2]
      refine ⟨by omega, by omega, ?_⟩
      rw [show (v + 256 * P2 n (P1 n (X / 256))) / 256 = P2 n (P1 n (X / 256)) by omega]
      exact i2
theorem pc8_le (a : Nat) : pc8 a ≤ 8 := by
  unfold pc8
  have := List.countP_le_length (p := fun i => a.testBit i) (l := List.range 8)
  simpa using this
theorem pcs_count : ∀ (n X : Nat), (List.range (8 * n)).countP (fun i => X.testBit i) = pcs n X
  | 0, X => rfl
  | n + 1, X => by
    have ih := pcs_count n (X / 256)
    rw [show 8 * (n + 1) = 8 + 8 * n by omega, List.range_add, List.countP_append, List.countP_map]
    show _ = pc8 (X % 256) + pcs n (X / 256)
    rw [← ih]
    congr 1
    · unfold pc8
      apply List.countP_congr
      intro i hi
      have : i < 8 := List.mem_range.mp hi
      rw [show (256 : Nat) = 2 ^ 8 from rfl, Nat.testBit_mod_two_pow]
      simp [this]
    · apply List.countP_congr
      intro i _
      rw [show (256 : Nat) = 2 ^ 8 from rfl, Nat.testBit_div_two_pow]
      simp [Nat.add_comm]
def vl : List Nat → Nat
  | [] => 0
  | c :: r => c + 256 * vl r
def za : List Nat → List Nat → List Nat
  | [], b => b
  | a, [] => a
  | x :: a, y :: b => (x + y) :: za a b
theorem vl_za : ∀ a b : List Nat, vl (za a b) = vl a + vl b
  | [], b => by simp [za, vl]
  | x :: a, [] => by simp [za, vl]
  | x :: a, y :: b => by
    have ih := vl_za a b
    show (x + y) + 256 * vl (za a b) = (x + 256 * vl a) + (y + 256 * vl b)
    rw [ih]
    omega
theorem vl_div {c : Nat} {r : List Nat} (h : c < 256) : vl (c :: r) / 256 = vl r := by
  show (c + 256 * vl r) / 256 = vl r
  omega
theorem div4 (X : Nat) : X / 65536 = X / 256 / 256 := by rw [Nat.div_div_eq_div_mul]
theorem div8 (X : Nat) : X / 4294967296 = X / 256 / 256 / 256 / 256 := by rw [Nat.div_div_eq_div_mul, Nat.div_div_eq_div_mul, Nat.div_div_eq_div_mul]
theorem pc_sumL {c0 c1 c2 c3 c4 c5 c6 c7 V : Nat} (hV : V = vl [c0, c1, c2, c3, c4, c5, c6, c7]) (g0 : c0 ≤ 8) (g1 : c1 ≤ 8) (g2 : c2 ≤ 8) (g3 : c3 ≤ 8) (g4 : c4 ≤ 8) (g5 : c5 ≤ 8) (g6 : c6 ≤ 8) (g7 : c7 ≤ 8) :
    (V + V / 256 + (V + V / 256) / 65536 + (V + V / 256 + (V + V / 256) / 65536) / 4294967296) % 4294967296 % 128 = c0 + c1 + c2 + c3 + c4 + c5 + c6 + c7 := by
  have e1 : V / 256 = vl [c1, c2, c3, c4, c5, c6, c7] := by rw [hV]; exact vl_div (by omega)
  have e2 : V + V / 256 = vl [c0 + c1, c1 + c2, c2 + c3, c3 + c4, c4 + c5, c5 + c6, c6 + c7, c7] := by rw [e1, hV, ← vl_za]; rfl
  have e3 : (V + V / 256) / 65536 = vl [c2 + c3, c3 + c4, c4 + c5, c5 + c6, c6 + c7, c7] := by rw [e2, div4, vl_div (by omega), vl_div (by omega)]
  have e4 : V + V / 256 + (V + V / 256) / 65536 = vl [c0 + c1 + (c2 + c3), c1 + c2 + (c3 + c4), c2 + c3 + (c4 + c5), c3 + c4 + (c5 + c6), c4 + c5 + (c6 + c7), c5 + c6 + c7, c6 + c7, c7] := by rw [e3, e2, ← vl_za]; rfl
  have e5 : (V + V / 256 + (V + V / 256) / 65536) / 4294967296 = vl [c4 + c5 + (c6 + c7), c5 + c6 + c7, c6 + c7, c7] := by rw [e4, div8, vl_div (by omega), vl_div (by omega), vl_div (by omega), vl_div (by omega)]
  rw [e5, e4, ← vl_za]
  show ((c0 + c1 + (c2 + c3) + (c4 + c5 + (c6 + c7))) + 256 * vl _) % 4294967296 % 128 = _
  generalize vl _ = K
  have e6 : ∀ Y : Nat, Y % 4294967296 % 128 = Y % 128 := fun Y => Nat.mod_mod_of_dvd Y (by decide)
  rw [e6]
  omega
theorem pc_sum {X : Nat} : ((pcd 8 X + pcd 8 X / 256 + (pcd 8 X + pcd 8 X / 256) / 65536 + (pcd 8 X + pcd 8 X / 256 + (pcd 8 X + pcd 8 X / 256) / 65536) / 4294967296) % 4294967296) % 128 = pcs 8 X := by
  have h := pc8_le
  rw [pc_sumL (V := pcd 8 X) rfl (h _) (h _) (h _) (h _) (h _) (h _) (h _) (h _)]
  simp only [pcs]
  omega
theorem pcd_lt : ∀ n X : Nat, pcd n X ≤ 8 * (256 ^ n - 1) / 255
  | 0, X => by simp [pcd]
  | n + 1, X => by
    have ih := pcd_lt n (X / 256)
    have h := pc8_le (X % 256)
    show pc8 (X % 256) + 256 * pcd n (X / 256) ≤ _
    have e : 256 ^ (n + 1) = 256 * 256 ^ n := by rw [Nat.pow_succ, Nat.mul_comm]
    have hp : 0 < 256 ^ n := Nat.pow_pos (by decide)
    rw [e]
    generalize 256 ^ n = P at *
    omega
