def bcA (x : Int64) : Int64 := x - (zus x 1 &&& 6148914691236517205)
def bcB (v : Int64) : Int64 := (v &&& 3689348814741910323) + (zus v 2 &&& 3689348814741910323)
def bcC (v : Int64) : Int64 := (v + zus v 4) &&& 1085102592571150095
def bcD (v : Int64) : Int64 := v + zus v 8
def bcE (v : Int64) : Int64 := v + zus v 16
def bcF (v : Int64) : Int64 := v + zus v 32
theorem P1_le {X : Nat} : P1 8 X ≤ X := Nat.sub_le _ _
theorem bcA_tn (x : Int64) : tn (bcA x) = P1 8 (tn x) := by
  have e : tn (zus x 1 &&& 6148914691236517205) = (tn x / 2) &&& M5 8 := by
    rw [tn_and, show (zus x 1 : Int64) = zus x (nI 1) from rfl, tn_us (by decide), show tn 6148914691236517205 = M5 8 by decide +kernel]
  unfold bcA
  rw [tn_sub (by rw [e]; exact Nat.le_trans Nat.and_le_left (by omega)), e]
  rfl
theorem M3_lt : M3 8 < 2 ^ 62 := by decide
theorem MF_lt : MF 8 < 2 ^ 60 := by decide
theorem P2_lt (X : Nat) : P2 8 X < 2 ^ 63 := by
  have h1 : X &&& M3 8 ≤ M3 8 := Nat.and_le_right
  have h2 : X / 4 &&& M3 8 ≤ M3 8 := Nat.and_le_right
  have h3 := M3_lt
  unfold P2
  omega
theorem bcB_tn (v : Int64) : tn (bcB v) = P2 8 (tn v) := by
  have h := P2_lt (tn v)
  unfold bcB
  rw [tn_add, tn_and, tn_and, show (zus v 2 : Int64) = zus v (nI 2) from rfl, tn_us (by decide), show tn 3689348814741910323 = M3 8 by decide +kernel]
  exact Nat.mod_eq_of_lt (Nat.lt_of_lt_of_le h (by decide))
theorem bcC_tn {v : Int64} (hv : tn v < 2 ^ 63) : tn (bcC v) = P3 8 (tn v) := by
  unfold bcC P3
  rw [tn_and, tn_add, show (zus v 4 : Int64) = zus v (nI 4) from rfl, tn_us (by decide), show tn 1085102592571150095 = MF 8 by decide +kernel]
  rw [Nat.mod_eq_of_lt (by omega)]
theorem bc_sh {v : Int64} {k : Nat} (hk : k < 64) (hv : tn v < 2 ^ 62) (hk1 : 0 < k) : tn (v + zus v (nI k)) = tn v + tn v / 2 ^ k := by
  rw [tn_add, tn_us hk, Nat.mod_eq_of_lt]
  have : tn v / 2 ^ k ≤ tn v := Nat.div_le_self _ _
  omega
theorem toI32_and (x : Int64) : (x.toInt32 &&& 127) = nI (tn x % 4294967296 % 128) := by
  apply Int32.toBitVec_inj.mp
  apply BitVec.eq_of_toNat_eq
  have e1 : (x.toInt32 &&& 127).toBitVec.toNat = (tn x % 2 ^ 32) &&& 127 := by
    rw [Int32.toBitVec_and, BitVec.toNat_and, Int64.toBitVec_toInt32, BitVec.signExtend_eq_setWidth_of_le _ (by decide), BitVec.toNat_setWidth]
    rfl
  rw [e1, pk_tn (Nat.lt_of_lt_of_le (Nat.mod_lt _ (by decide)) (by decide)), show (127 : Nat) = 2 ^ 7 - 1 from rfl, Nat.and_two_pow_sub_one_eq_mod]
theorem bc_eq (x : Int64) : ((bcF (bcE (bcD (bcC (bcB (bcA x)))))).toInt32 &&& 127) = nI (cn x) := by
  have h0 := tn_lt x
  have e3 : tn (bcC (bcB (bcA x))) = pcd 8 (tn x) := by
    rw [bcC_tn (by rw [bcB_tn]; exact P2_lt _), bcB_tn, bcA_tn]
    exact (pc_main 8 (tn x) (by simpa using h0)).1
  have hp : pcd 8 (tn x) < 2 ^ 60 := Nat.lt_of_le_of_lt (pcd_lt 8 _) (by decide)
  generalize hV : bcC (bcB (bcA x)) = V at *
  have e4 : tn (bcD V) = tn V + tn V / 256 := bc_sh (k := 8) (by decide) (by omega) (by decide)
  have l4 : tn (bcD V) < 2 ^ 61 := by
    have : tn V / 256 ≤ tn V := Nat.div_le_self _ _
    omega
  have e5 : tn (bcE (bcD V)) = tn (bcD V) + tn (bcD V) / 65536 := bc_sh (k := 16) (by decide) (by omega) (by decide)
  have l5 : tn (bcE (bcD V)) < 2 ^ 62 := by
    have : tn (bcD V) / 65536 ≤ tn (bcD V) := Nat.div_le_self _ _
    omega
  have e6 : tn (bcF (bcE (bcD V))) = tn (bcE (bcD V)) + tn (bcE (bcD V)) / 4294967296 := bc_sh (k := 32) (by decide) l5 (by decide)
  rw [toI32_and, e6, e5, e4, e3, pc_sum]
  congr 1
  unfold cn
  exact (pcs_count 8 (tn x)).symm
/-! the lowest bit -/
theorem lo6_mod {x : Int64} (h : ¬ x = 0) : ∃ m : Nat, tn x = 2 ^ lo6 x * (2 * m + 1) := by
  obtain ⟨h1, h2, h3⟩ := lo6_spec h
  generalize lo6 x = k at *
  have a1 : tn x % 2 ^ k = 0 := by
    apply Nat.eq_of_testBit_eq
    intro i
    rw [Nat.testBit_mod_two_pow]
    by_cases hi : i < k
    · rw [← tn_bit, h3 i hi]; simp
    · simp [hi]
  have a2 : (tn x / 2 ^ k) % 2 = 1 := by
    have : (tn x / 2 ^ k).testBit 0 = true := by
      rw [Nat.testBit_div_two_pow, ← tn_bit]
      simpa using h2
    simpa [Nat.testBit_zero] using this
  refine ⟨tn x / 2 ^ k / 2, ?_⟩
  have e1 : 2 * (tn x / 2 ^ k / 2) + 1 = tn x / 2 ^ k := by omega
  rw [e1]
  have := Nat.div_add_mod (tn x) (2 ^ k)
  omega
theorem bx_pred {x : Int64} (h : ¬ x = 0) {i : Nat} (hi : i < 64) : bt6 (x - 1) i = if i < lo6 x then true else if i = lo6 x then false else bt6 x i := by
  obtain ⟨m, hm⟩ := lo6_mod h
  have h1 := (lo6_spec h).1
  generalize lo6 x = k at *
  have hp : 0 < 2 ^ k := Nat.two_pow_pos k
  have e1 : tn (x - 1) = 2 ^ k * (2 * m) + (2 ^ k - 1) := by
    rw [tn_sub (by rw [show tn 1 = 1 by decide +kernel, hm]; exact Nat.mul_pos hp (by omega)), show tn 1 = 1 by decide +kernel, hm, Nat.mul_add]
    omega
  rw [tn_bit, e1, Nat.testBit_two_pow_mul_add _ (by omega)]
  by_cases c1 : i < k
  · rw [if_pos c1, if_pos c1, Nat.testBit_two_pow_sub_one]; simp [c1]
  · rw [if_neg c1, if_neg c1]
    by_cases c2 : i = k
    · subst c2
      simp
    · rw [if_neg c2, tn_bit, hm, show 2 ^ k * (2 * m + 1) = 2 ^ k * (2 * m + 1) + 0 from rfl, Nat.testBit_two_pow_mul_add _ (by omega), if_neg c1]
      obtain ⟨t, ht⟩ : ∃ t, i - k = t + 1 := ⟨i - k - 1, by omega⟩
      rw [ht, Nat.testBit_succ, Nat.testBit_succ]
      congr 1
      omega
theorem bx_kern {x : Int64} (h : ¬ x = 0) : x &&& (x - 1) = x &&& (b1 (lo6 x) ^^^ (-1)) := by
  obtain ⟨h1, h2, h3⟩ := lo6_spec h
  apply bx_ext
  intro i hi
  rw [bx_and, bx_and, bx_pred h hi, bx_not, bx_b1 h1]
  by_cases c1 : i < lo6 x
  · rw [h3 i c1]; simp
  · by_cases c2 : i = lo6 x
    · subst c2; simp
    · simp [c1, c2, hi]
theorem cn_kern {x : Int64} (h : ¬ x = 0) : cn x = cn (x &&& (x - 1)) + 1 := by
  rw [bx_kern h]
  exact cn_del (lo6_spec h).1 (lo6_spec h).2.1
theorem neg_eq (x : Int64) : -x = (x - 1) ^^^ (-1) := by
  apply Int64.toBitVec_inj.mp
  apply BitVec.eq_of_toNat_eq
  have h1 : (-x).toBitVec.toNat = (2 ^ 64 - tn x) % 2 ^ 64 := by simp [tn]
  have hl := tn_lt x
  have e : (x - 1) ^^^ (-1) = -1 - (x - 1) := by
    apply Int64.toBitVec_inj.mp
    have : ((-1 : Int64)).toBitVec = BitVec.allOnes 64 := by decide +kernel
    have e2 : (-1 - (x - 1)).toBitVec = (-1 : Int64).toBitVec - (x - 1).toBitVec := Int64.toBitVec_sub
    rw [Int64.toBitVec_xor, e2, this, BitVec.xor_allOnes, BitVec.allOnes_sub_eq_not]
  rw [e, h1]
  have h2 : (-1 - (x - 1)).toBitVec.toNat = (2 ^ 64 - ((2 ^ 64 - 1 + tn x) % 2 ^ 64) + (2 ^ 64 - 1)) % 2 ^ 64 := by
    rw [Int64.toBitVec_sub, BitVec.toNat_sub, Int64.toBitVec_sub, BitVec.toNat_sub]
    rfl
  rw [h2]
  omega
theorem bx_low {x : Int64} (h : ¬ x = 0) : x &&& (-x) = b1 (lo6 x) := by
  obtain ⟨h1, h2, h3⟩ := lo6_spec h
  apply bx_ext
  intro i hi
  rw [bx_and, neg_eq, bx_not, bx_pred h hi, bx_b1 h1]
  by_cases c1 : i < lo6 x
  · simp [c1, h3 i c1]; omega
  · by_cases c2 : i = lo6 x
    · subst c2; simp [h2, hi]
    · simp only [c1, c2, if_false]
      cases bt6 x i <;> simp
theorem b1_ne {k : Nat} (hk : k < 64) : ¬ b1 k = 0 := fun e => by
  have := congrArg (fun z => bt6 z k) e
  simp [bx_b1 hk, bx_0] at this
theorem b1_lo {k : Nat} (hk : k < 64) : lo6 (b1 k) = k := lo6_eq (by rw [bx_b1 hk]; simp) (fun j hj => by rw [bx_b1 hk]; simp; omega)
theorem cn_below {k : Nat} (hk : k < 64) : cn (b1 k - 1) = k := by
  have : ∀ k, k < 64 → cn (b1 k - 1) = k := by decide +kernel
  exact this k hk
theorem lo6_bc {x : Int64} (h : ¬ x = 0) : cn ((x &&& (-x)) - 1) = lo6 x := by rw [bx_low h]; exact cn_below (lo6_spec h).1
