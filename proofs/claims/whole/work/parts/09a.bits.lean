/-! ===== bits of numbers that are not negative ===== -/
theorem bv_nat {a : Nat} (h : a < 2147483648) : (Int32.ofInt (a : Int)).toBitVec.toNat = a := by
  rw [Int32.toBitVec_ofInt, BitVec.toNat_ofInt]
  omega
theorem bv_int {x : Int32} (h : x.toBitVec.toNat < 2147483648) : x.toInt = (x.toBitVec.toNat : Int) := by
  show x.toBitVec.toInt = _
  exact BitVec.toInt_eq_toNat_of_lt (by omega)
theorem i_or_nat {a b : Nat} (ha : a < 2147483648) (hb : b < 2147483648) : i_or (a : Int) (b : Int) = ((a ||| b : Nat) : Int) := by
  have h : (Int32.ofInt (a : Int) ||| Int32.ofInt (b : Int)).toBitVec.toNat = a ||| b := by
    rw [Int32.toBitVec_or, BitVec.toNat_or, bv_nat ha, bv_nat hb]
  have hl : a ||| b < 2147483648 := Nat.or_lt_two_pow (n := 31) ha hb
  rw [i_or_def, bv_int (by rw [h]; exact hl), h]
theorem i_and_nat {a b : Nat} (ha : a < 2147483648) (hb : b < 2147483648) : i_and (a : Int) (b : Int) = ((a &&& b : Nat) : Int) := by
  have h : (Int32.ofInt (a : Int) &&& Int32.ofInt (b : Int)).toBitVec.toNat = a &&& b := by
    rw [Int32.toBitVec_and, BitVec.toNat_and, bv_nat ha, bv_nat hb]
  have hl : a &&& b < 2147483648 := Nat.and_lt_two_pow (n := 31) a hb
  rw [i_and_def, bv_int (by rw [h]; exact hl), h]
theorem shl1_all : ∀ k, k < 31 → (Int32.ofInt 1 <<< (Int32.ofInt ((k : Nat) : Int) &&& 31)).toInt = ((2 ^ k : Nat) : Int) := by decide +kernel
theorem i_shl1 {k : Nat} (h : k < 31) : i_shl 1 (k : Int) = ((2 ^ k : Nat) : Int) := by rw [i_shl_def]; exact shl1_all k h
theorem shr_all : ∀ k, k < 31 → ((Int32.ofInt ((k : Nat) : Int) &&& 31).toBitVec.smod 32).toNat = k := by decide +kernel
theorem i_shr_nat {a k : Nat} (ha : a < 2147483648) (hk : k < 31) : i_shr (a : Int) (k : Int) = ((a / 2 ^ k : Nat) : Int) := by
  rw [i_shr_def]
  show ((Int32.ofInt (a : Int)).toBitVec.sshiftRight ((Int32.ofInt (k : Int) &&& 31).toBitVec.smod 32).toNat).toInt = _
  rw [shr_all k hk, BitVec.toInt_sshiftRight]
  have e : (Int32.ofInt (a : Int)).toBitVec.toInt = (a : Int) := by
    have := bv_int (x := Int32.ofInt (a : Int)) (by rw [bv_nat ha]; exact ha)
    rw [bv_nat ha] at this
    exact this
  rw [e, Int.shiftRight_eq_div_pow]
  norm_cast
def tb (x : Int) (c : Nat) : Bool := x.toNat.testBit c
/-- a number of bits that is not negative -/
def bt (x : Int) : Prop := 0 ≤ x ∧ x < 2147483648
theorem tb_i {x : Int} {k : Nat} (hx : bt x) (hk : k < 31) : (i_and (i_shr x (k : Int)) 1 = 1) ↔ tb x k = true := by
  obtain ⟨a, rfl⟩ : ∃ a : Nat, x = (a : Int) := ⟨x.toNat, by have := hx.1; omega⟩
  have ha : a < 2147483648 := by have := hx.2; omega
  have hd : a / 2 ^ k ≤ a := Nat.div_le_self _ _
  rw [i_shr_nat ha hk, show (1 : Int) = ((1 : Nat) : Int) from rfl, i_and_nat (by omega) (by omega), Nat.and_one_is_mod]
  unfold tb
  rw [Int.toNat_natCast, Nat.testBit_eq_decide_div_mod_eq, decide_eq_true_eq]
  omega
theorem tb_or {x y : Int} (hx : bt x) (hy : bt y) (c : Nat) : tb (i_or x y) c = (tb x c || tb y c) := by
  obtain ⟨a, rfl⟩ : ∃ a : Nat, x = (a : Int) := ⟨x.toNat, by have := hx.1; omega⟩
  obtain ⟨b, rfl⟩ : ∃ b : Nat, y = (b : Int) := ⟨y.toNat, by have := hy.1; omega⟩
  rw [i_or_nat (by have := hx.2; omega) (by have := hy.2; omega)]
  unfold tb
  rw [Int.toNat_natCast, Int.toNat_natCast, Int.toNat_natCast, Nat.testBit_or]
theorem or_in {x y : Int} {n : Nat} (hn : n ≤ 31) (hx : 0 ≤ x ∧ x < 2 ^ n) (hy : 0 ≤ y ∧ y < 2 ^ n) : 0 ≤ i_or x y ∧ i_or x y < 2 ^ n := by
  obtain ⟨a, rfl⟩ : ∃ a : Nat, x = (a : Int) := ⟨x.toNat, by have := hx.1; omega⟩
  obtain ⟨b, rfl⟩ : ∃ b : Nat, y = (b : Int) := ⟨y.toNat, by have := hy.1; omega⟩
  have ha : a < 2 ^ n := by have := hx.2; norm_cast at this
  have hb : b < 2 ^ n := by have := hy.2; norm_cast at this
  have hp : 2 ^ n ≤ 2 ^ 31 := Nat.pow_le_pow_right (by decide) hn
  rw [i_or_nat (by omega) (by omega)]
  have := Nat.or_lt_two_pow ha hb
  exact ⟨by omega, by norm_cast⟩
theorem bt_or {x y : Int} (hx : bt x) (hy : bt y) : bt (i_or x y) := or_in (n := 31) (by decide) hx hy
theorem bt_shl {k : Nat} (hk : k < 31) : bt (i_shl 1 (k : Int)) := by
  rw [i_shl1 hk]
  have h : 2 ^ k < 2 ^ 31 := Nat.pow_lt_pow_right (by decide) hk
  have h : 2 ^ k < 2147483648 := h
  generalize 2 ^ k = y at h
  exact ⟨by omega, by omega⟩
theorem shl_in {k n : Nat} (hk : k < n) (hn : n ≤ 31) : 0 ≤ i_shl 1 (k : Int) ∧ i_shl 1 (k : Int) < 2 ^ n := by
  rw [i_shl1 (by omega)]
  have : 2 ^ k < 2 ^ n := Nat.pow_lt_pow_right (by decide) hk
  exact ⟨Int.natCast_nonneg _, by norm_cast⟩
theorem tb_shl {k : Nat} (hk : k < 31) (c : Nat) : tb (i_shl 1 (k : Int)) c = decide (k = c) := by
  rw [i_shl1 hk]
  unfold tb
  rw [Int.toNat_natCast, Nat.testBit_two_pow]
theorem tb_ext {x y : Int} (hx : 0 ≤ x) (hy : 0 ≤ y) (h : ∀ c, tb x c = tb y c) : x = y := by
  have := Nat.eq_of_testBit_eq (x := x.toNat) (y := y.toNat) h
  omega
theorem tb_0 (c : Nat) : tb 0 c = false := by unfold tb; simp
theorem tb_big {x : Int} {n c : Nat} (hx : 0 ≤ x ∧ x < 2 ^ n) (hc : n ≤ c) : tb x c = false := by
  obtain ⟨a, rfl⟩ : ∃ a : Nat, x = (a : Int) := ⟨x.toNat, by have := hx.1; omega⟩
  have ha : a < 2 ^ n := by have := hx.2; norm_cast at this
  unfold tb
  rw [Int.toNat_natCast]
  exact Nat.testBit_lt_two_pow (Nat.lt_of_lt_of_le ha (Nat.pow_le_pow_right (by decide) hc))
theorem bt_s {x : Int} (h : 0 ≤ x ∧ x < 256) : bt x := ⟨h.1, by omega⟩
