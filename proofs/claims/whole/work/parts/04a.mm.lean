/-! the world of this claim: object ids, their kinds, where each cell lies; a reference is (id, component), component 0 the object, j + 1 the array of its slot j -/
def m_E : List (Nat × Nat) := [(1, 0), (1, 1), (32, 0), (32, 1), (32, 2), (32, 3), (32, 5), (32, 6), (32, 12), (32, 14), (32, 15), (33, 0), (33, 1), (33, 2), (33, 3), (33, 5), (33, 6), (33, 12), (33, 14), (33, 15), (2, 0), (3, 0), (3, 1), (3, 2), (4, 0), (5, 0), (5, 1), (5, 2), (10, 0), (10, 3), (10, 4), (10, 5), (10, 6), (10, 7), (10, 8), (10, 9), (11, 0), (11, 3), (11, 4), (11, 5), (11, 6), (11, 7), (11, 8), (11, 9), (6, 0), (6, 1), (12, 0), (12, 3), (12, 4), (12, 5), (12, 6), (12, 7), (12, 8), (12, 9), (13, 0), (13, 3), (13, 4), (13, 5), (13, 6), (13, 7), (13, 8), (13, 9), (14, 0), (14, 3), (14, 4), (14, 5), (14, 6), (14, 7), (14, 8), (14, 9), (15, 0), (15, 3), (15, 4), (15, 5), (15, 6), (15, 7), (15, 8), (15, 9), (16, 0), (16, 3), (16, 4), (16, 5), (16, 6), (16, 7), (16, 8), (16, 9), (17, 0), (17, 3), (17, 4), (17, 5), (17, 6), (17, 7), (17, 8), (17, 9), (18, 0), (18, 3), (18, 4), (18, 5), (18, 6), (18, 7), (18, 8), (18, 9), (19, 0), (19, 3), (19, 4), (19, 5), (19, 6), (19, 7), (19, 8), (19, 9), (20, 0), (20, 3), (20, 4), (20, 5), (20, 6), (20, 7), (20, 8), (20, 9), (21, 0), (21, 3), (21, 4), (21, 5), (21, 6), (21, 7), (21, 8), (21, 9), (22, 0), (22, 3), (22, 4), (22, 5), (22, 6), (22, 7), (22, 8), (22, 9), (23, 0), (23, 3), (23, 4), (23, 5), (23, 6), (23, 7), (23, 8), (23, 9), (24, 0), (24, 3), (24, 4), (24, 5), (24, 6), (24, 7), (24, 8), (24, 9), (25, 0), (25, 3), (25, 4), (25, 5), (25, 6), (25, 7), (25, 8), (25, 9), (26, 0), (26, 3), (26, 4), (26, 5), (26, 6), (26, 7), (26, 8), (26, 9), (27, 0), (27, 3), (27, 4), (27, 5), (27, 6), (27, 7), (27, 8), (27, 9), (28, 0), (28, 3), (28, 4), (28, 5), (28, 6), (28, 7), (28, 8), (28, 9), (29, 0), (29, 3), (29, 4), (29, 5), (29, 6), (29, 7), (29, 8), (29, 9), (30, 0), (30, 3), (30, 4), (30, 5), (30, 6), (30, 7), (30, 8), (30, 9), (31, 0), (31, 3), (31, 4), (31, 5), (31, 6), (31, 7), (31, 8), (31, 9), (7, 0), (7, 3), (7, 10), (7, 11), (7, 12), (7, 13), (8, 0), (8, 5), (8, 6), (9, 0), (9, 1), (1, 13), (34, 0), (34, 1), (34, 15), (34, 16), (34, 17), (34, 18), (34, 19), (34, 20), (34, 21), (34, 22), (34, 23), (34, 24), (34, 25), (34, 26), (34, 27), (34, 28), (34, 32), (34, 33), (34, 34), (34, 35), (34, 36), (34, 39), (34, 42), (34, 43), (34, 44), (34, 45), (34, 46), (34, 47), (34, 48), (34, 49), (34, 50), (34, 51), (34, 52), (34, 56), (34, 57), (34, 59), (34, 60), (34, 62), (34, 63), (34, 64), (34, 65), (34, 66)]
def m_clsL : List Nat := [99, 10, 6, 7, 4, 5, 2, 1, 8, 3, 0, 0, 0, 0, 0, 0, 0, 0, 0, 0, 0, 0, 0, 0, 0, 0, 0, 0, 0, 0, 0, 0, 9, 9, 11]
def m_cls (o : Nat) : Nat := m_clsL.getD o 99
def m_skL : List (List Nat) := [[0, 0, 3, 3, 3, 3, 3, 3, 3, 0], [0, 0, 3, 0, 3, 0, 0, 0, 0, 3, 3, 3, 3], [3, 0, 0], [3, 0], [3, 3], [3, 3], [3, 3, 0, 0], [3, 3, 0, 0, 0, 0, 0, 0, 0], [0, 0, 0, 0, 3, 3], [3, 3, 3, 0, 3, 3, 0, 0, 0, 0, 0, 3, 0, 3, 3], [3, 0, 3, 3, 3, 3, 3, 3, 3, 3, 3, 3, 3, 0, 0, 0], [3, 0, 0, 0, 0, 0, 0, 2, 0, 0, 0, 0, 0, 0, 3, 3, 3, 3, 3, 3, 3, 3, 3, 3, 3, 3, 3, 3, 0, 0, 0, 3, 3, 3, 3, 3, 0, 0, 3, 0, 1, 3, 3, 3, 3, 3, 3, 3, 3, 3, 3, 3, 0, 0, 2, 3, 3, 0, 3, 3, 0, 3, 3, 3, 3, 3, 0]]
def m_sk (c j : Nat) : Nat := (m_skL.getD c []).getD j 9
def m_arL : List (List (Nat × Nat)) := [[(9, 0), (9, 0), (9, 0), (0, 8), (0, 8), (0, 8), (0, 8), (0, 8), (0, 3), (0, 32), (9, 0)], [(9, 0), (9, 0), (9, 0), (0, 6), (9, 0), (9, 0), (9, 0), (9, 0), (9, 0), (9, 0), (0, 6), (0, 48), (0, 8), (1, 384)], [(9, 0), (4, 20), (9, 0), (9, 0)], [(9, 0), (0, 56), (9, 0)], [(9, 0), (9, 0), (9, 0)], [(9, 0), (0, 26), (0, 64)], [(9, 0), (9, 0), (9, 0), (9, 0), (9, 0)], [(9, 0), (0, 26), (1, 0), (9, 0), (9, 0), (9, 0), (9, 0), (9, 0), (9, 0), (9, 0)], [(9, 0), (9, 0), (9, 0), (9, 0), (9, 0), (0, 48), (0, 100)], [(9, 0), (0, 8), (0, 8), (0, 8), (9, 0), (0, 3), (0, 3), (9, 0), (9, 0), (9, 0), (9, 0), (9, 0), (0, 1600), (9, 0), (0, 4), (0, 4)], [(9, 0), (1, 1600), (9, 0), (9, 0), (9, 0), (9, 0), (9, 0), (9, 0), (9, 0), (9, 0), (9, 0), (9, 0), (9, 0), (0, 6), (9, 0), (9, 0), (9, 0)], [(9, 0), (0, 1800), (9, 0), (9, 0), (9, 0), (9, 0), (9, 0), (9, 0), (9, 0), (9, 0), (9, 0), (9, 0), (9, 0), (9, 0), (9, 0), (0, 2), (0, 16), (0, 16), (0, 2), (0, 6), (0, 2), (0, 2), (0, 2), (0, 8), (0, 8), (0, 3200), (0, 3200), (3, 16), (3, 6), (9, 0), (9, 0), (9, 0), (0, 20), (0, 20), (2, 20), (0, 20), (0, 20), (9, 0), (9, 0), (0, 500), (9, 0), (9, 0), (0, 6), (0, 22), (0, 22), (0, 176), (0, 176), (0, 176), (0, 176), (0, 22), (0, 66), (0, 22), (0, 3520), (9, 0), (9, 0), (9, 0), (3, 500), (0, 14), (9, 0), (0, 7), (0, 6), (9, 0), (0, 16), (0, 16), (0, 16), (0, 100), (0, 60), (9, 0)]]
def m_arC (c k : Nat) : Nat × Nat := (m_arL.getD c []).getD k (9, 0)
def m_ar (o k : Nat) : Nat × Nat := m_arC (m_cls o) k
def m_fkL : List (List Nat) := [[0, 0, 1, 1, 1, 1, 1, 1, 1, 0], [0, 0, 1, 0, 400, 0, 0, 0, 0, 1, 1, 1, 1], [1, 0, 0], [1, 0], [0, 500], [1, 1], [300, 0, 0, 0], [1, 0, 0, 0, 0, 0, 0, 0, 0], [0, 0, 0, 0, 1, 1], [1, 1, 1, 0, 1, 1, 0, 0, 0, 0, 0, 1, 0, 1, 1], [1, 0, 0, 0, 200, 400, 1000, 1100, 600, 700, 800, 900, 1, 0, 0, 0], [1, 0, 0, 0, 0, 0, 0, 0, 0, 0, 0, 0, 0, 0, 1, 1, 1, 1, 1, 1, 1, 1, 1, 1, 1, 1, 1, 1, 0, 0, 0, 1, 1, 1, 1, 1, 0, 0, 1, 0, 0, 1, 1, 1, 1, 1, 1, 1, 1, 1, 1, 1, 0, 0, 0, 1, 1, 0, 1, 1, 0, 1, 1, 1, 1, 1, 0]]
def m_fk (c j : Nat) : Nat := (m_fkL.getD c []).getD j 0
/-! ===== numbers: the machine's ints as whole numbers in their range ===== -/
noncomputable def w32_c : { f : Int → Int // ∀ z, f z = (z + 2147483648) % 4294967296 - 2147483648 } := Classical.choice ⟨⟨fun z => (z + 2147483648) % 4294967296 - 2147483648, fun _ => rfl⟩⟩
noncomputable def w32 (z : Int) : Int := w32_c.1 z
theorem w32_def (z : Int) : w32 z = (z + 2147483648) % 4294967296 - 2147483648 := w32_c.2 z
noncomputable def w64_c : { f : Int → Int // ∀ z, f z = (z + 9223372036854775808) % 18446744073709551616 - 9223372036854775808 } := Classical.choice ⟨⟨fun z => (z + 9223372036854775808) % 18446744073709551616 - 9223372036854775808, fun _ => rfl⟩⟩
noncomputable def w64 (z : Int) : Int := w64_c.1 z
theorem w64_def (z : Int) : w64 z = (z + 9223372036854775808) % 18446744073709551616 - 9223372036854775808 := w64_c.2 z
def in32 (x : Int) : Prop := -2147483648 ≤ x ∧ x < 2147483648
def in64 (x : Int) : Prop := -9223372036854775808 ≤ x ∧ x < 9223372036854775808
theorem w32_toInt (z : Int) : (Int32.ofInt z).toInt = w32 z := by
  rw [Int32.toInt_ofInt, Int.bmod_def]
  rw [w32_def]
  simp only [Int32.size]
  split <;> omega
theorem w64_toInt (z : Int) : (Int64.ofInt z).toInt = w64 z := by
  rw [Int64.toInt_ofInt, Int.bmod_def]
  rw [w64_def]
  simp only [Int64.size]
  split <;> omega
theorem w32_of (z : Int) : Int32.ofInt (w32 z) = Int32.ofInt z := by rw [← w32_toInt, Int32.ofInt_toInt]
theorem w64_of (z : Int) : Int64.ofInt (w64 z) = Int64.ofInt z := by rw [← w64_toInt, Int64.ofInt_toInt]
theorem w32_in (z : Int) : in32 (w32 z) := by unfold in32; rw [w32_def]; omega
theorem w64_in (z : Int) : in64 (w64 z) := by unfold in64; rw [w64_def]; omega
theorem w32_id {z : Int} (h : in32 z) : w32 z = z := by unfold in32 at h; rw [w32_def]; omega
theorem w64_id {z : Int} (h : in64 z) : w64 z = z := by unfold in64 at h; rw [w64_def]; omega
theorem w32_le {z : Int} (h : -2147483648 ≤ z) (h2 : z ≤ 2147483647) : w32 z = z := by rw [w32_def]; omega
theorem w64_le {z : Int} (h : -9223372036854775808 ≤ z) (h2 : z ≤ 9223372036854775807) : w64 z = z := by rw [w64_def]; omega
theorem t32 {x : Int} (h : in32 x) : (Int32.ofInt x).toInt = x := by rw [w32_toInt, w32_id h]
theorem t64 {x : Int} (h : in64 x) : (Int64.ofInt x).toInt = x := by rw [w64_toInt, w64_id h]
theorem in32_t (x : Int32) : in32 x.toInt := ⟨by have := Int32.le_toInt x; omega, by have := Int32.toInt_lt x; omega⟩
theorem in64_t (x : Int64) : in64 x.toInt := ⟨by have := Int64.le_toInt x; omega, by have := Int64.toInt_lt x; omega⟩
theorem o32_lt {x y : Int} (hx : in32 x) (hy : in32 y) : Int32.ofInt x < Int32.ofInt y ↔ x < y := by rw [Int32.lt_iff_toInt_lt, t32 hx, t32 hy]
theorem o32_le {x y : Int} (hx : in32 x) (hy : in32 y) : Int32.ofInt x ≤ Int32.ofInt y ↔ x ≤ y := by rw [Int32.le_iff_toInt_le, t32 hx, t32 hy]
theorem o32_eq {x y : Int} (hx : in32 x) (hy : in32 y) : Int32.ofInt x = Int32.ofInt y ↔ x = y := by rw [← Int32.toInt_inj, t32 hx, t32 hy]
theorem o64_lt {x y : Int} (hx : in64 x) (hy : in64 y) : Int64.ofInt x < Int64.ofInt y ↔ x < y := by rw [Int64.lt_iff_toInt_lt, t64 hx, t64 hy]
theorem o64_eq {x y : Int} (hx : in64 x) (hy : in64 y) : Int64.ofInt x = Int64.ofInt y ↔ x = y := by rw [← Int64.toInt_inj, t64 hx, t64 hy]
theorem o32_0 : (0 : Int32) = Int32.ofInt 0 := rfl
theorem in32_0 : in32 0 := by unfold in32; omega
theorem o32_cl {x : Int} (h : in32 x) : (Int32.ofInt x).toNatClampNeg = x.toNat := by show (Int32.ofInt x).toInt.toNat = x.toNat; rw [t32 h]
noncomputable def i_and_c : { f : Int → Int → Int // ∀ x y, f x y = (Int32.ofInt x &&& Int32.ofInt y).toInt } := Classical.choice ⟨⟨fun x y => (Int32.ofInt x &&& Int32.ofInt y).toInt, fun _ _ => rfl⟩⟩
noncomputable def i_and (x y : Int) : Int := i_and_c.1 x y
theorem i_and_def (x y : Int) : i_and x y = (Int32.ofInt x &&& Int32.ofInt y).toInt := i_and_c.2 x y
noncomputable def i_or_c : { f : Int → Int → Int // ∀ x y, f x y = (Int32.ofInt x ||| Int32.ofInt y).toInt } := Classical.choice ⟨⟨fun x y => (Int32.ofInt x ||| Int32.ofInt y).toInt, fun _ _ => rfl⟩⟩
noncomputable def i_or (x y : Int) : Int := i_or_c.1 x y
theorem i_or_def (x y : Int) : i_or x y = (Int32.ofInt x ||| Int32.ofInt y).toInt := i_or_c.2 x y
noncomputable def i_xor_c : { f : Int → Int → Int // ∀ x y, f x y = (Int32.ofInt x ^^^ Int32.ofInt y).toInt } := Classical.choice ⟨⟨fun x y => (Int32.ofInt x ^^^ Int32.ofInt y).toInt, fun _ _ => rfl⟩⟩
noncomputable def i_xor (x y : Int) : Int := i_xor_c.1 x y
theorem i_xor_def (x y : Int) : i_xor x y = (Int32.ofInt x ^^^ Int32.ofInt y).toInt := i_xor_c.2 x y
noncomputable def i_shl_c : { f : Int → Int → Int // ∀ x y, f x y = (Int32.ofInt x <<< (Int32.ofInt y &&& 31)).toInt } := Classical.choice ⟨⟨fun x y => (Int32.ofInt x <<< (Int32.ofInt y &&& 31)).toInt, fun _ _ => rfl⟩⟩
noncomputable def i_shl (x y : Int) : Int := i_shl_c.1 x y
theorem i_shl_def (x y : Int) : i_shl x y = (Int32.ofInt x <<< (Int32.ofInt y &&& 31)).toInt := i_shl_c.2 x y
noncomputable def i_shr_c : { f : Int → Int → Int // ∀ x y, f x y = (Int32.ofInt x >>> (Int32.ofInt y &&& 31)).toInt } := Classical.choice ⟨⟨fun x y => (Int32.ofInt x >>> (Int32.ofInt y &&& 31)).toInt, fun _ _ => rfl⟩⟩
noncomputable def i_shr (x y : Int) : Int := i_shr_c.1 x y
theorem i_shr_def (x y : Int) : i_shr x y = (Int32.ofInt x >>> (Int32.ofInt y &&& 31)).toInt := i_shr_c.2 x y
noncomputable def i_b_c : { f : Int → Int // ∀ x, f x = (Int32.ofInt x).toInt8.toInt32.toInt } := Classical.choice ⟨⟨fun x => (Int32.ofInt x).toInt8.toInt32.toInt, fun _ => rfl⟩⟩
noncomputable def i_b (x : Int) : Int := i_b_c.1 x
theorem i_b_def (x : Int) : i_b x = (Int32.ofInt x).toInt8.toInt32.toInt := i_b_c.2 x
noncomputable def l_and_c : { f : Int → Int → Int // ∀ x y, f x y = (Int64.ofInt x &&& Int64.ofInt y).toInt } := Classical.choice ⟨⟨fun x y => (Int64.ofInt x &&& Int64.ofInt y).toInt, fun _ _ => rfl⟩⟩
noncomputable def l_and (x y : Int) : Int := l_and_c.1 x y
theorem l_and_def (x y : Int) : l_and x y = (Int64.ofInt x &&& Int64.ofInt y).toInt := l_and_c.2 x y
noncomputable def l_or_c : { f : Int → Int → Int // ∀ x y, f x y = (Int64.ofInt x ||| Int64.ofInt y).toInt } := Classical.choice ⟨⟨fun x y => (Int64.ofInt x ||| Int64.ofInt y).toInt, fun _ _ => rfl⟩⟩
noncomputable def l_or (x y : Int) : Int := l_or_c.1 x y
theorem l_or_def (x y : Int) : l_or x y = (Int64.ofInt x ||| Int64.ofInt y).toInt := l_or_c.2 x y
noncomputable def l_shl_c : { f : Int → Int → Int // ∀ x y, f x y = (Int64.ofInt x <<< ((Int32.ofInt y).toInt64 &&& 63)).toInt } := Classical.choice ⟨⟨fun x y => (Int64.ofInt x <<< ((Int32.ofInt y).toInt64 &&& 63)).toInt, fun _ _ => rfl⟩⟩
noncomputable def l_shl (x y : Int) : Int := l_shl_c.1 x y
theorem l_shl_def (x y : Int) : l_shl x y = (Int64.ofInt x <<< ((Int32.ofInt y).toInt64 &&& 63)).toInt := l_shl_c.2 x y
noncomputable def l_shr_c : { f : Int → Int → Int // ∀ x y, f x y = (Int64.ofInt x >>> ((Int32.ofInt y).toInt64 &&& 63)).toInt } := Classical.choice ⟨⟨fun x y => (Int64.ofInt x >>> ((Int32.ofInt y).toInt64 &&& 63)).toInt, fun _ _ => rfl⟩⟩
noncomputable def l_shr (x y : Int) : Int := l_shr_c.1 x y
theorem l_shr_def (x y : Int) : l_shr x y = (Int64.ofInt x >>> ((Int32.ofInt y).toInt64 &&& 63)).toInt := l_shr_c.2 x y
def l_cmp (x y : Int) : Int := if y < x then 1 else if x = y then 0 else -1
/-! ===== values, memory, the world ===== -/
abbrev m_V : Type := Int ⊕ (Int ⊕ (Option (Nat × Nat)))
abbrev m_M : Type := Nat → Nat → Nat → Int
abbrev m_Y : Type := MethodName × ByteArray × Nat × Option FieldType
/-- classes and slots; the first own address; array classes; the script (cell, length, ints); the cell of the letters' worth -/
abbrev m_G : Type := va_G × Nat × (Nat → ClassId) × (Nat × Nat × (Nat → Int32)) × Nat × (State → Prop) × Launch
abbrev vI (x : Int) : m_V := .inl x
abbrev vJ (x : Int) : m_V := .inr (.inl x)
abbrev vR (o k : Nat) : m_V := .inr (.inr (some (o, k)))
abbrev vN : m_V := .inr (.inr none)
def m_ad (G : m_G) (q : Nat × Nat) : Nat := if q.1 = 0 then (if q.2 = 1 then G.2.2.2.2.1 else G.2.2.2.1.1) else G.2.1 + m_E.idxOf q
def m_rv (G : m_G) : m_V → Value
  | .inl x => .int (Int32.ofInt x)
  | .inr (.inl x) => .long (Int64.ofInt x)
  | .inr (.inr (some q)) => .ref (m_ad G q)
  | .inr (.inr none) => .null
def m_ok : m_V → Prop
  | .inl x => in32 x
  | .inr (.inl x) => in64 x
  | _ => True
/-- what a number in memory is: kinds 0 int, 1 byte or boolean field, 2 long (fields); arrays 0 int, 1 byte, 2 boolean, 3 long, 4 references -/
def m_rf (G : m_G) (x : Int) : Value := if x = 0 then .null else .ref (m_ad G (x.toNat / 100, x.toNat % 100))
def m_fv (G : m_G) (k : Nat) (x : Int) : Value := if k = 3 then m_rf G x else if k = 2 then .long (Int64.ofInt x) else .int (Int32.ofInt x)
def m_ev (G : m_G) (k : Nat) (x : Int) : Value := if k = 4 then m_rf G x else if k = 3 then .long (Int64.ofInt x) else .int (Int32.ofInt x)
def m_fr (k : Nat) (x : Int) : Prop := if k = 3 then True else if k = 2 then in64 x else in32 x
def m_er (k : Nat) (x : Int) : Prop := if k = 4 then True else if k = 3 then in64 x else if k = 0 then in32 x else -128 ≤ x ∧ x ≤ 127
def m_up (μ : m_M) (o k i : Nat) (v : Int) : m_M := fun a b c => if a = o ∧ b = k ∧ c = i then v else μ a b c
def m_len (c : Nat) : Nat := ((vwCl[c]?).map (fun q => q.2.2)).getD 0
def m_at (G : m_G) (μ : m_M) (q : Nat × Nat) (a : Nat) (H : Heap) : Prop :=
  if q.2 = 0 then t_OB a (G.1.1 (m_cls q.1)) (m_len (m_cls q.1)) (G.1.2 (m_cls q.1)) H (fun j => m_fv G (m_sk (m_cls q.1) j) (μ q.1 0 j)) ∧ ∀ j, m_fr (m_sk (m_cls q.1) j) (μ q.1 0 j)
  else H[a]? = some (arrV (G.2.2.1 (m_ar q.1 q.2).1) (m_ar q.1 q.2).2 (fun i => m_ev G (m_ar q.1 q.2).1 (μ q.1 q.2 i))) ∧ ∀ i, m_er (m_ar q.1 q.2).1 (μ q.1 q.2 i)
def m_Pic (G : m_G) (n : Nat) (μ : m_M) (H : Heap) : Prop := H.size = G.2.1 + n ∧ n ≤ m_E.length ∧ ∀ i q, i < n → m_E[i]? = some q → m_at G μ q (G.2.1 + i) H
/-- the final fields, once all is made -/
def m_lk (μ : m_M) : Prop := (∀ o j, m_fk (m_cls o) j = 1 → μ o 0 j = 100 * (o : Int) + ((j : Int) + 1)) ∧ (∀ o j, 100 ≤ m_fk (m_cls o) j → μ o 0 j = (m_fk (m_cls o) j : Int)) ∧ ∀ i, i < 20 → μ 6 1 i = 1200 + 100 * (i : Int)
def m_fu (b : Bool) (n : Nat) (μ : m_M) : Prop := b = true → n = m_E.length ∧ m_lk μ
def m_A (G : m_G) : Nat → Prop := fun q => G.2.1 ≤ q
def m_tys (G : m_G) : List (ClassId × FieldType) := [(G.2.2.1 0, .int), (G.2.2.1 1, .byte), (G.2.2.1 2, .boolean), (G.2.2.1 3, .long), (G.2.2.1 4, .object "KilnBench$Bench")]
def m_lwL : List Int32 := [14348907, 531441, 19683, 729, 27, 1]
def m_w : List Cond := lw_tbl.filter goodWord
def m_nest : List Cond := [.methodLinkNest "KilnBench" 19 ⟨"KilnBench$Town", "<init>", "()V"⟩ "KilnBench", .fieldLinkNest "KilnBench$Machine" 28 "KilnBench$Town" "code" "[I" "KilnBench", .fieldLinkNest "KilnBench$Reader" 54 "KilnBench" "LETTER_WORTH" "[I" "KilnBench", .methodLinkNest "KilnBench$Laws" 11 ⟨"KilnBench$Machine", "<init>", "()V"⟩ "KilnBench", .methodLinkNest "KilnBench" 45 ⟨"KilnBench$Bench", "<init>", "()V"⟩ "KilnBench", .methodLinkNest "KilnBench$History" 24 ⟨"KilnBench$Bench", "<init>", "()V"⟩ "KilnBench", .methodLinkNest "KilnBench" 71 ⟨"KilnBench$Sight", "<init>", "()V"⟩ "KilnBench", .methodLinkNest "KilnBench" 78 ⟨"KilnBench$Image", "<init>", "()V"⟩ "KilnBench", .fieldLinkNest "KilnBench$Machine" 22 "KilnBench$Town" "codeFrom" "[I" "KilnBench", .fieldLinkNest "KilnBench$Machine" 25 "KilnBench$Town" "codeTo" "[I" "KilnBench", .methodLinkNest "KilnBench$Parser" 88 ⟨"KilnBench$Town", "isFormula", "(I)Z"⟩ "KilnBench"]
/-- what every state of a run knows: classes, nest words, the static row, the script, and a further thing (the text of own words) -/
def m_K (G : m_G) (U : State) : Prop := va_K G.1 vwCl (m_tys G) U ∧ (∀ w ∈ m_nest, va_Nw w U) ∧ va_AO "KilnBench$Bench" U ∧ va_Z "KilnBench" "LETTER_WORTH" "[I" (.ref G.2.2.2.2.1) (m_A G) U U.heap ∧ va_T .int G.2.2.2.2.1 6 (fun i => .int (m_lwL.getD i 0)) (m_A G) U U.heap ∧ va_X G.2.2.2.1.1 G.2.2.2.1.2.1 G.2.2.2.1.2.2 U U.heap ∧ G.2.2.2.1.1 < G.2.1 ∧ G.2.1 ≤ U.heap.size ∧ G.2.2.2.2.2.1 U
/-- the further thing is kept by what a run does -/
def m_Zk (G : m_G) : Prop := ∀ s U : State, G.2.2.2.2.2.1 s → s.WarmedH U.vm → (∀ q : Nat, q < s.heap.size → ¬ m_A G q → U.heap[q]? = s.heap[q]?) → G.2.2.2.2.2.1 U
theorem m_K.move {G : m_G} (hZ : m_Zk G) {s U : State} {H : Heap} {locs : List Loc} (h : m_K G s) (hS : va_S (m_A G) s.heap H locs) (hU : U.heap = H) (hW : s.WarmedH U.vm) : m_K G U := by
  obtain ⟨h1, h2, h3, h4, h5, h6, h7, h8, h9⟩ := h
  have hk : ∀ q : Nat, q < s.heap.size → ¬ m_A G q → U.heap[q]? = s.heap[q]? := fun q a b => by rw [hU]; exact hS.2.1 q a b
  refine ⟨va_K.moved hW.alike h1, ?_, ?_, (h4.kept hk).moved hW.alike, (h5.kept hk).moved hW.alike, (h6.kept (hk _ (Nat.lt_of_lt_of_le h7 h8) (Nat.not_le.mpr h7))).moved hW.alike, h7, ?_, hZ s U h9 hW hk⟩
  · intro w hw
    have h := h2 w hw
    simp only [m_nest, List.mem_cons, List.not_mem_nil, or_false] at hw
    rcases hw with rfl | rfl | rfl | rfl | rfl | rfl | rfl | rfl | rfl | rfl | rfl
    · exact h.warmM hW
    · exact h.warmF hW
    · exact h.warmF hW
    · exact h.warmM hW
    · exact h.warmM hW
    · exact h.warmM hW
    · exact h.warmM hW
    · exact h.warmM hW
    · exact h.warmF hW
    · exact h.warmF hW
    · exact h.warmM hW
  · exact va_AO.moved hW.alike h3
  · rw [hU]; exact Nat.le_trans h8 hS.1
abbrev m_X : Type := Program × Launch × Env × Room × State × MethodId × Array Value × List Frame × Method × Code × (State → Prop)
def m_Cx (G : m_G) (X : m_X) (Y : m_Y) (d mc ms : Nat) : Prop := match X with
  | (p, l, _, R, s, m, args, _, meth, c, _) => p.tables.exec = Jvm.exec ∧ c.code = Y.2.1 ∧ c.maxLocals = Y.2.2.1 ∧ meth.sig.returnType = Y.2.2.2 ∧ meth.locks = false ∧ meth.name = Y.1.name ∧ s.vm.findClass Y.1.cls = some m.cls ∧ (∀ w ∈ m_w, w.before args s = true) ∧ m_K G s ∧ m_Zk G ∧ d ≤ R.frames ∧ 60 * d ≤ R.locals ∧ mc ≤ R.cells ∧ ms ≤ R.slots ∧ l = G.2.2.2.2.2.2
def m_lv (G : m_G) (ls : Array Slot) (nL : Nat) (lv : List (Option m_V)) : Prop := lv_has ls nL [] ∧ ∀ (i : Nat) (v : m_V), lv[i]? = some (some v) → ls[i]? = some (Slot.val (m_rv G v)) ∧ m_ok v
/-- the machine at pc, locals lv, stack st, memory μ; S: cells made, whether all is made, cells and slots of this call -/
def m_W (G : m_G) (X : m_X) (Y : m_Y) (S : Nat × Bool × Nat × Nat) (μ : m_M) (pc : Nat) (lv : List (Option m_V)) (st : List m_V) : Prop := match X with
  | (p, l, e, R, s, m, args, below, meth, c, Qf) => ∀ (H : Heap) (locs : List Loc) (ls : Array Slot), m_Pic G S.1 μ H → m_fu S.2.1 S.1 μ → va_S (m_A G) s.heap H locs → (∀ v ∈ st, m_ok v) → m_lv G ls Y.2.2.1 lv → W p l e R s m args below meth c H locs S.2.2.1 S.2.2.2 Qf (F0 m pc ls (st.map (m_rv G)))
theorem ok_tl {a : m_V} {st : List m_V} (h : ∀ v ∈ a :: st, m_ok v) : ∀ v ∈ st, m_ok v := fun v hv => h v (List.mem_cons_of_mem _ hv)
theorem ok_hd {a : m_V} {st : List m_V} (h : ∀ v ∈ a :: st, m_ok v) : m_ok a := h a List.mem_cons_self
theorem ok_csI {x : Int} {st : List m_V} (ha : in32 x) (h : ∀ v ∈ st, m_ok v) : ∀ v ∈ vI x :: st, m_ok v := fun v hv => (List.mem_cons.mp hv).elim (fun e => e ▸ ha) (h v)
theorem ok_csJ {x : Int} {st : List m_V} (ha : in64 x) (h : ∀ v ∈ st, m_ok v) : ∀ v ∈ vJ x :: st, m_ok v := fun v hv => (List.mem_cons.mp hv).elim (fun e => e ▸ ha) (h v)
theorem ok_hdI {x : Int} {st : List m_V} (h : ∀ v ∈ vI x :: st, m_ok v) : in32 x := h (vI x) List.mem_cons_self
theorem ok_hdJ {x : Int} {st : List m_V} (h : ∀ v ∈ vJ x :: st, m_ok v) : in64 x := h (vJ x) List.mem_cons_self
theorem ok_cs {a : m_V} {st : List m_V} (ha : m_ok a) (h : ∀ v ∈ st, m_ok v) : ∀ v ∈ a :: st, m_ok v := fun v hv => (List.mem_cons.mp hv).elim (fun e => e ▸ ha) (h v)
section MST
variable {G : m_G} {X : m_X} {Y : m_Y} {d mc ms : Nat} {S : Nat × Bool × Nat × Nat} {μ : m_M} {pc : Nat} {lv : List (Option m_V)} {st : List m_V}
/-- a step of the stack alone -/
theorem m_st {pc' : Nat} {st' : List m_V} (C : m_Cx G X Y d mc ms) (hok : (∀ v ∈ st, m_ok v) → ∀ v ∈ st', m_ok v)
    (hstep : ∀ (p : Program) (l : Launch) (e : Env) (R : Room) (s : State) (m : MethodId) (args : Array Value) (below : List Frame) (meth : Method) (c : Code) (Qf : State → Prop) (H : Heap) (locs : List Loc) (ls : Array Slot), p.tables.exec = Jvm.exec → c.code = Y.2.1 → s.vm.findClass Y.1.cls = some m.cls → (∀ w ∈ m_w, w.before args s = true) → (∀ v ∈ st, m_ok v) → m_lv G ls Y.2.2.1 lv → W p l e R s m args below meth c H locs S.2.2.1 S.2.2.2 Qf (F0 m pc' ls (st'.map (m_rv G))) → W p l e R s m args below meth c H locs S.2.2.1 S.2.2.2 Qf (F0 m pc ls (st.map (m_rv G))))
    (k : m_W G X Y S μ pc' lv st') : m_W G X Y S μ pc lv st := by
  obtain ⟨p, l, e, R, s, m, args, below, meth, c, Qf⟩ := X
  obtain ⟨hx, hb, -, -, -, -, hown, hts, -⟩ := C
  intro H locs ls hP hf hS ho hl
  exact hstep p l e R s m args below meth c Qf H locs ls hx hb hown hts ho hl (k H locs ls hP hf hS (hok ho) hl)
theorem m_iconst (C : m_Cx G X Y d mc ms) {n : Int} (hd : decode Y.2.1 pc = .ok (.iconst n, 1)) (hn : in32 n) (k : m_W G X Y S μ (pc + 1) lv (vI n :: st)) : m_W G X Y S μ pc lv st :=
  m_st C (ok_csI hn) (fun _ _ _ _ _ _ _ _ _ _ _ _ _ _ hx hb _ _ _ _ h => lv_iconst hx hb hd rfl h) k
theorem m_bipush (C : m_Cx G X Y d mc ms) {n : Int} (hd : decode Y.2.1 pc = .ok (.bipush n, 2)) (hn : -128 ≤ n ∧ n ≤ 127) (k : m_W G X Y S μ (pc + 2) lv (vI n :: st)) : m_W G X Y S μ pc lv st :=
  m_st C (ok_csI (show in32 n by unfold in32; omega)) (fun _ _ _ _ _ _ _ _ _ _ _ _ _ _ hx hb _ _ _ _ h => lv_bipush hx hb hd (by rw [← Int32.toInt_inj, Int8.toInt_toInt32, Int8.toInt_ofInt_of_le (by omega) (by omega), t32 (by unfold in32; omega)]) h) k
theorem m_sipush (C : m_Cx G X Y d mc ms) {n : Int} (hd : decode Y.2.1 pc = .ok (.sipush n, 3)) (hn : -32768 ≤ n ∧ n ≤ 32767) (k : m_W G X Y S μ (pc + 3) lv (vI n :: st)) : m_W G X Y S μ pc lv st :=
  m_st C (ok_csI (show in32 n by unfold in32; omega)) (fun _ _ _ _ _ _ _ _ _ _ _ _ _ _ hx hb _ _ _ _ h => lv_sipush hx hb hd (by rw [← Int32.toInt_inj, Int16.toInt_toInt32, Int16.toInt_ofInt_of_le (by omega) (by omega), t32 (by unfold in32; omega)]) h) k
theorem m_lconst (C : m_Cx G X Y d mc ms) {n : Fin 2} {x : Int} (hd : decode Y.2.1 pc = .ok (.lconst n, 1)) (hn : ((n : Nat) : Int) = x) (k : m_W G X Y S μ (pc + 1) lv (vJ x :: st)) : m_W G X Y S μ pc lv st :=
  m_st C (ok_csJ (show in64 x by have := n.isLt; unfold in64; omega)) (fun _ _ _ _ _ _ _ _ _ _ _ _ _ _ hx hb _ _ _ _ h => lv_lconst hx hb hd (by rw [← hn, Int64.ofInt_eq_ofNat]) h) k
theorem m_ldc (C : m_Cx G X Y d mc ms) {i : Nat} {v : Int32} {x : Int} (hd : decode Y.2.1 pc = .ok (.ldc i, 2)) (hw : Cond.constant Y.1.cls i v ∈ m_w) (hv : v.toInt = x) (k : m_W G X Y S μ (pc + 2) lv (vI x :: st)) : m_W G X Y S μ pc lv st :=
  m_st C (ok_csI (show in32 x by rw [← hv]; exact in32_t v)) (fun _ _ _ _ _ _ _ _ _ _ _ _ _ _ hx hb ho ht _ _ h => lv_ldc hx hb ho (ht _ hw) hd (by rw [show v = Int32.ofInt x by rw [← hv, Int32.ofInt_toInt]]; exact h)) k
theorem m_ldcw (C : m_Cx G X Y d mc ms) {i : Nat} {v : Int32} {x : Int} (hd : decode Y.2.1 pc = .ok (.ldc_w i, 3)) (hw : Cond.constant Y.1.cls i v ∈ m_w) (hv : v.toInt = x) (k : m_W G X Y S μ (pc + 3) lv (vI x :: st)) : m_W G X Y S μ pc lv st :=
  m_st C (ok_csI (show in32 x by rw [← hv]; exact in32_t v)) (fun _ _ _ _ _ _ _ _ _ _ _ _ _ _ hx hb ho ht _ _ h => lv_ldcw hx hb ho (ht _ hw) hd (by rw [show v = Int32.ofInt x by rw [← hv, Int32.ofInt_toInt]]; exact h)) k
theorem m_ldc2 (C : m_Cx G X Y d mc ms) {i : Nat} {v : Int64} {x : Int} (hd : decode Y.2.1 pc = .ok (.ldc2_w i, 3)) (hw : Cond.constantLong Y.1.cls i v ∈ m_w) (hv : v.toInt = x) (k : m_W G X Y S μ (pc + 3) lv (vJ x :: st)) : m_W G X Y S μ pc lv st :=
  m_st C (ok_csJ (show in64 x by rw [← hv]; exact in64_t v)) (fun _ _ _ _ _ _ _ _ _ _ _ _ _ _ hx hb ho ht _ _ h => lv_ldc2 hx hb ho (ht _ hw) hd (by rw [show v = Int64.ofInt x by rw [← hv, Int64.ofInt_toInt]]; exact h)) k
theorem m_iload_n (C : m_Cx G X Y d mc ms) {q : Fin 4} {x : Int} (hd : decode Y.2.1 pc = .ok (.iload_n q, 1)) (hv : lv[(q : Nat)]? = some (some (vI x))) (k : m_W G X Y S μ (pc + 1) lv (vI x :: st)) : m_W G X Y S μ pc lv st := by
  obtain ⟨p, l, e, R, s, m, args, below, meth, c, Qf⟩ := X
  obtain ⟨hx, hb, -⟩ := C
  intro H locs ls hP hf hS ho hl
  exact lv_iload_n hx hb hd rfl (hl.2 _ _ hv).1 (k H locs ls hP hf hS (ok_cs (hl.2 _ _ hv).2 ho) hl)
theorem m_iload (C : m_Cx G X Y d mc ms) {i : Nat} {x : Int} (hd : decode Y.2.1 pc = .ok (.iload i, 2)) (hv : lv[i]? = some (some (vI x))) (k : m_W G X Y S μ (pc + 2) lv (vI x :: st)) : m_W G X Y S μ pc lv st := by
  obtain ⟨p, l, e, R, s, m, args, below, meth, c, Qf⟩ := X
  obtain ⟨hx, hb, -⟩ := C
  intro H locs ls hP hf hS ho hl
  exact lv_iload hx hb hd (hl.2 _ _ hv).1 (k H locs ls hP hf hS (ok_cs (hl.2 _ _ hv).2 ho) hl)
theorem m_lload_n (C : m_Cx G X Y d mc ms) {q : Fin 4} {x : Int} (hd : decode Y.2.1 pc = .ok (.lload_n q, 1)) (hv : lv[(q : Nat)]? = some (some (vJ x))) (k : m_W G X Y S μ (pc + 1) lv (vJ x :: st)) : m_W G X Y S μ pc lv st := by
  obtain ⟨p, l, e, R, s, m, args, below, meth, c, Qf⟩ := X
  obtain ⟨hx, hb, -⟩ := C
  intro H locs ls hP hf hS ho hl
  exact lv_lload_n hx hb hd rfl (hl.2 _ _ hv).1 (k H locs ls hP hf hS (ok_cs (hl.2 _ _ hv).2 ho) hl)
theorem m_lload (C : m_Cx G X Y d mc ms) {i : Nat} {x : Int} (hd : decode Y.2.1 pc = .ok (.lload i, 2)) (hv : lv[i]? = some (some (vJ x))) (k : m_W G X Y S μ (pc + 2) lv (vJ x :: st)) : m_W G X Y S μ pc lv st := by
  obtain ⟨p, l, e, R, s, m, args, below, meth, c, Qf⟩ := X
  obtain ⟨hx, hb, -⟩ := C
  intro H locs ls hP hf hS ho hl
  exact lv_lload hx hb hd (hl.2 _ _ hv).1 (k H locs ls hP hf hS (ok_cs (hl.2 _ _ hv).2 ho) hl)
theorem m_aload_n (C : m_Cx G X Y d mc ms) {q : Fin 4} {o w : Nat} (hd : decode Y.2.1 pc = .ok (.aload_n q, 1)) (hv : lv[(q : Nat)]? = some (some (vR o w))) (k : m_W G X Y S μ (pc + 1) lv (vR o w :: st)) : m_W G X Y S μ pc lv st := by
  obtain ⟨p, l, e, R, s, m, args, below, meth, c, Qf⟩ := X
  obtain ⟨hx, hb, -⟩ := C
  intro H locs ls hP hf hS ho hl
  exact lv_aload_n hx hb hd rfl (hl.2 _ _ hv).1 (k H locs ls hP hf hS (ok_cs (hl.2 _ _ hv).2 ho) hl)
theorem m_aload (C : m_Cx G X Y d mc ms) {i : Nat} {o w : Nat} (hd : decode Y.2.1 pc = .ok (.aload i, 2)) (hv : lv[i]? = some (some (vR o w))) (k : m_W G X Y S μ (pc + 2) lv (vR o w :: st)) : m_W G X Y S μ pc lv st := by
  obtain ⟨p, l, e, R, s, m, args, below, meth, c, Qf⟩ := X
  obtain ⟨hx, hb, -⟩ := C
  intro H locs ls hP hf hS ho hl
  exact lv_aload hx hb hd (hl.2 _ _ hv).1 (k H locs ls hP hf hS (ok_cs (hl.2 _ _ hv).2 ho) hl)
theorem m_iadd (C : m_Cx G X Y d mc ms) {x y : Int} (hd : decode Y.2.1 pc = .ok (.iadd, 1)) (k : m_W G X Y S μ (pc + 1) lv (vI (w32 (x + y)) :: st)) : m_W G X Y S μ pc lv (vI y :: vI x :: st) :=
  m_st C (fun h => ok_csI (w32_in _) (ok_tl (ok_tl h))) (fun _ _ _ _ _ _ _ _ _ _ _ _ _ _ hx hb _ _ _ _ h => lv_iadd hx hb hd (by rw [← Int32.ofInt_add, ← w32_of]; exact h)) k
theorem m_isub (C : m_Cx G X Y d mc ms) {x y : Int} (hd : decode Y.2.1 pc = .ok (.isub, 1)) (k : m_W G X Y S μ (pc + 1) lv (vI (w32 (x - y)) :: st)) : m_W G X Y S μ pc lv (vI y :: vI x :: st) :=
  m_st C (fun h => ok_csI (w32_in _) (ok_tl (ok_tl h))) (fun _ _ _ _ _ _ _ _ _ _ _ _ _ _ hx hb _ _ _ _ h => lv_isub hx hb hd (by rw [← Int32.ofInt_sub, ← w32_of]; exact h)) k
theorem m_imul (C : m_Cx G X Y d mc ms) {x y : Int} (hd : decode Y.2.1 pc = .ok (.imul, 1)) (k : m_W G X Y S μ (pc + 1) lv (vI (w32 (x * y)) :: st)) : m_W G X Y S μ pc lv (vI y :: vI x :: st) :=
  m_st C (fun h => ok_csI (w32_in _) (ok_tl (ok_tl h))) (fun _ _ _ _ _ _ _ _ _ _ _ _ _ _ hx hb _ _ _ _ h => lv_imul hx hb hd (by rw [← Int32.ofInt_mul, ← w32_of]; exact h)) k
theorem m_ladd (C : m_Cx G X Y d mc ms) {x y : Int} (hd : decode Y.2.1 pc = .ok (.ladd, 1)) (k : m_W G X Y S μ (pc + 1) lv (vJ (w64 (x + y)) :: st)) : m_W G X Y S μ pc lv (vJ y :: vJ x :: st) :=
  m_st C (fun h => ok_csJ (w64_in _) (ok_tl (ok_tl h))) (fun _ _ _ _ _ _ _ _ _ _ _ _ _ _ hx hb _ _ _ _ h => lv_ladd hx hb hd (by rw [← Int64.ofInt_add, ← w64_of]; exact h)) k
theorem m_lsub (C : m_Cx G X Y d mc ms) {x y : Int} (hd : decode Y.2.1 pc = .ok (.lsub, 1)) (k : m_W G X Y S μ (pc + 1) lv (vJ (w64 (x - y)) :: st)) : m_W G X Y S μ pc lv (vJ y :: vJ x :: st) :=
  m_st C (fun h => ok_csJ (w64_in _) (ok_tl (ok_tl h))) (fun _ _ _ _ _ _ _ _ _ _ _ _ _ _ hx hb _ _ _ _ h => lv_lsub hx hb hd (by rw [← Int64.ofInt_sub, ← w64_of]; exact h)) k
theorem m_lmul (C : m_Cx G X Y d mc ms) {x y : Int} (hd : decode Y.2.1 pc = .ok (.lmul, 1)) (k : m_W G X Y S μ (pc + 1) lv (vJ (w64 (x * y)) :: st)) : m_W G X Y S μ pc lv (vJ y :: vJ x :: st) :=
  m_st C (fun h => ok_csJ (w64_in _) (ok_tl (ok_tl h))) (fun _ _ _ _ _ _ _ _ _ _ _ _ _ _ hx hb _ _ _ _ h => lv_lmul hx hb hd (by rw [← Int64.ofInt_mul, ← w64_of]; exact h)) k
theorem m_iand (C : m_Cx G X Y d mc ms) {x y : Int} (hd : decode Y.2.1 pc = .ok (.iand, 1)) (k : m_W G X Y S μ (pc + 1) lv (vI (i_and x y) :: st)) : m_W G X Y S μ pc lv (vI y :: vI x :: st) :=
  m_st C (fun h => ok_csI (by rw [i_and_def]; exact in32_t _) (ok_tl (ok_tl h))) (fun _ _ _ _ _ _ _ _ _ _ _ _ _ _ hx hb _ _ _ _ h => lv_iand hx hb hd (by rw [← Int32.ofInt_toInt (Int32.ofInt x &&& Int32.ofInt y), ← i_and_def]; exact h)) k
theorem m_ior (C : m_Cx G X Y d mc ms) {x y : Int} (hd : decode Y.2.1 pc = .ok (.ior, 1)) (k : m_W G X Y S μ (pc + 1) lv (vI (i_or x y) :: st)) : m_W G X Y S μ pc lv (vI y :: vI x :: st) :=
  m_st C (fun h => ok_csI (by rw [i_or_def]; exact in32_t _) (ok_tl (ok_tl h))) (fun _ _ _ _ _ _ _ _ _ _ _ _ _ _ hx hb _ _ _ _ h => lv_ior hx hb hd (by rw [← Int32.ofInt_toInt (Int32.ofInt x ||| Int32.ofInt y), ← i_or_def]; exact h)) k
theorem m_ixor (C : m_Cx G X Y d mc ms) {x y : Int} (hd : decode Y.2.1 pc = .ok (.ixor, 1)) (k : m_W G X Y S μ (pc + 1) lv (vI (i_xor x y) :: st)) : m_W G X Y S μ pc lv (vI y :: vI x :: st) :=
  m_st C (fun h => ok_csI (by rw [i_xor_def]; exact in32_t _) (ok_tl (ok_tl h))) (fun _ _ _ _ _ _ _ _ _ _ _ _ _ _ hx hb _ _ _ _ h => lv_ixor hx hb hd (by rw [← Int32.ofInt_toInt (Int32.ofInt x ^^^ Int32.ofInt y), ← i_xor_def]; exact h)) k
theorem m_ishl (C : m_Cx G X Y d mc ms) {x y : Int} (hd : decode Y.2.1 pc = .ok (.ishl, 1)) (k : m_W G X Y S μ (pc + 1) lv (vI (i_shl x y) :: st)) : m_W G X Y S μ pc lv (vI y :: vI x :: st) :=
  m_st C (fun h => ok_csI (by rw [i_shl_def]; exact in32_t _) (ok_tl (ok_tl h))) (fun _ _ _ _ _ _ _ _ _ _ _ _ _ _ hx hb _ _ _ _ h => lv_ishl hx hb hd (by rw [← Int32.ofInt_toInt (Int32.ofInt x <<< (Int32.ofInt y &&& 31)), ← i_shl_def]; exact h)) k
theorem m_ishr (C : m_Cx G X Y d mc ms) {x y : Int} (hd : decode Y.2.1 pc = .ok (.ishr, 1)) (k : m_W G X Y S μ (pc + 1) lv (vI (i_shr x y) :: st)) : m_W G X Y S μ pc lv (vI y :: vI x :: st) :=
  m_st C (fun h => ok_csI (by rw [i_shr_def]; exact in32_t _) (ok_tl (ok_tl h))) (fun _ _ _ _ _ _ _ _ _ _ _ _ _ _ hx hb _ _ _ _ h => lv_ishr hx hb hd (by rw [← Int32.ofInt_toInt (Int32.ofInt x >>> (Int32.ofInt y &&& 31)), ← i_shr_def]; exact h)) k
theorem m_land (C : m_Cx G X Y d mc ms) {x y : Int} (hd : decode Y.2.1 pc = .ok (.land, 1)) (k : m_W G X Y S μ (pc + 1) lv (vJ (l_and x y) :: st)) : m_W G X Y S μ pc lv (vJ y :: vJ x :: st) :=
  m_st C (fun h => ok_csJ (by rw [l_and_def]; exact in64_t _) (ok_tl (ok_tl h))) (fun _ _ _ _ _ _ _ _ _ _ _ _ _ _ hx hb _ _ _ _ h => lv_land hx hb hd (by rw [← Int64.ofInt_toInt (Int64.ofInt x &&& Int64.ofInt y), ← l_and_def]; exact h)) k
theorem m_lor (C : m_Cx G X Y d mc ms) {x y : Int} (hd : decode Y.2.1 pc = .ok (.lor, 1)) (k : m_W G X Y S μ (pc + 1) lv (vJ (l_or x y) :: st)) : m_W G X Y S μ pc lv (vJ y :: vJ x :: st) :=
  m_st C (fun h => ok_csJ (by rw [l_or_def]; exact in64_t _) (ok_tl (ok_tl h))) (fun _ _ _ _ _ _ _ _ _ _ _ _ _ _ hx hb _ _ _ _ h => lv_lor hx hb hd (by rw [← Int64.ofInt_toInt (Int64.ofInt x ||| Int64.ofInt y), ← l_or_def]; exact h)) k
theorem m_lshl (C : m_Cx G X Y d mc ms) {x y : Int} (hd : decode Y.2.1 pc = .ok (.lshl, 1)) (k : m_W G X Y S μ (pc + 1) lv (vJ (l_shl x y) :: st)) : m_W G X Y S μ pc lv (vI y :: vJ x :: st) :=
  m_st C (fun h => ok_csJ (by rw [l_shl_def]; exact in64_t _) (ok_tl (ok_tl h))) (fun _ _ _ _ _ _ _ _ _ _ _ _ _ _ hx hb _ _ _ _ h => lv_lshl hx hb hd (by rw [l_shl_def, Int64.ofInt_toInt]) h) k
theorem m_lshr (C : m_Cx G X Y d mc ms) {x y : Int} (hd : decode Y.2.1 pc = .ok (.lshr, 1)) (k : m_W G X Y S μ (pc + 1) lv (vJ (l_shr x y) :: st)) : m_W G X Y S μ pc lv (vI y :: vJ x :: st) :=
  m_st C (fun h => ok_csJ (by rw [l_shr_def]; exact in64_t _) (ok_tl (ok_tl h))) (fun _ _ _ _ _ _ _ _ _ _ _ _ _ _ hx hb _ _ _ _ h => lv_lshr hx hb hd (by rw [l_shr_def, Int64.ofInt_toInt]) h) k
theorem m_idiv (C : m_Cx G X Y d mc ms) {x y : Int} (hd : decode Y.2.1 pc = .ok (.idiv, 1)) (hy : y ≠ 0) (k : m_W G X Y S μ (pc + 1) lv (vI (w32 (x.tdiv y)) :: st)) : m_W G X Y S μ pc lv (vI y :: vI x :: st) :=
  m_st C (fun h => ok_csI (w32_in _) (ok_tl (ok_tl h))) (fun _ _ _ _ _ _ _ _ _ _ _ _ _ _ hx hb _ _ ho _ h => lv_idiv hx hb hd (fun q => hy (by have q2 := congrArg Int32.toInt q; rw [t32 (show in32 y from ok_hdI ho)] at q2; exact q2))
    (by rw [show Int32.ofInt x / Int32.ofInt y = Int32.ofInt (w32 (x.tdiv y)) by rw [← Int32.toInt_inj, Int32.toInt_div, t32 (show in32 y from ok_hdI ho), t32 (show in32 x from ok_hdI (ok_tl ho)), t32 (w32_in _), ← w32_toInt, Int32.toInt_ofInt]]; exact h)) k
theorem m_ldiv (C : m_Cx G X Y d mc ms) {x y : Int} (hd : decode Y.2.1 pc = .ok (.ldiv, 1)) (hy : y ≠ 0) (k : m_W G X Y S μ (pc + 1) lv (vJ (w64 (x.tdiv y)) :: st)) : m_W G X Y S μ pc lv (vJ y :: vJ x :: st) :=
  m_st C (fun h => ok_csJ (w64_in _) (ok_tl (ok_tl h))) (fun _ _ _ _ _ _ _ _ _ _ _ _ _ _ hx hb _ _ ho _ h => lv_ldiv hx hb hd (fun q => hy (by have q2 := congrArg Int64.toInt q; rw [t64 (show in64 y from ok_hdJ ho)] at q2; exact q2))
    (by rw [show Int64.ofInt x / Int64.ofInt y = Int64.ofInt (w64 (x.tdiv y)) by rw [← Int64.toInt_inj, Int64.toInt_div, t64 (show in64 y from ok_hdJ ho), t64 (show in64 x from ok_hdJ (ok_tl ho)), t64 (w64_in _), ← w64_toInt, Int64.toInt_ofInt]]; exact h)) k
theorem m_irem (C : m_Cx G X Y d mc ms) {x y : Int} (hd : decode Y.2.1 pc = .ok (.irem, 1)) (hy : y ≠ 0) (k : m_W G X Y S μ (pc + 1) lv (vI (x.tmod y) :: st)) : m_W G X Y S μ pc lv (vI y :: vI x :: st) := by
  have key : (∀ v ∈ (vI y :: vI x :: st), m_ok v) → in32 (x.tmod y) := fun h => by
    have h1 : in32 x := ok_hdI (ok_tl h)
    have h2 := Int.natAbs_tmod x y
    have h3 := Nat.mod_le x.natAbs y.natAbs
    have h4 : 0 ≤ x → 0 ≤ x.tmod y := fun q => Int.tmod_nonneg y q
    have h5 : x ≤ 0 → x.tmod y ≤ 0 := fun q => by
      have := Int.tmod_nonneg (a := -x) y (by omega)
      rw [Int.neg_tmod] at this
      omega
    unfold in32 at h1 ⊢
    omega
  refine m_st C (fun h => ok_csI (key h) (ok_tl (ok_tl h))) (fun _ _ _ _ _ _ _ _ _ _ _ _ _ _ hx hb _ _ ho _ h => lv_irem hx hb hd (fun q => hy (by have q2 := congrArg Int32.toInt q; rw [t32 (show in32 y from ok_hdI ho)] at q2; exact q2)) ?_) k
  have e : Int32.ofInt x / Int32.ofInt y = Int32.ofInt (x.tdiv y) := by
    rw [← Int32.toInt_inj, Int32.toInt_div, t32 (show in32 y from ok_hdI ho), t32 (show in32 x from ok_hdI (ok_tl ho)), Int32.toInt_ofInt]
  rw [e, ← Int32.ofInt_mul, ← Int32.ofInt_sub, show x - x.tdiv y * y = x.tmod y by rw [Int.tmod_def, Int.mul_comm]]
  exact h
theorem m_lrem (C : m_Cx G X Y d mc ms) {x y : Int} (hd : decode Y.2.1 pc = .ok (.lrem, 1)) (hy : y ≠ 0) (k : m_W G X Y S μ (pc + 1) lv (vJ (x.tmod y) :: st)) : m_W G X Y S μ pc lv (vJ y :: vJ x :: st) := by
  have key : (∀ v ∈ (vJ y :: vJ x :: st), m_ok v) → in64 (x.tmod y) := fun h => by
    have h1 : in64 x := ok_hdJ (ok_tl h)
    have h2 := Int.natAbs_tmod x y
    have h3 := Nat.mod_le x.natAbs y.natAbs
    have h4 : 0 ≤ x → 0 ≤ x.tmod y := fun q => Int.tmod_nonneg y q
    have h5 : x ≤ 0 → x.tmod y ≤ 0 := fun q => by
      have := Int.tmod_nonneg (a := -x) y (by omega)
      rw [Int.neg_tmod] at this
      omega
    unfold in64 at h1 ⊢
    omega
  refine m_st C (fun h => ok_csJ (key h) (ok_tl (ok_tl h))) (fun _ _ _ _ _ _ _ _ _ _ _ _ _ _ hx hb _ _ ho _ h => lv_lrem hx hb hd (fun q => hy (by have q2 := congrArg Int64.toInt q; rw [t64 (show in64 y from ok_hdJ ho)] at q2; exact q2)) ?_) k
  have e : Int64.ofInt x / Int64.ofInt y = Int64.ofInt (x.tdiv y) := by
    rw [← Int64.toInt_inj, Int64.toInt_div, t64 (show in64 y from ok_hdJ ho), t64 (show in64 x from ok_hdJ (ok_tl ho)), Int64.toInt_ofInt]
  rw [e, ← Int64.ofInt_mul, ← Int64.ofInt_sub, show x - x.tdiv y * y = x.tmod y by rw [Int.tmod_def, Int.mul_comm]]
  exact h
theorem m_ineg (C : m_Cx G X Y d mc ms) {x : Int} (hd : decode Y.2.1 pc = .ok (.ineg, 1)) (k : m_W G X Y S μ (pc + 1) lv (vI (w32 (-x)) :: st)) : m_W G X Y S μ pc lv (vI x :: st) :=
  m_st C (fun h => ok_csI (w32_in _) (ok_tl h)) (fun _ _ _ _ _ _ _ _ _ _ _ _ _ _ hx hb _ _ _ _ h => lv_ineg hx hb hd (by rw [← Int32.ofInt_neg, ← w32_of]; exact h)) k
theorem m_i2l (C : m_Cx G X Y d mc ms) {x : Int} (hd : decode Y.2.1 pc = .ok (.i2l, 1)) (k : m_W G X Y S μ (pc + 1) lv (vJ x :: st)) : m_W G X Y S μ pc lv (vI x :: st) :=
  m_st C (fun h => ok_csJ (show in64 x by have : in32 x := ok_hdI h; unfold in32 at this; unfold in64; omega) (ok_tl h)) (fun _ _ _ _ _ _ _ _ _ _ _ _ _ _ hx hb _ _ ho _ h => lv_i2l hx hb hd (by have q : in32 x := ok_hdI ho; rw [← Int64.toInt_inj, Int32.toInt_toInt64, t32 q, t64 (by unfold in32 at q; unfold in64; omega)]) h) k
theorem m_l2i (C : m_Cx G X Y d mc ms) {x : Int} (hd : decode Y.2.1 pc = .ok (.l2i, 1)) (k : m_W G X Y S μ (pc + 1) lv (vI (w32 x) :: st)) : m_W G X Y S μ pc lv (vJ x :: st) :=
  m_st C (fun h => ok_csI (w32_in _) (ok_tl h)) (fun _ _ _ _ _ _ _ _ _ _ _ _ _ _ hx hb _ _ _ _ h => lv_l2i hx hb hd (by rw [Int64.toInt32_ofInt, w32_of]) h) k
theorem m_i2b (C : m_Cx G X Y d mc ms) {x : Int} (hd : decode Y.2.1 pc = .ok (.i2b, 1)) (k : m_W G X Y S μ (pc + 1) lv (vI (i_b x) :: st)) : m_W G X Y S μ pc lv (vI x :: st) :=
  m_st C (fun h => ok_csI (by rw [i_b_def]; exact in32_t _) (ok_tl h)) (fun _ _ _ _ _ _ _ _ _ _ _ _ _ _ hx hb _ _ _ _ h => lv_i2b hx hb hd (by rw [i_b_def, Int32.ofInt_toInt]) h) k
theorem m_lcmp (C : m_Cx G X Y d mc ms) {x y : Int} (hd : decode Y.2.1 pc = .ok (.lcmp, 1)) (k : m_W G X Y S μ (pc + 1) lv (vI (l_cmp x y) :: st)) : m_W G X Y S μ pc lv (vJ y :: vJ x :: st) :=
  m_st C (fun h => ok_csI (show in32 (l_cmp x y) by unfold l_cmp in32; split <;> (try split) <;> omega) (ok_tl (ok_tl h))) (fun _ _ _ _ _ _ _ _ _ _ _ _ _ _ hx hb _ _ ho _ h => W.lcmp hx hb hd (by
    have hy : in64 y := ok_hdJ ho
    have hx : in64 x := ok_hdJ (ok_tl ho)
    have e : lg_cmp (Int64.ofInt x) (Int64.ofInt y) = Int32.ofInt (l_cmp x y) := by
      unfold lg_cmp l_cmp
      simp only [gt_iff_lt, o64_lt hy hx, o64_eq hx hy]
      split
      · rfl
      · split <;> rfl
    rw [e]; exact h)) k
theorem m_dup (C : m_Cx G X Y d mc ms) {v : m_V} (hd : decode Y.2.1 pc = .ok (.dup, 1)) (hc : (m_rv G v).category = 1) (k : m_W G X Y S μ (pc + 1) lv (v :: v :: st)) : m_W G X Y S μ pc lv (v :: st) :=
  m_st C (fun h => ok_cs (ok_hd h) h) (fun _ _ _ _ _ _ _ _ _ _ _ _ _ _ hx hb _ _ _ _ h => lv_dup hx hb hd hc h) k
theorem m_dup2 (C : m_Cx G X Y d mc ms) {v w : m_V} (hd : decode Y.2.1 pc = .ok (.dup2, 1)) (hc : (m_rv G v).category = 1) (hc2 : (m_rv G w).category = 1) (k : m_W G X Y S μ (pc + 1) lv (v :: w :: v :: w :: st)) : m_W G X Y S μ pc lv (v :: w :: st) :=
  m_st C (fun h => ok_cs (ok_hd h) (ok_cs (ok_hd (ok_tl h)) h)) (fun _ _ _ _ _ _ _ _ _ _ _ _ _ _ hx hb _ _ _ _ h => lv_dup2_11 hx hb hd hc hc2 h) k
theorem m_pop (C : m_Cx G X Y d mc ms) {v : m_V} (hd : decode Y.2.1 pc = .ok (.pop, 1)) (hc : (m_rv G v).category = 1) (k : m_W G X Y S μ (pc + 1) lv st) : m_W G X Y S μ pc lv (v :: st) :=
  m_st C ok_tl (fun _ _ _ _ _ _ _ _ _ _ _ _ _ _ hx hb _ _ _ _ h => lv_pop hx hb hd hc h) k
theorem m_goto (C : m_Cx G X Y d mc ms) {off : Int} {tgt : Nat} (hd : decode Y.2.1 pc = .ok (.goto off, 3)) (ht : (pc : Int) + off = (tgt : Int)) (k : m_W G X Y S μ tgt lv st) : m_W G X Y S μ pc lv st :=
  m_st C id (fun _ _ _ _ _ _ _ _ _ _ _ _ _ _ hx hb _ _ _ _ h => lv_goto hx hb hd ht h) k
theorem m_if_eq (C : m_Cx G X Y d mc ms) {x off : Int} {tgt : Nat} (hd : decode Y.2.1 pc = .ok (.ifCond .eq off, 3)) (ht : (pc : Int) + off = (tgt : Int)) (kt : x = 0 → m_W G X Y S μ tgt lv st) (kf : ¬ x = 0 → m_W G X Y S μ (pc + 3) lv st) : m_W G X Y S μ pc lv (vI x :: st) := by
  obtain ⟨p, l, e, R, s, m, args, below, meth, c, Qf⟩ := X
  obtain ⟨hx, hb, -⟩ := C
  intro H locs ls hP hf hS ho hl
  have hxx : in32 x := ok_hdI ho
  exact lv_if_eq hx hb hd ht (fun q => kt ((o32_eq hxx in32_0).mp q) H locs ls hP hf hS (ok_tl ho) hl) (fun q => kf (fun z => q ((o32_eq hxx in32_0).mpr z)) H locs ls hP hf hS (ok_tl ho) hl)
theorem m_if_ne (C : m_Cx G X Y d mc ms) {x off : Int} {tgt : Nat} (hd : decode Y.2.1 pc = .ok (.ifCond .ne off, 3)) (ht : (pc : Int) + off = (tgt : Int)) (kt : ¬ x = 0 → m_W G X Y S μ tgt lv st) (kf : x = 0 → m_W G X Y S μ (pc + 3) lv st) : m_W G X Y S μ pc lv (vI x :: st) := by
  obtain ⟨p, l, e, R, s, m, args, below, meth, c, Qf⟩ := X
  obtain ⟨hx, hb, -⟩ := C
  intro H locs ls hP hf hS ho hl
  have hxx : in32 x := ok_hdI ho
  exact lv_if_ne hx hb hd ht (fun q => kt (fun z => q ((o32_eq hxx in32_0).mpr z)) H locs ls hP hf hS (ok_tl ho) hl) (fun q => kf ((o32_eq hxx in32_0).mp q) H locs ls hP hf hS (ok_tl ho) hl)
theorem m_if_lt (C : m_Cx G X Y d mc ms) {x off : Int} {tgt : Nat} (hd : decode Y.2.1 pc = .ok (.ifCond .lt off, 3)) (ht : (pc : Int) + off = (tgt : Int)) (kt : x < 0 → m_W G X Y S μ tgt lv st) (kf : ¬ x < 0 → m_W G X Y S μ (pc + 3) lv st) : m_W G X Y S μ pc lv (vI x :: st) := by
  obtain ⟨p, l, e, R, s, m, args, below, meth, c, Qf⟩ := X
  obtain ⟨hx, hb, -⟩ := C
  intro H locs ls hP hf hS ho hl
  have hxx : in32 x := ok_hdI ho
  exact lv_if_lt hx hb hd ht (fun q => kt ((o32_lt hxx in32_0).mp q) H locs ls hP hf hS (ok_tl ho) hl) (fun q => kf (fun z => q ((o32_lt hxx in32_0).mpr z)) H locs ls hP hf hS (ok_tl ho) hl)
theorem m_if_ge (C : m_Cx G X Y d mc ms) {x off : Int} {tgt : Nat} (hd : decode Y.2.1 pc = .ok (.ifCond .ge off, 3)) (ht : (pc : Int) + off = (tgt : Int)) (kt : 0 ≤ x → m_W G X Y S μ tgt lv st) (kf : ¬ 0 ≤ x → m_W G X Y S μ (pc + 3) lv st) : m_W G X Y S μ pc lv (vI x :: st) := by
  obtain ⟨p, l, e, R, s, m, args, below, meth, c, Qf⟩ := X
  obtain ⟨hx, hb, -⟩ := C
  intro H locs ls hP hf hS ho hl
  have hxx : in32 x := ok_hdI ho
  exact lv_if_ge hx hb hd ht (fun q => kt ((o32_le in32_0 hxx).mp q) H locs ls hP hf hS (ok_tl ho) hl) (fun q => kf (fun z => q ((o32_le in32_0 hxx).mpr z)) H locs ls hP hf hS (ok_tl ho) hl)
theorem m_if_gt (C : m_Cx G X Y d mc ms) {x off : Int} {tgt : Nat} (hd : decode Y.2.1 pc = .ok (.ifCond .gt off, 3)) (ht : (pc : Int) + off = (tgt : Int)) (kt : 0 < x → m_W G X Y S μ tgt lv st) (kf : ¬ 0 < x → m_W G X Y S μ (pc + 3) lv st) : m_W G X Y S μ pc lv (vI x :: st) := by
  obtain ⟨p, l, e, R, s, m, args, below, meth, c, Qf⟩ := X
  obtain ⟨hx, hb, -⟩ := C
  intro H locs ls hP hf hS ho hl
  have hxx : in32 x := ok_hdI ho
  exact lv_if_gt hx hb hd ht (fun q => kt ((o32_lt in32_0 hxx).mp q) H locs ls hP hf hS (ok_tl ho) hl) (fun q => kf (fun z => q ((o32_lt in32_0 hxx).mpr z)) H locs ls hP hf hS (ok_tl ho) hl)
theorem m_if_le (C : m_Cx G X Y d mc ms) {x off : Int} {tgt : Nat} (hd : decode Y.2.1 pc = .ok (.ifCond .le off, 3)) (ht : (pc : Int) + off = (tgt : Int)) (kt : x ≤ 0 → m_W G X Y S μ tgt lv st) (kf : ¬ x ≤ 0 → m_W G X Y S μ (pc + 3) lv st) : m_W G X Y S μ pc lv (vI x :: st) := by
  obtain ⟨p, l, e, R, s, m, args, below, meth, c, Qf⟩ := X
  obtain ⟨hx, hb, -⟩ := C
  intro H locs ls hP hf hS ho hl
  have hxx : in32 x := ok_hdI ho
  exact lv_if_le hx hb hd ht (fun q => kt ((o32_le hxx in32_0).mp q) H locs ls hP hf hS (ok_tl ho) hl) (fun q => kf (fun z => q ((o32_le hxx in32_0).mpr z)) H locs ls hP hf hS (ok_tl ho) hl)
theorem m_icmp_eq (C : m_Cx G X Y d mc ms) {x y off : Int} {tgt : Nat} (hd : decode Y.2.1 pc = .ok (.if_icmp .eq off, 3)) (ht : (pc : Int) + off = (tgt : Int)) (kt : x = y → m_W G X Y S μ tgt lv st) (kf : ¬ x = y → m_W G X Y S μ (pc + 3) lv st) : m_W G X Y S μ pc lv (vI y :: vI x :: st) := by
  obtain ⟨p, l, e, R, s, m, args, below, meth, c, Qf⟩ := X
  obtain ⟨hx, hb, -⟩ := C
  intro H locs ls hP hf hS ho hl
  have hyy : in32 y := ok_hdI ho
  have hxx : in32 x := ok_hdI (ok_tl ho)
  exact lv_icmp_eq hx hb hd ht (fun q => kt ((o32_eq hxx hyy).mp q) H locs ls hP hf hS (ok_tl (ok_tl ho)) hl) (fun q => kf (fun z => q ((o32_eq hxx hyy).mpr z)) H locs ls hP hf hS (ok_tl (ok_tl ho)) hl)
theorem m_icmp_ne (C : m_Cx G X Y d mc ms) {x y off : Int} {tgt : Nat} (hd : decode Y.2.1 pc = .ok (.if_icmp .ne off, 3)) (ht : (pc : Int) + off = (tgt : Int)) (kt : ¬ x = y → m_W G X Y S μ tgt lv st) (kf : x = y → m_W G X Y S μ (pc + 3) lv st) : m_W G X Y S μ pc lv (vI y :: vI x :: st) := by
  obtain ⟨p, l, e, R, s, m, args, below, meth, c, Qf⟩ := X
  obtain ⟨hx, hb, -⟩ := C
  intro H locs ls hP hf hS ho hl
  have hyy : in32 y := ok_hdI ho
  have hxx : in32 x := ok_hdI (ok_tl ho)
  exact lv_icmp_ne hx hb hd ht (fun q => kt (fun z => q ((o32_eq hxx hyy).mpr z)) H locs ls hP hf hS (ok_tl (ok_tl ho)) hl) (fun q => kf ((o32_eq hxx hyy).mp q) H locs ls hP hf hS (ok_tl (ok_tl ho)) hl)
theorem m_icmp_lt (C : m_Cx G X Y d mc ms) {x y off : Int} {tgt : Nat} (hd : decode Y.2.1 pc = .ok (.if_icmp .lt off, 3)) (ht : (pc : Int) + off = (tgt : Int)) (kt : x < y → m_W G X Y S μ tgt lv st) (kf : ¬ x < y → m_W G X Y S μ (pc + 3) lv st) : m_W G X Y S μ pc lv (vI y :: vI x :: st) := by
  obtain ⟨p, l, e, R, s, m, args, below, meth, c, Qf⟩ := X
  obtain ⟨hx, hb, -⟩ := C
  intro H locs ls hP hf hS ho hl
  have hyy : in32 y := ok_hdI ho
  have hxx : in32 x := ok_hdI (ok_tl ho)
  exact lv_icmp_lt hx hb hd ht (fun q => kt ((o32_lt hxx hyy).mp q) H locs ls hP hf hS (ok_tl (ok_tl ho)) hl) (fun q => kf (fun z => q ((o32_lt hxx hyy).mpr z)) H locs ls hP hf hS (ok_tl (ok_tl ho)) hl)
theorem m_icmp_ge (C : m_Cx G X Y d mc ms) {x y off : Int} {tgt : Nat} (hd : decode Y.2.1 pc = .ok (.if_icmp .ge off, 3)) (ht : (pc : Int) + off = (tgt : Int)) (kt : y ≤ x → m_W G X Y S μ tgt lv st) (kf : ¬ y ≤ x → m_W G X Y S μ (pc + 3) lv st) : m_W G X Y S μ pc lv (vI y :: vI x :: st) := by
  obtain ⟨p, l, e, R, s, m, args, below, meth, c, Qf⟩ := X
  obtain ⟨hx, hb, -⟩ := C
  intro H locs ls hP hf hS ho hl
  have hyy : in32 y := ok_hdI ho
  have hxx : in32 x := ok_hdI (ok_tl ho)
  exact lv_icmp_ge hx hb hd ht (fun q => kt ((o32_le hyy hxx).mp q) H locs ls hP hf hS (ok_tl (ok_tl ho)) hl) (fun q => kf (fun z => q ((o32_le hyy hxx).mpr z)) H locs ls hP hf hS (ok_tl (ok_tl ho)) hl)
theorem m_icmp_gt (C : m_Cx G X Y d mc ms) {x y off : Int} {tgt : Nat} (hd : decode Y.2.1 pc = .ok (.if_icmp .gt off, 3)) (ht : (pc : Int) + off = (tgt : Int)) (kt : y < x → m_W G X Y S μ tgt lv st) (kf : ¬ y < x → m_W G X Y S μ (pc + 3) lv st) : m_W G X Y S μ pc lv (vI y :: vI x :: st) := by
  obtain ⟨p, l, e, R, s, m, args, below, meth, c, Qf⟩ := X
  obtain ⟨hx, hb, -⟩ := C
  intro H locs ls hP hf hS ho hl
  have hyy : in32 y := ok_hdI ho
  have hxx : in32 x := ok_hdI (ok_tl ho)
  exact lv_icmp_gt hx hb hd ht (fun q => kt ((o32_lt hyy hxx).mp q) H locs ls hP hf hS (ok_tl (ok_tl ho)) hl) (fun q => kf (fun z => q ((o32_lt hyy hxx).mpr z)) H locs ls hP hf hS (ok_tl (ok_tl ho)) hl)
theorem m_icmp_le (C : m_Cx G X Y d mc ms) {x y off : Int} {tgt : Nat} (hd : decode Y.2.1 pc = .ok (.if_icmp .le off, 3)) (ht : (pc : Int) + off = (tgt : Int)) (kt : x ≤ y → m_W G X Y S μ tgt lv st) (kf : ¬ x ≤ y → m_W G X Y S μ (pc + 3) lv st) : m_W G X Y S μ pc lv (vI y :: vI x :: st) := by
  obtain ⟨p, l, e, R, s, m, args, below, meth, c, Qf⟩ := X
  obtain ⟨hx, hb, -⟩ := C
  intro H locs ls hP hf hS ho hl
  have hyy : in32 y := ok_hdI ho
  have hxx : in32 x := ok_hdI (ok_tl ho)
  exact lv_icmp_le hx hb hd ht (fun q => kt ((o32_le hxx hyy).mp q) H locs ls hP hf hS (ok_tl (ok_tl ho)) hl) (fun q => kf (fun z => q ((o32_le hxx hyy).mpr z)) H locs ls hP hf hS (ok_tl (ok_tl ho)) hl)
theorem m_swIn (C : m_Cx G X Y d mc ms) {dflt lo hi : Int} {offs : Array Int} {len : Nat} {x off : Int} {tgt : Nat} (hd : decode Y.2.1 pc = .ok (.tableswitch dflt lo hi offs, len)) (h1 : lo ≤ x) (h2 : x ≤ hi) (ho : offs[(x - lo).toNat]? = some off) (ht : (pc : Int) + off = (tgt : Int)) (k : m_W G X Y S μ tgt lv st) : m_W G X Y S μ pc lv (vI x :: st) :=
  m_st C ok_tl (fun _ _ _ _ _ _ _ _ _ _ _ _ _ _ hx hb _ _ hk _ h => by
    have e : (Int32.ofInt x).toInt = x := t32 (ok_hdI hk)
    exact lv_tableIn hx hb hd (by rw [e]; omega) (by rw [e]; omega) (by rw [e]; exact ho) ht h) k
theorem m_swOut (C : m_Cx G X Y d mc ms) {dflt lo hi : Int} {offs : Array Int} {len : Nat} {x : Int} {tgt : Nat} (hd : decode Y.2.1 pc = .ok (.tableswitch dflt lo hi offs, len)) (h1 : x < lo ∨ hi < x) (ht : (pc : Int) + dflt = (tgt : Int)) (k : m_W G X Y S μ tgt lv st) : m_W G X Y S μ pc lv (vI x :: st) :=
  m_st C ok_tl (fun _ _ _ _ _ _ _ _ _ _ _ _ _ _ hx hb _ _ hk _ h => by
    have e : (Int32.ofInt x).toInt = x := t32 (ok_hdI hk)
    exact lv_tableOut hx hb hd (by rw [e]; exact h1) ht h) k
theorem m_lsw (C : m_Cx G X Y d mc ms) {dflt : Int} {ps : Array (Int × Int)} {len : Nat} {x off : Int} {tgt : Nat} (hd : decode Y.2.1 pc = .ok (.lookupswitch dflt ps, len)) (hp : (ps.toList.zip (ps.toList.drop 1)).all (fun (a, next) => a.1 < next.1) = true) (ho : Op.lookupswitch.offset ps.toList dflt x = off) (ht : (pc : Int) + off = (tgt : Int)) (k : m_W G X Y S μ tgt lv st) : m_W G X Y S μ pc lv (vI x :: st) :=
  m_st C ok_tl (fun _ _ _ _ _ _ _ _ _ _ _ _ _ _ hx hb _ _ hk _ h => by
    have e : (Int32.ofInt x).toInt = x := t32 (ok_hdI hk)
    exact lv_lookup hx hb hd hp (by rw [e]; exact ho) ht h) k
/-- what stands in the locals or on the stack is in range -/
theorem m_rngS {v : m_V} (k : m_ok v → m_W G X Y S μ pc lv (v :: st)) : m_W G X Y S μ pc lv (v :: st) := by
  obtain ⟨p, l, e, R, s, m, args, below, meth, c, Qf⟩ := X
  intro H locs ls hP hf hS ho hl
  exact k (ok_hd ho) H locs ls hP hf hS ho hl
theorem m_rngL {v : m_V} (i : Nat) (hi : lv[i]? = some (some v)) (k : m_ok v → m_W G X Y S μ pc lv st) : m_W G X Y S μ pc lv st := by
  obtain ⟨p, l, e, R, s, m, args, below, meth, c, Qf⟩ := X
  intro H locs ls hP hf hS ho hl
  exact k (hl.2 i v hi).2 H locs ls hP hf hS ho hl
/-- fewer locals are known -/
theorem m_weak {lv' : List (Option m_V)} (h : ∀ (i : Nat) (v : m_V), lv'[i]? = some (some v) → lv[i]? = some (some v)) (k : m_W G X Y S μ pc lv' st) : m_W G X Y S μ pc lv st := by
  obtain ⟨p, l, e, R, s, m, args, below, meth, c, Qf⟩ := X
  intro H locs ls hP hf hS ho hl
  exact k H locs ls hP hf hS ho ⟨hl.1, fun i v hi => hl.2 i v (h i v hi)⟩
end MST
