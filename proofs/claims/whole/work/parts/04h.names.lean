/-! ===== rows that give a name to what comes ===== -/
section NAM
variable {G : m_G} {X : m_X} {Y : m_Y} {d mc ms : Nat} {S : Nat × Bool × Nat × Nat} {μ : m_M} {pc : Nat} {lv : List (Option m_V)} {st : List m_V}
theorem n_istore_n (L : Int → List (Option m_V)) (C : m_Cx G X Y d mc ms) {q : Fin 4} {x : Int} (hd : decode Y.2.1 pc = .ok (.istore_n q, 1)) (hn : (q : Nat) < Y.2.2.1) (hL : ∀ z, m_s1 lv q (vI z) = L z) (k : ∀ z, z = x → m_W G X Y S μ (pc + 1) (L z) st) : m_W G X Y S μ pc lv (vI x :: st) := m_istore_n C hd hn (by rw [hL]; exact k x rfl)
theorem n_istore (L : Int → List (Option m_V)) (C : m_Cx G X Y d mc ms) {i : Nat} {x : Int} (hd : decode Y.2.1 pc = .ok (.istore i, 2)) (hn : i < Y.2.2.1) (hL : ∀ z, m_s1 lv i (vI z) = L z) (k : ∀ z, z = x → m_W G X Y S μ (pc + 2) (L z) st) : m_W G X Y S μ pc lv (vI x :: st) := m_istore C hd hn (by rw [hL]; exact k x rfl)
theorem n_lstore_n (L : Int → List (Option m_V)) (C : m_Cx G X Y d mc ms) {q : Fin 4} {x : Int} (hd : decode Y.2.1 pc = .ok (.lstore_n q, 1)) (hn : (q : Nat) + 1 < Y.2.2.1) (hL : ∀ z, m_s2 lv q (vJ z) = L z) (k : ∀ z, z = x → m_W G X Y S μ (pc + 1) (L z) st) : m_W G X Y S μ pc lv (vJ x :: st) := m_lstore_n C hd hn (by rw [hL]; exact k x rfl)
theorem n_lstore (L : Int → List (Option m_V)) (C : m_Cx G X Y d mc ms) {i : Nat} {x : Int} (hd : decode Y.2.1 pc = .ok (.lstore i, 2)) (hn : i + 1 < Y.2.2.1) (hL : ∀ z, m_s2 lv i (vJ z) = L z) (k : ∀ z, z = x → m_W G X Y S μ (pc + 2) (L z) st) : m_W G X Y S μ pc lv (vJ x :: st) := m_lstore C hd hn (by rw [hL]; exact k x rfl)
theorem n_astore_n (lv' : List (Option m_V)) (C : m_Cx G X Y d mc ms) {q : Fin 4} {x w : Nat} (hd : decode Y.2.1 pc = .ok (.astore_n q, 1)) (hn : (q : Nat) < Y.2.2.1) (hL : m_s1 lv q (vR x w) = lv') (k : m_W G X Y S μ (pc + 1) lv' st) : m_W G X Y S μ pc lv (vR x w :: st) := m_astore_n C hd hn (by rw [hL]; exact k)
theorem n_astore (lv' : List (Option m_V)) (C : m_Cx G X Y d mc ms) {i x w : Nat} (hd : decode Y.2.1 pc = .ok (.astore i, 2)) (hn : i < Y.2.2.1) (hL : m_s1 lv i (vR x w) = lv') (k : m_W G X Y S μ (pc + 2) lv' st) : m_W G X Y S μ pc lv (vR x w :: st) := m_astore C hd hn (by rw [hL]; exact k)
theorem n_iinc (L : Int → List (Option m_V)) (C : m_Cx G X Y d mc ms) {i : Nat} {n x : Int} (hd : decode Y.2.1 pc = .ok (.iinc i n, 3)) (hv : lv[i]? = some (some (vI x))) (hn : i < Y.2.2.1) (hL : ∀ z, m_s1 lv i (vI z) = L z) (k : ∀ z, z = w32 (x + n) → m_W G X Y S μ (pc + 3) (L z) st) : m_W G X Y S μ pc lv st := m_iinc C hd hv hn (by rw [hL]; exact k _ rfl)
theorem n_mem (k : ∀ μ1, μ1 = μ → m_W G X Y S μ1 pc lv st) : m_W G X Y S μ pc lv st := k μ rfl
theorem o_istore_n (lv' : List (Option m_V)) (C : m_Cx G X Y d mc ms) {q : Fin 4} {x : Int} (hd : decode Y.2.1 pc = .ok (.istore_n q, 1)) (hn : (q : Nat) < Y.2.2.1) (hL : m_s1 lv q (vI x) = lv') (k : m_W G X Y S μ (pc + 1) lv' st) : m_W G X Y S μ pc lv (vI x :: st) := m_istore_n C hd hn (by rw [hL]; exact k)
theorem o_istore (lv' : List (Option m_V)) (C : m_Cx G X Y d mc ms) {i : Nat} {x : Int} (hd : decode Y.2.1 pc = .ok (.istore i, 2)) (hn : i < Y.2.2.1) (hL : m_s1 lv i (vI x) = lv') (k : m_W G X Y S μ (pc + 2) lv' st) : m_W G X Y S μ pc lv (vI x :: st) := m_istore C hd hn (by rw [hL]; exact k)
theorem o_lstore_n (lv' : List (Option m_V)) (C : m_Cx G X Y d mc ms) {q : Fin 4} {x : Int} (hd : decode Y.2.1 pc = .ok (.lstore_n q, 1)) (hn : (q : Nat) + 1 < Y.2.2.1) (hL : m_s2 lv q (vJ x) = lv') (k : m_W G X Y S μ (pc + 1) lv' st) : m_W G X Y S μ pc lv (vJ x :: st) := m_lstore_n C hd hn (by rw [hL]; exact k)
theorem o_lstore (lv' : List (Option m_V)) (C : m_Cx G X Y d mc ms) {i : Nat} {x : Int} (hd : decode Y.2.1 pc = .ok (.lstore i, 2)) (hn : i + 1 < Y.2.2.1) (hL : m_s2 lv i (vJ x) = lv') (k : m_W G X Y S μ (pc + 2) lv' st) : m_W G X Y S μ pc lv (vJ x :: st) := m_lstore C hd hn (by rw [hL]; exact k)
def m_le (lv' lv : List (Option m_V)) : Prop := ∀ (i : Nat) (v : m_V), lv'[i]? = some (some v) → lv[i]? = some (some v)
theorem le_nil {lv : List (Option m_V)} : m_le [] lv := fun i v h => by cases h
theorem le_none {lv' lv : List (Option m_V)} {x : Option m_V} (h : m_le lv' lv) : m_le (none :: lv') (x :: lv) := fun i v hi => by
  cases i with
  | zero => cases hi
  | succ i => exact h i v hi
theorem le_same {lv' lv : List (Option m_V)} {x : Option m_V} (h : m_le lv' lv) : m_le (x :: lv') (x :: lv) := fun i v hi => by
  cases i with
  | zero => exact hi
  | succ i => exact h i v hi
theorem n_weak {lv' : List (Option m_V)} (h : m_le lv' lv) (k : m_W G X Y S μ pc lv' st) : m_W G X Y S μ pc lv st := m_weak h k
end NAM
theorem m_past_all : ∀ j, j < 20 → m_cls (12 + j) = 0 := by decide +kernel
theorem m_past {i : Int} (h : 0 ≤ i ∧ i < 20) : m_cls (12 + i.toNat) = 0 := m_past_all _ (by omega)
noncomputable def i_ushr_c : { f : Int → Int → Int // ∀ x y, f x y = ((Int32.ofInt x).toUInt32 >>> ((Int32.ofInt y).toUInt32 &&& Int32.toUInt32 31)).toInt32.toInt } := Classical.choice ⟨⟨fun x y => ((Int32.ofInt x).toUInt32 >>> ((Int32.ofInt y).toUInt32 &&& Int32.toUInt32 31)).toInt32.toInt, fun _ _ => rfl⟩⟩
noncomputable def i_ushr (x y : Int) : Int := i_ushr_c.1 x y
theorem i_ushr_def (x y : Int) : i_ushr x y = ((Int32.ofInt x).toUInt32 >>> ((Int32.ofInt y).toUInt32 &&& Int32.toUInt32 31)).toInt32.toInt := i_ushr_c.2 x y
theorem m_iushr {G : m_G} {X : m_X} {Y : m_Y} {d mc ms : Nat} {S : Nat × Bool × Nat × Nat} {μ : m_M} {pc : Nat} {lv : List (Option m_V)} {st : List m_V} (C : m_Cx G X Y d mc ms) {x y : Int} (hd : decode Y.2.1 pc = .ok (.iushr, 1)) (k : m_W G X Y S μ (pc + 1) lv (vI (i_ushr x y) :: st)) : m_W G X Y S μ pc lv (vI y :: vI x :: st) :=
  m_st C (fun h => ok_csI (by rw [i_ushr_def]; exact in32_t _) (ok_tl (ok_tl h))) (fun _ _ _ _ _ _ _ _ _ _ _ _ _ _ hx hb _ _ _ _ h => lv_iushr hx hb hd (by rw [i_ushr_def, Int32.ofInt_toInt]) h) k
