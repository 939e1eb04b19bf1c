/-! ===== contracts: the JDK's, a bench's ===== -/
theorem w32_nat {i n : Nat} (h : i + n < 2147483648) : w32 ((i : Int) + (n : Int)) = ((i + n : Nat) : Int) := by rw [w32_le (by omega) (by omega)]; omega
theorem w32_s {i : Nat} (h : i + 1 < 2147483648) : w32 ((i : Int) + 1) = ((i + 1 : Nat) : Int) := by rw [w32_le (by omega) (by omega)]; omega
def m_fl (μ : m_M) (o w n : Nat) (v : Int) : m_M := fun a b c => if a = o ∧ b = w ∧ c < n then v else μ a b c
set_option maxRecDepth 20000 in
theorem c_fill {G : m_G} {d o w n : Nat} {μ : m_M} {v : Int} {K : m_M → Prop} (ha : m_ar o w = (0, n)) (hw : w ≠ 0) (hn : n < 2147483648) (h : K (m_fl μ o w n v)) : c_v G (d + 1) YJ7_fill_53178 [vR o w, vI v] μ K := by
  refine e_v (by decide) (Nat.le_of_ble_eq_true rfl) (fun X C R => VJ7_fill_53178_0 C R ha hw hn (fun x2 e2 => ?_))
  subst e2
  have L : ∀ r i : Nat, i + r = n → ∀ μ1 : m_M, (∀ a b c, μ1 a b c = m_fl μ o w i v a b c) → mW G X YJ7_fill_53178 μ1 5 [some (vR o w), some (vI v), some (vI (i : Int)), some (vI (n : Int))] [] := by
    intro r
    induction r with
    | zero =>
      intro i hi μ1 e
      have e1 : μ1 = m_fl μ o w n v := by funext a b c; rw [e, show i = n by omega]
      subst e1
      exact VJ7_fill_53178_5 C R ha hw hn ⟨fun _ => h, fun c => absurd (by omega) c⟩
    | succ r ih =>
      intro i hi μ1 e
      refine VJ7_fill_53178_5 C R ha hw hn ⟨fun c => absurd c (by omega), fun _ => ⟨⟨by omega, by omega⟩, fun μ2 e2 x ex => ?_⟩⟩
      rw [w32_s (by omega)] at ex
      subst ex
      refine ih (i + 1) (by omega) μ2 (fun a b c => ?_)
      rw [e2]
      simp only [m_up, m_fl, e, Int.toNat_natCast]
      by_cases h1 : a = o ∧ b = w ∧ c = i
      · rw [if_pos h1, if_pos ⟨h1.1, h1.2.1, by omega⟩]
      · rw [if_neg h1]
        by_cases h2 : a = o ∧ b = w ∧ c < i
        · rw [if_pos h2, if_pos ⟨h2.1, h2.2.1, by omega⟩]
        · rw [if_neg h2, if_neg (fun z => ?_)]
          by_cases h3 : c = i
          · exact h1 ⟨z.1, z.2.1, h3⟩
          · exact h2 ⟨z.1, z.2.1, by omega⟩
  exact L n 0 (by omega) μ (fun a b c => by unfold m_fl; rw [if_neg (fun z => absurd z.2.2 (by omega))])
/-- the first place from i on, of r places, at which p holds; -1 without -/
def m_fst (p : Nat → Bool) : Nat → Nat → Int
  | _, 0 => -1
  | i, r + 1 => if p i then (i : Int) else m_fst p (i + 1) r
/-- at how many of r places from i on p holds -/
def m_cnt (p : Nat → Bool) : Nat → Nat → Nat
  | _, 0 => 0
  | i, r + 1 => (if p i then 1 else 0) + m_cnt p (i + 1) r
theorem m_cnt_le (p : Nat → Bool) : ∀ r i, m_cnt p i r ≤ r := by
  intro r
  induction r with
  | zero => intro i; exact Nat.le_refl 0
  | succ r ih => intro i; have := ih (i + 1); unfold m_cnt; split <;> omega
def b_who (b : Nat → Nat → Int) (k p : Int) : Int := m_fst (fun c => b 3 c == k && b 4 c == p) 0 8
def b_cnt (b : Nat → Nat → Int) (k : Int) : Nat := m_cnt (fun c => b 3 c == k) 0 8
set_option maxRecDepth 20000 in
theorem c_who {G : m_G} {d o : Nat} (hc : m_cls o = 0) {μ : m_M} {k p : Int} {K : Int → m_M → Prop} (h : K (b_who (μ o) k p) μ) : c_i G (d + 1) YX0_whoIsIn [vR o 0, vI k, vI p] μ K := by
  refine e_i (by decide) (Nat.le_of_ble_eq_true rfl) (fun X C R => VX0_whoIsIn_0 C R hc ?_)
  have L : ∀ r i : Nat, i + r = 8 → K (m_fst (fun c => μ o 3 c == k && μ o 4 c == p) i r) μ → mW G X YX0_whoIsIn μ 2 [some (vR o 0), some (vI k), some (vI p), some (vI (i : Int))] [] := by
    intro r
    induction r with
    | zero => intro i hi h; exact VX0_whoIsIn_2 C R hc ⟨fun _ => h, fun c => absurd (by omega) c⟩
    | succ r ih =>
      intro i hi h
      unfold m_fst at h
      refine VX0_whoIsIn_2 C R hc ⟨fun c => absurd c (by omega), fun _ => ⟨⟨by omega, by omega⟩, fun c1 x ex => ?_, fun c1 => ⟨⟨by omega, by omega⟩, fun c2 x ex => ?_, fun c2 => ?_⟩⟩⟩
      · rw [Int.toNat_natCast] at c1
        rw [if_neg (by simp [c1])] at h
        rw [w32_s (by omega)] at ex; subst ex
        exact ih (i + 1) (by omega) h
      · rw [Int.toNat_natCast] at c1 c2
        rw [if_neg (by simp [c2])] at h
        rw [w32_s (by omega)] at ex; subst ex
        exact ih (i + 1) (by omega) h
      · rw [Int.toNat_natCast] at c1 c2
        rw [if_pos (by simp [c1, c2])] at h
        exact h
  exact L 8 0 rfl h
set_option maxRecDepth 20000 in
theorem c_countIn {G : m_G} {d o : Nat} (hc : m_cls o = 0) {μ : m_M} {k : Int} {K : Int → m_M → Prop} (h : K (b_cnt (μ o) k : Int) μ) : c_i G (d + 1) YX0_countIn [vR o 0, vI k] μ K := by
  refine e_i (by decide) (Nat.le_of_ble_eq_true rfl) (fun X C R => VX0_countIn_0 C R hc ?_)
  have L : ∀ r i a : Nat, i + r = 8 → a ≤ i → K ((a + m_cnt (fun c => μ o 3 c == k) i r : Nat) : Int) μ → mW G X YX0_countIn μ 4 [some (vR o 0), some (vI k), some (vI (a : Int)), some (vI (i : Int))] [] := by
    intro r
    induction r with
    | zero => intro i a hi ha h; exact VX0_countIn_4 C R hc ⟨fun _ => h, fun c => absurd (by omega) c⟩
    | succ r ih =>
      intro i a hi ha h
      unfold m_cnt at h
      refine VX0_countIn_4 C R hc ⟨fun c => absurd c (by omega), fun _ => ⟨⟨by omega, by omega⟩, fun c1 x ex y ey => ?_, fun c1 x ex y ey => ?_⟩⟩
      · rw [Int.toNat_natCast] at c1
        rw [if_neg (by simp [c1])] at h
        rw [w32_s (by omega)] at ey; subst ey
        rw [show w32 ((a : Int) + 0) = (a : Int) by rw [w32_le (by omega) (by omega)]; omega] at ex; subst ex
        exact ih (i + 1) a (by omega) (by omega) (by rw [Nat.zero_add] at h; exact h)
      · rw [Int.toNat_natCast] at c1
        rw [if_pos (by simp [c1])] at h
        rw [w32_s (by omega)] at ex ey; subst ex; subst ey
        exact ih (i + 1) (a + 1) (by omega) (by omega) (by rw [Nat.add_assoc]; exact h)
  exact L 8 0 0 rfl (by omega) (by rw [Nat.zero_add]; exact h)
theorem c_isFired {G : m_G} {d o : Nat} (hc : m_cls o = 0) {μ : m_M} {c : Nat} (hcc : c < 8) {K : Int → m_M → Prop} (h : K (if μ o 5 c = -1 then 0 else 1) μ) : c_i G (d + 1) YX0_isFired [vR o 0, vI (c : Int)] μ K := by
  refine e_i (by decide) (Nat.le_of_ble_eq_true rfl) (fun X C R => VX0_isFired_0 C R hc ⟨⟨by omega, by omega⟩, fun e => ?_, fun e => ?_⟩)
  · rw [Int.toNat_natCast] at e; rw [if_pos e] at h; exact h
  · rw [Int.toNat_natCast] at e; rw [if_neg e] at h; exact h
theorem c_countSet {G : m_G} {d o : Nat} (hc : m_cls o = 0) {μ : m_M} {K : Int → m_M → Prop} (h : K (8 - (b_cnt (μ o) (-1) : Int)) μ) : c_i G (d + 2) YX0_countSet [vR o 0] μ K := by
  refine e_i (by decide) (Nat.le_of_ble_eq_true rfl) (fun X C R => VX0_countSet_0 C R hc (c_countIn hc ?_))
  have : b_cnt (μ o) (-1) ≤ 8 := m_cnt_le _ _ _
  rw [w32_le (by omega) (by omega)]
  exact h
set_option maxRecDepth 20000 in
theorem c_countFired {G : m_G} {d o : Nat} (hc : m_cls o = 0) {μ : m_M} {K : Int → m_M → Prop} (h : K (m_cnt (fun c => μ o 5 c != -1) 0 8 : Int) μ) : c_i G (d + 2) YX0_countFired [vR o 0] μ K := by
  refine e_i (by decide) (Nat.le_of_ble_eq_true rfl) (fun X C R => VX0_countFired_0 C R hc ?_)
  have L : ∀ r i a : Nat, i + r = 8 → a ≤ i → K ((a + m_cnt (fun c => μ o 5 c != -1) i r : Nat) : Int) μ → mW G X YX0_countFired μ 4 [some (vR o 0), some (vI (a : Int)), some (vI (i : Int))] [] := by
    intro r
    induction r with
    | zero => intro i a hi ha h; exact VX0_countFired_4 C R hc ⟨fun _ => h, fun c => absurd (by omega) c⟩
    | succ r ih =>
      intro i a hi ha h
      unfold m_cnt at h
      refine VX0_countFired_4 C R hc ⟨fun c => absurd c (by omega), fun _ => c_isFired hc (by omega) ⟨fun c1 x ex y ey => ?_, fun c1 x ex y ey => ?_⟩⟩
      · have c2 : μ o 5 i = -1 := by
          by_cases q : μ o 5 i = -1
          · exact q
          · rw [if_neg q] at c1; omega
        rw [if_neg (by simp [c2])] at h
        rw [w32_s (by omega)] at ey; subst ey
        rw [show w32 ((a : Int) + 0) = (a : Int) by rw [w32_le (by omega) (by omega)]; omega] at ex; subst ex
        exact ih (i + 1) a (by omega) (by omega) (by rw [Nat.zero_add] at h; exact h)
      · have c2 : ¬ μ o 5 i = -1 := by
          intro q
          rw [if_pos q] at c1; omega
        rw [if_pos (by simp [c2])] at h
        rw [w32_s (by omega)] at ex ey; subst ex; subst ey
        exact ih (i + 1) (a + 1) (by omega) (by omega) (by rw [Nat.add_assoc]; exact h)
  exact L 8 0 0 rfl (by omega) (by rw [Nat.zero_add]; exact h)
