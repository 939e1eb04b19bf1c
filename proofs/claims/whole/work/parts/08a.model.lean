/-! ===== the reference works out a row of codes ===== -/
theorem c_within {G : m_G} {d : Nat} {μ : m_M} {a : Int} {K : Int → m_M → Prop} (h : K (cl a) μ) : c_l G (d + 1) YX12_within [vJ a] μ K := by
  unfold cl at h
  refine EX12_within ⟨fun c => ⟨fun c2 => ?_, fun c2 => ?_⟩, fun c => ?_⟩
  · rw [l_cmp_le] at c; rw [l_cmp_ge] at c2; rw [if_neg (by omega), if_neg (by omega)] at h; exact h
  · rw [l_cmp_le] at c; rw [l_cmp_ge] at c2; rw [if_pos (by omega)] at h; exact h
  · rw [l_cmp_le] at c; rw [if_neg (by omega), if_pos (by omega)] at h; exact h
theorem c_floor {G : m_G} {d : Nat} {μ : m_M} {a b : Int} (ha : -1000000 ≤ a ∧ a ≤ 1000000) {K : Int → m_M → Prop} (h : K (p_div a b) μ) : c_l G (d + 1) YX12_floor [vJ a, vJ b] μ K := by
  have hq := tdiv_bd (b := b) ha
  unfold p_div at h
  refine EX12_floor ⟨fun c => ?_, fun c => ?_⟩
  · rw [l_cmp_eq] at c
    rw [if_neg c] at h
    refine ⟨c, fun x1 e1 => ⟨c, fun c1 => ?_, fun c1 => ⟨fun c2 => ⟨fun c3 => ?_, fun c3 => ?_⟩, fun c2 => ⟨fun c3 => ?_, fun c3 => ?_⟩⟩⟩⟩
    all_goals rw [w64_le (by omega) (by omega)] at e1
    all_goals subst e1
    all_goals rw [l_cmp_eq] at c1
    all_goals try rw [l_cmp_ge] at c2
    all_goals try rw [l_cmp_ge] at c3
    · rw [if_neg (fun z => z.1 c1)] at h; exact h
    · rw [if_neg (fun z => z.2 (by omega))] at h; exact h
    · rw [if_pos ⟨c1, by omega⟩] at h; rw [w64_le (by omega) (by omega)]; exact h
    · rw [if_pos ⟨c1, by omega⟩] at h; rw [w64_le (by omega) (by omega)]; exact h
    · rw [if_neg (fun z => z.2 (by omega))] at h; exact h
  · rw [l_cmp_eq] at c; rw [if_pos c] at h; exact h
def tkL : List Int := [0, 268, 269, 257, 258, 270, 271, 272, 273, 260, 274, 0, 0, 0, 0, 0, 0, 0, 0, 0, 0, 0, 0, 0, 0, 0, 0, 0, 0, 0, 279, 43, 45, 42, 47, 37, 280, 281, 60, 62, 61, 277, 276, 278, 275]
/-- a code of the reference as the class has it -/
def tk (s v : Int) : Int := if s = 0 then 1000 + v else tkL.getD s.toNat 0
/-- where the reference keeps a word -/
def us (op : Int) : Nat := if op = 268 then 1 else if op = 269 then 2 else if op = 257 then 3 else if op = 258 then 4 else if op = 270 then 5 else if op = 271 then 6 else if op = 272 then 7 else if op = 273 then 8 else if op = 260 then 9 else 10
def envM (μ : m_M) : Int → Int := fun op => μ 34 57 (us op)
def tkB (x : Int) (j : Nat) : Bool := x == 0 || (decide (1 ≤ j ∧ j ≤ 10) && decide (us x = j) && decide (256 ≤ x ∧ x < 275)) || (j == 30 && x == 279) || (j == 43 && x == 278) || (j == 44 && x == 275) || (decide (31 ≤ j ∧ j ≤ 42) && (p_ar x || p_cm x || p_lo x) && decide (x < 1000 ∧ ¬ x = 279 ∧ ¬ x = 278 ∧ ¬ x = 275))
theorem tkB_all : ∀ j, j < 45 → j ≠ 0 → tkB (tkL.getD j 0) j = true := by decide +kernel
theorem tk_big {s : Nat} (h : 45 ≤ s) : tkL.getD s 0 = 0 := by rw [List.getD_eq_getElem?_getD, List.getElem?_eq_none (show tkL.length ≤ s from h)]; rfl
theorem t1_zero (q : Nat) (ts : List Bool) : t1 q 0 ts = none := by
  simp [t1, p_ar, p_cm, p_lo, p_fw]
/-- which codes there are -/
theorem tk_cases {q : Nat} {s v : Int} {ts ts' : List Bool} (hv : s = 0 → 0 ≤ v) (ht : t1 q (tk s v) ts = some ts') : (s = 0 ∧ tk s v = 1000 + v ∧ 0 ≤ v) ∨ (∃ j : Nat, s = (j : Int) ∧ 1 ≤ j ∧ j ≤ 10 ∧ us (tk s v) = j ∧ tk s v < 1000 ∧ 256 ≤ tk s v ∧ (tk s v < 275)) ∨ (s = 30 ∧ tk s v = 279) ∨ (s = 43 ∧ tk s v = 278) ∨ (s = 44 ∧ tk s v = 275) ∨ (31 ≤ s ∧ s ≤ 42 ∧ (p_ar (tk s v) || p_cm (tk s v) || p_lo (tk s v)) = true ∧ tk s v < 1000 ∧ ¬ tk s v = 279 ∧ ¬ tk s v = 278 ∧ ¬ tk s v = 275) := by
  by_cases h0 : s = 0
  · subst h0; exact Or.inl ⟨rfl, rfl, hv rfl⟩
  have e : tk s v = tkL.getD s.toNat 0 := by unfold tk; rw [if_neg h0]
  by_cases hneg : s < 0
  · rw [e, show s.toNat = 0 by omega] at ht
    exact absurd ht (by rw [show tkL.getD 0 0 = 0 from rfl, t1_zero]; simp)
  by_cases hbig : 45 ≤ s.toNat
  · rw [e, tk_big hbig, t1_zero] at ht; cases ht
  obtain ⟨j, rfl⟩ : ∃ j : Nat, s = (j : Int) := ⟨s.toNat, by omega⟩
  rw [Int.toNat_natCast] at e hbig
  rw [e] at ht ⊢
  have k := tkB_all j (by omega) (by omega)
  simp only [tkB, Bool.or_eq_true, Bool.and_eq_true, decide_eq_true_eq, beq_iff_eq] at k
  rcases k with ((((k | k) | k) | k) | k) | k
  · rw [k, t1_zero] at ht; cases ht
  · exact Or.inr (Or.inl ⟨j, rfl, k.1.1.1, k.1.1.2, k.1.2, by omega, k.2.1, k.2.2⟩)
  · exact Or.inr (Or.inr (Or.inl ⟨by omega, k.2⟩))
  · exact Or.inr (Or.inr (Or.inr (Or.inl ⟨by omega, k.2⟩)))
  · exact Or.inr (Or.inr (Or.inr (Or.inr (Or.inl ⟨by omega, k.2⟩))))
  · exact Or.inr (Or.inr (Or.inr (Or.inr (Or.inr ⟨by omega, by omega, by simp only [Bool.or_eq_true]; exact k.1.2, k.2.1, k.2.2.1, k.2.2.2.1, k.2.2.2.2⟩))))
set_option maxRecDepth 20000 in
theorem c_two {G : m_G} {d : Nat} {μ : m_M} {s a b : Int} (hs : 31 ≤ s ∧ s ≤ 42) (ha : -1000000 ≤ a ∧ a ≤ 1000000) (hb : -1000000 ≤ b ∧ b ≤ 1000000) (hl : 41 ≤ s → (a = 0 ∨ a = 1) ∧ (b = 0 ∨ b = 1)) {K : Int → m_M → Prop} (h : K (p2 (tk s 0) a b) μ) : c_l G (d + 2) YX12_two [vI s, vJ a, vJ b] μ K := by
  have hm := mul_bd ha hb
  refine EX12_two ⟨fun e => ?_, fun e => ?_, fun e => ?_, fun e => ?_, fun e => ?_, fun e => ?_, fun e => ?_, fun e => ?_, fun e => ?_, fun e => ?_, fun e => ?_, fun e => ?_⟩
  · subst e
    rw [show tk 31 0 = 43 from rfl, p2_43] at h
    rw [w64_le (by omega) (by omega)]
    exact c_within h
  · subst e
    rw [show tk 32 0 = 45 from rfl, p2_45] at h
    rw [w64_le (by omega) (by omega)]
    exact c_within h
  · subst e
    rw [show tk 33 0 = 42 from rfl, p2_42] at h
    rw [w64_le (by omega) (by omega)]
    exact c_within h
  · subst e
    rw [show tk 34 0 = 47 from rfl, p2_47] at h
    exact c_floor ha (c_within h)
  · subst e
    rw [show tk 35 0 = 37 from rfl, p2_37] at h
    refine ⟨fun c => c_floor ha ?_, fun c => ?_⟩
    · rw [l_cmp_eq] at c
      unfold p_mod at h
      rw [if_neg c] at h
      have hd := p_div_bd (b := b) ha
      have h2 : -2000000000000 ≤ b * p_div a b ∧ b * p_div a b ≤ 2000000000000 := by
        have h1 : (b * p_div a b).natAbs ≤ 1000000 * 1000001 := by rw [Int.natAbs_mul]; exact Nat.mul_le_mul (by omega) (by omega)
        omega
      rw [w64_le (z := b * p_div a b) (by omega) (by omega), w64_le (by omega) (by omega)]
      exact c_within h
    · rw [l_cmp_eq] at c
      unfold p_mod at h
      rw [if_pos c] at h
      exact h
  · subst e
    rw [show tk 36 0 = 280 from rfl, p2_280] at h
    refine ⟨fun c => ?_, fun c => ?_⟩
    · rw [l_cmp_ge] at c
      by_cases q : b < a
      · rw [if_pos q] at h; exact h
      · rw [if_neg q, show a = b by omega] at h; exact h
    · rw [l_cmp_ge] at c; rw [if_neg (by omega)] at h; exact h
  · subst e
    rw [show tk 37 0 = 281 from rfl, p2_281] at h
    refine ⟨fun c => ?_, fun c => ?_⟩
    · rw [l_cmp_le] at c
      by_cases q : a < b
      · rw [if_pos q] at h; exact h
      · rw [if_neg q, show a = b by omega] at h; exact h
    · rw [l_cmp_le] at c; rw [if_neg (by omega)] at h; exact h
  · subst e
    rw [show tk 38 0 = 60 from rfl, p2_60] at h
    exact ⟨fun c => by rw [l_cmp_ge] at c; rw [if_neg (by omega)] at h; exact h, fun c => by rw [l_cmp_ge] at c; rw [if_pos (by omega)] at h; exact h⟩
  · subst e
    rw [show tk 39 0 = 62 from rfl, p2_62] at h
    exact ⟨fun c => by rw [l_cmp_le] at c; rw [if_neg (by omega)] at h; exact h, fun c => by rw [l_cmp_le] at c; rw [if_pos (by omega)] at h; exact h⟩
  · subst e
    rw [show tk 40 0 = 61 from rfl, p2_61] at h
    exact ⟨fun c => by rw [l_cmp_eq] at c; rw [if_neg c] at h; exact h, fun c => by rw [l_cmp_eq] at c; rw [if_pos c] at h; exact h⟩
  · subst e
    rw [show tk 41 0 = 277 from rfl, p2_277] at h
    rw [l_and01 (hl (by omega)).1 (hl (by omega)).2]; exact h
  · have e : s = 42 := by omega
    subst e
    rw [show tk 42 0 = 276 from rfl, p2_276] at h
    rw [l_or01 (hl (by omega)).1 (hl (by omega)).2]; exact h
def offM (μ μ1 : m_M) : Prop := ∀ a b c, ¬ (a = 34 ∧ (b = 56 ∨ b = 57)) → μ1 a b c = μ a b c
theorem offM.rf (μ : m_M) : offM μ μ := fun _ _ _ _ => rfl
theorem offM.tr {μ μ1 μ2 : m_M} (h : offM μ μ1) (h2 : offM μ1 μ2) : offM μ μ2 := fun a b c ha => (h2 a b c ha).trans (h a b c ha)
theorem offM.up {μ : m_M} {b c : Nat} {v : Int} (hb : b = 56 ∨ b = 57) : offM μ (m_up μ 34 b c v) := fun a b' c' ha => m_up_ne _ _ (fun z => ha ⟨z.1, by rw [z.2.1]; exact hb⟩)
