/-! ===== the class reads a statement ===== -/
def STO (G : m_G) (T : Nat → Int) (L b e : Nat) (D : m_D) (CC : List Int) (r : PR (m_D × List Int)) : Prop :=
  (tTk T L e = 256 → r = if D.1.length = 8 then .inl (6, (tAt T L e : Int)) else sB (sChild T L D (tEn T L e)) (fun e x => .inr (e, ((D.1 ++ [x], D.2), CC)))) ∧
  (tTk T L e = 259 → r = if D.2.1.length = 3 then .inl (6, (tAt T L e : Int)) else sB (sKiln T L D (tEn T L e)) (fun e x => .inr (e, ((D.1, D.2.1 ++ [x], D.2.2), CC)))) ∧
  (∀ q : Nat, q < 4 → tTk T L e = 261 + (q : Int) → (D.2.2.2 q ≠ none → r = .inl (6, (tAt T L e : Int))) ∧ (D.2.2.2 q = none → FOK G T L b q (tEn T L e) D CC r)) ∧
  (∀ j : Nat, j < 3 → tTk T L e = 265 + (j : Int) → r = sB (sNum T L 0 (if j = 2 then 100 else 999) (tEn T L e)) (fun e x => .inr (e, (dYard D j x, CC)))) ∧
  (¬ tTk T L e = 256 → ¬ tTk T L e = 259 → (tTk T L e < 261 ∨ 267 < tTk T L e) → r = .inl (1, (tAt T L e : Int)))
def sSt (T : Nat → Int) (L n : Nat) (r : PR (m_D × List Int)) : PR (m_D × List Int) := sB r (fun e y => sB (sEnd T L n e) (fun e _ => .inr (e, y)))
section ST2
variable {G : m_G} {T : Nat → Int} {L t b e : Nat} {D : m_D} {CC : List Int}
theorem x_begins {d : Nat} {μ : m_M} {x : Int} {K : Int → m_M → Prop} (k1 : x = 256 ∨ x = 259 ∨ (261 ≤ x ∧ x ≤ 267) → K 1 μ) (k0 : ¬ (x = 256 ∨ x = 259 ∨ (261 ≤ x ∧ x ≤ 267)) → K 0 μ) : c_i G (d + 1) YX6_beginsStatement [vI x] μ K := by
  refine EX6_beginsStatement (fun X C R => ⟨fun z => VX6_beginsStatement_14 C R (k1 (Or.inl z)), fun z => ⟨fun z2 => ⟨fun z3 => k0 (by omega), fun z3 => ⟨fun z4 => k0 (by omega), fun z4 => k1 (by omega)⟩⟩, fun z2 => VX6_beginsStatement_14 C R (k1 (Or.inr (Or.inl z2)))⟩⟩)
theorem x_nomore {d : Nat} {μ : m_M} {x : Int} (ht : t = 32 ∨ t = 33) (hP : CPd μ t D) (hW : WFd D CC) {K : Int → m_M → Prop} (k1 : (x = 256 ∧ D.1.length = 8) ∨ (x = 259 ∧ D.2.1.length = 3) ∨ (∃ q : Nat, q < 4 ∧ x = 261 + (q : Int) ∧ D.2.2.2 q ≠ none) → K 1 μ) (k0 : (x = 256 → D.1.length < 8) → (x = 259 → D.2.1.length < 3) → (∀ q : Nat, q < 4 → x = 261 + (q : Int) → D.2.2.2 q = none) → K 0 μ) : c_i G (d + 3) YX10_hasNoMoreOf [vR t 0, vI x] μ K := by
  obtain ⟨p1, p2, p3, p6⟩ := hP
  obtain ⟨w1, w2, w3, w6⟩ := hW
  refine EX10_hasNoMoreOf (cls9 ht) ⟨fun z => ?_, fun z => ?_, fun z => ?_⟩
  · rw [p1.1]
    exact ⟨fun z2 => k0 (fun _ => by omega) (fun _ => by omega) (fun q _ _ => by omega), fun z2 => k1 (Or.inl ⟨z, by omega⟩)⟩
  · rw [p2.1]
    exact ⟨fun z2 => k0 (fun _ => by omega) (fun _ => by omega) (fun q _ _ => by omega), fun z2 => k1 (Or.inr (Or.inl ⟨z, by omega⟩))⟩
  · refine EX10_hasFormula (cls9 ht) (EX10_isFormula ⟨fun z2 => ⟨fun _ => ⟨Or.inl rfl, k0 (fun _ => by omega) (fun _ => by omega) (fun q _ _ => by omega)⟩, z0⟩, fun z2 => ⟨fun z3 => ⟨fun _ => ⟨Or.inl rfl, k0 (fun _ => by omega) (fun _ => by omega) (fun q _ _ => by omega)⟩, z0⟩, fun z3 => ⟨z1, fun _ => ?_⟩⟩⟩)
    obtain ⟨q, rfl⟩ : ∃ q : Nat, x = 261 + (q : Int) := ⟨(x - 261).toNat, by omega⟩
    have hq : q < 4 := by omega
    have hw : w32 (261 + (q : Int) - 261) = (q : Int) := by rw [w32_le (by omega) (by omega)]; omega
    rw [hw, Int.toNat_natCast]
    refine ⟨⟨by omega, by omega⟩, ⟨by omega, by omega⟩, fun z4 => ⟨Or.inl rfl, k0 (fun _ => by omega) (fun _ => by omega) (fun q' hq' e' => ?_)⟩, fun z4 => ⟨Or.inr rfl, k1 (Or.inr (Or.inr ⟨q, hq, rfl, fun y => ?_⟩))⟩⟩
    · have : q' = q := by omega
      subst this
      cases hD : D.2.2.2 q' with
      | none => rfl
      | some y =>
        have := (p6 q' hq).2 y hD
        have := w6 q' y hD
        omega
    · have := (p6 q hq).1 y
      omega
theorem x_statement {d n : Nat} {μ : m_M} (ht : t = 32 ∨ t = 33) (hN : NN t μ) (hn : n < 80) (h10 : μ t 0 10 = (n : Int)) (h : CU T L t D CC e μ) (hE : tTk T L e ≠ 284) {K : m_M → Prop} (kk : ∀ μ1 r, ofD t μ μ1 → STO G T L b e D CC r → CO T L t μ1 (sSt T L (n + 1) r) → (∀ y, sSt T L (n + 1) r = .inr y → μ1 t 0 10 = ((n + 1 : Nat) : Int)) → K μ1) : c_v G (d + 87) YX6_readStatement [vR 2 0] μ K := by
  have hT := h.2.2.2.2.2
  have hf := hT.1
  have fin : ∀ (μ1 : m_M) (r : PR (m_D × List Int)), ofD t μ μ1 → μ1 t 0 10 = (n : Int) → CO T L t μ1 r → STO G T L b e D CC r → c_v G (d + 86) YX6_endStatement [vR 2 0] μ1 (fun μ2 => K μ2) := fun μ1 r f1 c1 o1 s1 => by
    cases r with
    | inl x => exact f_end (d := d + 81) (k := x.1) (p := x.2) o1.2 (kk μ1 (.inl x) f1 s1 o1 (fun y hy => by cases hy))
    | inr y =>
      refine x_end (d := d + 81) (D := y.2.1) (CC := y.2.2) (e := y.1) ht o1.1 hn c1 o1.2 (fun μ2 f2 c2 o2 => kk μ2 (.inr y) (f1.tr f2) s1 o2 (fun z hz => ?_))
      have hz : sB (sEnd T L (n + 1) y.1) (fun e _ => .inr (e, y.2)) = .inr z := hz
      cases hs : sEnd T L (n + 1) y.1 with
      | inl x => rw [hs] at hz; cases hz
      | inr w => exact c2 w hs
  refine EX6_readStatement (fun X C R x1 e1 => ?_)
  rw [hT.2.2.1] at e1
  have finN : ¬ (261 ≤ x1 ∧ x1 ≤ 264) → ∀ (μ1 : m_M) (r : PR (m_D × List Int)), ofD t μ μ1 → μ1 t 0 10 = (n : Int) → CO T L t μ1 r → STO G T L b e D CC r → mW G X YX6_readStatement μ1 195 [some (vR 2 0), some (vI x1)] [] := fun hx μ1 r f1 c1 o1 s1 => by
    refine VX6_readStatement_195 C R (c_isFormula (d := d + 85) ?_)
    rw [if_neg hx]
    exact ⟨fun _ => fin μ1 r f1 c1 o1 s1, z0⟩
  refine x_begins (d := d + 85) (fun hb => ⟨fun _ => ⟨t, h.1.2.2.1, cls9 ht, x_nomore (d := d + 83) ht h.2.2.1.1 h.2.2.1.2 (fun hm => ⟨z1, fun _ => ?_⟩) (fun m1 m2 m3 => ⟨fun _ => ?_, z0⟩)⟩, z1⟩) (fun hb => ⟨z0, fun _ => ?_⟩)
  · rw [hT.2.1]
    refine u_fail (d := d + 85) h (by decide) (fun μ1 f1 g1 => kk μ1 (.inl (6, (tAt T L e : Int))) (ofD.r3 f1) ?_ ⟨hN.r3 ht f1, g1⟩ (fun y hy => by cases hy))
    refine ⟨fun z => ?_, fun z => ?_, fun q hq z => ⟨fun _ => rfl, fun z2 => ?_⟩, fun j hj z => ?_, fun z z2 z3 => by clear hm; omega⟩
    · rcases hm with y | y | ⟨q, y1, y2, y3⟩
      · rw [if_pos y.2]
      · omega
      · omega
    · rcases hm with y | y | ⟨q, y1, y2, y3⟩
      · omega
      · rw [if_pos y.2]
      · omega
    · rcases hm with y | y | ⟨q', y1, y2, y3⟩
      · omega
      · omega
      · have : q' = q := by omega
        subst this
        exact absurd z2 y3
    · rcases hm with y | y | ⟨q', y1, y2, y3⟩
      · omega
      · omega
      · omega
  · refine u_next (d := d + 83) h hE (fun μ1 f1 g1 => ?_)
    have n1 := hN.r3 ht f1
    have c1 : μ1 t 0 10 = (n : Int) := by rw [f1 t 0 10 (by omega)]; exact h10
    have yard : ∀ j : Nat, j < 3 → x1 = 265 + (j : Int) → ∀ hi : Int, hi = (if j = 2 then 100 else 999) → c_i G (d + 86) YX6_number [vR 2 0, vI 0, vI hi] μ1 (fun r16 μ15 => ∀ μ17 : m_M, μ17 = m_up μ15 t 0 (7 + j) r16 → mW G X YX6_readStatement μ17 195 [some (vR 2 0), some (vI x1)] []) := fun j hj ex hi hhi => by
      refine x_yard (d := d + 82) ht hj hhi n1 g1 (fun μ2 f2 c2 o2 => finN (by omega) μ2 _ ((ofD.r3 f1).tr f2) (by rw [c2]; exact c1) o2 ?_)
      refine ⟨fun z => by omega, fun z => by omega, fun q hq z => by omega, fun j' hj' z => ?_, fun z z2 z3 => by omega⟩
      have : j' = j := by omega
      subst this
      rw [hhi]
    refine ⟨fun z => ?_, fun z => ?_, fun z => ?_, fun z => ?_, fun z => ?_, fun z => ?_⟩
    · refine x_child (d := d + 81) ht n1 (m1 z) g1 (fun μ2 f2 c2 o2 => finN (by omega) μ2 _ ((ofD.r3 f1).tr f2) (by rw [c2]; exact c1) o2 ?_)
      refine ⟨fun _ => ?_, fun z => by omega, fun q hq z => by omega, fun j hj z => by omega, fun z z2 z3 => by omega⟩
      rw [if_neg (by have := m1 z; omega)]
    · refine x_kiln (d := d + 81) ht n1 (m2 z) g1 (fun μ2 f2 c2 o2 => finN (by omega) μ2 _ ((ofD.r3 f1).tr f2) (by rw [c2]; exact c1) o2 ?_)
      refine ⟨fun z => by omega, fun _ => ?_, fun q hq z => by omega, fun j hj z => by omega, fun z z2 z3 => by omega⟩
      rw [if_neg (by have := m2 z; omega)]
    · exact ⟨t, g1.h21, cls9 ht, yard 0 (by decide) z 999 rfl⟩
    · exact ⟨t, g1.h21, cls9 ht, yard 1 (by decide) z 999 rfl⟩
    · exact ⟨t, g1.h21, cls9 ht, yard 2 (by decide) z 100 rfl⟩
    · obtain ⟨q, hqe⟩ : ∃ q : Nat, x1 = 261 + (q : Int) := ⟨(x1 - 261).toNat, by omega⟩
      have hq : q < 4 := by omega
      rw [hqe]
      refine VX6_readStatement_195 C R (c_isFormula (d := d + 85) ?_)
      rw [if_pos (by omega)]
      refine ⟨z1, fun _ => x_form (d := d + 2) (b := b) (K := fun μ9 => c_v G (d + 86) YX6_endStatement [vR 2 0] μ9 (fun μ10 => K μ10)) ht hq n1 g1 (fun μ2 r f2 c2 o2 fo => fin μ2 r ((ofD.r3 f1).tr f2) (by rw [c2]; exact c1) o2 ?_)⟩
      refine ⟨fun z => by omega, fun z => by omega, fun q' hq' z' => ?_, fun j hj z => by omega, fun z z2 z3 => by omega⟩
      have : q' = q := by omega
      subst this
      exact ⟨fun y => absurd (m3 q' hq hqe) y, fun _ => fo⟩
  · rw [hT.2.1]
    refine u_fail (d := d + 85) h (by decide) (fun μ1 f1 g1 => kk μ1 (.inl (1, (tAt T L e : Int))) (ofD.r3 f1) ?_ ⟨hN.r3 ht f1, g1⟩ (fun y hy => by cases hy))
    exact ⟨fun z => by omega, fun z => by omega, fun q hq z => by omega, fun j hj z => by omega, fun _ _ _ => rfl⟩
end ST2
