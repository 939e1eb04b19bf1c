/-! ===== the class reads a statement ===== -/
def STO (G : m_G) (T : Nat → Int) (L b e : Nat) (D : m_D) (CC : List Int) (r : PR (m_D × List Int)) : Prop :=
  (tTk T L e = 256 → r = if D.1.length = 8 then .inl (6, (tAt T L e : Int)) else sB (sChild T L D (tEn T L e)) (fun e x => .inr (e, ((D.1 ++ [x], D.2), CC)))) ∧
  (tTk T L e = 259 → r = if D.2.1.length = 3 then .inl (6, (tAt T L e : Int)) else sB (sKiln T L D (tEn T L e)) (fun e x => .inr (e, ((D.1, D.2.1 ++ [x], D.2.2), CC)))) ∧
  (∀ q, q < 4 → tTk T L e = 261 + (q : Int) → (D.2.2.2 q ≠ none → r = .inl (6, (tAt T L e : Int))) ∧ (D.2.2.2 q = none → FOK G T L b q (tEn T L e) D CC r)) ∧
  (∀ j, j < 3 → tTk T L e = 265 + (j : Int) → r = sB (sNum T L 0 (if j = 2 then 100 else 999) (tEn T L e)) (fun e x => .inr (e, (dYard D j x, CC)))) ∧
  (¬ tTk T L e = 256 → ¬ tTk T L e = 259 → (tTk T L e < 261 ∨ 267 < tTk T L e) → r = .inl (1, (tAt T L e : Int)))
def sSt (T : Nat → Int) (L n : Nat) (r : PR (m_D × List Int)) : PR (m_D × List Int) := sB r (fun e y => sB (sEnd T L n e) (fun e _ => .inr (e, y)))
section ST2
variable {G : m_G} {T : Nat → Int} {L t b e : Nat} {D : m_D} {CC : List Int}
theorem x_begins {d : Nat} {μ : m_M} {x : Int} {K : Int → m_M → Prop} (k1 : x = 256 ∨ x = 259 ∨ (261 ≤ x ∧ x ≤ 267) → K 1 μ) (k0 : ¬ (x = 256 ∨ x = 259 ∨ (261 ≤ x ∧ x ≤ 267)) → K 0 μ) : c_i G (d + 1) YX6_beginsStatement [vI x] μ K := by
  refine EX6_beginsStatement (fun X C R => ⟨fun z => VX6_beginsStatement_14 C R (k1 (Or.inl z)), fun z => ⟨fun z2 => ⟨fun z3 => k0 (by omega), fun z3 => ⟨fun z4 => k0 (by omega), fun z4 => k1 (by omega)⟩⟩, fun z2 => VX6_beginsStatement_14 C R (k1 (Or.inr (Or.inl z2)))⟩⟩)
end ST2
