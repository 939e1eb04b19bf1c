/-! ===== a firing as a whole ===== -/
/-- how many crack, from place p on, of r places -/
def sCnt (A : m_T) (B : Nat → Nat → Int) (kn : Nat) (heat : Int) : Nat → Nat → Int
  | 0, _ => 0
  | r + 1, p => (if b_who B kn p = -1 then 0 else sCrk A B heat (b_who B kn p).toNat) + sCnt A B kn heat r (p + 1)
theorem sCnt_in (A : m_T) (B : Nat → Nat → Int) (kn : Nat) (heat : Int) : ∀ r p, 0 ≤ sCnt A B kn heat r p ∧ sCnt A B kn heat r p ≤ r := by
  intro r
  induction r with
  | zero => intro p; unfold sCnt; omega
  | succ r ih =>
    intro p
    have := ih (p + 1)
    unfold sCnt sCrk
    split
    · omega
    · split <;> omega
theorem sS_0 {A : m_T} {B : Nat → Nat → Int} {kn : Nat} {heat : Int} (hp : ∀ c, c < 8 → B 3 c = (kn : Int) → 0 ≤ B 4 c) : sS A B kn heat 0 = B := by
  funext k i
  by_cases h : i < 8 ∧ B 3 i = (kn : Int)
  · have h4 := hp i h.1 h.2
    rw [sS_in h]; simp only [if_neg (show ¬ B 4 i < 0 by omega)]
    have e7 : s7 A B kn heat 0 i = B 7 i := by unfold s7; rw [if_neg (by omega), if_neg (by omega)]
    rw [e7]
    by_cases k3 : k = 3 ∨ k = 4
    · rw [if_pos k3]
    rw [if_neg k3]
    by_cases k5 : k = 5
    · rw [if_pos k5, k5]
    rw [if_neg k5]
    by_cases k6 : k = 6
    · rw [if_pos k6, k6]
    rw [if_neg k6]
    by_cases k7 : k = 7
    · rw [if_pos k7, k7]
    rw [if_neg k7]
  · exact sS_out h k
theorem p_fa_eq {A : m_T} {B : Nat → Nat → Int} {kn : Nat} {heat : Int} (hu : uniq B kn) (hp : ∀ c, c < 8 → B 3 c = (kn : Int) → 0 ≤ B 4 c) : ∀ (r p : Nat) (n left : Int), left = b_who B kn ((p : Int) - 1) → p_fa A kn heat r p (sS A B kn heat p) n left = (sS A B kn heat ((p + r : Nat) : Int), n + sCnt A B kn heat r p) := by
  intro r
  induction r with
  | zero => intro p n left hl; unfold p_fa sCnt; rw [Int.add_zero]; rfl
  | succ r ih =>
    intro p n left hl
    unfold p_fa sCnt
    rw [sS_who hu]
    have ep : (p : Int) + 1 = ((p + 1 : Nat) : Int) := by omega
    rcases b_who_spec B kn p with ⟨q1, q2⟩ | ⟨c, q1, q2, q3, q4, -⟩
    · rw [if_pos q1, if_pos q1, ← sS_none q1, ep]
      rw [ih (p + 1) n (-1) (by rw [show ((p + 1 : Nat) : Int) - 1 = (p : Int) by omega, q1])]
      rw [show p + (r + 1) = p + 1 + r by omega, Int.zero_add]
    · have qn : ¬ b_who B kn p = -1 := by omega
      rw [if_neg qn, if_neg qn, q1, Int.toNat_natCast]
      have hs := sS_some (A := A) (heat := heat) hu q2 q3 q4
      rw [← hl] at hs
      rw [← hs, ep]
      have o6 : p_one A (sS A B kn heat p) c heat 6 c = sCrk A B heat c := by
        rw [p_one_6, sS_k (k := 0) (Or.inl (by decide)), sS_in ⟨q2, q3⟩, if_pos (Or.inr rfl), if_neg (show ¬ B 4 c < (p : Int) by omega)]
        rfl
      rw [o6, ih (p + 1) _ c (by rw [show ((p + 1 : Nat) : Int) - 1 = (p : Int) by omega, q1])]
      rw [show p + (r + 1) = p + 1 + r by omega, Int.add_assoc]
theorem p_fa_all {A : m_T} {B : Nat → Nat → Int} {kn : Nat} {heat : Int} (hu : uniq B kn) (hp : ∀ c, c < 8 → B 3 c = (kn : Int) → 0 ≤ B 4 c) (r : Nat) : p_fa A kn heat r 0 B 0 (-1) = (sS A B kn heat (r : Int), sCnt A B kn heat r 0) := by
  have := p_fa_eq (A := A) (heat := heat) hu hp r 0 0 (-1) (by
    symm
    refine who_m (fun c hc z => ?_)
    have := hp c hc z.1
    have := z.2
    omega)
  rw [show ((0 : Nat) : Int) = 0 from rfl, sS_0 hp, Nat.zero_add, Int.zero_add] at this
  exact this
