/-! ===== town, on both sides ===== -/
def inU (b y z : Nat) : Prop := (y = 0 ∧ ((1 ≤ z ∧ z ≤ 13) ∨ z = 28 ∨ z = 29 ∨ z = 30 ∨ z = 36 ∨ z = 37 ∨ z = 39 ∨ z = 40)) ∨ (32 ≤ y ∧ y ≤ 36) ∨ y = 39 ∨ ((y = 25 ∨ y = 26) ∧ 1600 * b ≤ z ∧ z < 1600 * b + 1600) ∨ ((y = 15 ∨ y = 18 ∨ y = 20 ∨ y = 21 ∨ y = 22) ∧ z = b) ∨ ((y = 16 ∨ y = 17 ∨ y = 27) ∧ 8 * b ≤ z ∧ z < 8 * b + 8) ∨ ((y = 19 ∨ y = 28) ∧ 3 * b ≤ z ∧ z < 3 * b + 3) ∨ ((y = 23 ∨ y = 24) ∧ 4 * b ≤ z ∧ z < 4 * b + 4)
def ofU (b : Nat) (μ μ1 : m_M) : Prop := ∀ x y z, ¬ (x = 34 ∧ inU b y z) → μ1 x y z = μ x y z
theorem ofT.U {b : Nat} {μ μ1 : m_M} (h : ofT b μ μ1) : ofU b μ μ1 := fun x y z a => h x y z (fun q => a ⟨q.1, by
  obtain ⟨_, q⟩ := q
  unfold inU
  omega⟩)
theorem ofU.tr {b : Nat} {μ μ1 μ2 : m_M} (h : ofU b μ μ1) (h2 : ofU b μ1 μ2) : ofU b μ μ2 := fun x y z a => (h2 x y z a).trans (h x y z a)
theorem ofU.up {b : Nat} {μ : m_M} {y z : Nat} {v : Int} (h : inU b y z) : ofU b μ (m_up μ 34 y z v) := fun x' y' z' a => m_up_ne _ _ (fun q => a ⟨q.1, by rw [q.2.1, q.2.2]; exact h⟩)
def MPr (L b : Nat) (μ ν : m_M) : Prop := (∀ x y z, ¬ (x = 34 ∧ ((y = 0 ∧ ((1 ≤ z ∧ z ≤ 9) ∨ z = 29)) ∨ ((y = 15 ∨ y = 18 ∨ y = 20 ∨ y = 21 ∨ y = 22) ∧ z = b))) → ν x y z = μ x y z) ∧ (ν 34 0 1 = 0 ∧ ν 34 0 2 = (L : Int) ∧ ν 34 0 5 = 0 ∧ ν 34 0 8 = 0 ∧ ν 34 0 9 = -1 ∧ ν 34 0 29 = (b : Int)) ∧ (ν 34 15 b = 0 ∧ ν 34 18 b = 0 ∧ ν 34 20 b = 0 ∧ ν 34 21 b = 0 ∧ ν 34 22 b = 0)
section TW
variable {G : m_G} {T : Nat → Int} {L b b0 : Nat}
/-- the first six writes -/
theorem mt_six {μ μ1 μ2 μ3 μ4 μ5 μ6 : m_M} (h1 : μ 34 0 1 = (L : Int)) (e1 : μ1 = m_up μ 34 0 2 (μ 34 0 1)) (e2 : μ2 = m_up μ1 34 0 1 0) (e3 : μ3 = m_up μ2 34 0 5 0) (e4 : μ4 = m_up μ3 34 0 8 0) (e5 : μ5 = m_up μ4 34 0 9 (-1)) (e6 : μ6 = m_up μ5 34 0 29 (b : Int)) : (∀ x y z, ¬ (x = 34 ∧ y = 0 ∧ ((1 ≤ z ∧ z ≤ 9) ∨ z = 29)) → μ6 x y z = μ x y z) ∧ (μ6 34 0 1 = 0 ∧ μ6 34 0 2 = (L : Int) ∧ μ6 34 0 5 = 0 ∧ μ6 34 0 8 = 0 ∧ μ6 34 0 9 = -1 ∧ μ6 34 0 29 = (b : Int)) := by
  refine ⟨fun x y z a => ?_, ?_, ?_, ?_, ?_, ?_, ?_⟩
  · rw [e6, m_up_ne _ _ (by omega), e5, m_up_ne _ _ (by omega), e4, m_up_ne _ _ (by omega), e3, m_up_ne _ _ (by omega), e2, m_up_ne _ _ (by omega), e1, m_up_ne _ _ (by omega)]
  · rw [e6, m_up_ne _ _ (by decide), e5, m_up_ne _ _ (by decide), e4, m_up_ne _ _ (by decide), e3, m_up_ne _ _ (by decide), e2, m_up_at]
  · rw [e6, m_up_ne _ _ (by decide), e5, m_up_ne _ _ (by decide), e4, m_up_ne _ _ (by decide), e3, m_up_ne _ _ (by decide), e2, m_up_ne _ _ (by decide), e1, m_up_at]; exact h1
  · rw [e6, m_up_ne _ _ (by decide), e5, m_up_ne _ _ (by decide), e4, m_up_ne _ _ (by decide), e3, m_up_at]
  · rw [e6, m_up_ne _ _ (by decide), e5, m_up_ne _ _ (by decide), e4, m_up_at]
  · rw [e6, m_up_ne _ _ (by decide), e5, m_up_at]
  · rw [e6, m_up_at]
/-- the five counts -/
theorem mt_five {μ6 μ7 μ8 μ9 μ10 μ11 : m_M} (e7 : μ7 = m_up μ6 34 15 b 0) (e8 : μ8 = m_up μ7 34 18 b 0) (e9 : μ9 = m_up μ8 34 20 b 0) (e10 : μ10 = m_up μ9 34 21 b 0) (e11 : μ11 = m_up μ10 34 22 b 0) : (∀ x y z, ¬ (x = 34 ∧ (y = 15 ∨ y = 18 ∨ y = 20 ∨ y = 21 ∨ y = 22) ∧ z = b) → μ11 x y z = μ6 x y z) ∧ (μ11 34 15 b = 0 ∧ μ11 34 18 b = 0 ∧ μ11 34 20 b = 0 ∧ μ11 34 21 b = 0 ∧ μ11 34 22 b = 0) := by
  refine ⟨fun x y z a => ?_, ?_, ?_, ?_, ?_, ?_⟩
  · rw [e11, m_up_ne _ _ (by omega), e10, m_up_ne _ _ (by omega), e9, m_up_ne _ _ (by omega), e8, m_up_ne _ _ (by omega), e7, m_up_ne _ _ (by omega)]
  · rw [e11, m_up_ne _ _ (by omega), e10, m_up_ne _ _ (by omega), e9, m_up_ne _ _ (by omega), e8, m_up_ne _ _ (by omega), e7, m_up_at]
  · rw [e11, m_up_ne _ _ (by omega), e10, m_up_ne _ _ (by omega), e9, m_up_ne _ _ (by omega), e8, m_up_at]
  · rw [e11, m_up_ne _ _ (by omega), e10, m_up_ne _ _ (by omega), e9, m_up_at]
  · rw [e11, m_up_ne _ _ (by omega), e10, m_up_at]
  · rw [e11, m_up_at]
theorem mt_pre {d : Nat} {μ : m_M} {K : Int → m_M → Prop} (hb : b0 + b = 1) (h13 : μ 34 0 13 = (b0 : Int)) (h1 : μ 34 0 1 = (L : Int)) (k : ∀ X : m_X, mC G X YX12_town (d + 1) → r_i G X K → ∀ ν, MPr L b μ ν → mW G X YX12_town ν 95 [some (vR 34 0), some (vI ((4 * b + 0 : Nat) : Int))] []) : c_i G (d + 1) YX12_town [vR 34 0] μ K := by
  refine EX12_town (fun X C R' μ1 e1 μ2 e2 μ3 e3 μ4 e4 μ5 e5 μ6 e6 => ?_)
  have a13 : μ5 34 0 13 = (b0 : Int) := by rw [e5, m_up_ne _ _ (by decide), e4, m_up_ne _ _ (by decide), e3, m_up_ne _ _ (by decide), e2, m_up_ne _ _ (by decide), e1, m_up_ne _ _ (by decide)]; exact h13
  rw [a13, show w32 (1 - (b0 : Int)) = (b : Int) by rw [w32_le (by omega) (by omega)]; omega] at e6
  obtain ⟨f6, s6⟩ := mt_six h1 e1 e2 e3 e4 e5 e6
  have bd : 0 ≤ (b : Int) ∧ (b : Int) < 2 := by omega
  have v29 := s6.2.2.2.2.2
  rw [v29, Int.toNat_natCast]
  refine ⟨bd, fun μ7 e7 => ?_⟩
  have w29 : μ7 34 0 29 = (b : Int) := by rw [e7, m_up_ne _ _ (fun q => absurd q.2.1 (by decide))]; exact v29
  rw [w29, Int.toNat_natCast]
  refine ⟨bd, fun μ8 e8 => ?_⟩
  have x29 : μ8 34 0 29 = (b : Int) := by rw [e8, m_up_ne _ _ (fun q => absurd q.2.1 (by decide))]; exact w29
  rw [x29, Int.toNat_natCast]
  refine ⟨bd, fun μ9 e9 => ?_⟩
  have y29 : μ9 34 0 29 = (b : Int) := by rw [e9, m_up_ne _ _ (fun q => absurd q.2.1 (by decide))]; exact x29
  rw [y29, Int.toNat_natCast]
  refine ⟨bd, fun μ10 e10 => ?_⟩
  have z29 : μ10 34 0 29 = (b : Int) := by rw [e10, m_up_ne _ _ (fun q => absurd q.2.1 (by decide))]; exact y29
  rw [z29, Int.toNat_natCast]
  refine ⟨bd, fun μ11 e11 x12 ex => ?_⟩
  have u29 : μ11 34 0 29 = (b : Int) := by rw [e11, m_up_ne _ _ (fun q => absurd q.2.1 (by decide))]; exact z29
  rw [u29, show w32 (4 * (b : Int)) = ((4 * b + 0 : Nat) : Int) by rw [w32_le (by omega) (by omega)]; omega] at ex
  subst ex
  obtain ⟨f11, s11⟩ := mt_five e7 e8 e9 e10 e11
  have k0 : ∀ z, μ11 34 0 z = μ6 34 0 z := fun z => f11 34 0 z (fun q => by have := q.2.1; omega)
  refine k X C R' μ11 ⟨fun x y z a => ?_, ?_, s11⟩
  · rw [f11 x y z (fun q => a ⟨q.1, Or.inr q.2⟩), f6 x y z (fun q => a ⟨q.1, Or.inl q.2⟩)]
  · rw [k0, k0, k0, k0, k0, k0]; exact s6
/-- behind the laws' beginnings -/
def MPs (L b : Nat) (μ ν : m_M) : Prop := ∃ ν0, MPr L b μ ν0 ∧ (∀ x y z, ¬ (x = 34 ∧ y = 23 ∧ 4 * b ≤ z ∧ z < 4 * b + 4) → ν x y z = ν0 x y z) ∧ ∀ j, j < 4 → ν 34 23 (4 * b + j) = -1
theorem mt_95 {d : Nat} {X : m_X} {K : Int → m_M → Prop} (C : mC G X YX12_town (d + 1)) (R' : r_i G X K) {μ : m_M} (hb : b ≤ 1) (k : ∀ ν, MPs L b μ ν → ∀ ν1, ν1 = m_up ν 34 0 28 0 → c_v G d YX12_ahead [vR 34 0] ν1 (fun μ3 => mW G X YX12_town μ3 131 [some (vR 34 0), some (vI 0)] [])) {ν0 : m_M} (h0 : MPr L b μ ν0) : mW G X YX12_town ν0 95 [some (vR 34 0), some (vI ((4 * b + 0 : Nat) : Int))] [] := by
  have w4 : w32 (w32 (4 * (b : Int)) + 4) = ((4 * b + 4 : Nat) : Int) := by rw [w32_le (z := 4 * (b : Int)) (by omega) (by omega), w32_le (by omega) (by omega)]; omega
  have u29 : ν0 34 0 29 = (b : Int) := h0.2.1.2.2.2.2.2
  have LL : ∀ (r i : Nat), i + r = 4 → ∀ ν, (∀ x y z, ¬ (x = 34 ∧ y = 23 ∧ 4 * b ≤ z ∧ z < 4 * b + 4) → ν x y z = ν0 x y z) → (∀ j, j < i → ν 34 23 (4 * b + j) = -1) → mW G X YX12_town ν 95 [some (vR 34 0), some (vI ((4 * b + i : Nat) : Int))] [] := by
    intro r
    induction r with
    | zero =>
      intro i hi ν fν vν
      have n29 : ν 34 0 29 = (b : Int) := by rw [fν 34 0 29 (fun q => absurd q.2.1 (by decide))]; exact u29
      refine VX12_town_95 C R' ?_
      rw [n29, w4]
      exact ⟨fun _ ν1 u1 => k ν ⟨ν0, h0, fν, fun j hj => vν j (by omega)⟩ ν1 u1, fun z => absurd (by omega) z⟩
    | succ r ih =>
      intro i hi ν fν vν
      have n29 : ν 34 0 29 = (b : Int) := by rw [fν 34 0 29 (fun q => absurd q.2.1 (by decide))]; exact u29
      refine VX12_town_95 C R' ?_
      rw [n29, w4, Int.toNat_natCast]
      refine ⟨fun z => absurd z (by omega), fun _ => ⟨⟨by omega, by omega⟩, fun ν1 u1 x5 e5 => ?_⟩⟩
      rw [w32_s (by omega), show 4 * b + i + 1 = 4 * b + (i + 1) by omega] at e5
      subst e5
      refine ih (i + 1) (by omega) ν1 (fun x y z a => by rw [u1, m_up_ne _ _ (by omega)]; exact fν x y z a) (fun j hj => ?_)
      by_cases y : j = i
      · subst y; rw [u1, m_up_at]
      · rw [u1, m_up_ne _ _ (by omega)]; exact vν j (by omega)
  exact LL 4 0 (by omega) ν0 (fun _ _ _ _ => rfl) (fun j hj => by omega)
theorem MPs.fr {μ ν : m_M} (h : MPs L b μ ν) : (∀ x y z, ¬ (x = 34 ∧ ((y = 0 ∧ ((1 ≤ z ∧ z ≤ 9) ∨ z = 29)) ∨ ((y = 15 ∨ y = 18 ∨ y = 20 ∨ y = 21 ∨ y = 22) ∧ z = b) ∨ (y = 23 ∧ 4 * b ≤ z ∧ z < 4 * b + 4))) → ν x y z = μ x y z) := by
  obtain ⟨ν0, h0, f, _⟩ := h
  intro x y z a
  rw [f x y z (fun q => a ⟨q.1, Or.inr (Or.inr q.2)⟩), h0.1 x y z (fun q => a ⟨q.1, by obtain ⟨_, q⟩ := q; rcases q with q | q; exact Or.inl q; exact Or.inr (Or.inl q)⟩)]
theorem MPs.v {μ ν : m_M} (h : MPs L b μ ν) : (ν 34 0 1 = 0 ∧ ν 34 0 2 = (L : Int) ∧ ν 34 0 5 = 0 ∧ ν 34 0 8 = 0 ∧ ν 34 0 9 = -1 ∧ ν 34 0 29 = (b : Int)) ∧ (ν 34 15 b = 0 ∧ ν 34 18 b = 0 ∧ ν 34 20 b = 0 ∧ ν 34 21 b = 0 ∧ ν 34 22 b = 0) ∧ ∀ j, j < 4 → ν 34 23 (4 * b + j) = -1 := by
  obtain ⟨ν0, h0, f, v⟩ := h
  have k0 : ∀ y z, ¬ y = 23 → ν 34 y z = ν0 34 y z := fun y z hy => f 34 y z (fun q => hy q.2.1)
  rw [k0 0 1 (by decide), k0 0 2 (by decide), k0 0 5 (by decide), k0 0 8 (by decide), k0 0 9 (by decide), k0 0 29 (by decide), k0 15 b (by decide), k0 18 b (by decide), k0 20 b (by decide), k0 21 b (by decide), k0 22 b (by decide)]
  exact ⟨h0.2.1, h0.2.2, v⟩
theorem mt_Mqs {μ ν ν1 ν2 : m_M} (hb : b ≤ 1) (hL : L ≤ 1600) (hT : ∀ i, i < L → (0 ≤ T i ∧ T i ≤ 255) ∧ μ 34 1 i = T i) (h : MPs L b μ ν) (u1 : ν1 = m_up ν 34 0 28 0) : MBs T L ν1 ∧ ν1 34 0 5 = ((0 : Nat) : Int) ∧ (ofK ν1 ν2 → MK T L ν2 0 → Mqs T L b ν1 0 D0 [] ν2) ∧ ofU b μ ν1 ∧ ν1 34 0 1 = 0 ∧ ν1 34 0 13 = μ 34 0 13 := by
  have hf := h.fr
  obtain ⟨⟨v1, v2, v5, v8, v9, v29⟩, ⟨p15, p18, p20, p21, p22⟩, v23⟩ := h.v
  have g1 : ∀ x y z, ¬ (x = 34 ∧ y = 0 ∧ z = 28) → ν1 x y z = ν x y z := fun x y z a => by rw [u1, m_up_ne _ _ a]
  have g0 : ∀ z, z ≠ 28 → ν1 34 0 z = ν 34 0 z := fun z hz => g1 34 0 z (fun q => hz q.2.2)
  have gy : ∀ y z, y ≠ 0 → ν1 34 y z = ν 34 y z := fun y z hy => g1 34 y z (fun q => hy q.2.1)
  have hB : MBs T L ν1 := ⟨by rw [g0 2 (by decide)]; exact v2, fun i hi => by rw [gy 1 i (by decide), hf 34 1 i (by omega)]; exact hT i hi, hL⟩
  refine ⟨hB, by rw [g0 5 (by decide)]; exact v5, fun f2 hM => ?_, fun x y z a => ?_, by rw [g0 1 (by decide)]; exact v1, ?_⟩
  · have f0 : ∀ z, z = 8 ∨ z = 9 ∨ z = 28 ∨ z = 29 → ν2 34 0 z = ν1 34 0 z := fun z hz => f2 34 0 z (fun q => by have := q.2.2; omega)
    have fy : ∀ y z, y ≠ 0 → ν2 34 y z = ν 34 y z := fun y z hy => (f2 34 y z (fun q => hy q.2.1)).trans (gy y z hy)
    refine ⟨⟨ofT.F (ofF.K f2), hB.of f2, hM, Nat.zero_le _⟩, ⟨?_, ?_, hb, ?_⟩, ⟨?_, rfl, fun k k1 k2 => ?_⟩, ⟨⟨?_, fun i x hx => ?_⟩, ⟨?_, fun i x hx => ?_⟩, ⟨?_, ?_, ?_⟩, fun q hq => ⟨fun _ => ?_, fun y hy => nomatch hy⟩⟩, ⟨⟨Nat.zero_le _, fun x hx => absurd hx (List.not_mem_nil)⟩, ⟨Nat.zero_le _, fun x hx => absurd hx (List.not_mem_nil)⟩⟩, Nat.le_refl _⟩
    · rw [f0 8 (by decide), g0 8 (by decide)]; exact v8
    · rw [f0 29 (by decide), g0 29 (by decide)]; exact v29
    · rw [f0 9 (by decide), g0 9 (by decide)]; exact v9
    · rw [f0 28 (by decide), u1, m_up_at]; rfl
    · have k2 : k < 1600 * b + 0 := k2
      omega
    · rw [fy 15 b (by decide)]; exact p15
    · have hx : ([] : List (List Nat × Int × Int))[i]? = some x := hx
      rw [List.getElem?_nil] at hx; cases hx
    · rw [fy 18 b (by decide)]; exact p18
    · have hx : ([] : List (List Nat × Int))[i]? = some x := hx
      rw [List.getElem?_nil] at hx; cases hx
    · rw [fy 20 b (by decide)]; exact p20
    · rw [fy 21 b (by decide)]; exact p21
    · rw [fy 22 b (by decide)]; exact p22
    · rw [fy 23 _ (by decide)]; exact v23 q hq
  · rw [g1 x y z (fun q => a ⟨q.1, by rw [q.2.1, q.2.2]; unfold inU; omega⟩), hf x y z (fun q => a ⟨q.1, by
      obtain ⟨_, q⟩ := q
      clear a hT hf v23 g1 g0 gy hB
      unfold inU
      omega⟩)]
  · rw [g0 13 (by decide), hf 34 0 13 (by omega)]
theorem m_town {d : Nat} {μ : m_M} (hb : b0 + b = 1) (h13 : μ 34 0 13 = (b0 : Int)) (hL : L ≤ 1600) (h1 : μ 34 0 1 = (L : Int)) (hT : ∀ i, i < L → (0 ≤ T i ∧ T i ≤ 255) ∧ μ 34 1 i = T i) {R : (Int × Int) ⊕ (Nat × m_D × List Int)} (pt : PT G T L b 80 0 0 D0 [] R) {K : Int → m_M → Prop}
    (kf : ∀ x, R = .inl x → ∀ μ1, ofU b μ μ1 → μ1 34 0 1 = 0 → μ1 34 0 10 = x.1 → μ1 34 0 11 = x.2 → μ1 34 0 13 = (b0 : Int) → c_i G (d + 8) YX12_refuses [vR 34 0, vI 1] μ1 (fun r μ2 => K r μ2))
    (ks : ∀ y, R = .inr y → ∀ μ1, ofU b μ μ1 → μ1 34 0 1 = 0 → μ1 34 0 10 = 0 → μ1 34 0 11 = -1 → μ1 34 0 13 = (b : Int) → MPd μ1 b y.2.1 → CDS b μ1 y.2.2 → c_v G (d + 8) YX12_begin [vR 34 0] μ1 (fun μ2 => K (y.1 : Int) μ2)) : c_i G (d + 9) YX12_town [vR 34 0] μ K := by
  refine mt_pre (d := d + 8) hb h13 h1 (fun X C R' ν0 h0 => mt_95 C R' (by omega) (fun ν h ν1 u1 => ?_) h0)
  obtain ⟨hB, h5, hq, gU, o1, o13⟩ := mt_Mqs (ν2 := ν1) (T := T) (by omega) hL hT h u1
  refine mo_ahead (e := 0) hB (Nat.zero_le _) h5 (fun ν2 f2 hM => ?_)
  have hq : Mqs T L b ν1 0 D0 [] ν2 := (mt_Mqs (ν2 := ν2) (T := T) (by omega) hL hT h u1).2.2.1 f2 hM
  rw [h13] at o13
  refine q_loop C R' 80 0 0 D0 [] pt ν2 hq (fun ν3 l me hl => VX12_town_160 C R' (fun ν4 u4 ν5 u5 => ?_))
  have f5 : ∀ x y z, ¬ (x = 34 ∧ y = 0 ∧ (z = 10 ∨ z = 11)) → ν5 x y z = ν3 x y z := fun x y z a => by rw [u5, m_up_ne _ _ (fun q => a ⟨q.1, q.2.1, Or.inr q.2.2⟩), u4, m_up_ne _ _ (fun q => a ⟨q.1, q.2.1, Or.inl q.2.2⟩)]
  have gV : ofU b ν3 ν5 := by rw [u5, u4]; exact (ofU.up (Or.inl ⟨rfl, by decide⟩)).tr (ofU.up (Or.inl ⟨rfl, by decide⟩))
  have w10 : ν5 34 0 10 = ν3 34 0 8 := by rw [u5, m_up_ne _ _ (by decide), u4, m_up_at]
  have w11 : ν5 34 0 11 = ν3 34 0 9 := by rw [u5, m_up_at, u4, m_up_ne _ _ (by decide)]
  have w8 : ν5 34 0 8 = ν3 34 0 8 := f5 34 0 8 (by decide)
  have w1 : ν5 34 0 1 = ν3 34 0 1 := f5 34 0 1 (by decide)
  have w13 : ν5 34 0 13 = ν3 34 0 13 := f5 34 0 13 (by decide)
  have w29 : ν5 34 0 29 = ν3 34 0 29 := f5 34 0 29 (by decide)
  cases R with
  | inl x =>
    have me : Mg b ν1 x.1 x.2 ν3 := me
    have t1 : ν3 34 0 1 = ν1 34 0 1 := me.1 34 0 1 (by omega)
    have t13 : ν3 34 0 13 = ν1 34 0 13 := me.1 34 0 13 (by omega)
    exact ⟨fun z => absurd z (by rw [w8]; exact me.g8), fun _ => kf x rfl ν5 (gU.tr (me.1.U.tr gV)) (by rw [w1, t1]; exact o1) (by rw [w10]; exact me.2.1.1) (by rw [w11]; exact me.2.1.2.2) (by rw [w13, t13]; exact o13)⟩
  | inr y =>
    obtain ⟨e', me⟩ : ∃ e, Mqs T L b ν1 e y.2.1 y.2.2 ν3 := me
    have t1 : ν3 34 0 1 = ν1 34 0 1 := me.1.1 34 0 1 (by omega)
    have m8 : ν3 34 0 8 = 0 := me.2.1.1
    have m29 : ν5 34 0 29 = (b : Int) := by rw [w29]; exact me.2.1.2.1
    rw [w8, m8, m29, hl y rfl]
    refine ⟨fun _ ν6 u6 => ?_, fun z => absurd (Int.le_refl _) z⟩
    have g6 : ∀ x y z, ¬ (x = 34 ∧ y = 0 ∧ z = 13) → ν6 x y z = ν5 x y z := fun x y z a => by rw [u6, m_up_ne _ _ a]
    have g3 : ∀ y z, y ≠ 0 → ν6 34 y z = ν3 34 y z := fun y z hy => by rw [g6 34 y z (fun q => hy q.2.1), f5 34 y z (fun q => hy q.2.1)]
    refine ks y rfl ν6 (gU.tr (me.1.1.U.tr (gV.tr (by rw [u6]; exact ofU.up (Or.inl ⟨rfl, by decide⟩))))) ?_ ?_ ?_ ?_ ?_ ?_
    · rw [g6 34 0 1 (by decide), w1, t1]; exact o1
    · rw [g6 34 0 10 (by decide), w10]; exact m8
    · rw [g6 34 0 11 (by decide), w11]; exact me.2.1.2.2.2
    · rw [u6, m_up_at]
    · exact me.2.2.2.1.cg (fun y z a1 a2 a3 => g3 y z (by omega))
    · exact me.2.2.1.cg (by rw [g6 34 0 28 (by decide), f5 34 0 28 (by decide)]) (fun z => ⟨g3 25 z (by decide), g3 26 z (by decide)⟩)
end TW
