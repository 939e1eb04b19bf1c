/-! ===== town, on both sides ===== -/
def ofU (b : Nat) (μ μ1 : m_M) : Prop := ∀ x y z, ¬ (x = 34 ∧ ((y = 0 ∧ ((1 ≤ z ∧ z ≤ 13) ∨ z = 28 ∨ z = 29 ∨ z = 30 ∨ z = 36 ∨ z = 37 ∨ z = 39 ∨ z = 40)) ∨ (32 ≤ y ∧ y ≤ 36) ∨ y = 39 ∨ ((y = 25 ∨ y = 26) ∧ 1600 * b ≤ z ∧ z < 1600 * b + 1600) ∨ ((y = 15 ∨ y = 18 ∨ y = 20 ∨ y = 21 ∨ y = 22) ∧ z = b) ∨ ((y = 16 ∨ y = 17 ∨ y = 27) ∧ 8 * b ≤ z ∧ z < 8 * b + 8) ∨ ((y = 19 ∨ y = 28) ∧ 3 * b ≤ z ∧ z < 3 * b + 3) ∨ ((y = 23 ∨ y = 24) ∧ 4 * b ≤ z ∧ z < 4 * b + 4))) → μ1 x y z = μ x y z
section TW
variable {G : m_G} {T : Nat → Int} {L b b0 : Nat}
theorem m_town {d : Nat} {μ : m_M} (hb : b0 + b = 1) (h13 : μ 34 0 13 = (b0 : Int)) (hL : L ≤ 1600) (h1 : μ 34 0 1 = (L : Int)) (hT : ∀ i, i < L → (0 ≤ T i ∧ T i ≤ 255) ∧ μ 34 1 i = T i) {R : (Int × Int) ⊕ (Nat × m_D × List Int)} (pt : PT G T L b 80 0 0 D0 [] R) {K : Int → m_M → Prop}
    (kf : ∀ x, R = .inl x → ∀ μ1, ofU b μ μ1 → μ1 34 0 1 = 0 → μ1 34 0 10 = x.1 → μ1 34 0 11 = x.2 → μ1 34 0 13 = (b0 : Int) → c_i G (d + 8) YX12_refuses [vR 34 0, vI 1] μ1 (fun r μ2 => K r μ2))
    (ks : ∀ y, R = .inr y → ∀ μ1, ofU b μ μ1 → μ1 34 0 1 = 0 → μ1 34 0 10 = 0 → μ1 34 0 11 = -1 → μ1 34 0 13 = (b : Int) → MPd μ1 b y.2.1 → CDS b μ1 y.2.2 → c_v G (d + 8) YX12_begin [vR 34 0] μ1 (fun μ2 => K (y.1 : Int) μ2)) : c_i G (d + 9) YX12_town [vR 34 0] μ K := by
  refine EX12_town (fun X C R' μ1 e1 μ2 e2 μ3 e3 μ4 e4 μ5 e5 μ6 e6 => ?_)
  have a13 : μ5 34 0 13 = (b0 : Int) := by rw [e5, m_up_ne _ _ (by omega), e4, m_up_ne _ _ (by omega), e3, m_up_ne _ _ (by omega), e2, m_up_ne _ _ (by omega), e1, m_up_ne _ _ (by omega)]; exact h13
  rw [a13, show w32 (1 - (b0 : Int)) = (b : Int) by rw [w32_le (by omega) (by omega)]; omega] at e6
  have v29 : μ6 34 0 29 = (b : Int) := by rw [e6, m_up_at]
  rw [v29, Int.toNat_natCast]
  refine ⟨⟨by omega, by omega⟩, fun μ7 e7 => ?_⟩
  have w29 : μ7 34 0 29 = (b : Int) := by rw [e7, m_up_ne _ _ (by omega)]; exact v29
  rw [w29, Int.toNat_natCast]
  refine ⟨⟨by omega, by omega⟩, fun μ8 e8 => ?_⟩
  have x29 : μ8 34 0 29 = (b : Int) := by rw [e8, m_up_ne _ _ (by omega)]; exact w29
  rw [x29, Int.toNat_natCast]
  refine ⟨⟨by omega, by omega⟩, fun μ9 e9 => ?_⟩
  have y29 : μ9 34 0 29 = (b : Int) := by rw [e9, m_up_ne _ _ (by omega)]; exact x29
  rw [y29, Int.toNat_natCast]
  refine ⟨⟨by omega, by omega⟩, fun μ10 e10 => ?_⟩
  have z29 : μ10 34 0 29 = (b : Int) := by rw [e10, m_up_ne _ _ (by omega)]; exact y29
  rw [z29, Int.toNat_natCast]
  refine ⟨⟨by omega, by omega⟩, fun μ11 e11 x12 ex => ?_⟩
  have u29 : μ11 34 0 29 = (b : Int) := by rw [e11, m_up_ne _ _ (by omega)]; exact z29
  rw [u29, show w32 (4 * (b : Int)) = ((4 * b + 0 : Nat) : Int) by rw [w32_le (by omega) (by omega)]; omega] at ex
  subst ex
  have f6 : ∀ x y z, ¬ (x = 34 ∧ y = 0 ∧ ((1 ≤ z ∧ z ≤ 9) ∨ z = 29)) → μ6 x y z = μ x y z := fun x y z a => by
    rw [e6, m_up_ne _ _ (by omega), e5, m_up_ne _ _ (by omega), e4, m_up_ne _ _ (by omega), e3, m_up_ne _ _ (by omega), e2, m_up_ne _ _ (by omega), e1, m_up_ne _ _ (by omega)]
  have s9 : μ6 34 0 9 = -1 := by rw [e6, m_up_ne _ _ (by omega), e5, m_up_at]
  have s8 : μ6 34 0 8 = 0 := by rw [e6, m_up_ne _ _ (by omega), e5, m_up_ne _ _ (by omega), e4, m_up_at]
  have s5 : μ6 34 0 5 = 0 := by rw [e6, m_up_ne _ _ (by omega), e5, m_up_ne _ _ (by omega), e4, m_up_ne _ _ (by omega), e3, m_up_at]
  have s1 : μ6 34 0 1 = 0 := by rw [e6, m_up_ne _ _ (by omega), e5, m_up_ne _ _ (by omega), e4, m_up_ne _ _ (by omega), e3, m_up_ne _ _ (by omega), e2, m_up_at]
  have s2 : μ6 34 0 2 = (L : Int) := by rw [e6, m_up_ne _ _ (by omega), e5, m_up_ne _ _ (by omega), e4, m_up_ne _ _ (by omega), e3, m_up_ne _ _ (by omega), e2, m_up_ne _ _ (by omega), e1, m_up_at]; exact h1
  have f11 : ∀ x y z, ¬ (x = 34 ∧ (y = 15 ∨ y = 18 ∨ y = 20 ∨ y = 21 ∨ y = 22) ∧ z = b) → μ11 x y z = μ6 x y z := fun x y z a => by
    rw [e11, m_up_ne _ _ (by omega), e10, m_up_ne _ _ (by omega), e9, m_up_ne _ _ (by omega), e8, m_up_ne _ _ (by omega), e7, m_up_ne _ _ (by omega)]
  have p15 : μ11 34 15 b = 0 := by rw [e11, m_up_ne _ _ (by omega), e10, m_up_ne _ _ (by omega), e9, m_up_ne _ _ (by omega), e8, m_up_ne _ _ (by omega), e7, m_up_at]
  have p18 : μ11 34 18 b = 0 := by rw [e11, m_up_ne _ _ (by omega), e10, m_up_ne _ _ (by omega), e9, m_up_ne _ _ (by omega), e8, m_up_at]
  have p20 : μ11 34 20 b = 0 := by rw [e11, m_up_ne _ _ (by omega), e10, m_up_ne _ _ (by omega), e9, m_up_at]
  have p21 : μ11 34 21 b = 0 := by rw [e11, m_up_ne _ _ (by omega), e10, m_up_at]
  have p22 : μ11 34 22 b = 0 := by rw [e11, m_up_at]
  -- at 95
  have LL : ∀ (r i : Nat), i + r = 4 → ∀ ν, (∀ x y z, ¬ (x = 34 ∧ y = 23 ∧ 4 * b ≤ z ∧ z < 4 * b + 4) → ν x y z = μ11 x y z) → (∀ j, j < i → ν 34 23 (4 * b + j) = -1) → mW G X YX12_town ν 95 [some (vR 34 0), some (vI ((4 * b + i : Nat) : Int))] [] := by
    intro r
    induction r with
    | zero =>
      intro i hi ν fν vν
      have n29 : ν 34 0 29 = (b : Int) := by rw [fν 34 0 29 (by omega)]; exact u29
      refine VX12_town_95 C R' ?_
      rw [n29, ix4 (i := 4) (by omega) (by omega)]
      refine ⟨fun _ ν1 u1 => ?_, fun z => absurd (by omega) z⟩
      have g1 : ∀ x y z, ¬ (x = 34 ∧ y = 0 ∧ z = 28) → ν1 x y z = ν x y z := fun x y z a => by rw [u1, m_up_ne _ _ a]
      have k0 : ∀ z, z ≠ 28 → ν1 34 0 z = μ6 34 0 z := fun z hz => by rw [g1 34 0 z (by omega), fν 34 0 z (by omega), f11 34 0 z (by omega)]
      have fU : ∀ x y z, ¬ (x = 34 ∧ ((y = 0 ∧ ((1 ≤ z ∧ z ≤ 9) ∨ z = 28 ∨ z = 29)) ∨ ((y = 15 ∨ y = 18 ∨ y = 20 ∨ y = 21 ∨ y = 22) ∧ z = b) ∨ (y = 23 ∧ 4 * b ≤ z ∧ z < 4 * b + 4))) → ν1 x y z = μ x y z := fun x y z a => by rw [g1 x y z (by omega), fν x y z (by omega), f11 x y z (by omega), f6 x y z (by omega)]
      have hB : MBs T L ν1 := ⟨by rw [k0 2 (by decide)]; exact s2, fun i hi => by rw [fU 34 1 i (by omega)]; exact hT i hi, hL⟩
      refine mo_ahead (e := 0) hB (Nat.zero_le _) (by rw [k0 5 (by decide)]; exact s5) (fun ν2 f2 hM => ?_)
      have hq : Mqs T L b ν1 0 D0 [] ν2 := by
        refine ⟨⟨ofT.F (ofF.K f2), hB.of f2, hM, Nat.zero_le _⟩, ⟨?_, ?_, by omega, ?_⟩, ⟨?_, rfl, fun k k1 k2 => ?_⟩, ⟨⟨?_, fun i x hx => ?_⟩, ⟨?_, fun i x hx => ?_⟩, ⟨?_, ?_, ?_⟩, fun q hq => ⟨fun _ => ?_, fun y hy => nomatch hy⟩⟩, ⟨⟨Nat.zero_le _, fun x hx => absurd hx (List.not_mem_nil)⟩, ⟨Nat.zero_le _, fun x hx => absurd hx (List.not_mem_nil)⟩⟩, Nat.le_refl _⟩
        · rw [f2 34 0 8 (by omega), k0 8 (by decide)]; exact s8
        · rw [f2 34 0 29 (by omega), k0 29 (by decide)]; exact v29
        · rw [f2 34 0 9 (by omega), k0 9 (by decide)]; exact s9
        · rw [f2 34 0 28 (by omega), u1, m_up_at]; rfl
        · have k2 : k < 1600 * b + 0 := k2
          omega
        · rw [f2 34 15 b (by omega), g1 34 15 b (by omega), fν 34 15 b (by omega)]; exact p15
        · have hx : ([] : List (List Nat × Int × Int))[i]? = some x := hx
          rw [List.getElem?_nil] at hx; cases hx
        · rw [f2 34 18 b (by omega), g1 34 18 b (by omega), fν 34 18 b (by omega)]; exact p18
        · have hx : ([] : List (List Nat × Int))[i]? = some x := hx
          rw [List.getElem?_nil] at hx; cases hx
        · rw [f2 34 20 b (by omega), g1 34 20 b (by omega), fν 34 20 b (by omega)]; exact p20
        · rw [f2 34 21 b (by omega), g1 34 21 b (by omega), fν 34 21 b (by omega)]; exact p21
        · rw [f2 34 22 b (by omega), g1 34 22 b (by omega), fν 34 22 b (by omega)]; exact p22
        · rw [f2 34 23 _ (by omega), g1 34 23 _ (by omega)]; exact vν q (by omega)
      have o1 : ν1 34 0 1 = 0 := by rw [k0 1 (by decide)]; exact s1
      have o13 : ν1 34 0 13 = (b0 : Int) := by rw [fU 34 0 13 (by omega)]; exact h13
      refine q_loop C R' 80 0 0 D0 [] pt ν2 hq (fun ν3 l me hl => VX12_town_160 C R' (fun ν4 u4 ν5 u5 => ?_))
      have f5 : ∀ x y z, ¬ (x = 34 ∧ y = 0 ∧ (z = 10 ∨ z = 11)) → ν5 x y z = ν3 x y z := fun x y z a => by rw [u5, m_up_ne _ _ (by omega), u4, m_up_ne _ _ (by omega)]
      have w10 : ν5 34 0 10 = ν3 34 0 8 := by rw [u5, m_up_ne _ _ (by omega), u4, m_up_at]
      have w11 : ν5 34 0 11 = ν3 34 0 9 := by rw [u5, m_up_at, u4, m_up_ne _ _ (by omega)]
      have w8 : ν5 34 0 8 = ν3 34 0 8 := f5 34 0 8 (by omega)
      cases R with
      | inl x =>
        have me : Mg b ν1 x.1 x.2 ν3 := me
        refine ⟨fun z => absurd z (by rw [w8]; exact me.g8), fun _ => kf x rfl ν5 (fun x y z a => by rw [f5 x y z (by omega), me.1 x y z (by omega), fU x y z (by omega)]) ?_ ?_ ?_ ?_⟩
        · rw [f5 34 0 1 (by omega), me.1 34 0 1 (by omega)]; exact o1
        · rw [w10]; exact me.2.1.1
        · rw [w11]; exact me.2.1.2.2
        · rw [f5 34 0 13 (by omega), me.1 34 0 13 (by omega)]; exact o13
      | inr y =>
        obtain ⟨e', me⟩ : ∃ e, Mqs T L b ν1 e y.2.1 y.2.2 ν3 := me
        have m8 : ν3 34 0 8 = 0 := me.2.1.1
        have m29 : ν5 34 0 29 = (b : Int) := by rw [f5 34 0 29 (by omega)]; exact me.2.1.2.1
        rw [w8, m8, m29, hl y rfl]
        refine ⟨fun _ ν6 u6 => ks y rfl ν6 (fun x y z a => by rw [u6, m_up_ne _ _ (by omega), f5 x y z (by omega), me.1.1 x y z (by omega), fU x y z (by omega)]) ?_ ?_ ?_ ?_ ?_ ?_, fun z => absurd (Int.le_refl _) z⟩
        · rw [u6, m_up_ne _ _ (by omega), f5 34 0 1 (by omega), me.1.1 34 0 1 (by omega)]; exact o1
        · rw [u6, m_up_ne _ _ (by omega), w10]; exact m8
        · rw [u6, m_up_ne _ _ (by omega), w11]; exact me.2.1.2.2.2
        · rw [u6, m_up_at]
        · exact me.2.2.2.1.cg (fun y z a1 a2 a3 => by rw [u6, m_up_ne _ _ (by omega), f5 34 y z (by omega)])
        · exact me.2.2.1.cg (by rw [u6, m_up_ne _ _ (by omega), f5 34 0 28 (by omega)]) (fun z => ⟨by rw [u6, m_up_ne _ _ (by omega), f5 34 25 z (by omega)], by rw [u6, m_up_ne _ _ (by omega), f5 34 26 z (by omega)]⟩)
    | succ r ih =>
      intro i hi ν fν vν
      have n29 : ν 34 0 29 = (b : Int) := by rw [fν 34 0 29 (by omega)]; exact u29
      refine VX12_town_95 C R' ?_
      rw [n29, ix4 (i := 4) (by omega) (by omega), Int.toNat_natCast]
      refine ⟨fun z => absurd z (by omega), fun _ => ⟨⟨by omega, by omega⟩, fun ν1 u1 x5 e5' => ?_⟩⟩
      rw [w32_s (by omega), show 4 * b + i + 1 = 4 * b + (i + 1) by omega] at e5'
      subst e5'
      refine ih (i + 1) (by omega) ν1 (fun x y z a => by rw [u1, m_up_ne _ _ (by omega)]; exact fν x y z a) (fun j hj => ?_)
      by_cases y : j = i
      · subst y; rw [u1, m_up_at]
      · rw [u1, m_up_ne _ _ (by omega)]; exact vν j (by omega)
  exact LL 4 0 (by omega) μ11 (fun _ _ _ _ => rfl) (fun j hj => by omega)
end TW
theorem S_town {G : m_G} : SIM G YX11_town YX12_town [] := by
  intro d μ ⟨A, t, s, b, h⟩
  obtain ⟨r1, r2, r3, r4, r5, r6, r7, r8, r9⟩ := h
  obtain ⟨L, hL, l1, l34, hT⟩ := r4
  obtain ⟨c1, c2, ⟨t1, t2⟩, hts, c5, c6⟩ := r1
  have hs : s = 32 ∨ s = 33 := by omega
  have ht : t = 32 ∨ t = 33 := by omega
  have hb : b ≤ 1 := c2.2.1
  have h13 : μ 34 0 13 = (b : Int) := c2.1
  have hnc : tw_nc A ≤ 8 := c1.2.2.2.1.1
  have hnk : tw_nk A ≤ 3 := c1.2.2.2.1.2.1
  have hbb : b + (1 - b) = 1 := by omega
  refine EX11_town ⟨s, t2, cls9 hs, ?_⟩
  rw [l1]
  refine c_parse (d := d + 11) (b := 1 - b) (T := fun i => μ 34 1 i) hs hL hT r9 (fun μ1 R f1 pt ce μ2 e2 => EX6_faultKind (fun μ3 e3 => EX6_faultPlace (fun μ4 e4 => ?_)))
  have g4 : ∀ x y z, ¬ (x = 1 ∧ y = 0 ∧ (z = 1 ∨ z = 14 ∨ z = 15)) → μ4 x y z = μ1 x y z := fun x y z a => by rw [e4, m_up_ne _ _ (by omega), e3, m_up_ne _ _ (by omega), e2, m_up_ne _ _ (by omega)]
  have f4 : ∀ x y z, ¬ x = s → ¬ (x = 2 ∧ y = 0) → ¬ (x = 3 ∧ y = 0) → ¬ (x = 1 ∧ y = 0 ∧ (z = 1 ∨ z = 14 ∨ z = 15)) → μ4 x y z = μ x y z := fun x y z a1 a2 a3 a4 => (g4 x y z a4).trans (f1 x y z a1 a2 a3)
  have v1 : μ4 1 0 1 = 0 := by rw [e4, m_up_ne _ _ (by omega), e3, m_up_ne _ _ (by omega), e2, m_up_at]
  have v14 : μ4 1 0 14 = μ1 3 0 7 := by rw [e4, m_up_ne _ _ (by omega), e3, m_up_at, e2, m_up_ne _ _ (by omega)]
  have v15 : μ4 1 0 15 = μ1 3 0 8 := by rw [e4, m_up_at, e3, m_up_ne _ _ (by omega), e2, m_up_ne _ _ (by omega)]
  cases R with
  | inl x =>
    have ce : CF s x.1 x.2 μ1 := ce
    refine ⟨fun z => absurd rfl z, fun _ => EX11_refuseWithNone ⟨by decide, by decide, fun μ5 e5 => ?_⟩⟩
    have e5 : μ5 = m_up μ4 1 13 1 (w32 (μ4 1 13 1 + 1)) := e5
    have f5 : ∀ x y z, ¬ x = s → ¬ (x = 2 ∧ y = 0) → ¬ (x = 3 ∧ y = 0) → ¬ (x = 1 ∧ ((y = 0 ∧ (z = 1 ∨ z = 14 ∨ z = 15)) ∨ (y = 13 ∧ z = 1))) → μ5 x y z = μ x y z := fun x y z a1 a2 a3 a4 => by rw [e5, m_up_ne _ _ (by omega)]; exact f4 x y z a1 a2 a3 (by omega)
    refine m_town (d := d + 91) (T := fun i => μ 34 1 i) (L := L) hbb ?_ hL ?_ (fun i hi => ⟨(hT i hi).1, f5 34 1 i (by omega) (by omega) (by omega) (by omega)⟩) pt (fun x' hx μ6 f6 z1 z10 z11 z13 => ?_) (fun y hy => by cases hy)
    · rw [f5 34 0 13 (by omega) (by omega) (by omega) (by omega)]; exact h13
    · rw [f5 34 0 1 (by omega) (by omega) (by omega) (by omega)]; exact l34
    cases hx
    refine EX12_refuses ⟨by decide, by decide, fun μ7 e7 => ⟨rfl, A, t, s, b, ?_⟩⟩
    have e7 : μ7 = m_up μ6 34 42 1 (w32 (μ6 34 42 1 + 1)) := e7
    have cl : ∀ x y z, ¬ x = 34 → μ7 x y z = μ5 x y z := fun x y z a => by rw [e7, m_up_ne _ _ (by omega), f6 x y z (by omega)]
    have ob : ∀ x y z, ¬ x = 34 → ¬ x = s → ¬ x = 1 → ¬ (x = 2 ∧ y = 0) → ¬ (x = 3 ∧ y = 0) → μ7 x y z = μ x y z := fun x y z a0 a1 a2 a3 a4 => by rw [cl x y z a0, f5 x y z a1 a3 a4 (by omega)]
    have mo : ∀ y z, ¬ ((y = 0 ∧ ((1 ≤ z ∧ z ≤ 13) ∨ z = 28 ∨ z = 29 ∨ z = 30 ∨ z = 36 ∨ z = 37 ∨ z = 39 ∨ z = 40)) ∨ (32 ≤ y ∧ y ≤ 36) ∨ y = 39 ∨ (y = 42 ∧ z = 1) ∨ ((y = 25 ∨ y = 26) ∧ 1600 * (1 - b) ≤ z ∧ z < 1600 * (1 - b) + 1600) ∨ ((y = 15 ∨ y = 18 ∨ y = 20 ∨ y = 21 ∨ y = 22) ∧ z = 1 - b) ∨ ((y = 16 ∨ y = 17 ∨ y = 27) ∧ 8 * (1 - b) ≤ z ∧ z < 8 * (1 - b) + 8) ∨ ((y = 19 ∨ y = 28) ∧ 3 * (1 - b) ≤ z ∧ z < 3 * (1 - b) + 3) ∨ ((y = 23 ∨ y = 24) ∧ 4 * (1 - b) ≤ z ∧ z < 4 * (1 - b) + 4)) → μ7 34 y z = μ 34 y z := fun y z a => by
      rw [e7, m_up_ne _ _ (by omega), f6 34 y z (by omega), f5 34 y z (by omega) (by omega) (by omega) (by omega)]
    have oo : ∀ x, 4 ≤ x → x ≤ 31 → μ7 x = μ x := fun x a1 a2 => by
      funext y z
      exact ob x y z (by omega) (by omega) (by omega) (by omega) (by omega)
    have ot : ∀ y z, μ7 t y z = μ t y z := fun y z => ob t y z (by omega) (by omega) (by omega) (by omega) (by omega)
    have k1 : ∀ z, ¬ (z = 1 ∨ z = 14 ∨ z = 15) → μ7 1 0 z = μ 1 0 z := fun z a => by rw [cl 1 0 z (by omega), f5 1 0 z (by omega) (by omega) (by omega) (by omega)]
    have k5 : ∀ z, μ7 1 0 z = μ4 1 0 z := fun z => by rw [cl 1 0 z (by omega), e5, m_up_ne _ _ (by omega)]
    refine ⟨⟨c1.mv (by rw [oo 4 (by omega) (by omega)]) ot, c2.mvb (by rw [e7, m_up_ne _ _ (by omega), z13, h13]) (fun x c hx => mo x c (by omega)), ⟨by rw [k1 2 (by omega)]; exact t1, by rw [k1 3 (by omega)]; exact t2⟩, hts, fun i hi => ?_, fun i hi => ?_⟩, ?_, ?_, ?_, ?_, ?_, ?_, ?_, ?_⟩
    · rw [ot, mo 27 _ (by omega)]; exact c5 i hi
    · rw [ot, mo 28 _ (by omega)]; exact c6 i hi
    · exact r2.mv (oo 10 (by omega) (by omega)) (fun y z hyz => mo y z (by omega))
    · obtain ⟨c, n, f, hb3, ⟨q1, q2, q3, q4⟩, hk⟩ := r3
      refine ⟨c, n, f, hb3, ⟨by rw [oo 6 (by omega) (by omega)]; exact q1, by rw [oo 6 (by omega) (by omega)]; exact q2, by rw [mo 0 53 (by omega)]; exact q3, by rw [mo 0 52 (by omega)]; exact q4⟩, fun k hkc => (hk k hkc).mv (oo _ (by omega) (by omega)) (fun y z hyz => mo y z (by omega))⟩
    · refine ⟨0, by omega, by rw [k5]; exact v1, by rw [e7, m_up_ne _ _ (by omega)]; exact z1, fun i hi => by omega⟩
    · obtain ⟨q1, q2, q3⟩ := r5
      refine ⟨by rw [k1 13 (by omega), mo 0 54 (by omega)]; exact q1, ⟨?_, ?_⟩, fun i hi => ?_⟩
      · rw [k5, v14, e7, m_up_ne _ _ (by omega), z10]; exact ce.2.2.1.symm
      · rw [k5, v15, e7, m_up_ne _ _ (by omega), z11]; exact ce.2.2.2.2.1.symm
      · by_cases y : i = 1
        · subst y
          rw [cl 1 13 1 (by omega), e5, m_up_at, e7, m_up_at, f6 34 42 1 (by omega), f5 34 42 1 (by omega) (by omega) (by omega) (by omega), f4 1 13 1 (by omega) (by omega) (by omega) (by omega), q3 1 (by omega)]
        · rw [cl 1 13 i (by omega), f5 1 13 i (by omega) (by omega) (by omega) (by omega), mo 42 i (by omega)]; exact q3 i hi
    · obtain ⟨n, hn, q1, q2, hi⟩ := r6
      refine ⟨n, hn, by rw [oo 8 (by omega) (by omega)]; exact q1, by rw [mo 0 60 (by omega)]; exact q2, fun i h => by rw [oo 8 (by omega) (by omega), mo 62 i (by omega), mo 63 i (by omega), mo 64 i (by omega)]; exact hi i h⟩
    · unfold R_best; rw [oo 7 (by omega) (by omega), oo 10 (by omega) (by omega)]; exact r7
    · obtain ⟨n, hn, q1, q2, hi⟩ := r8
      exact ⟨n, hn, by rw [oo 9 (by omega) (by omega)]; exact q1, by rw [mo 0 66 (by omega)]; exact q2, fun i h => by rw [oo 9 (by omega) (by omega), mo 66 i (by omega)]; exact hi i h⟩
    · intro i hi; rw [ob 3 1 i (by omega) (by omega) (by omega) (by omega) (by omega)]; exact r9 i hi
  | inr y =>
    obtain ⟨⟨e, cu⟩, y10, y80⟩ : (∃ e, CU (fun i => μ 34 1 i) L s y.2.1 y.2.2 e μ1) ∧ μ1 s 0 10 = (y.1 : Int) ∧ y.1 ≤ 80 := ce
    obtain ⟨_, ⟨_, uC, ul⟩, ⟨uP, uW⟩, ue, u7, uT⟩ := cu
    have u8 : μ1 3 0 8 = -1 := uT.2.2.2.2.2.2
    have h7 : μ1 s 0 7 = tw_stock (dT y.2.1 y.2.2) := uP.2.2.1.1
    have q2 : μ4 1 0 2 = 100 * (t : Int) := by rw [f4 1 0 2 (by omega) (by omega) (by omega) (by omega)]; exact t1
    have q3 : μ4 1 0 3 = 100 * (s : Int) := by rw [f4 1 0 3 (by omega) (by omega) (by omega) (by omega)]; exact t2
    refine ⟨fun _ => ?_, fun z => absurd z (by decide)⟩
    refine ⟨t, q2, cls9 ht, s, q3, cls9 hs, fun ν1 n1 ν2 n2 => ?_⟩
    refine ⟨s, by rw [n2, m_up_ne _ _ (by omega), n1, m_up_at]; omega, cls9 hs, fun ν3 n3 => ?_⟩
    refine ⟨s, by rw [n3, m_up_ne _ _ (by omega), n2, m_up_ne _ _ (by omega), n1, m_up_at]; omega, cls9 hs, ?_⟩
    refine c_begin (d := d + 97) (A := dT y.2.1 y.2.2) (o := 10) (t := s) rfl (cls9 hs) (by rw [n3, m_up_ne _ _ (by omega), n2, m_up_ne _ _ (by omega), n1, m_up_ne _ _ (by omega), g4 s 0 7 (by omega)]; exact h7) (fun ν4 f4' bq ν5 n5 ν6 n6 => ?_)
    refine EX1_forget (fun ν7 n7 => ?_)
    refine ⟨s, by rw [n7, m_up_ne _ _ (by omega), n6, m_up_ne _ _ (by omega), n5, m_up_ne _ _ (by omega), f4' 1 0 2 (by omega), n3, m_up_ne _ _ (by omega), n2, m_up_ne _ _ (by omega), n1, m_up_at]; omega, cls9 hs, ?_⟩
    have g7 : ∀ x y z, ¬ (x = 1 ∧ y = 0 ∧ (z = 2 ∨ z = 3)) → ¬ (x = 4 ∧ y = 0 ∧ z = 0) → ¬ x = 10 → ¬ (x = 8 ∧ y = 0 ∧ z = 0) → ¬ (x = 6 ∧ y = 0 ∧ z = 2) → ¬ (x = 7 ∧ y = 0 ∧ z = 3) → ν7 x y z = μ4 x y z := fun x y z a1 a2 a3 a4 a5 a6 => by
      rw [n7, m_up_ne _ _ a6, n6, m_up_ne _ _ a5, n5, m_up_ne _ _ a4, f4' x y z a3, n3, m_up_ne _ _ a2, n2, m_up_ne _ _ (by omega), n1, m_up_ne _ _ (by omega)]
    have m7 : ∀ y z, ν7 34 y z = μ 34 y z := fun y z => by rw [g7 34 y z (by omega) (by omega) (by omega) (by omega) (by omega) (by omega), f4 34 y z (by omega) (by omega) (by omega) (by omega)]
    have ns : ∀ y z, ν7 s y z = μ1 s y z := fun y z => by rw [g7 s y z (by omega) (by omega) (by omega) (by omega) (by omega) (by omega), g4 s y z (by omega)]
    have c102 : ν7 1 0 2 = 100 * (s : Int) := by rw [n7, m_up_ne _ _ (by omega), n6, m_up_ne _ _ (by omega), n5, m_up_ne _ _ (by omega), f4' 1 0 2 (by omega), n3, m_up_ne _ _ (by omega), n2, m_up_ne _ _ (by omega), n1, m_up_at]; omega
    have c103 : ν7 1 0 3 = 100 * (t : Int) := by rw [n7, m_up_ne _ _ (by omega), n6, m_up_ne _ _ (by omega), n5, m_up_ne _ _ (by omega), f4' 1 0 3 (by omega), n3, m_up_ne _ _ (by omega), n2, m_up_at]; omega
    have c400 : ν7 4 0 0 = 100 * (s : Int) := by rw [n7, m_up_ne _ _ (by omega), n6, m_up_ne _ _ (by omega), n5, m_up_ne _ _ (by omega), f4' 4 0 0 (by omega), n3, m_up_at]; omega
    have c703 : ν7 7 0 3 = -1 := by rw [n7, m_up_at]
    have c602 : ν7 6 0 2 = 0 := by rw [n7, m_up_ne _ _ (by omega), n6, m_up_at]
    have c800 : ν7 8 0 0 = 0 := by rw [n7, m_up_ne _ _ (by omega), n6, m_up_ne _ _ (by omega), n5, m_up_at]
    have c10 : ν7 10 = ν4 10 := by
      funext y z
      rw [n7, m_up_ne _ _ (by omega), n6, m_up_ne _ _ (by omega), n5, m_up_ne _ _ (by omega)]
    rw [ns 0 10, y10]
    refine m_town (d := d + 91) (T := fun i => μ 34 1 i) (L := L) hbb ?_ hL ?_ (fun i hi => ⟨(hT i hi).1, m7 1 i⟩) pt (fun x hx => by cases hx) (fun y' hy ν8 f8 z1 z10 z11 z13 zP zC => ?_)
    · rw [m7]; exact h13
    · rw [m7]; exact l34
    cases hy
    refine m_begin (d := d + 98) (b := 1 - b) (A := dT y.2.1 y.2.2) z13 (by omega) zP.2.2.1.1 (fun ν9 f9 bq9 n49 n53 n60 => ⟨rfl, dT y.2.1 y.2.2, s, t, 1 - b, ?_⟩)
    have cl : ∀ x y z, ¬ x = 34 → ν9 x y z = ν7 x y z := fun x y z a => by rw [f9 x y z (by omega), f8 x y z (by omega)]
    have co : ∀ x, ¬ x = 34 → ν9 x = ν7 x := fun x a => by funext y z; exact cl x y z a
    have g9 : ∀ y z, ¬ (y = 0 ∧ ((1 ≤ z ∧ z ≤ 13) ∨ z = 28 ∨ z = 29 ∨ z = 30 ∨ z = 36 ∨ z = 37 ∨ z = 39 ∨ z = 40 ∨ z = 53 ∨ z = 60)) → (y = 0 ∨ y = 42 ∨ 53 ≤ y) → ν9 34 y z = μ 34 y z := fun y z a1 a2 => by rw [f9 34 y z (by omega), f8 34 y z (by omega), m7]
    have uP9 : CPd ν9 s y.2.1 := uP.cg (fun y z _ _ _ => by rw [cl s y z (by omega), ns])
    have uC9 : codeL (ν9 s 12) 0 y.2.2.length = y.2.2 := by rw [codeL_congr (g := μ1 s 12) _ _ (fun i _ _ => by rw [cl s 12 i (by omega), ns])]; exact uC
    have zP9 : MPd ν9 (1 - b) y.2.1 := zP.cg (fun y z a1 a2 _ => f9 34 y z (by omega))
    have zC9 : CDS (1 - b) ν9 y.2.2 := zC.cg (f9 34 0 28 (by omega)) (fun z => ⟨f9 34 25 z (by omega), f9 34 26 z (by omega)⟩)
    have bb : ν9 10 = ν4 10 := by rw [co 10 (by omega), c10]
    have s0 : ∀ z, z ≠ 2 → z ≠ 3 → ν9 1 0 z = μ4 1 0 z := fun z a1 a2 => by rw [cl 1 0 z (by omega), g7 1 0 z (by omega) (by omega) (by omega) (by omega) (by omega) (by omega)]
    refine ⟨⟨CT_D hs (by rw [cl 4 0 0 (by omega)]; exact c400) uP9 uW uC9 (by omega), MT_D (by rw [f9 34 0 13 (by omega)]; exact z13) (by omega) zP9 uW zC9 (by omega), ⟨by rw [cl 1 0 2 (by omega)]; exact c102, by rw [cl 1 0 3 (by omega)]; exact c103⟩, by omega, fun i hi => ?_, fun i hi => ?_⟩, ⟨?_, ?_, ?_⟩, ?_, ?_, ?_, ?_, ?_, ?_, ?_⟩
    · have hi : i < y.2.1.1.length := hi
      have q1 := (uP9.1.2 i _ (List.getElem?_eq_getElem hi)).1
      have q2 := (zP9.1.2 i _ (List.getElem?_eq_getElem hi)).1
      exact ⟨_, (uW.1.2 _ (List.getElem_mem hi)).1, q1, q2⟩
    · have hi : i < y.2.1.2.1.length := hi
      have q1 := (uP9.2.1.2 i _ (List.getElem?_eq_getElem hi)).1
      have q2 := (zP9.2.1.2 i _ (List.getElem?_eq_getElem hi)).1
      exact ⟨_, (uW.2.1.2 _ (List.getElem_mem hi)).1, q1, q2⟩
    · rw [bb]; exact bq.sy.BI (BI.new (TA_D uW))
    · rw [bb]; exact bq9.tr bq.sy
    · rw [n49]; decide
    · obtain ⟨c, n, f, ⟨_, hn, hf⟩, ⟨_, q2, _, q4⟩, _⟩ := r3
      refine ⟨0, n, f, ⟨by omega, hn, hf⟩, ⟨by rw [cl 6 0 2 (by omega)]; exact c602, ?_, n53, by rw [g9 0 52 (by omega) (by omega)]; exact q4⟩, fun k hk => by omega⟩
      rw [cl 6 0 1 (by omega), g7 6 0 1 (by omega) (by omega) (by omega) (by omega) (by omega) (by omega), f4 6 0 1 (by omega) (by omega) (by omega) (by omega)]; exact q2
    · refine ⟨0, by omega, by rw [s0 1 (by omega) (by omega)]; exact v1, by rw [f9 34 0 1 (by omega)]; exact z1, fun i hi => by omega⟩
    · obtain ⟨q1, q2, q3⟩ := r5
      refine ⟨?_, ⟨?_, ?_⟩, fun i hi => ?_⟩
      · rw [s0 13 (by omega) (by omega), f4 1 0 13 (by omega) (by omega) (by omega) (by omega), g9 0 54 (by omega) (by omega)]; exact q1
      · rw [s0 14 (by omega) (by omega), v14, u7, f9 34 0 10 (by omega)]; exact z10
      · rw [s0 15 (by omega) (by omega), v15, u8, f9 34 0 11 (by omega)]; exact z11
      · rw [g9 42 i (by omega) (by omega), cl 1 13 i (by omega), g7 1 13 i (by omega) (by omega) (by omega) (by omega) (by omega) (by omega), f4 1 13 i (by omega) (by omega) (by omega) (by omega)]; exact q3 i hi
    · exact ⟨0, by omega, by rw [cl 8 0 0 (by omega)]; exact c800, n60, fun i hi => by omega⟩
    · exact Or.inl (by rw [cl 7 0 3 (by omega)]; exact c703)
    · obtain ⟨n, hn, q1, q2, hi⟩ := r8
      have o9 : ∀ y z, ν9 9 y z = μ 9 y z := fun y z => by rw [cl 9 y z (by omega), g7 9 y z (by omega) (by omega) (by omega) (by omega) (by omega) (by omega), f4 9 y z (by omega) (by omega) (by omega) (by omega)]
      exact ⟨n, hn, by rw [o9]; exact q1, by rw [g9 0 66 (by omega) (by omega)]; exact q2, fun i h => by rw [o9, g9 66 i (by omega) (by omega)]; exact hi i h⟩
    · intro i hi
      rw [cl 3 1 i (by omega), g7 3 1 i (by omega) (by omega) (by omega) (by omega) (by omega) (by omega), f4 3 1 i (by omega) (by omega) (by omega) (by omega)]; exact r9 i hi
